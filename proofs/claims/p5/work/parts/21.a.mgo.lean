theorem dX12_refuse_0 : decode cX12_refuse 0 = .ok (.aload_n 0, 1) := by decide +kernel
theorem dX12_refuse_1 : decode cX12_refuse 1 = .ok (.iconst 1, 1) := by decide +kernel
theorem dX12_refuse_2 : decode cX12_refuse 2 = .ok (.putfield 1, 3) := by decide +kernel
theorem G1463 : Cond.fieldLink "HookedCityModel" 1 "HookedCityModel" "thrown" "I" ∈ GW := gw_i 1463 (by decide +kernel) rfl
theorem dX12_refuse_5 : decode cX12_refuse 5 = .ok (.iconst 0, 1) := by decide +kernel
theorem dX12_refuse_6 : decode cX12_refuse 6 = .ok (.ireturn, 1) := by decide +kernel
theorem dX12_come_0 : decode cX12_come 0 = .ok (.bipush 24, 2) := by decide +kernel
theorem dX12_come_2 : decode cX12_come 2 = .ok (.istore_n 2, 1) := by decide +kernel
theorem dX12_come_3 : decode cX12_come 3 = .ok (.iload_n 2, 1) := by decide +kernel
theorem dX12_come_4 : decode cX12_come 4 = .ok (.ifCond .lt 35, 3) := by decide +kernel
theorem dX12_come_7 : decode cX12_come 7 = .ok (.aload_n 0, 1) := by decide +kernel
theorem dX12_come_8 : decode cX12_come 8 = .ok (.getfield 7, 3) := by decide +kernel
theorem G1464 : Cond.fieldLink "HookedCityModel" 7 "HookedCityModel" "tape" "[I" ∈ GW := gw_i 1464 (by decide +kernel) rfl
theorem dX12_come_11 : decode cX12_come 11 = .ok (.aload_n 0, 1) := by decide +kernel
theorem dX12_come_12 : decode cX12_come 12 = .ok (.getfield 11, 3) := by decide +kernel
theorem G1465 : Cond.fieldLink "HookedCityModel" 11 "HookedCityModel" "taped" "I" ∈ GW := gw_i 1465 (by decide +kernel) rfl
theorem dX12_come_15 : decode cX12_come 15 = .ok (.iload_n 1, 1) := by decide +kernel
theorem dX12_come_16 : decode cX12_come 16 = .ok (.iload_n 2, 1) := by decide +kernel
theorem dX12_come_17 : decode cX12_come 17 = .ok (.iushr, 1) := by decide +kernel
theorem dX12_come_18 : decode cX12_come 18 = .ok (.sipush 255, 3) := by decide +kernel
theorem dX12_come_21 : decode cX12_come 21 = .ok (.iand, 1) := by decide +kernel
theorem dX12_come_22 : decode cX12_come 22 = .ok (.iastore, 1) := by decide +kernel
theorem dX12_come_23 : decode cX12_come 23 = .ok (.aload_n 0, 1) := by decide +kernel
theorem dX12_come_24 : decode cX12_come 24 = .ok (.dup, 1) := by decide +kernel
theorem dX12_come_25 : decode cX12_come 25 = .ok (.getfield 11, 3) := by decide +kernel
theorem dX12_come_28 : decode cX12_come 28 = .ok (.iconst 1, 1) := by decide +kernel
theorem dX12_come_29 : decode cX12_come 29 = .ok (.iadd, 1) := by decide +kernel
theorem dX12_come_30 : decode cX12_come 30 = .ok (.putfield 11, 3) := by decide +kernel
theorem dX12_come_33 : decode cX12_come 33 = .ok (.iinc 2 (-8), 3) := by decide +kernel
theorem dX12_come_36 : decode cX12_come 36 = .ok (.goto (-33), 3) := by decide +kernel
theorem dX12_come_39 : decode cX12_come 39 = .ok (.return_, 1) := by decide +kernel
theorem dX12_feed_0 : decode cX12_feed 0 = .ok (.aload_n 0, 1) := by decide +kernel
theorem dX12_feed_1 : decode cX12_feed 1 = .ok (.iconst 0, 1) := by decide +kernel
theorem dX12_feed_2 : decode cX12_feed 2 = .ok (.putfield 1, 3) := by decide +kernel
theorem dX12_feed_5 : decode cX12_feed 5 = .ok (.aload_n 0, 1) := by decide +kernel
theorem dX12_feed_6 : decode cX12_feed 6 = .ok (.getfield 11, 3) := by decide +kernel
theorem dX12_feed_9 : decode cX12_feed 9 = .ok (.bipush 20, 2) := by decide +kernel
theorem dX12_feed_11 : decode cX12_feed 11 = .ok (.iadd, 1) := by decide +kernel
theorem dX12_feed_12 : decode cX12_feed 12 = .ok (.sipush 940, 3) := by decide +kernel
theorem dX12_feed_15 : decode cX12_feed 15 = .ok (.if_icmp .le 5, 3) := by decide +kernel
theorem dX12_feed_20 : decode cX12_feed 20 = .ok (.aload_n 0, 1) := by decide +kernel
theorem dX12_feed_21 : decode cX12_feed 21 = .ok (.iload_n 1, 1) := by decide +kernel
theorem dX12_feed_22 : decode cX12_feed 22 = .ok (.invokevirtual 14, 3) := by decide +kernel
theorem G1445 : Cond.code ⟨"HookedCityModel", "come", "(I)V"⟩ prog_14_method_3_code 3 none ∈ GW := gw_i 1445 (by decide +kernel) rfl
theorem G1441 : Cond.methodLink "HookedCityModel" 14 ⟨"HookedCityModel", "come", "(I)V"⟩ ∈ GW := gw_i 1441 (by decide +kernel) rfl
theorem G131 : Cond.initialized "HookedCityModel" ∈ GW := gw_i 131 (by decide +kernel) rfl
theorem V_HookedCityModel_14 : VL "HookedCityModel" 14 yX12_come cX12_come 3 none 1 := ⟨G1445, G1441, G131, by decide +kernel, by decide +kernel, by decide +kernel⟩
theorem G1443 : Cond.instanceMethod ⟨"HookedCityModel", "come", "(I)V"⟩ ∈ GW := gw_i 1443 (by decide +kernel) rfl
theorem G44 : Cond.selects "HookedCityModel" ⟨"HookedCityModel", "come", "(I)V"⟩ ⟨"HookedCityModel", "come", "(I)V"⟩ ∈ GW := gw_i 44 (by decide +kernel) rfl
theorem dX12_feed_25 : decode cX12_feed 25 = .ok (.aload_n 0, 1) := by decide +kernel
theorem dX12_feed_26 : decode cX12_feed 26 = .ok (.iload_n 2, 1) := by decide +kernel
theorem dX12_feed_27 : decode cX12_feed 27 = .ok (.invokevirtual 14, 3) := by decide +kernel
theorem dX12_feed_30 : decode cX12_feed 30 = .ok (.aload_n 0, 1) := by decide +kernel
theorem dX12_feed_31 : decode cX12_feed 31 = .ok (.iload_n 3, 1) := by decide +kernel
theorem dX12_feed_32 : decode cX12_feed 32 = .ok (.invokevirtual 14, 3) := by decide +kernel
theorem dX12_feed_35 : decode cX12_feed 35 = .ok (.aload_n 0, 1) := by decide +kernel
theorem dX12_feed_36 : decode cX12_feed 36 = .ok (.iload 4, 2) := by decide +kernel
theorem dX12_feed_38 : decode cX12_feed 38 = .ok (.invokevirtual 14, 3) := by decide +kernel
theorem dX12_feed_41 : decode cX12_feed 41 = .ok (.aload_n 0, 1) := by decide +kernel
theorem dX12_feed_42 : decode cX12_feed 42 = .ok (.iload 5, 2) := by decide +kernel
theorem dX12_feed_44 : decode cX12_feed 44 = .ok (.invokevirtual 14, 3) := by decide +kernel
theorem dX12_feed_47 : decode cX12_feed 47 = .ok (.aload_n 0, 1) := by decide +kernel
theorem dX12_feed_48 : decode cX12_feed 48 = .ok (.getfield 11, 3) := by decide +kernel
theorem dX12_feed_51 : decode cX12_feed 51 = .ok (.ireturn, 1) := by decide +kernel
theorem dX12_feed_18 : decode cX12_feed 18 = .ok (.iconst (-1), 1) := by decide +kernel
theorem dX12_feed_19 : decode cX12_feed 19 = .ok (.ireturn, 1) := by decide +kernel
theorem dX12_end_0 : decode cX12_end 0 = .ok (.aload_n 0, 1) := by decide +kernel
theorem dX12_end_1 : decode cX12_end 1 = .ok (.iconst 0, 1) := by decide +kernel
theorem dX12_end_2 : decode cX12_end 2 = .ok (.putfield 1, 3) := by decide +kernel
theorem dX12_end_5 : decode cX12_end 5 = .ok (.iload_n 1, 1) := by decide +kernel
theorem dX12_end_6 : decode cX12_end 6 = .ok (.ifCond .lt 11, 3) := by decide +kernel
theorem dX12_end_17 : decode cX12_end 17 = .ok (.iconst 0, 1) := by decide +kernel
theorem dX12_end_18 : decode cX12_end 18 = .ok (.ireturn, 1) := by decide +kernel
theorem dX12_end_9 : decode cX12_end 9 = .ok (.iload_n 1, 1) := by decide +kernel
theorem dX12_end_10 : decode cX12_end 10 = .ok (.aload_n 0, 1) := by decide +kernel
theorem dX12_end_11 : decode cX12_end 11 = .ok (.getfield 11, 3) := by decide +kernel
theorem dX12_end_14 : decode cX12_end 14 = .ok (.if_icmp .le 5, 3) := by decide +kernel
theorem dX12_end_19 : decode cX12_end 19 = .ok (.aload_n 0, 1) := by decide +kernel
theorem dX12_end_20 : decode cX12_end 20 = .ok (.iload_n 1, 1) := by decide +kernel
theorem dX12_end_21 : decode cX12_end 21 = .ok (.putfield 11, 3) := by decide +kernel
theorem dX12_end_24 : decode cX12_end 24 = .ok (.iconst 1, 1) := by decide +kernel
theorem dX12_end_25 : decode cX12_end 25 = .ok (.ireturn, 1) := by decide +kernel
theorem dX12_take_0 : decode cX12_take 0 = .ok (.aload_n 0, 1) := by decide +kernel
theorem dX12_take_1 : decode cX12_take 1 = .ok (.getfield 11, 3) := by decide +kernel
theorem dX12_take_4 : decode cX12_take 4 = .ok (.istore_n 1, 1) := by decide +kernel
theorem dX12_take_5 : decode cX12_take 5 = .ok (.aload_n 0, 1) := by decide +kernel
theorem dX12_take_6 : decode cX12_take 6 = .ok (.iconst 0, 1) := by decide +kernel
theorem dX12_take_7 : decode cX12_take 7 = .ok (.putfield 11, 3) := by decide +kernel
theorem dX12_take_10 : decode cX12_take 10 = .ok (.iload_n 1, 1) := by decide +kernel
theorem dX12_take_11 : decode cX12_take 11 = .ok (.ireturn, 1) := by decide +kernel
theorem dX12_isIn_0 : decode cX12_isIn 0 = .ok (.iload_n 0, 1) := by decide +kernel
theorem dX12_isIn_1 : decode cX12_isIn 1 = .ok (.iload_n 1, 1) := by decide +kernel
theorem dX12_isIn_2 : decode cX12_isIn 2 = .ok (.if_icmp .lt 12, 3) := by decide +kernel
theorem dX12_isIn_14 : decode cX12_isIn 14 = .ok (.iconst 0, 1) := by decide +kernel
theorem dX12_isIn_15 : decode cX12_isIn 15 = .ok (.ireturn, 1) := by decide +kernel
theorem dX12_isIn_5 : decode cX12_isIn 5 = .ok (.iload_n 0, 1) := by decide +kernel
theorem dX12_isIn_6 : decode cX12_isIn 6 = .ok (.iload_n 2, 1) := by decide +kernel
theorem dX12_isIn_7 : decode cX12_isIn 7 = .ok (.if_icmp .gt 7, 3) := by decide +kernel
theorem dX12_isIn_10 : decode cX12_isIn 10 = .ok (.iconst 1, 1) := by decide +kernel
theorem dX12_isIn_11 : decode cX12_isIn 11 = .ok (.goto 4, 3) := by decide +kernel
theorem dX12_has_0 : decode cX12_has 0 = .ok (.iload_n 0, 1) := by decide +kernel
theorem dX12_has_1 : decode cX12_has 1 = .ok (.iload_n 1, 1) := by decide +kernel
theorem dX12_has_2 : decode cX12_has 2 = .ok (.ishr, 1) := by decide +kernel
theorem dX12_has_3 : decode cX12_has 3 = .ok (.iconst 1, 1) := by decide +kernel
theorem dX12_has_4 : decode cX12_has 4 = .ok (.iand, 1) := by decide +kernel
theorem dX12_has_5 : decode cX12_has 5 = .ok (.iconst 1, 1) := by decide +kernel
theorem dX12_has_6 : decode cX12_has 6 = .ok (.if_icmp .ne 7, 3) := by decide +kernel
theorem dX12_has_13 : decode cX12_has 13 = .ok (.iconst 0, 1) := by decide +kernel
theorem dX12_has_14 : decode cX12_has 14 = .ok (.ireturn, 1) := by decide +kernel
theorem dX12_has_9 : decode cX12_has 9 = .ok (.iconst 1, 1) := by decide +kernel
theorem dX12_has_10 : decode cX12_has 10 = .ok (.goto 4, 3) := by decide +kernel
theorem dX12_least_0 : decode cX12_least 0 = .ok (.iload_n 0, 1) := by decide +kernel
theorem dX12_least_1 : decode cX12_least 1 = .ok (.iload_n 1, 1) := by decide +kernel
theorem dX12_least_2 : decode cX12_least 2 = .ok (.if_icmp .ge 7, 3) := by decide +kernel
theorem dX12_least_9 : decode cX12_least 9 = .ok (.iload_n 1, 1) := by decide +kernel
theorem dX12_least_10 : decode cX12_least 10 = .ok (.ireturn, 1) := by decide +kernel
theorem dX12_least_5 : decode cX12_least 5 = .ok (.iload_n 0, 1) := by decide +kernel
theorem dX12_least_6 : decode cX12_least 6 = .ok (.goto 4, 3) := by decide +kernel
theorem dX12_tapeAt_0 : decode cX12_tapeAt 0 = .ok (.iload_n 1, 1) := by decide +kernel
theorem dX12_tapeAt_1 : decode cX12_tapeAt 1 = .ok (.aload_n 0, 1) := by decide +kernel
theorem dX12_tapeAt_2 : decode cX12_tapeAt 2 = .ok (.getfield 18, 3) := by decide +kernel
theorem G1466 : Cond.fieldLink "HookedCityModel" 18 "HookedCityModel" "size" "I" ∈ GW := gw_i 1466 (by decide +kernel) rfl
theorem dX12_tapeAt_5 : decode cX12_tapeAt 5 = .ok (.if_icmp .ge 12, 3) := by decide +kernel
theorem dX12_tapeAt_17 : decode cX12_tapeAt 17 = .ok (.iconst 0, 1) := by decide +kernel
theorem dX12_tapeAt_18 : decode cX12_tapeAt 18 = .ok (.ireturn, 1) := by decide +kernel
theorem dX12_tapeAt_8 : decode cX12_tapeAt 8 = .ok (.aload_n 0, 1) := by decide +kernel
theorem dX12_tapeAt_9 : decode cX12_tapeAt 9 = .ok (.getfield 7, 3) := by decide +kernel
theorem dX12_tapeAt_12 : decode cX12_tapeAt 12 = .ok (.iload_n 1, 1) := by decide +kernel
theorem dX12_tapeAt_13 : decode cX12_tapeAt 13 = .ok (.iaload, 1) := by decide +kernel
theorem dX12_tapeAt_14 : decode cX12_tapeAt 14 = .ok (.goto 4, 3) := by decide +kernel
theorem dX12_isDigit_0 : decode cX12_isDigit 0 = .ok (.iload_n 0, 1) := by decide +kernel
theorem dX12_isDigit_1 : decode cX12_isDigit 1 = .ok (.bipush 48, 2) := by decide +kernel
theorem dX12_isDigit_3 : decode cX12_isDigit 3 = .ok (.if_icmp .lt 13, 3) := by decide +kernel
theorem dX12_isDigit_16 : decode cX12_isDigit 16 = .ok (.iconst 0, 1) := by decide +kernel
theorem dX12_isDigit_17 : decode cX12_isDigit 17 = .ok (.ireturn, 1) := by decide +kernel
theorem dX12_isDigit_6 : decode cX12_isDigit 6 = .ok (.iload_n 0, 1) := by decide +kernel
theorem dX12_isDigit_7 : decode cX12_isDigit 7 = .ok (.bipush 57, 2) := by decide +kernel
theorem dX12_isDigit_9 : decode cX12_isDigit 9 = .ok (.if_icmp .gt 7, 3) := by decide +kernel
theorem dX12_isDigit_12 : decode cX12_isDigit 12 = .ok (.iconst 1, 1) := by decide +kernel
theorem dX12_isDigit_13 : decode cX12_isDigit 13 = .ok (.goto 4, 3) := by decide +kernel
theorem dX12_isLetter_0 : decode cX12_isLetter 0 = .ok (.iload_n 0, 1) := by decide +kernel
theorem dX12_isLetter_1 : decode cX12_isLetter 1 = .ok (.bipush 97, 2) := by decide +kernel
theorem dX12_isLetter_3 : decode cX12_isLetter 3 = .ok (.if_icmp .lt 13, 3) := by decide +kernel
theorem dX12_isLetter_16 : decode cX12_isLetter 16 = .ok (.iconst 0, 1) := by decide +kernel
theorem dX12_isLetter_17 : decode cX12_isLetter 17 = .ok (.ireturn, 1) := by decide +kernel
theorem dX12_isLetter_6 : decode cX12_isLetter 6 = .ok (.iload_n 0, 1) := by decide +kernel
theorem dX12_isLetter_7 : decode cX12_isLetter 7 = .ok (.bipush 122, 2) := by decide +kernel
theorem dX12_isLetter_9 : decode cX12_isLetter 9 = .ok (.if_icmp .gt 7, 3) := by decide +kernel
theorem dX12_isLetter_12 : decode cX12_isLetter 12 = .ok (.iconst 1, 1) := by decide +kernel
theorem dX12_isLetter_13 : decode cX12_isLetter 13 = .ok (.goto 4, 3) := by decide +kernel
theorem dX12_go_0 : decode cX12_go 0 = .ok (.aload_n 0, 1) := by decide +kernel
theorem dX12_go_1 : decode cX12_go 1 = .ok (.getfield 21, 3) := by decide +kernel
theorem G1468 : Cond.fieldLink "HookedCityModel" 21 "HookedCityModel" "to" "I" ∈ GW := gw_i 1468 (by decide +kernel) rfl
theorem dX12_go_4 : decode cX12_go 4 = .ok (.aload_n 0, 1) := by decide +kernel
theorem dX12_go_5 : decode cX12_go 5 = .ok (.getfield 18, 3) := by decide +kernel
theorem dX12_go_8 : decode cX12_go 8 = .ok (.if_icmp .ge 44, 3) := by decide +kernel
theorem dX12_go_52 : decode cX12_go 52 = .ok (.aload_n 0, 1) := by decide +kernel
theorem dX12_go_53 : decode cX12_go 53 = .ok (.aload_n 0, 1) := by decide +kernel
theorem dX12_go_54 : decode cX12_go 54 = .ok (.getfield 21, 3) := by decide +kernel
theorem dX12_go_57 : decode cX12_go 57 = .ok (.putfield 24, 3) := by decide +kernel
theorem G1469 : Cond.fieldLink "HookedCityModel" 24 "HookedCityModel" "from" "I" ∈ GW := gw_i 1469 (by decide +kernel) rfl
theorem dX12_go_60 : decode cX12_go 60 = .ok (.aload_n 0, 1) := by decide +kernel
theorem dX12_go_61 : decode cX12_go 61 = .ok (.getfield 18, 3) := by decide +kernel
theorem dX12_go_64 : decode cX12_go 64 = .ok (.aload_n 0, 1) := by decide +kernel
theorem dX12_go_65 : decode cX12_go 65 = .ok (.getfield 27, 3) := by decide +kernel
theorem G1467 : Cond.fieldLink "HookedCityModel" 27 "HookedCityModel" "limit" "I" ∈ GW := gw_i 1467 (by decide +kernel) rfl
theorem dX12_go_68 : decode cX12_go 68 = .ok (.if_icmp .le 28, 3) := by decide +kernel
theorem dX12_go_96 : decode cX12_go 96 = .ok (.aload_n 0, 1) := by decide +kernel
theorem dX12_go_97 : decode cX12_go 97 = .ok (.getfield 21, 3) := by decide +kernel
theorem dX12_go_100 : decode cX12_go 100 = .ok (.aload_n 0, 1) := by decide +kernel
theorem dX12_go_101 : decode cX12_go 101 = .ok (.getfield 18, 3) := by decide +kernel
theorem dX12_go_104 : decode cX12_go 104 = .ok (.if_icmp .lt 9, 3) := by decide +kernel
theorem dX12_go_107 : decode cX12_go 107 = .ok (.aload_n 0, 1) := by decide +kernel
theorem dX12_go_108 : decode cX12_go 108 = .ok (.iconst 0, 1) := by decide +kernel
theorem dX12_go_109 : decode cX12_go 109 = .ok (.putfield 30, 3) := by decide +kernel
theorem G1470 : Cond.fieldLink "HookedCityModel" 30 "HookedCityModel" "kind" "I" ∈ GW := gw_i 1470 (by decide +kernel) rfl
theorem dX12_go_112 : decode cX12_go 112 = .ok (.return_, 1) := by decide +kernel
theorem dX12_go_71 : decode cX12_go 71 = .ok (.aload_n 0, 1) := by decide +kernel
theorem dX12_go_72 : decode cX12_go 72 = .ok (.getfield 24, 3) := by decide +kernel
theorem dX12_go_75 : decode cX12_go 75 = .ok (.aload_n 0, 1) := by decide +kernel
theorem dX12_go_76 : decode cX12_go 76 = .ok (.getfield 27, 3) := by decide +kernel
theorem dX12_go_79 : decode cX12_go 79 = .ok (.if_icmp .lt 17, 3) := by decide +kernel
theorem dX12_go_82 : decode cX12_go 82 = .ok (.aload_n 0, 1) := by decide +kernel
theorem dX12_go_83 : decode cX12_go 83 = .ok (.aload_n 0, 1) := by decide +kernel
theorem dX12_go_84 : decode cX12_go 84 = .ok (.getfield 27, 3) := by decide +kernel
theorem dX12_go_87 : decode cX12_go 87 = .ok (.putfield 24, 3) := by decide +kernel
theorem dX12_go_90 : decode cX12_go 90 = .ok (.aload_n 0, 1) := by decide +kernel
theorem dX12_go_91 : decode cX12_go 91 = .ok (.iconst 1, 1) := by decide +kernel
theorem dX12_go_92 : decode cX12_go 92 = .ok (.putfield 30, 3) := by decide +kernel
theorem dX12_go_95 : decode cX12_go 95 = .ok (.return_, 1) := by decide +kernel
theorem dX12_go_11 : decode cX12_go 11 = .ok (.aload_n 0, 1) := by decide +kernel
theorem dX12_go_12 : decode cX12_go 12 = .ok (.getfield 7, 3) := by decide +kernel
theorem dX12_go_15 : decode cX12_go 15 = .ok (.aload_n 0, 1) := by decide +kernel
theorem dX12_go_16 : decode cX12_go 16 = .ok (.getfield 21, 3) := by decide +kernel
theorem dX12_go_19 : decode cX12_go 19 = .ok (.iaload, 1) := by decide +kernel
theorem dX12_go_20 : decode cX12_go 20 = .ok (.bipush 32, 2) := by decide +kernel
theorem dX12_go_22 : decode cX12_go 22 = .ok (.if_icmp .eq 17, 3) := by decide +kernel
theorem dX12_go_39 : decode cX12_go 39 = .ok (.aload_n 0, 1) := by decide +kernel
theorem dX12_go_40 : decode cX12_go 40 = .ok (.dup, 1) := by decide +kernel
theorem dX12_go_41 : decode cX12_go 41 = .ok (.getfield 21, 3) := by decide +kernel
theorem dX12_go_44 : decode cX12_go 44 = .ok (.iconst 1, 1) := by decide +kernel
theorem dX12_go_45 : decode cX12_go 45 = .ok (.iadd, 1) := by decide +kernel
theorem dX12_go_46 : decode cX12_go 46 = .ok (.putfield 21, 3) := by decide +kernel
theorem dX12_go_49 : decode cX12_go 49 = .ok (.goto (-49), 3) := by decide +kernel
theorem dX12_go_25 : decode cX12_go 25 = .ok (.aload_n 0, 1) := by decide +kernel
theorem dX12_go_26 : decode cX12_go 26 = .ok (.getfield 7, 3) := by decide +kernel
theorem dX12_go_29 : decode cX12_go 29 = .ok (.aload_n 0, 1) := by decide +kernel
theorem dX12_go_30 : decode cX12_go 30 = .ok (.getfield 21, 3) := by decide +kernel
theorem dX12_go_33 : decode cX12_go 33 = .ok (.iaload, 1) := by decide +kernel
theorem dX12_go_34 : decode cX12_go 34 = .ok (.bipush 10, 2) := by decide +kernel
theorem dX12_go_36 : decode cX12_go 36 = .ok (.if_icmp .ne 16, 3) := by decide +kernel
theorem dX12_go_113 : decode cX12_go 113 = .ok (.aload_n 0, 1) := by decide +kernel
theorem dX12_go_114 : decode cX12_go 114 = .ok (.getfield 7, 3) := by decide +kernel
theorem dX12_go_117 : decode cX12_go 117 = .ok (.aload_n 0, 1) := by decide +kernel
theorem dX12_go_118 : decode cX12_go 118 = .ok (.getfield 21, 3) := by decide +kernel
theorem dX12_go_121 : decode cX12_go 121 = .ok (.iaload, 1) := by decide +kernel
theorem dX12_go_122 : decode cX12_go 122 = .ok (.istore_n 1, 1) := by decide +kernel
theorem dX12_go_123 : decode cX12_go 123 = .ok (.iload_n 1, 1) := by decide +kernel
theorem dX12_go_124 : decode cX12_go 124 = .ok (.invokestatic 33, 3) := by decide +kernel
theorem G1633 : Cond.code ⟨"HookedCityModel", "isLetter", "(I)Z"⟩ prog_14_method_15_code 1 (some .boolean) ∈ GW := gw_i 1633 (by decide +kernel) rfl
theorem G1631 : Cond.methodLink "HookedCityModel" 33 ⟨"HookedCityModel", "isLetter", "(I)Z"⟩ ∈ GW := gw_i 1631 (by decide +kernel) rfl
theorem V_HookedCityModel_33 : VL "HookedCityModel" 33 yX12_isLetter cX12_isLetter 1 (some .boolean) 1 := ⟨G1633, G1631, G131, by decide +kernel, by decide +kernel, by decide +kernel⟩
theorem G1632 : Cond.static ⟨"HookedCityModel", "isLetter", "(I)Z"⟩ ∈ GW := gw_i 1632 (by decide +kernel) rfl
theorem dX12_go_127 : decode cX12_go 127 = .ok (.ifCond .ne 71, 3) := by decide +kernel
theorem dX12_go_198 : decode cX12_go 198 = .ok (.iload_n 1, 1) := by decide +kernel
theorem dX12_go_199 : decode cX12_go 199 = .ok (.invokestatic 33, 3) := by decide +kernel
theorem dX12_go_202 : decode cX12_go 202 = .ok (.istore_n 2, 1) := by decide +kernel
theorem dX12_go_203 : decode cX12_go 203 = .ok (.iconst 1, 1) := by decide +kernel
theorem dX12_go_204 : decode cX12_go 204 = .ok (.istore_n 3, 1) := by decide +kernel
theorem dX12_go_205 : decode cX12_go 205 = .ok (.aload_n 0, 1) := by decide +kernel
theorem dX12_go_206 : decode cX12_go 206 = .ok (.lconst 0, 1) := by decide +kernel
theorem dX12_go_207 : decode cX12_go 207 = .ok (.putfield 43, 3) := by decide +kernel
theorem G1475 : Cond.fieldLink "HookedCityModel" 43 "HookedCityModel" "word" "J" ∈ GW := gw_i 1475 (by decide +kernel) rfl
theorem dX12_go_210 : decode cX12_go 210 = .ok (.aload_n 0, 1) := by decide +kernel
theorem dX12_go_211 : decode cX12_go 211 = .ok (.iconst 0, 1) := by decide +kernel
theorem dX12_go_212 : decode cX12_go 212 = .ok (.putfield 47, 3) := by decide +kernel
theorem G1471 : Cond.fieldLink "HookedCityModel" 47 "HookedCityModel" "number" "I" ∈ GW := gw_i 1471 (by decide +kernel) rfl
theorem dX12_go_215 : decode cX12_go 215 = .ok (.aload_n 0, 1) := by decide +kernel
theorem dX12_go_216 : decode cX12_go 216 = .ok (.aload_n 0, 1) := by decide +kernel
theorem dX12_go_217 : decode cX12_go 217 = .ok (.getfield 21, 3) := by decide +kernel
theorem dX12_go_220 : decode cX12_go 220 = .ok (.invokevirtual 50, 3) := by decide +kernel
theorem G1640 : Cond.code ⟨"HookedCityModel", "tapeAt", "(I)I"⟩ prog_14_method_13_code 2 (some .int) ∈ GW := gw_i 1640 (by decide +kernel) rfl
theorem G1637 : Cond.methodLink "HookedCityModel" 50 ⟨"HookedCityModel", "tapeAt", "(I)I"⟩ ∈ GW := gw_i 1637 (by decide +kernel) rfl
theorem V_HookedCityModel_50 : VL "HookedCityModel" 50 yX12_tapeAt cX12_tapeAt 2 (some .int) 1 := ⟨G1640, G1637, G131, by decide +kernel, by decide +kernel, by decide +kernel⟩
theorem G1639 : Cond.instanceMethod ⟨"HookedCityModel", "tapeAt", "(I)I"⟩ ∈ GW := gw_i 1639 (by decide +kernel) rfl
theorem G50 : Cond.selects "HookedCityModel" ⟨"HookedCityModel", "tapeAt", "(I)I"⟩ ⟨"HookedCityModel", "tapeAt", "(I)I"⟩ ∈ GW := gw_i 50 (by decide +kernel) rfl
theorem dX12_go_223 : decode cX12_go 223 = .ok (.invokestatic 33, 3) := by decide +kernel
theorem dX12_go_226 : decode cX12_go 226 = .ok (.ifCond .ne 17, 3) := by decide +kernel
theorem dX12_go_229 : decode cX12_go 229 = .ok (.aload_n 0, 1) := by decide +kernel
theorem dX12_go_230 : decode cX12_go 230 = .ok (.aload_n 0, 1) := by decide +kernel
theorem dX12_go_231 : decode cX12_go 231 = .ok (.getfield 21, 3) := by decide +kernel
theorem dX12_go_234 : decode cX12_go 234 = .ok (.invokevirtual 50, 3) := by decide +kernel
theorem dX12_go_237 : decode cX12_go 237 = .ok (.invokestatic 37, 3) := by decide +kernel
theorem G1636 : Cond.code ⟨"HookedCityModel", "isDigit", "(I)Z"⟩ prog_14_method_14_code 1 (some .boolean) ∈ GW := gw_i 1636 (by decide +kernel) rfl
theorem G1634 : Cond.methodLink "HookedCityModel" 37 ⟨"HookedCityModel", "isDigit", "(I)Z"⟩ ∈ GW := gw_i 1634 (by decide +kernel) rfl
theorem V_HookedCityModel_37 : VL "HookedCityModel" 37 yX12_isDigit cX12_isDigit 1 (some .boolean) 1 := ⟨G1636, G1634, G131, by decide +kernel, by decide +kernel, by decide +kernel⟩
theorem G1635 : Cond.static ⟨"HookedCityModel", "isDigit", "(I)Z"⟩ ∈ GW := gw_i 1635 (by decide +kernel) rfl
theorem dX12_go_240 : decode cX12_go 240 = .ok (.ifCond .eq 110, 3) := by decide +kernel
theorem dX12_go_350 : decode cX12_go 350 = .ok (.aload_n 0, 1) := by decide +kernel
theorem dX12_go_351 : decode cX12_go 351 = .ok (.iload_n 3, 1) := by decide +kernel
theorem dX12_go_352 : decode cX12_go 352 = .ok (.ifCond .eq 25, 3) := by decide +kernel
theorem dX12_go_377 : decode cX12_go 377 = .ok (.iconst 1, 1) := by decide +kernel
theorem dX12_go_378 : decode cX12_go 378 = .ok (.goto 12, 3) := by decide +kernel
theorem dX12_go_390 : decode cX12_go 390 = .ok (.putfield 30, 3) := by decide +kernel
theorem dX12_go_393 : decode cX12_go 393 = .ok (.return_, 1) := by decide +kernel
theorem dX12_go_355 : decode cX12_go 355 = .ok (.aload_n 0, 1) := by decide +kernel
theorem dX12_go_356 : decode cX12_go 356 = .ok (.getfield 21, 3) := by decide +kernel
theorem dX12_go_359 : decode cX12_go 359 = .ok (.aload_n 0, 1) := by decide +kernel
theorem dX12_go_360 : decode cX12_go 360 = .ok (.getfield 24, 3) := by decide +kernel
theorem dX12_go_363 : decode cX12_go 363 = .ok (.isub, 1) := by decide +kernel
theorem dX12_go_364 : decode cX12_go 364 = .ok (.iload_n 2, 1) := by decide +kernel
theorem dX12_go_365 : decode cX12_go 365 = .ok (.ifCond .eq 8, 3) := by decide +kernel
theorem dX12_go_373 : decode cX12_go 373 = .ok (.iconst 3, 1) := by decide +kernel
theorem dX12_go_374 : decode cX12_go 374 = .ok (.if_icmp .le 7, 3) := by decide +kernel
theorem dX12_go_381 : decode cX12_go 381 = .ok (.iload_n 2, 1) := by decide +kernel
theorem dX12_go_382 : decode cX12_go 382 = .ok (.ifCond .eq 7, 3) := by decide +kernel
theorem dX12_go_389 : decode cX12_go 389 = .ok (.iconst 3, 1) := by decide +kernel
theorem dX12_go_368 : decode cX12_go 368 = .ok (.bipush 7, 2) := by decide +kernel
theorem dX12_go_370 : decode cX12_go 370 = .ok (.goto 4, 3) := by decide +kernel
theorem dX12_go_385 : decode cX12_go 385 = .ok (.iconst 2, 1) := by decide +kernel
theorem dX12_go_386 : decode cX12_go 386 = .ok (.goto 4, 3) := by decide +kernel
theorem dX12_go_243 : decode cX12_go 243 = .ok (.aload_n 0, 1) := by decide +kernel
theorem dX12_go_244 : decode cX12_go 244 = .ok (.getfield 7, 3) := by decide +kernel
theorem dX12_go_247 : decode cX12_go 247 = .ok (.aload_n 0, 1) := by decide +kernel
theorem dX12_go_248 : decode cX12_go 248 = .ok (.getfield 21, 3) := by decide +kernel
theorem dX12_go_251 : decode cX12_go 251 = .ok (.iaload, 1) := by decide +kernel
theorem dX12_go_252 : decode cX12_go 252 = .ok (.istore 4, 2) := by decide +kernel
theorem dX12_go_254 : decode cX12_go 254 = .ok (.iload_n 3, 1) := by decide +kernel
theorem dX12_go_255 : decode cX12_go 255 = .ok (.ifCond .eq 16, 3) := by decide +kernel
theorem dX12_go_271 : decode cX12_go 271 = .ok (.iconst 0, 1) := by decide +kernel
theorem dX12_go_272 : decode cX12_go 272 = .ok (.istore_n 3, 1) := by decide +kernel
theorem dX12_go_273 : decode cX12_go 273 = .ok (.aload_n 0, 1) := by decide +kernel
theorem dX12_go_274 : decode cX12_go 274 = .ok (.getfield 21, 3) := by decide +kernel
theorem dX12_go_277 : decode cX12_go 277 = .ok (.aload_n 0, 1) := by decide +kernel
theorem dX12_go_278 : decode cX12_go 278 = .ok (.getfield 24, 3) := by decide +kernel
theorem dX12_go_281 : decode cX12_go 281 = .ok (.isub, 1) := by decide +kernel
theorem dX12_go_282 : decode cX12_go 282 = .ok (.bipush 7, 2) := by decide +kernel
theorem dX12_go_284 : decode cX12_go 284 = .ok (.if_icmp .ge 23, 3) := by decide +kernel
theorem dX12_go_307 : decode cX12_go 307 = .ok (.aload_n 0, 1) := by decide +kernel
theorem dX12_go_308 : decode cX12_go 308 = .ok (.getfield 21, 3) := by decide +kernel
theorem dX12_go_311 : decode cX12_go 311 = .ok (.aload_n 0, 1) := by decide +kernel
theorem dX12_go_312 : decode cX12_go 312 = .ok (.getfield 24, 3) := by decide +kernel
theorem dX12_go_315 : decode cX12_go 315 = .ok (.isub, 1) := by decide +kernel
theorem dX12_go_316 : decode cX12_go 316 = .ok (.iconst 3, 1) := by decide +kernel
theorem dX12_go_317 : decode cX12_go 317 = .ok (.if_icmp .ge 20, 3) := by decide +kernel
theorem dX12_go_337 : decode cX12_go 337 = .ok (.aload_n 0, 1) := by decide +kernel
theorem dX12_go_338 : decode cX12_go 338 = .ok (.dup, 1) := by decide +kernel
theorem dX12_go_339 : decode cX12_go 339 = .ok (.getfield 21, 3) := by decide +kernel
theorem dX12_go_342 : decode cX12_go 342 = .ok (.iconst 1, 1) := by decide +kernel
theorem dX12_go_343 : decode cX12_go 343 = .ok (.iadd, 1) := by decide +kernel
theorem dX12_go_344 : decode cX12_go 344 = .ok (.putfield 21, 3) := by decide +kernel
theorem dX12_go_347 : decode cX12_go 347 = .ok (.goto (-132), 3) := by decide +kernel
theorem dX12_go_287 : decode cX12_go 287 = .ok (.aload_n 0, 1) := by decide +kernel
theorem dX12_go_288 : decode cX12_go 288 = .ok (.ldc2_w 54, 3) := by decide +kernel
theorem G1641 : Cond.constantLong "HookedCityModel" 54 27 ∈ GW := gw_i 1641 (by decide +kernel) rfl
theorem dX12_go_291 : decode cX12_go 291 = .ok (.aload_n 0, 1) := by decide +kernel
theorem dX12_go_292 : decode cX12_go 292 = .ok (.getfield 43, 3) := by decide +kernel
theorem dX12_go_295 : decode cX12_go 295 = .ok (.lmul, 1) := by decide +kernel
theorem dX12_go_296 : decode cX12_go 296 = .ok (.iload 4, 2) := by decide +kernel
theorem dX12_go_298 : decode cX12_go 298 = .ok (.i2l, 1) := by decide +kernel
theorem dX12_go_299 : decode cX12_go 299 = .ok (.ladd, 1) := by decide +kernel
theorem dX12_go_300 : decode cX12_go 300 = .ok (.ldc2_w 56, 3) := by decide +kernel
theorem G1642 : Cond.constantLong "HookedCityModel" 56 96 ∈ GW := gw_i 1642 (by decide +kernel) rfl
theorem dX12_go_303 : decode cX12_go 303 = .ok (.lsub, 1) := by decide +kernel
theorem dX12_go_304 : decode cX12_go 304 = .ok (.putfield 43, 3) := by decide +kernel
theorem dX12_go_320 : decode cX12_go 320 = .ok (.aload_n 0, 1) := by decide +kernel
theorem dX12_go_321 : decode cX12_go 321 = .ok (.bipush 10, 2) := by decide +kernel
theorem dX12_go_323 : decode cX12_go 323 = .ok (.aload_n 0, 1) := by decide +kernel
theorem dX12_go_324 : decode cX12_go 324 = .ok (.getfield 47, 3) := by decide +kernel
theorem dX12_go_327 : decode cX12_go 327 = .ok (.imul, 1) := by decide +kernel
theorem dX12_go_328 : decode cX12_go 328 = .ok (.iload 4, 2) := by decide +kernel
theorem dX12_go_330 : decode cX12_go 330 = .ok (.iadd, 1) := by decide +kernel
theorem dX12_go_331 : decode cX12_go 331 = .ok (.bipush 48, 2) := by decide +kernel
theorem dX12_go_333 : decode cX12_go 333 = .ok (.isub, 1) := by decide +kernel
theorem dX12_go_334 : decode cX12_go 334 = .ok (.putfield 47, 3) := by decide +kernel
theorem dX12_go_258 : decode cX12_go 258 = .ok (.iload 4, 2) := by decide +kernel
theorem dX12_go_260 : decode cX12_go 260 = .ok (.invokestatic 33, 3) := by decide +kernel
theorem dX12_go_263 : decode cX12_go 263 = .ok (.iload_n 2, 1) := by decide +kernel
theorem dX12_go_264 : decode cX12_go 264 = .ok (.if_icmp .ne 7, 3) := by decide +kernel
theorem dX12_go_267 : decode cX12_go 267 = .ok (.iconst 1, 1) := by decide +kernel
theorem dX12_go_268 : decode cX12_go 268 = .ok (.goto 4, 3) := by decide +kernel
theorem dX12_go_130 : decode cX12_go 130 = .ok (.iload_n 1, 1) := by decide +kernel
theorem dX12_go_131 : decode cX12_go 131 = .ok (.invokestatic 37, 3) := by decide +kernel
theorem dX12_go_134 : decode cX12_go 134 = .ok (.ifCond .ne 64, 3) := by decide +kernel
theorem dX12_go_137 : decode cX12_go 137 = .ok (.aload_n 0, 1) := by decide +kernel
theorem dX12_go_138 : decode cX12_go 138 = .ok (.iload_n 1, 1) := by decide +kernel
theorem dX12_go_139 : decode cX12_go 139 = .ok (.bipush 59, 2) := by decide +kernel
theorem dX12_go_141 : decode cX12_go 141 = .ok (.if_icmp .eq 33, 3) := by decide +kernel
theorem dX12_go_174 : decode cX12_go 174 = .ok (.iconst 4, 1) := by decide +kernel
theorem dX12_go_175 : decode cX12_go 175 = .ok (.goto 4, 3) := by decide +kernel
theorem dX12_go_179 : decode cX12_go 179 = .ok (.putfield 30, 3) := by decide +kernel
theorem dX12_go_182 : decode cX12_go 182 = .ok (.aload_n 0, 1) := by decide +kernel
theorem dX12_go_183 : decode cX12_go 183 = .ok (.iload_n 1, 1) := by decide +kernel
theorem dX12_go_184 : decode cX12_go 184 = .ok (.putfield 40, 3) := by decide +kernel
theorem G1472 : Cond.fieldLink "HookedCityModel" 40 "HookedCityModel" "sign" "I" ∈ GW := gw_i 1472 (by decide +kernel) rfl
theorem dX12_go_187 : decode cX12_go 187 = .ok (.aload_n 0, 1) := by decide +kernel
theorem dX12_go_188 : decode cX12_go 188 = .ok (.dup, 1) := by decide +kernel
theorem dX12_go_189 : decode cX12_go 189 = .ok (.getfield 21, 3) := by decide +kernel
theorem dX12_go_192 : decode cX12_go 192 = .ok (.iconst 1, 1) := by decide +kernel
theorem dX12_go_193 : decode cX12_go 193 = .ok (.iadd, 1) := by decide +kernel
theorem dX12_go_194 : decode cX12_go 194 = .ok (.putfield 21, 3) := by decide +kernel
theorem dX12_go_197 : decode cX12_go 197 = .ok (.return_, 1) := by decide +kernel
theorem dX12_go_144 : decode cX12_go 144 = .ok (.iload_n 1, 1) := by decide +kernel
theorem dX12_go_145 : decode cX12_go 145 = .ok (.bipush 60, 2) := by decide +kernel
theorem dX12_go_147 : decode cX12_go 147 = .ok (.if_icmp .eq 27, 3) := by decide +kernel
theorem dX12_go_150 : decode cX12_go 150 = .ok (.iload_n 1, 1) := by decide +kernel
theorem dX12_go_151 : decode cX12_go 151 = .ok (.bipush 61, 2) := by decide +kernel
theorem dX12_go_153 : decode cX12_go 153 = .ok (.if_icmp .eq 21, 3) := by decide +kernel
theorem dX12_go_156 : decode cX12_go 156 = .ok (.iload_n 1, 1) := by decide +kernel
theorem dX12_go_157 : decode cX12_go 157 = .ok (.bipush 62, 2) := by decide +kernel
theorem dX12_go_159 : decode cX12_go 159 = .ok (.if_icmp .eq 15, 3) := by decide +kernel
theorem dX12_go_162 : decode cX12_go 162 = .ok (.iload_n 1, 1) := by decide +kernel
theorem dX12_go_163 : decode cX12_go 163 = .ok (.bipush 40, 2) := by decide +kernel
theorem dX12_go_165 : decode cX12_go 165 = .ok (.if_icmp .eq 9, 3) := by decide +kernel
theorem dX12_go_168 : decode cX12_go 168 = .ok (.iload_n 1, 1) := by decide +kernel
theorem dX12_go_169 : decode cX12_go 169 = .ok (.bipush 41, 2) := by decide +kernel
theorem dX12_go_171 : decode cX12_go 171 = .ok (.if_icmp .ne 7, 3) := by decide +kernel
theorem dX12_go_178 : decode cX12_go 178 = .ok (.iconst 1, 1) := by decide +kernel
set_option maxRecDepth 100000 in
set_option maxHeartbeats 4000000 in
theorem c1_X12_refuse (l : Launch) (D : va_G) (T : Nat → ClassId) (sz : Nat) (a0 : Nat) (r0 : Int32) (a1 : Nat) (x0 : Int) (x1 : Int) (x2 : Int) (x3 : Int) (x4 : Int) (x5 : Int) (r1 : Int32) (x6 : Int) (x7 : Int) (x8 : Int) (y0 : Int64) (x9 : Int) (a2 : Nat) (a3 : Nat) (a4 : Nat) (a5 : Nat) (a6 : Nat) (a7 : Nat) (a8 : Nat) (a9 : Nat) (a10 : Nat) (a11 : Nat) (x10 : Int) (a12 : Nat) (a13 : Nat) (a14 : Nat) (a15 : Nat) (x11 : Int) (r2 : Int32) (r3 : Int32) (a16 : Nat) (x12 : Int) (x13 : Int) (a17 : Nat) (a18 : Nat) (x14 : Int) (a19 : Nat) (x15 : Int) (r4 : Int32) (a20 : Nat) (a21 : Nat) (x16 : Int) (r5 : Int32) (a22 : Nat) (x17 : Int) (x18 : Int) (x19 : Int) (x20 : Int) (x0_a : 0 ≤ x0) (x0_b : x0 ≤ 940) (x1_a : 0 ≤ x1) (x1_b : x1 ≤ 940) (x2_a : 0 ≤ x2) (x2_b : x2 ≤ 940) (x3_a : 0 ≤ x3) (x3_b : x3 ≤ 940) (x4_a : 0 ≤ x4) (x4_b : x4 ≤ 940) (x5_a : 0 ≤ x5) (x5_b : x5 ≤ 4) (x6_a : (-2147483648) ≤ x6) (x6_b : x6 ≤ 2147483647) (x7_a : (-2147483648) ≤ x7) (x7_b : x7 ≤ 2147483647) (x8_a : 0 ≤ x8) (x8_b : x8 ≤ 940) (x9_a : (-2147483648) ≤ x9) (x9_b : x9 ≤ 2147483647) (x10_a : 0 ≤ x10) (x10_b : x10 ≤ 8) (x11_a : 0 ≤ x11) (x11_b : x11 ≤ 9) (x12_a : (-1) ≤ x12) (x12_b : x12 ≤ 9) (x13_a : (-1) ≤ x13) (x13_b : x13 ≤ 8) (x14_a : 0 ≤ x14) (x14_b : x14 ≤ 9) (x15_a : 0 ≤ x15) (x15_b : x15 ≤ 64) (x16_a : 0 ≤ x16) (x16_b : x16 ≤ 40) (x17_a : 0 ≤ x17) (x17_b : x17 ≤ 40) (x18_a : 0 ≤ x18) (x18_b : x18 ≤ 20) (x19_a : 0 ≤ x19) (x19_b : x19 ≤ 8) (x20_a : 0 ≤ x20) (x20_b : x20 ≤ 39) : Met l yX12_refuse (Cond.code yX12_refuse cX12_refuse 1 (some .int) :: GW) (Rm 0 0 0) (cPre [.ref a0] D T [(a0, .inr (11, [.int r0, .ref a1, .int (iI x0), .int (iI x1), .int (iI x2), .int (iI x3), .int (iI x4), .int (iI x5), .int r1, .int (iI x6), .int (iI x7), .int (iI x8), .long y0, .int (iI x9), .ref a2, .ref a3, .ref a4, .ref a5, .ref a6, .ref a7, .ref a8, .ref a9, .ref a10, .ref a11, .int (iI x10), .ref a12, .ref a13, .ref a14, .ref a15, .int (iI x11), .int r2, .int r3, .ref a16, .int (iI x12), .int (iI x13), .ref a17, .ref a18, .int (iI x14), .ref a19, .int (iI x15), .int r4, .ref a20, .ref a21, .int (iI x16), .int r5, .ref a22, .int (iI x17), .int (iI x18), .int (iI x19), .int (iI x20)]))] sz) (qI D [(a0, .inr (11, [.int r0, .ref a1, .int (iI x0), .int (iI x1), .int (iI x2), .int (iI x3), .int (iI x4), .int (iI x5), .int r1, .int (iI x6), .int (iI x7), .int (iI x8), .long y0, .int (iI x9), .ref a2, .ref a3, .ref a4, .ref a5, .ref a6, .ref a7, .ref a8, .ref a9, .ref a10, .ref a11, .int (iI x10), .ref a12, .ref a13, .ref a14, .ref a15, .int (iI x11), .int r2, .int r3, .ref a16, .int (iI x12), .int (iI x13), .ref a17, .ref a18, .int (iI x14), .ref a19, .int (iI x15), .int r4, .ref a20, .ref a21, .int (iI x16), .int r5, .ref a22, .int (iI x17), .int (iI x18), .int (iI x19), .int (iI x20)]))] sz (fun (v : Int32) (u : Int × Int32) => iI u.1 = v ∧ (-2147483648) ≤ u.1 ∧ u.1 ≤ 2147483647 ∧ ((u.1 = 0))) (fun u => [(a0, .inr (11, [.int u.2, .ref a1, .int (iI x0), .int (iI x1), .int (iI x2), .int (iI x3), .int (iI x4), .int (iI x5), .int r1, .int (iI x6), .int (iI x7), .int (iI x8), .long y0, .int (iI x9), .ref a2, .ref a3, .ref a4, .ref a5, .ref a6, .ref a7, .ref a8, .ref a9, .ref a10, .ref a11, .int (iI x10), .ref a12, .ref a13, .ref a14, .ref a15, .int (iI x11), .int r2, .int r3, .ref a16, .int (iI x12), .int (iI x13), .ref a17, .ref a18, .int (iI x14), .ref a19, .int (iI x15), .int r4, .ref a20, .ref a21, .int (iI x16), .int r5, .ref a22, .int (iI x17), .int (iI x18), .int (iI x19), .int (iI x20)]))])) 0 0 (va_A [(a0, .inr (11, [.int r0, .ref a1, .int (iI x0), .int (iI x1), .int (iI x2), .int (iI x3), .int (iI x4), .int (iI x5), .int r1, .int (iI x6), .int (iI x7), .int (iI x8), .long y0, .int (iI x9), .ref a2, .ref a3, .ref a4, .ref a5, .ref a6, .ref a7, .ref a8, .ref a9, .ref a10, .ref a11, .int (iI x10), .ref a12, .ref a13, .ref a14, .ref a15, .int (iI x11), .int r2, .int r3, .ref a16, .int (iI x12), .int (iI x13), .ref a17, .ref a18, .int (iI x14), .ref a19, .int (iI x15), .int r4, .ref a20, .ref a21, .int (iI x16), .int r5, .ref a22, .int (iI x17), .int (iI x18), .int (iI x19), .int (iI x20)]))] sz) := by
  refine e_I (by decide) (Nat.le_of_ble_eq_true rfl) ?_
  intro p e s m args below meth c A Q ls M hin w ret hl
  have hx := M.1.1
  have hb := M.1.2.1
  have hl : lv_has ls 1 [(0, .ref a0)] := hl
  refine lv_aload_n hx hb dX12_refuse_0 rfl (lv_at hl 0 rfl) ?_
  refine lv_iconst (v := iI 1) hx hb dX12_refuse_1 (by decide +kernel) ?_
  refine r_put (ws' := [(a0, .inr (11, [.int (iI 1), .ref a1, .int (iI x0), .int (iI x1), .int (iI x2), .int (iI x3), .int (iI x4), .int (iI x5), .int r1, .int (iI x6), .int (iI x7), .int (iI x8), .long y0, .int (iI x9), .ref a2, .ref a3, .ref a4, .ref a5, .ref a6, .ref a7, .ref a8, .ref a9, .ref a10, .ref a11, .int (iI x10), .ref a12, .ref a13, .ref a14, .ref a15, .int (iI x11), .int r2, .int r3, .ref a16, .int (iI x12), .int (iI x13), .ref a17, .ref a18, .int (iI x14), .ref a19, .int (iI x15), .int r4, .ref a20, .ref a21, .int (iI x16), .int r5, .ref a22, .int (iI x17), .int (iI x18), .int (iI x19), .int (iI x20)]))]) M w 0 0 clX12 rfl (by decide) G1463 rfl rfl rfl rfl (Nat.le_of_ble_eq_true rfl) rfl dX12_refuse_2 (fun H locs w => ?_)
  refine lv_iconst (v := iI 0) hx hb dX12_refuse_5 (by decide +kernel) ?_
  exact ret _ (0, (iI 1)) _ _ _ _ _ [0] dX12_refuse_6 ⟨rfl, (show (-2147483648) ≤ 0 from by decide), (show (0 : Int) ≤ 2147483647 from by decide), rfl⟩ w (by decide) rfl
set_option maxRecDepth 100000 in
set_option maxHeartbeats 4000000 in
theorem c2_X12_come (l : Launch) (D : va_G) (T : Nat → ClassId) (sz : Nat) (a0 : Nat) (x0 : Int) (r0 : Int32) (a1 : Nat) (x1 : Int) (x2 : Int) (x3 : Int) (x4 : Int) (x5 : Int) (x6 : Int) (r1 : Int32) (x7 : Int) (x8 : Int) (x9 : Int) (y0 : Int64) (x10 : Int) (a2 : Nat) (a3 : Nat) (a4 : Nat) (a5 : Nat) (a6 : Nat) (a7 : Nat) (a8 : Nat) (a9 : Nat) (a10 : Nat) (a11 : Nat) (x11 : Int) (a12 : Nat) (a13 : Nat) (a14 : Nat) (a15 : Nat) (x12 : Int) (r2 : Int32) (r3 : Int32) (a16 : Nat) (x13 : Int) (x14 : Int) (a17 : Nat) (a18 : Nat) (x15 : Int) (a19 : Nat) (x16 : Int) (r4 : Int32) (a20 : Nat) (a21 : Nat) (x17 : Int) (r5 : Int32) (a22 : Nat) (x18 : Int) (x19 : Int) (x20 : Int) (x21 : Int) (f0 : Int → Int) (x0_a : (-2147483648) ≤ x0) (x0_b : x0 ≤ 2147483647) (x1_a : 0 ≤ x1) (x1_b : x1 ≤ 936) (x2_a : 0 ≤ x2) (x2_b : x2 ≤ 940) (x3_a : 0 ≤ x3) (x3_b : x3 ≤ 940) (x4_a : 0 ≤ x4) (x4_b : x4 ≤ 940) (x5_a : 0 ≤ x5) (x5_b : x5 ≤ 940) (x6_a : 0 ≤ x6) (x6_b : x6 ≤ 4) (x7_a : (-2147483648) ≤ x7) (x7_b : x7 ≤ 2147483647) (x8_a : (-2147483648) ≤ x8) (x8_b : x8 ≤ 2147483647) (x9_a : 0 ≤ x9) (x9_b : x9 ≤ 940) (x10_a : (-2147483648) ≤ x10) (x10_b : x10 ≤ 2147483647) (x11_a : 0 ≤ x11) (x11_b : x11 ≤ 8) (x12_a : 0 ≤ x12) (x12_b : x12 ≤ 9) (x13_a : (-1) ≤ x13) (x13_b : x13 ≤ 9) (x14_a : (-1) ≤ x14) (x14_b : x14 ≤ 8) (x15_a : 0 ≤ x15) (x15_b : x15 ≤ 9) (x16_a : 0 ≤ x16) (x16_b : x16 ≤ 64) (x17_a : 0 ≤ x17) (x17_b : x17 ≤ 40) (x18_a : 0 ≤ x18) (x18_b : x18 ≤ 40) (x19_a : 0 ≤ x19) (x19_b : x19 ≤ 20) (x20_a : 0 ≤ x20) (x20_b : x20 ≤ 8) (x21_a : 0 ≤ x21) (x21_b : x21 ≤ 39) (f0_h : rng 0 255 f0) : Met l yX12_come (Cond.code yX12_come cX12_come 3 none :: GW) (Rm 0 0 0) (cPre [.ref a0, .int (iI x0)] D T [(a0, .inr (11, [.int r0, .ref a1, .int (iI x1), .int (iI x2), .int (iI x3), .int (iI x4), .int (iI x5), .int (iI x6), .int r1, .int (iI x7), .int (iI x8), .int (iI x9), .long y0, .int (iI x10), .ref a2, .ref a3, .ref a4, .ref a5, .ref a6, .ref a7, .ref a8, .ref a9, .ref a10, .ref a11, .int (iI x11), .ref a12, .ref a13, .ref a14, .ref a15, .int (iI x12), .int r2, .int r3, .ref a16, .int (iI x13), .int (iI x14), .ref a17, .ref a18, .int (iI x15), .ref a19, .int (iI x16), .int r4, .ref a20, .ref a21, .int (iI x17), .int r5, .ref a22, .int (iI x18), .int (iI x19), .int (iI x20), .int (iI x21)])), (a1, .inl (T 0, 940, .inl (cI f0)))] sz) (qV D [(a0, .inr (11, [.int r0, .ref a1, .int (iI x1), .int (iI x2), .int (iI x3), .int (iI x4), .int (iI x5), .int (iI x6), .int r1, .int (iI x7), .int (iI x8), .int (iI x9), .long y0, .int (iI x10), .ref a2, .ref a3, .ref a4, .ref a5, .ref a6, .ref a7, .ref a8, .ref a9, .ref a10, .ref a11, .int (iI x11), .ref a12, .ref a13, .ref a14, .ref a15, .int (iI x12), .int r2, .int r3, .ref a16, .int (iI x13), .int (iI x14), .ref a17, .ref a18, .int (iI x15), .ref a19, .int (iI x16), .int r4, .ref a20, .ref a21, .int (iI x17), .int r5, .ref a22, .int (iI x18), .int (iI x19), .int (iI x20), .int (iI x21)])), (a1, .inl (T 0, 940, .inl (cI f0)))] sz (fun (u : Int × (Int → Int)) => 0 ≤ u.1 ∧ u.1 ≤ 940 ∧ rng 0 255 u.2 ∧ 0 ≤ ((x1 + 4) - u.1) ∧ 0 ≤ ((u.1 - 4) - x1) ∧ (u.2 = bts f0 x1 x0)) (fun u => [(a0, .inr (11, [.int r0, .ref a1, .int (iI u.1), .int (iI x2), .int (iI x3), .int (iI x4), .int (iI x5), .int (iI x6), .int r1, .int (iI x7), .int (iI x8), .int (iI x9), .long y0, .int (iI x10), .ref a2, .ref a3, .ref a4, .ref a5, .ref a6, .ref a7, .ref a8, .ref a9, .ref a10, .ref a11, .int (iI x11), .ref a12, .ref a13, .ref a14, .ref a15, .int (iI x12), .int r2, .int r3, .ref a16, .int (iI x13), .int (iI x14), .ref a17, .ref a18, .int (iI x15), .ref a19, .int (iI x16), .int r4, .ref a20, .ref a21, .int (iI x17), .int r5, .ref a22, .int (iI x18), .int (iI x19), .int (iI x20), .int (iI x21)])), (a1, .inl (T 0, 940, .inl (cI u.2)))])) 0 0 (va_A [(a0, .inr (11, [.int r0, .ref a1, .int (iI x1), .int (iI x2), .int (iI x3), .int (iI x4), .int (iI x5), .int (iI x6), .int r1, .int (iI x7), .int (iI x8), .int (iI x9), .long y0, .int (iI x10), .ref a2, .ref a3, .ref a4, .ref a5, .ref a6, .ref a7, .ref a8, .ref a9, .ref a10, .ref a11, .int (iI x11), .ref a12, .ref a13, .ref a14, .ref a15, .int (iI x12), .int r2, .int r3, .ref a16, .int (iI x13), .int (iI x14), .ref a17, .ref a18, .int (iI x15), .ref a19, .int (iI x16), .int r4, .ref a20, .ref a21, .int (iI x17), .int r5, .ref a22, .int (iI x18), .int (iI x19), .int (iI x20), .int (iI x21)])), (a1, .inl (T 0, 940, .inl (cI f0)))] sz) := by
  refine e_V (by decide) (Nat.le_of_ble_eq_true rfl) ?_
  intro p e s m args below meth c A Q ls M hin w ret hl
  have hx := M.1.1
  have hb := M.1.2.1
  have hl : lv_has ls 3 [(0, .ref a0), (1, .int (iI x0))] := hl
  refine lv_bipush (v := iI 24) hx hb dX12_come_0 (by decide +kernel) ?_
  refine lv_istore_n (lv' := [(2, .int (iI 24)), (0, .ref a0), (1, .int (iI x0))]) hx hb dX12_come_2 rfl hl (by decide) rfl (fun ls hl => ?_)
  refine lv_iload_n hx hb dX12_come_3 rfl (lv_at hl 0 rfl) ?_
  refine lv_if_lt (tgt := 39) hx hb dX12_come_4 (by decide) (fun c => absurd c (by decide +kernel)) (fun _ => ?_)
  refine lv_aload_n hx hb dX12_come_7 rfl (lv_at hl 1 rfl) ?_
  refine r_get (v := .ref a1) M w 0 1 clX12 rfl (by decide) G1464 rfl rfl dX12_come_8 ?_
  refine lv_aload_n hx hb dX12_come_11 rfl (lv_at hl 1 rfl) ?_
  refine r_get (v := .int (iI x1)) M w 0 2 clX12 rfl (by decide) G1465 rfl rfl dX12_come_12 ?_
  refine lv_iload_n hx hb dX12_come_15 rfl (lv_at hl 2 rfl) ?_
  refine lv_iload_n hx hb dX12_come_16 rfl (lv_at hl 0 rfl) ?_
  refine r_iushr (v := (Int32.toUInt32 (iI x0) >>> (Int32.toUInt32 (iI 24) &&& Int32.toUInt32 31)).toInt32) M rfl dX12_come_17 ?_
  refine lv_sipush (v := iI 255) hx hb dX12_come_18 (by decide +kernel) ?_
  refine r_iand (v := (((Int32.toUInt32 (iI x0) >>> (Int32.toUInt32 (iI 24) &&& Int32.toUInt32 31)).toInt32) &&& (iI 255))) M rfl dX12_come_21 ?_
  refine b_rngx (lo := 0) (hi := 255) (and_255 _) (fun z1 z1_a z1_b hz2 => ?_)
  refine r_iast (ws' := [(a0, .inr (11, [.int r0, .ref a1, .int (iI x1), .int (iI x2), .int (iI x3), .int (iI x4), .int (iI x5), .int (iI x6), .int r1, .int (iI x7), .int (iI x8), .int (iI x9), .long y0, .int (iI x10), .ref a2, .ref a3, .ref a4, .ref a5, .ref a6, .ref a7, .ref a8, .ref a9, .ref a10, .ref a11, .int (iI x11), .ref a12, .ref a13, .ref a14, .ref a15, .int (iI x12), .int r2, .int r3, .ref a16, .int (iI x13), .int (iI x14), .ref a17, .ref a18, .int (iI x15), .ref a19, .int (iI x16), .int r4, .ref a20, .ref a21, .int (iI x17), .int r5, .ref a22, .int (iI x18), .int (iI x19), .int (iI x20), .int (iI x21)])), (a1, .inl (T 0, 940, .inl (cI (upz f0 x1 z1))))]) M w 1 rfl (iI_in (by omega) (by omega) (by decide)) (by rw [cI_up (by omega) (by omega)]; rfl) dX12_come_22 (fun H locs w => ?_)
  refine lv_aload_n hx hb dX12_come_23 rfl (lv_at hl 1 rfl) ?_
  refine lv_dup hx hb dX12_come_24 rfl ?_
  refine r_get (v := .int (iI x1)) M w 0 2 clX12 rfl (by decide) G1465 rfl rfl dX12_come_25 ?_
  refine lv_iconst (v := iI 1) hx hb dX12_come_28 (by decide +kernel) ?_
  refine r_iadd (v := iI (x1 + 1)) M (iI_add _ _) dX12_come_29 ?_
  refine r_put (ws' := [(a0, .inr (11, [.int r0, .ref a1, .int (iI (x1 + 1)), .int (iI x2), .int (iI x3), .int (iI x4), .int (iI x5), .int (iI x6), .int r1, .int (iI x7), .int (iI x8), .int (iI x9), .long y0, .int (iI x10), .ref a2, .ref a3, .ref a4, .ref a5, .ref a6, .ref a7, .ref a8, .ref a9, .ref a10, .ref a11, .int (iI x11), .ref a12, .ref a13, .ref a14, .ref a15, .int (iI x12), .int r2, .int r3, .ref a16, .int (iI x13), .int (iI x14), .ref a17, .ref a18, .int (iI x15), .ref a19, .int (iI x16), .int r4, .ref a20, .ref a21, .int (iI x17), .int r5, .ref a22, .int (iI x18), .int (iI x19), .int (iI x20), .int (iI x21)])), (a1, .inl (T 0, 940, .inl (cI (upz f0 x1 z1))))]) M w 0 2 clX12 rfl (by decide) G1465 rfl rfl rfl rfl (Nat.le_of_ble_eq_true rfl) rfl dX12_come_30 (fun H locs w => ?_)
  refine lv_iinc (v := iI 16) (lv' := [(2, .int (iI 16)), (0, .ref a0), (1, .int (iI x0))]) hx hb dX12_come_33 hl (k := 0) rfl (by decide +kernel) (by decide) rfl (fun ls hl => ?_)
  refine lv_goto (tgt := 3) hx hb dX12_come_36 (by decide) ?_
  refine lv_iload_n hx hb dX12_come_3 rfl (lv_at hl 0 rfl) ?_
  refine lv_if_lt (tgt := 39) hx hb dX12_come_4 (by decide) (fun c => absurd c (by decide +kernel)) (fun _ => ?_)
  refine lv_aload_n hx hb dX12_come_7 rfl (lv_at hl 1 rfl) ?_
  refine r_get (v := .ref a1) M w 0 1 clX12 rfl (by decide) G1464 rfl rfl dX12_come_8 ?_
  refine lv_aload_n hx hb dX12_come_11 rfl (lv_at hl 1 rfl) ?_
  refine r_get (v := .int (iI (x1 + 1))) M w 0 2 clX12 rfl (by decide) G1465 rfl rfl dX12_come_12 ?_
  refine lv_iload_n hx hb dX12_come_15 rfl (lv_at hl 2 rfl) ?_
  refine lv_iload_n hx hb dX12_come_16 rfl (lv_at hl 0 rfl) ?_
  refine r_iushr (v := (Int32.toUInt32 (iI x0) >>> (Int32.toUInt32 (iI 16) &&& Int32.toUInt32 31)).toInt32) M rfl dX12_come_17 ?_
  refine lv_sipush (v := iI 255) hx hb dX12_come_18 (by decide +kernel) ?_
  refine r_iand (v := (((Int32.toUInt32 (iI x0) >>> (Int32.toUInt32 (iI 16) &&& Int32.toUInt32 31)).toInt32) &&& (iI 255))) M rfl dX12_come_21 ?_
  refine b_rngx (lo := 0) (hi := 255) (and_255 _) (fun z3 z3_a z3_b hz4 => ?_)
  refine r_iast (ws' := [(a0, .inr (11, [.int r0, .ref a1, .int (iI (x1 + 1)), .int (iI x2), .int (iI x3), .int (iI x4), .int (iI x5), .int (iI x6), .int r1, .int (iI x7), .int (iI x8), .int (iI x9), .long y0, .int (iI x10), .ref a2, .ref a3, .ref a4, .ref a5, .ref a6, .ref a7, .ref a8, .ref a9, .ref a10, .ref a11, .int (iI x11), .ref a12, .ref a13, .ref a14, .ref a15, .int (iI x12), .int r2, .int r3, .ref a16, .int (iI x13), .int (iI x14), .ref a17, .ref a18, .int (iI x15), .ref a19, .int (iI x16), .int r4, .ref a20, .ref a21, .int (iI x17), .int r5, .ref a22, .int (iI x18), .int (iI x19), .int (iI x20), .int (iI x21)])), (a1, .inl (T 0, 940, .inl (cI (upz (upz f0 x1 z1) (x1 + 1) z3))))]) M w 1 rfl (iI_in (by omega) (by omega) (by decide)) (by rw [cI_up (by omega) (by omega)]; rfl) dX12_come_22 (fun H locs w => ?_)
  refine lv_aload_n hx hb dX12_come_23 rfl (lv_at hl 1 rfl) ?_
  refine lv_dup hx hb dX12_come_24 rfl ?_
  refine r_get (v := .int (iI (x1 + 1))) M w 0 2 clX12 rfl (by decide) G1465 rfl rfl dX12_come_25 ?_
  refine lv_iconst (v := iI 1) hx hb dX12_come_28 (by decide +kernel) ?_
  refine r_iadd (v := iI ((x1 + 1) + 1)) M (iI_add _ _) dX12_come_29 ?_
  refine r_put (ws' := [(a0, .inr (11, [.int r0, .ref a1, .int (iI ((x1 + 1) + 1)), .int (iI x2), .int (iI x3), .int (iI x4), .int (iI x5), .int (iI x6), .int r1, .int (iI x7), .int (iI x8), .int (iI x9), .long y0, .int (iI x10), .ref a2, .ref a3, .ref a4, .ref a5, .ref a6, .ref a7, .ref a8, .ref a9, .ref a10, .ref a11, .int (iI x11), .ref a12, .ref a13, .ref a14, .ref a15, .int (iI x12), .int r2, .int r3, .ref a16, .int (iI x13), .int (iI x14), .ref a17, .ref a18, .int (iI x15), .ref a19, .int (iI x16), .int r4, .ref a20, .ref a21, .int (iI x17), .int r5, .ref a22, .int (iI x18), .int (iI x19), .int (iI x20), .int (iI x21)])), (a1, .inl (T 0, 940, .inl (cI (upz (upz f0 x1 z1) (x1 + 1) z3))))]) M w 0 2 clX12 rfl (by decide) G1465 rfl rfl rfl rfl (Nat.le_of_ble_eq_true rfl) rfl dX12_come_30 (fun H locs w => ?_)
  refine lv_iinc (v := iI 8) (lv' := [(2, .int (iI 8)), (0, .ref a0), (1, .int (iI x0))]) hx hb dX12_come_33 hl (k := 0) rfl (by decide +kernel) (by decide) rfl (fun ls hl => ?_)
  refine lv_goto (tgt := 3) hx hb dX12_come_36 (by decide) ?_
  refine lv_iload_n hx hb dX12_come_3 rfl (lv_at hl 0 rfl) ?_
  refine lv_if_lt (tgt := 39) hx hb dX12_come_4 (by decide) (fun c => absurd c (by decide +kernel)) (fun _ => ?_)
  refine lv_aload_n hx hb dX12_come_7 rfl (lv_at hl 1 rfl) ?_
  refine r_get (v := .ref a1) M w 0 1 clX12 rfl (by decide) G1464 rfl rfl dX12_come_8 ?_
  refine lv_aload_n hx hb dX12_come_11 rfl (lv_at hl 1 rfl) ?_
  refine r_get (v := .int (iI ((x1 + 1) + 1))) M w 0 2 clX12 rfl (by decide) G1465 rfl rfl dX12_come_12 ?_
  refine lv_iload_n hx hb dX12_come_15 rfl (lv_at hl 2 rfl) ?_
  refine lv_iload_n hx hb dX12_come_16 rfl (lv_at hl 0 rfl) ?_
  refine r_iushr (v := (Int32.toUInt32 (iI x0) >>> (Int32.toUInt32 (iI 8) &&& Int32.toUInt32 31)).toInt32) M rfl dX12_come_17 ?_
  refine lv_sipush (v := iI 255) hx hb dX12_come_18 (by decide +kernel) ?_
  refine r_iand (v := (((Int32.toUInt32 (iI x0) >>> (Int32.toUInt32 (iI 8) &&& Int32.toUInt32 31)).toInt32) &&& (iI 255))) M rfl dX12_come_21 ?_
  refine b_rngx (lo := 0) (hi := 255) (and_255 _) (fun z5 z5_a z5_b hz6 => ?_)
  refine r_iast (ws' := [(a0, .inr (11, [.int r0, .ref a1, .int (iI ((x1 + 1) + 1)), .int (iI x2), .int (iI x3), .int (iI x4), .int (iI x5), .int (iI x6), .int r1, .int (iI x7), .int (iI x8), .int (iI x9), .long y0, .int (iI x10), .ref a2, .ref a3, .ref a4, .ref a5, .ref a6, .ref a7, .ref a8, .ref a9, .ref a10, .ref a11, .int (iI x11), .ref a12, .ref a13, .ref a14, .ref a15, .int (iI x12), .int r2, .int r3, .ref a16, .int (iI x13), .int (iI x14), .ref a17, .ref a18, .int (iI x15), .ref a19, .int (iI x16), .int r4, .ref a20, .ref a21, .int (iI x17), .int r5, .ref a22, .int (iI x18), .int (iI x19), .int (iI x20), .int (iI x21)])), (a1, .inl (T 0, 940, .inl (cI (upz (upz (upz f0 x1 z1) (x1 + 1) z3) ((x1 + 1) + 1) z5))))]) M w 1 rfl (iI_in (by omega) (by omega) (by decide)) (by rw [cI_up (by omega) (by omega)]; rfl) dX12_come_22 (fun H locs w => ?_)
  refine lv_aload_n hx hb dX12_come_23 rfl (lv_at hl 1 rfl) ?_
  refine lv_dup hx hb dX12_come_24 rfl ?_
  refine r_get (v := .int (iI ((x1 + 1) + 1))) M w 0 2 clX12 rfl (by decide) G1465 rfl rfl dX12_come_25 ?_
  refine lv_iconst (v := iI 1) hx hb dX12_come_28 (by decide +kernel) ?_
  refine r_iadd (v := iI (((x1 + 1) + 1) + 1)) M (iI_add _ _) dX12_come_29 ?_
  refine r_put (ws' := [(a0, .inr (11, [.int r0, .ref a1, .int (iI (((x1 + 1) + 1) + 1)), .int (iI x2), .int (iI x3), .int (iI x4), .int (iI x5), .int (iI x6), .int r1, .int (iI x7), .int (iI x8), .int (iI x9), .long y0, .int (iI x10), .ref a2, .ref a3, .ref a4, .ref a5, .ref a6, .ref a7, .ref a8, .ref a9, .ref a10, .ref a11, .int (iI x11), .ref a12, .ref a13, .ref a14, .ref a15, .int (iI x12), .int r2, .int r3, .ref a16, .int (iI x13), .int (iI x14), .ref a17, .ref a18, .int (iI x15), .ref a19, .int (iI x16), .int r4, .ref a20, .ref a21, .int (iI x17), .int r5, .ref a22, .int (iI x18), .int (iI x19), .int (iI x20), .int (iI x21)])), (a1, .inl (T 0, 940, .inl (cI (upz (upz (upz f0 x1 z1) (x1 + 1) z3) ((x1 + 1) + 1) z5))))]) M w 0 2 clX12 rfl (by decide) G1465 rfl rfl rfl rfl (Nat.le_of_ble_eq_true rfl) rfl dX12_come_30 (fun H locs w => ?_)
  refine lv_iinc (v := iI 0) (lv' := [(2, .int (iI 0)), (0, .ref a0), (1, .int (iI x0))]) hx hb dX12_come_33 hl (k := 0) rfl (by decide +kernel) (by decide) rfl (fun ls hl => ?_)
  refine lv_goto (tgt := 3) hx hb dX12_come_36 (by decide) ?_
  refine lv_iload_n hx hb dX12_come_3 rfl (lv_at hl 0 rfl) ?_
  refine lv_if_lt (tgt := 39) hx hb dX12_come_4 (by decide) (fun c => absurd c (by decide +kernel)) (fun _ => ?_)
  refine lv_aload_n hx hb dX12_come_7 rfl (lv_at hl 1 rfl) ?_
  refine r_get (v := .ref a1) M w 0 1 clX12 rfl (by decide) G1464 rfl rfl dX12_come_8 ?_
  refine lv_aload_n hx hb dX12_come_11 rfl (lv_at hl 1 rfl) ?_
  refine r_get (v := .int (iI (((x1 + 1) + 1) + 1))) M w 0 2 clX12 rfl (by decide) G1465 rfl rfl dX12_come_12 ?_
  refine lv_iload_n hx hb dX12_come_15 rfl (lv_at hl 2 rfl) ?_
  refine lv_iload_n hx hb dX12_come_16 rfl (lv_at hl 0 rfl) ?_
  refine r_iushr (v := (Int32.toUInt32 (iI x0) >>> (Int32.toUInt32 (iI 0) &&& Int32.toUInt32 31)).toInt32) M rfl dX12_come_17 ?_
  refine lv_sipush (v := iI 255) hx hb dX12_come_18 (by decide +kernel) ?_
  refine r_iand (v := (((Int32.toUInt32 (iI x0) >>> (Int32.toUInt32 (iI 0) &&& Int32.toUInt32 31)).toInt32) &&& (iI 255))) M rfl dX12_come_21 ?_
  refine b_rngx (lo := 0) (hi := 255) (and_255 _) (fun z7 z7_a z7_b hz8 => ?_)
  refine r_iast (ws' := [(a0, .inr (11, [.int r0, .ref a1, .int (iI (((x1 + 1) + 1) + 1)), .int (iI x2), .int (iI x3), .int (iI x4), .int (iI x5), .int (iI x6), .int r1, .int (iI x7), .int (iI x8), .int (iI x9), .long y0, .int (iI x10), .ref a2, .ref a3, .ref a4, .ref a5, .ref a6, .ref a7, .ref a8, .ref a9, .ref a10, .ref a11, .int (iI x11), .ref a12, .ref a13, .ref a14, .ref a15, .int (iI x12), .int r2, .int r3, .ref a16, .int (iI x13), .int (iI x14), .ref a17, .ref a18, .int (iI x15), .ref a19, .int (iI x16), .int r4, .ref a20, .ref a21, .int (iI x17), .int r5, .ref a22, .int (iI x18), .int (iI x19), .int (iI x20), .int (iI x21)])), (a1, .inl (T 0, 940, .inl (cI (upz (upz (upz (upz f0 x1 z1) (x1 + 1) z3) ((x1 + 1) + 1) z5) (((x1 + 1) + 1) + 1) z7))))]) M w 1 rfl (iI_in (by omega) (by omega) (by decide)) (by rw [cI_up (by omega) (by omega)]; rfl) dX12_come_22 (fun H locs w => ?_)
  refine lv_aload_n hx hb dX12_come_23 rfl (lv_at hl 1 rfl) ?_
  refine lv_dup hx hb dX12_come_24 rfl ?_
  refine r_get (v := .int (iI (((x1 + 1) + 1) + 1))) M w 0 2 clX12 rfl (by decide) G1465 rfl rfl dX12_come_25 ?_
  refine lv_iconst (v := iI 1) hx hb dX12_come_28 (by decide +kernel) ?_
  refine r_iadd (v := iI ((((x1 + 1) + 1) + 1) + 1)) M (iI_add _ _) dX12_come_29 ?_
  refine r_put (ws' := [(a0, .inr (11, [.int r0, .ref a1, .int (iI ((((x1 + 1) + 1) + 1) + 1)), .int (iI x2), .int (iI x3), .int (iI x4), .int (iI x5), .int (iI x6), .int r1, .int (iI x7), .int (iI x8), .int (iI x9), .long y0, .int (iI x10), .ref a2, .ref a3, .ref a4, .ref a5, .ref a6, .ref a7, .ref a8, .ref a9, .ref a10, .ref a11, .int (iI x11), .ref a12, .ref a13, .ref a14, .ref a15, .int (iI x12), .int r2, .int r3, .ref a16, .int (iI x13), .int (iI x14), .ref a17, .ref a18, .int (iI x15), .ref a19, .int (iI x16), .int r4, .ref a20, .ref a21, .int (iI x17), .int r5, .ref a22, .int (iI x18), .int (iI x19), .int (iI x20), .int (iI x21)])), (a1, .inl (T 0, 940, .inl (cI (upz (upz (upz (upz f0 x1 z1) (x1 + 1) z3) ((x1 + 1) + 1) z5) (((x1 + 1) + 1) + 1) z7))))]) M w 0 2 clX12 rfl (by decide) G1465 rfl rfl rfl rfl (Nat.le_of_ble_eq_true rfl) rfl dX12_come_30 (fun H locs w => ?_)
  refine lv_iinc (v := iI (-8)) (lv' := [(2, .int (iI (-8))), (0, .ref a0), (1, .int (iI x0))]) hx hb dX12_come_33 hl (k := 0) rfl (by decide +kernel) (by decide) rfl (fun ls hl => ?_)
  refine lv_goto (tgt := 3) hx hb dX12_come_36 (by decide) ?_
  refine lv_iload_n hx hb dX12_come_3 rfl (lv_at hl 0 rfl) ?_
  refine lv_if_lt (tgt := 39) hx hb dX12_come_4 (by decide) (fun _ => ?_) (fun c => absurd (by decide +kernel) c)
  exact ret (((((x1 + 1) + 1) + 1) + 1), (upz (upz (upz (upz f0 x1 z1) (x1 + 1) z3) ((x1 + 1) + 1) z5) (((x1 + 1) + 1) + 1) z7)) _ _ _ _ _ [0, 1] dX12_come_39 ⟨(show 0 ≤ ((((x1 + 1) + 1) + 1) + 1) from by omega), (show ((((x1 + 1) + 1) + 1) + 1) ≤ 940 from by omega), (rng_up (rng_up (rng_up (rng_up f0_h (by omega) (by omega)) (by omega) (by omega)) (by omega) (by omega)) (by omega) (by omega)), (show 0 ≤ ((x1 + 4) - ((((x1 + 1) + 1) + 1) + 1)) from by omega), (show 0 ≤ ((((((x1 + 1) + 1) + 1) + 1) - 4) - x1) from by omega), (show (upz (upz (upz (upz f0 x1 z1) (x1 + 1) z3) ((x1 + 1) + 1) z5) (((x1 + 1) + 1) + 1) z7) = bts f0 x1 x0 from (by rw [hz8, hz6, hz4, hz2]; rfl))⟩ w (by decide) rfl
set_option maxRecDepth 100000 in
set_option maxHeartbeats 4000000 in
theorem c3_X12_feed (l : Launch) (D : va_G) (T : Nat → ClassId) (sz : Nat) (a0 : Nat) (x0 : Int) (x1 : Int) (x2 : Int) (x3 : Int) (x4 : Int) (r0 : Int32) (a1 : Nat) (x5 : Int) (x6 : Int) (x7 : Int) (x8 : Int) (x9 : Int) (x10 : Int) (r1 : Int32) (x11 : Int) (x12 : Int) (x13 : Int) (y0 : Int64) (x14 : Int) (a2 : Nat) (a3 : Nat) (a4 : Nat) (a5 : Nat) (a6 : Nat) (a7 : Nat) (a8 : Nat) (a9 : Nat) (a10 : Nat) (a11 : Nat) (x15 : Int) (a12 : Nat) (a13 : Nat) (a14 : Nat) (a15 : Nat) (x16 : Int) (r2 : Int32) (r3 : Int32) (a16 : Nat) (x17 : Int) (x18 : Int) (a17 : Nat) (a18 : Nat) (x19 : Int) (a19 : Nat) (x20 : Int) (r4 : Int32) (a20 : Nat) (a21 : Nat) (x21 : Int) (r5 : Int32) (a22 : Nat) (x22 : Int) (x23 : Int) (x24 : Int) (x25 : Int) (f0 : Int → Int) (x0_a : (-2147483648) ≤ x0) (x0_b : x0 ≤ 2147483647) (x1_a : (-2147483648) ≤ x1) (x1_b : x1 ≤ 2147483647) (x2_a : (-2147483648) ≤ x2) (x2_b : x2 ≤ 2147483647) (x3_a : (-2147483648) ≤ x3) (x3_b : x3 ≤ 2147483647) (x4_a : (-2147483648) ≤ x4) (x4_b : x4 ≤ 2147483647) (x5_a : 0 ≤ x5) (x5_b : x5 ≤ 940) (x6_a : 0 ≤ x6) (x6_b : x6 ≤ 940) (x7_a : 0 ≤ x7) (x7_b : x7 ≤ 940) (x8_a : 0 ≤ x8) (x8_b : x8 ≤ 940) (x9_a : 0 ≤ x9) (x9_b : x9 ≤ 940) (x10_a : 0 ≤ x10) (x10_b : x10 ≤ 4) (x11_a : (-2147483648) ≤ x11) (x11_b : x11 ≤ 2147483647) (x12_a : (-2147483648) ≤ x12) (x12_b : x12 ≤ 2147483647) (x13_a : 0 ≤ x13) (x13_b : x13 ≤ 940) (x14_a : (-2147483648) ≤ x14) (x14_b : x14 ≤ 2147483647) (x15_a : 0 ≤ x15) (x15_b : x15 ≤ 8) (x16_a : 0 ≤ x16) (x16_b : x16 ≤ 9) (x17_a : (-1) ≤ x17) (x17_b : x17 ≤ 9) (x18_a : (-1) ≤ x18) (x18_b : x18 ≤ 8) (x19_a : 0 ≤ x19) (x19_b : x19 ≤ 9) (x20_a : 0 ≤ x20) (x20_b : x20 ≤ 64) (x21_a : 0 ≤ x21) (x21_b : x21 ≤ 40) (x22_a : 0 ≤ x22) (x22_b : x22 ≤ 40) (x23_a : 0 ≤ x23) (x23_b : x23 ≤ 20) (x24_a : 0 ≤ x24) (x24_b : x24 ≤ 8) (x25_a : 0 ≤ x25) (x25_b : x25 ≤ 39) (f0_h : rng 0 255 f0) : Met l yX12_feed (Cond.code yX12_feed cX12_feed 6 (some .int) :: GW) (Rm 1 0 0) (cPre [.ref a0, .int (iI x0), .int (iI x1), .int (iI x2), .int (iI x3), .int (iI x4)] D T [(a0, .inr (11, [.int r0, .ref a1, .int (iI x5), .int (iI x6), .int (iI x7), .int (iI x8), .int (iI x9), .int (iI x10), .int r1, .int (iI x11), .int (iI x12), .int (iI x13), .long y0, .int (iI x14), .ref a2, .ref a3, .ref a4, .ref a5, .ref a6, .ref a7, .ref a8, .ref a9, .ref a10, .ref a11, .int (iI x15), .ref a12, .ref a13, .ref a14, .ref a15, .int (iI x16), .int r2, .int r3, .ref a16, .int (iI x17), .int (iI x18), .ref a17, .ref a18, .int (iI x19), .ref a19, .int (iI x20), .int r4, .ref a20, .ref a21, .int (iI x21), .int r5, .ref a22, .int (iI x22), .int (iI x23), .int (iI x24), .int (iI x25)])), (a1, .inl (T 0, 940, .inl (cI f0)))] sz) (qI D [(a0, .inr (11, [.int r0, .ref a1, .int (iI x5), .int (iI x6), .int (iI x7), .int (iI x8), .int (iI x9), .int (iI x10), .int r1, .int (iI x11), .int (iI x12), .int (iI x13), .long y0, .int (iI x14), .ref a2, .ref a3, .ref a4, .ref a5, .ref a6, .ref a7, .ref a8, .ref a9, .ref a10, .ref a11, .int (iI x15), .ref a12, .ref a13, .ref a14, .ref a15, .int (iI x16), .int r2, .int r3, .ref a16, .int (iI x17), .int (iI x18), .ref a17, .ref a18, .int (iI x19), .ref a19, .int (iI x20), .int r4, .ref a20, .ref a21, .int (iI x21), .int r5, .ref a22, .int (iI x22), .int (iI x23), .int (iI x24), .int (iI x25)])), (a1, .inl (T 0, 940, .inl (cI f0)))] sz (fun (v : Int32) (u : Int × Int32 × Int × (Int → Int)) => iI u.1 = v ∧ (-2147483648) ≤ u.1 ∧ u.1 ≤ 2147483647 ∧ 0 ≤ u.2.2.1 ∧ u.2.2.1 ≤ 940 ∧ rng 0 255 u.2.2.2 ∧ (fdT u.1 x5 u.2.2.1) ∧ (u.2.2.2 = fdF f0 x5 x0 x1 x2 x3 x4)) (fun u => [(a0, .inr (11, [.int u.2.1, .ref a1, .int (iI u.2.2.1), .int (iI x6), .int (iI x7), .int (iI x8), .int (iI x9), .int (iI x10), .int r1, .int (iI x11), .int (iI x12), .int (iI x13), .long y0, .int (iI x14), .ref a2, .ref a3, .ref a4, .ref a5, .ref a6, .ref a7, .ref a8, .ref a9, .ref a10, .ref a11, .int (iI x15), .ref a12, .ref a13, .ref a14, .ref a15, .int (iI x16), .int r2, .int r3, .ref a16, .int (iI x17), .int (iI x18), .ref a17, .ref a18, .int (iI x19), .ref a19, .int (iI x20), .int r4, .ref a20, .ref a21, .int (iI x21), .int r5, .ref a22, .int (iI x22), .int (iI x23), .int (iI x24), .int (iI x25)])), (a1, .inl (T 0, 940, .inl (cI u.2.2.2)))])) 0 0 (va_A [(a0, .inr (11, [.int r0, .ref a1, .int (iI x5), .int (iI x6), .int (iI x7), .int (iI x8), .int (iI x9), .int (iI x10), .int r1, .int (iI x11), .int (iI x12), .int (iI x13), .long y0, .int (iI x14), .ref a2, .ref a3, .ref a4, .ref a5, .ref a6, .ref a7, .ref a8, .ref a9, .ref a10, .ref a11, .int (iI x15), .ref a12, .ref a13, .ref a14, .ref a15, .int (iI x16), .int r2, .int r3, .ref a16, .int (iI x17), .int (iI x18), .ref a17, .ref a18, .int (iI x19), .ref a19, .int (iI x20), .int r4, .ref a20, .ref a21, .int (iI x21), .int r5, .ref a22, .int (iI x22), .int (iI x23), .int (iI x24), .int (iI x25)])), (a1, .inl (T 0, 940, .inl (cI f0)))] sz) := by
  refine e_I (by decide) (Nat.le_of_ble_eq_true rfl) ?_
  intro p e s m args below meth c A Q ls M hin w ret hl
  have hx := M.1.1
  have hb := M.1.2.1
  have hl : lv_has ls 6 [(0, .ref a0), (1, .int (iI x0)), (2, .int (iI x1)), (3, .int (iI x2)), (4, .int (iI x3)), (5, .int (iI x4))] := hl
  refine lv_aload_n hx hb dX12_feed_0 rfl (lv_at hl 0 rfl) ?_
  refine lv_iconst (v := iI 0) hx hb dX12_feed_1 (by decide +kernel) ?_
  refine r_put (ws' := [(a0, .inr (11, [.int (iI 0), .ref a1, .int (iI x5), .int (iI x6), .int (iI x7), .int (iI x8), .int (iI x9), .int (iI x10), .int r1, .int (iI x11), .int (iI x12), .int (iI x13), .long y0, .int (iI x14), .ref a2, .ref a3, .ref a4, .ref a5, .ref a6, .ref a7, .ref a8, .ref a9, .ref a10, .ref a11, .int (iI x15), .ref a12, .ref a13, .ref a14, .ref a15, .int (iI x16), .int r2, .int r3, .ref a16, .int (iI x17), .int (iI x18), .ref a17, .ref a18, .int (iI x19), .ref a19, .int (iI x20), .int r4, .ref a20, .ref a21, .int (iI x21), .int r5, .ref a22, .int (iI x22), .int (iI x23), .int (iI x24), .int (iI x25)])), (a1, .inl (T 0, 940, .inl (cI f0)))]) M w 0 0 clX12 rfl (by decide) G1463 rfl rfl rfl rfl (Nat.le_of_ble_eq_true rfl) rfl dX12_feed_2 (fun H locs w => ?_)
  refine lv_aload_n hx hb dX12_feed_5 rfl (lv_at hl 0 rfl) ?_
  refine r_get (v := .int (iI x5)) M w 0 2 clX12 rfl (by decide) G1465 rfl rfl dX12_feed_6 ?_
  refine lv_bipush (v := iI 20) hx hb dX12_feed_9 (by decide +kernel) ?_
  refine r_iadd (v := iI (x5 + 20)) M (iI_add _ _) dX12_feed_11 ?_
  refine lv_sipush (v := iI 940) hx hb dX12_feed_12 (by decide +kernel) ?_
  refine lv_icmp_le (tgt := 20) hx hb dX12_feed_15 (by decide) (fun c_1 => ?_) (fun c_1 => ?_)
  · replace c_1 := (iI_le (by omega) (by omega) (by decide) (by decide)).mp c_1
    refine lv_aload_n hx hb dX12_feed_20 rfl (lv_at hl 0 rfl) ?_
    refine lv_iload_n hx hb dX12_feed_21 rfl (lv_at hl 1 rfl) ?_
    refine k_V (ce := 0) (sl := 0) (rest := []) (wr := []) (r_V (f := 0) [0, 1] M w V_HookedCityModel_14 G1443 G44 (c2_X12_come l D T _ a0 x0 (iI 0) a1 x5 x6 x7 x8 x9 x10 r1 x11 x12 x13 y0 x14 a2 a3 a4 a5 a6 a7 a8 a9 a10 a11 x15 a12 a13 a14 a15 x16 r2 r3 a16 x17 x18 a17 a18 x19 a19 x20 r4 a20 a21 x21 r5 a22 x22 x23 x24 x25 f0 x0_a x0_b (by omega) (by omega) x6_a x6_b x7_a x7_b x8_a x8_b x9_a x9_b x10_a x10_b x11_a x11_b x12_a x12_b x13_a x13_b x14_a x14_b x15_a x15_b x16_a x16_b x17_a x17_b x18_a x18_b x19_a x19_b x20_a x20_b x21_a x21_b x22_a x22_b x23_a x23_b x24_a x24_b x25_a x25_b f0_h) 0 clX12 rfl rfl (by decide) rfl hl.1 rfl (Nat.le_of_ble_eq_true rfl) dX12_feed_22 (by decide) (by decide) (by decide) (by decide)) w [0, 1] [] rfl rfl (by decide) (by decide) rfl rfl (fun u H locs hp w => ?_)
    obtain ⟨z2, ff3⟩ := u
    have z2_a : 0 ≤ z2 := hp.1
    have z2_b : z2 ≤ 940 := hp.2.1
    have ff3_h : rng 0 255 ff3 := hp.2.2.1
    have ee4 : 0 ≤ ((x5 + 4) - z2) := hp.2.2.2.1
    have ee5 : 0 ≤ ((z2 - 4) - x5) := hp.2.2.2.2.1
    have pq6 : ff3 = bts f0 x5 x0 := hp.2.2.2.2.2
    have w : WD D A s.heap [(a0, .inr (11, [.int (iI 0), .ref a1, .int (iI z2), .int (iI x6), .int (iI x7), .int (iI x8), .int (iI x9), .int (iI x10), .int r1, .int (iI x11), .int (iI x12), .int (iI x13), .long y0, .int (iI x14), .ref a2, .ref a3, .ref a4, .ref a5, .ref a6, .ref a7, .ref a8, .ref a9, .ref a10, .ref a11, .int (iI x15), .ref a12, .ref a13, .ref a14, .ref a15, .int (iI x16), .int r2, .int r3, .ref a16, .int (iI x17), .int (iI x18), .ref a17, .ref a18, .int (iI x19), .ref a19, .int (iI x20), .int r4, .ref a20, .ref a21, .int (iI x21), .int r5, .ref a22, .int (iI x22), .int (iI x23), .int (iI x24), .int (iI x25)])), (a1, .inl (T 0, 940, .inl (cI ff3)))] H locs := w
    refine lv_aload_n hx hb dX12_feed_25 rfl (lv_at hl 0 rfl) ?_
    refine lv_iload_n hx hb dX12_feed_26 rfl (lv_at hl 2 rfl) ?_
    refine k_V (ce := 0) (sl := 0) (rest := []) (wr := []) (r_V (f := 0) [0, 1] M w V_HookedCityModel_14 G1443 G44 (c2_X12_come l D T _ a0 x1 (iI 0) a1 z2 x6 x7 x8 x9 x10 r1 x11 x12 x13 y0 x14 a2 a3 a4 a5 a6 a7 a8 a9 a10 a11 x15 a12 a13 a14 a15 x16 r2 r3 a16 x17 x18 a17 a18 x19 a19 x20 r4 a20 a21 x21 r5 a22 x22 x23 x24 x25 ff3 x1_a x1_b (by omega) (by omega) x6_a x6_b x7_a x7_b x8_a x8_b x9_a x9_b x10_a x10_b x11_a x11_b x12_a x12_b x13_a x13_b x14_a x14_b x15_a x15_b x16_a x16_b x17_a x17_b x18_a x18_b x19_a x19_b x20_a x20_b x21_a x21_b x22_a x22_b x23_a x23_b x24_a x24_b x25_a x25_b ff3_h) 0 clX12 rfl rfl (by decide) rfl hl.1 rfl (Nat.le_of_ble_eq_true rfl) dX12_feed_27 (by decide) (by decide) (by decide) (by decide)) w [0, 1] [] rfl rfl (by decide) (by decide) rfl rfl (fun u H locs hp w => ?_)
    obtain ⟨z7, ff8⟩ := u
    have z7_a : 0 ≤ z7 := hp.1
    have z7_b : z7 ≤ 940 := hp.2.1
    have ff8_h : rng 0 255 ff8 := hp.2.2.1
    have ee9 : 0 ≤ ((z2 + 4) - z7) := hp.2.2.2.1
    have ee10 : 0 ≤ ((z7 - 4) - z2) := hp.2.2.2.2.1
    have pq11 : ff8 = bts ff3 z2 x1 := hp.2.2.2.2.2
    have w : WD D A s.heap [(a0, .inr (11, [.int (iI 0), .ref a1, .int (iI z7), .int (iI x6), .int (iI x7), .int (iI x8), .int (iI x9), .int (iI x10), .int r1, .int (iI x11), .int (iI x12), .int (iI x13), .long y0, .int (iI x14), .ref a2, .ref a3, .ref a4, .ref a5, .ref a6, .ref a7, .ref a8, .ref a9, .ref a10, .ref a11, .int (iI x15), .ref a12, .ref a13, .ref a14, .ref a15, .int (iI x16), .int r2, .int r3, .ref a16, .int (iI x17), .int (iI x18), .ref a17, .ref a18, .int (iI x19), .ref a19, .int (iI x20), .int r4, .ref a20, .ref a21, .int (iI x21), .int r5, .ref a22, .int (iI x22), .int (iI x23), .int (iI x24), .int (iI x25)])), (a1, .inl (T 0, 940, .inl (cI ff8)))] H locs := w
    refine lv_aload_n hx hb dX12_feed_30 rfl (lv_at hl 0 rfl) ?_
    refine lv_iload_n hx hb dX12_feed_31 rfl (lv_at hl 3 rfl) ?_
    refine k_V (ce := 0) (sl := 0) (rest := []) (wr := []) (r_V (f := 0) [0, 1] M w V_HookedCityModel_14 G1443 G44 (c2_X12_come l D T _ a0 x2 (iI 0) a1 z7 x6 x7 x8 x9 x10 r1 x11 x12 x13 y0 x14 a2 a3 a4 a5 a6 a7 a8 a9 a10 a11 x15 a12 a13 a14 a15 x16 r2 r3 a16 x17 x18 a17 a18 x19 a19 x20 r4 a20 a21 x21 r5 a22 x22 x23 x24 x25 ff8 x2_a x2_b (by omega) (by omega) x6_a x6_b x7_a x7_b x8_a x8_b x9_a x9_b x10_a x10_b x11_a x11_b x12_a x12_b x13_a x13_b x14_a x14_b x15_a x15_b x16_a x16_b x17_a x17_b x18_a x18_b x19_a x19_b x20_a x20_b x21_a x21_b x22_a x22_b x23_a x23_b x24_a x24_b x25_a x25_b ff8_h) 0 clX12 rfl rfl (by decide) rfl hl.1 rfl (Nat.le_of_ble_eq_true rfl) dX12_feed_32 (by decide) (by decide) (by decide) (by decide)) w [0, 1] [] rfl rfl (by decide) (by decide) rfl rfl (fun u H locs hp w => ?_)
    obtain ⟨z12, ff13⟩ := u
    have z12_a : 0 ≤ z12 := hp.1
    have z12_b : z12 ≤ 940 := hp.2.1
    have ff13_h : rng 0 255 ff13 := hp.2.2.1
    have ee14 : 0 ≤ ((z7 + 4) - z12) := hp.2.2.2.1
    have ee15 : 0 ≤ ((z12 - 4) - z7) := hp.2.2.2.2.1
    have pq16 : ff13 = bts ff8 z7 x2 := hp.2.2.2.2.2
    have w : WD D A s.heap [(a0, .inr (11, [.int (iI 0), .ref a1, .int (iI z12), .int (iI x6), .int (iI x7), .int (iI x8), .int (iI x9), .int (iI x10), .int r1, .int (iI x11), .int (iI x12), .int (iI x13), .long y0, .int (iI x14), .ref a2, .ref a3, .ref a4, .ref a5, .ref a6, .ref a7, .ref a8, .ref a9, .ref a10, .ref a11, .int (iI x15), .ref a12, .ref a13, .ref a14, .ref a15, .int (iI x16), .int r2, .int r3, .ref a16, .int (iI x17), .int (iI x18), .ref a17, .ref a18, .int (iI x19), .ref a19, .int (iI x20), .int r4, .ref a20, .ref a21, .int (iI x21), .int r5, .ref a22, .int (iI x22), .int (iI x23), .int (iI x24), .int (iI x25)])), (a1, .inl (T 0, 940, .inl (cI ff13)))] H locs := w
    refine lv_aload_n hx hb dX12_feed_35 rfl (lv_at hl 0 rfl) ?_
    refine lv_iload hx hb dX12_feed_36 (lv_at hl 4 rfl) ?_
    refine k_V (ce := 0) (sl := 0) (rest := []) (wr := []) (r_V (f := 0) [0, 1] M w V_HookedCityModel_14 G1443 G44 (c2_X12_come l D T _ a0 x3 (iI 0) a1 z12 x6 x7 x8 x9 x10 r1 x11 x12 x13 y0 x14 a2 a3 a4 a5 a6 a7 a8 a9 a10 a11 x15 a12 a13 a14 a15 x16 r2 r3 a16 x17 x18 a17 a18 x19 a19 x20 r4 a20 a21 x21 r5 a22 x22 x23 x24 x25 ff13 x3_a x3_b (by omega) (by omega) x6_a x6_b x7_a x7_b x8_a x8_b x9_a x9_b x10_a x10_b x11_a x11_b x12_a x12_b x13_a x13_b x14_a x14_b x15_a x15_b x16_a x16_b x17_a x17_b x18_a x18_b x19_a x19_b x20_a x20_b x21_a x21_b x22_a x22_b x23_a x23_b x24_a x24_b x25_a x25_b ff13_h) 0 clX12 rfl rfl (by decide) rfl hl.1 rfl (Nat.le_of_ble_eq_true rfl) dX12_feed_38 (by decide) (by decide) (by decide) (by decide)) w [0, 1] [] rfl rfl (by decide) (by decide) rfl rfl (fun u H locs hp w => ?_)
    obtain ⟨z17, ff18⟩ := u
    have z17_a : 0 ≤ z17 := hp.1
    have z17_b : z17 ≤ 940 := hp.2.1
    have ff18_h : rng 0 255 ff18 := hp.2.2.1
    have ee19 : 0 ≤ ((z12 + 4) - z17) := hp.2.2.2.1
    have ee20 : 0 ≤ ((z17 - 4) - z12) := hp.2.2.2.2.1
    have pq21 : ff18 = bts ff13 z12 x3 := hp.2.2.2.2.2
    have w : WD D A s.heap [(a0, .inr (11, [.int (iI 0), .ref a1, .int (iI z17), .int (iI x6), .int (iI x7), .int (iI x8), .int (iI x9), .int (iI x10), .int r1, .int (iI x11), .int (iI x12), .int (iI x13), .long y0, .int (iI x14), .ref a2, .ref a3, .ref a4, .ref a5, .ref a6, .ref a7, .ref a8, .ref a9, .ref a10, .ref a11, .int (iI x15), .ref a12, .ref a13, .ref a14, .ref a15, .int (iI x16), .int r2, .int r3, .ref a16, .int (iI x17), .int (iI x18), .ref a17, .ref a18, .int (iI x19), .ref a19, .int (iI x20), .int r4, .ref a20, .ref a21, .int (iI x21), .int r5, .ref a22, .int (iI x22), .int (iI x23), .int (iI x24), .int (iI x25)])), (a1, .inl (T 0, 940, .inl (cI ff18)))] H locs := w
    refine lv_aload_n hx hb dX12_feed_41 rfl (lv_at hl 0 rfl) ?_
    refine lv_iload hx hb dX12_feed_42 (lv_at hl 5 rfl) ?_
    refine k_V (ce := 0) (sl := 0) (rest := []) (wr := []) (r_V (f := 0) [0, 1] M w V_HookedCityModel_14 G1443 G44 (c2_X12_come l D T _ a0 x4 (iI 0) a1 z17 x6 x7 x8 x9 x10 r1 x11 x12 x13 y0 x14 a2 a3 a4 a5 a6 a7 a8 a9 a10 a11 x15 a12 a13 a14 a15 x16 r2 r3 a16 x17 x18 a17 a18 x19 a19 x20 r4 a20 a21 x21 r5 a22 x22 x23 x24 x25 ff18 x4_a x4_b (by omega) (by omega) x6_a x6_b x7_a x7_b x8_a x8_b x9_a x9_b x10_a x10_b x11_a x11_b x12_a x12_b x13_a x13_b x14_a x14_b x15_a x15_b x16_a x16_b x17_a x17_b x18_a x18_b x19_a x19_b x20_a x20_b x21_a x21_b x22_a x22_b x23_a x23_b x24_a x24_b x25_a x25_b ff18_h) 0 clX12 rfl rfl (by decide) rfl hl.1 rfl (Nat.le_of_ble_eq_true rfl) dX12_feed_44 (by decide) (by decide) (by decide) (by decide)) w [0, 1] [] rfl rfl (by decide) (by decide) rfl rfl (fun u H locs hp w => ?_)
    obtain ⟨z22, ff23⟩ := u
    have z22_a : 0 ≤ z22 := hp.1
    have z22_b : z22 ≤ 940 := hp.2.1
    have ff23_h : rng 0 255 ff23 := hp.2.2.1
    have ee24 : 0 ≤ ((z17 + 4) - z22) := hp.2.2.2.1
    have ee25 : 0 ≤ ((z22 - 4) - z17) := hp.2.2.2.2.1
    have pq26 : ff23 = bts ff18 z17 x4 := hp.2.2.2.2.2
    have w : WD D A s.heap [(a0, .inr (11, [.int (iI 0), .ref a1, .int (iI z22), .int (iI x6), .int (iI x7), .int (iI x8), .int (iI x9), .int (iI x10), .int r1, .int (iI x11), .int (iI x12), .int (iI x13), .long y0, .int (iI x14), .ref a2, .ref a3, .ref a4, .ref a5, .ref a6, .ref a7, .ref a8, .ref a9, .ref a10, .ref a11, .int (iI x15), .ref a12, .ref a13, .ref a14, .ref a15, .int (iI x16), .int r2, .int r3, .ref a16, .int (iI x17), .int (iI x18), .ref a17, .ref a18, .int (iI x19), .ref a19, .int (iI x20), .int r4, .ref a20, .ref a21, .int (iI x21), .int r5, .ref a22, .int (iI x22), .int (iI x23), .int (iI x24), .int (iI x25)])), (a1, .inl (T 0, 940, .inl (cI ff23)))] H locs := w
    refine lv_aload_n hx hb dX12_feed_47 rfl (lv_at hl 0 rfl) ?_
    refine r_get (v := .int (iI z22)) M w 0 2 clX12 rfl (by decide) G1465 rfl rfl dX12_feed_48 ?_
    exact ret _ (z22, (iI 0), z22, ff23) _ _ _ _ _ [0, 1] dX12_feed_51 ⟨rfl, (show (-2147483648) ≤ z22 from by omega), (show z22 ≤ 2147483647 from by omega), z22_a, z22_b, ff23_h, (show fdT z22 x5 z22 from (by unfold fdT; omega)), (show ff23 = fdF f0 x5 x0 x1 x2 x3 x4 from (by unfold fdF; rw [if_pos (by omega), pq26, pq21, pq16, pq11, pq6, show z2 = x5 + 4 by omega, show z7 = x5 + 8 by omega, show z12 = x5 + 12 by omega, show z17 = x5 + 16 by omega]))⟩ w (by decide) rfl
  · replace c_1 : 940 < (x5 + 20) := Int.not_le.mp (fun h => c_1 ((iI_le (by omega) (by omega) (by decide) (by decide)).mpr h))
    refine lv_iconst (v := iI (-1)) hx hb dX12_feed_18 (by decide +kernel) ?_
    exact ret _ ((-1), (iI 0), x5, f0) _ _ _ _ _ [0, 1] dX12_feed_19 ⟨rfl, (show (-2147483648) ≤ (-1) from by decide), (show ((-1) : Int) ≤ 2147483647 from by decide), x5_a, x5_b, f0_h, (show fdT (-1) x5 x5 from (by unfold fdT; omega)), (show f0 = fdF f0 x5 x0 x1 x2 x3 x4 from (by unfold fdF; rw [if_neg (by omega)]))⟩ w (by decide) rfl
set_option maxRecDepth 100000 in
set_option maxHeartbeats 4000000 in
theorem c4_X12_end (l : Launch) (D : va_G) (T : Nat → ClassId) (sz : Nat) (a0 : Nat) (x0 : Int) (r0 : Int32) (a1 : Nat) (x1 : Int) (x2 : Int) (x3 : Int) (x4 : Int) (x5 : Int) (x6 : Int) (r1 : Int32) (x7 : Int) (x8 : Int) (x9 : Int) (y0 : Int64) (x10 : Int) (a2 : Nat) (a3 : Nat) (a4 : Nat) (a5 : Nat) (a6 : Nat) (a7 : Nat) (a8 : Nat) (a9 : Nat) (a10 : Nat) (a11 : Nat) (x11 : Int) (a12 : Nat) (a13 : Nat) (a14 : Nat) (a15 : Nat) (x12 : Int) (r2 : Int32) (r3 : Int32) (a16 : Nat) (x13 : Int) (x14 : Int) (a17 : Nat) (a18 : Nat) (x15 : Int) (a19 : Nat) (x16 : Int) (r4 : Int32) (a20 : Nat) (a21 : Nat) (x17 : Int) (r5 : Int32) (a22 : Nat) (x18 : Int) (x19 : Int) (x20 : Int) (x21 : Int) (x0_a : (-2147483648) ≤ x0) (x0_b : x0 ≤ 2147483647) (x1_a : 0 ≤ x1) (x1_b : x1 ≤ 940) (x2_a : 0 ≤ x2) (x2_b : x2 ≤ 940) (x3_a : 0 ≤ x3) (x3_b : x3 ≤ 940) (x4_a : 0 ≤ x4) (x4_b : x4 ≤ 940) (x5_a : 0 ≤ x5) (x5_b : x5 ≤ 940) (x6_a : 0 ≤ x6) (x6_b : x6 ≤ 4) (x7_a : (-2147483648) ≤ x7) (x7_b : x7 ≤ 2147483647) (x8_a : (-2147483648) ≤ x8) (x8_b : x8 ≤ 2147483647) (x9_a : 0 ≤ x9) (x9_b : x9 ≤ 940) (x10_a : (-2147483648) ≤ x10) (x10_b : x10 ≤ 2147483647) (x11_a : 0 ≤ x11) (x11_b : x11 ≤ 8) (x12_a : 0 ≤ x12) (x12_b : x12 ≤ 9) (x13_a : (-1) ≤ x13) (x13_b : x13 ≤ 9) (x14_a : (-1) ≤ x14) (x14_b : x14 ≤ 8) (x15_a : 0 ≤ x15) (x15_b : x15 ≤ 9) (x16_a : 0 ≤ x16) (x16_b : x16 ≤ 64) (x17_a : 0 ≤ x17) (x17_b : x17 ≤ 40) (x18_a : 0 ≤ x18) (x18_b : x18 ≤ 40) (x19_a : 0 ≤ x19) (x19_b : x19 ≤ 20) (x20_a : 0 ≤ x20) (x20_b : x20 ≤ 8) (x21_a : 0 ≤ x21) (x21_b : x21 ≤ 39) : Met l yX12_end (Cond.code yX12_end cX12_end 2 (some .boolean) :: GW) (Rm 0 0 0) (cPre [.ref a0, .int (iI x0)] D T [(a0, .inr (11, [.int r0, .ref a1, .int (iI x1), .int (iI x2), .int (iI x3), .int (iI x4), .int (iI x5), .int (iI x6), .int r1, .int (iI x7), .int (iI x8), .int (iI x9), .long y0, .int (iI x10), .ref a2, .ref a3, .ref a4, .ref a5, .ref a6, .ref a7, .ref a8, .ref a9, .ref a10, .ref a11, .int (iI x11), .ref a12, .ref a13, .ref a14, .ref a15, .int (iI x12), .int r2, .int r3, .ref a16, .int (iI x13), .int (iI x14), .ref a17, .ref a18, .int (iI x15), .ref a19, .int (iI x16), .int r4, .ref a20, .ref a21, .int (iI x17), .int r5, .ref a22, .int (iI x18), .int (iI x19), .int (iI x20), .int (iI x21)]))] sz) (qI D [(a0, .inr (11, [.int r0, .ref a1, .int (iI x1), .int (iI x2), .int (iI x3), .int (iI x4), .int (iI x5), .int (iI x6), .int r1, .int (iI x7), .int (iI x8), .int (iI x9), .long y0, .int (iI x10), .ref a2, .ref a3, .ref a4, .ref a5, .ref a6, .ref a7, .ref a8, .ref a9, .ref a10, .ref a11, .int (iI x11), .ref a12, .ref a13, .ref a14, .ref a15, .int (iI x12), .int r2, .int r3, .ref a16, .int (iI x13), .int (iI x14), .ref a17, .ref a18, .int (iI x15), .ref a19, .int (iI x16), .int r4, .ref a20, .ref a21, .int (iI x17), .int r5, .ref a22, .int (iI x18), .int (iI x19), .int (iI x20), .int (iI x21)]))] sz (fun (v : Int32) (u : Int × Int32 × Int) => iI u.1 = v ∧ 0 ≤ u.1 ∧ u.1 ≤ 1 ∧ 0 ≤ u.2.2 ∧ u.2.2 ≤ 940 ∧ (enT u.1 x0 x1 u.2.2)) (fun u => [(a0, .inr (11, [.int u.2.1, .ref a1, .int (iI u.2.2), .int (iI x2), .int (iI x3), .int (iI x4), .int (iI x5), .int (iI x6), .int r1, .int (iI x7), .int (iI x8), .int (iI x9), .long y0, .int (iI x10), .ref a2, .ref a3, .ref a4, .ref a5, .ref a6, .ref a7, .ref a8, .ref a9, .ref a10, .ref a11, .int (iI x11), .ref a12, .ref a13, .ref a14, .ref a15, .int (iI x12), .int r2, .int r3, .ref a16, .int (iI x13), .int (iI x14), .ref a17, .ref a18, .int (iI x15), .ref a19, .int (iI x16), .int r4, .ref a20, .ref a21, .int (iI x17), .int r5, .ref a22, .int (iI x18), .int (iI x19), .int (iI x20), .int (iI x21)]))])) 0 0 (va_A [(a0, .inr (11, [.int r0, .ref a1, .int (iI x1), .int (iI x2), .int (iI x3), .int (iI x4), .int (iI x5), .int (iI x6), .int r1, .int (iI x7), .int (iI x8), .int (iI x9), .long y0, .int (iI x10), .ref a2, .ref a3, .ref a4, .ref a5, .ref a6, .ref a7, .ref a8, .ref a9, .ref a10, .ref a11, .int (iI x11), .ref a12, .ref a13, .ref a14, .ref a15, .int (iI x12), .int r2, .int r3, .ref a16, .int (iI x13), .int (iI x14), .ref a17, .ref a18, .int (iI x15), .ref a19, .int (iI x16), .int r4, .ref a20, .ref a21, .int (iI x17), .int r5, .ref a22, .int (iI x18), .int (iI x19), .int (iI x20), .int (iI x21)]))] sz) := by
  refine e_Z (by decide) (Nat.le_of_ble_eq_true rfl) ?_
  intro p e s m args below meth c A Q ls M hin w ret hl
  have hx := M.1.1
  have hb := M.1.2.1
  have hl : lv_has ls 2 [(0, .ref a0), (1, .int (iI x0))] := hl
  refine lv_aload_n hx hb dX12_end_0 rfl (lv_at hl 0 rfl) ?_
  refine lv_iconst (v := iI 0) hx hb dX12_end_1 (by decide +kernel) ?_
  refine r_put (ws' := [(a0, .inr (11, [.int (iI 0), .ref a1, .int (iI x1), .int (iI x2), .int (iI x3), .int (iI x4), .int (iI x5), .int (iI x6), .int r1, .int (iI x7), .int (iI x8), .int (iI x9), .long y0, .int (iI x10), .ref a2, .ref a3, .ref a4, .ref a5, .ref a6, .ref a7, .ref a8, .ref a9, .ref a10, .ref a11, .int (iI x11), .ref a12, .ref a13, .ref a14, .ref a15, .int (iI x12), .int r2, .int r3, .ref a16, .int (iI x13), .int (iI x14), .ref a17, .ref a18, .int (iI x15), .ref a19, .int (iI x16), .int r4, .ref a20, .ref a21, .int (iI x17), .int r5, .ref a22, .int (iI x18), .int (iI x19), .int (iI x20), .int (iI x21)]))]) M w 0 0 clX12 rfl (by decide) G1463 rfl rfl rfl rfl (Nat.le_of_ble_eq_true rfl) rfl dX12_end_2 (fun H locs w => ?_)
  refine lv_iload_n hx hb dX12_end_5 rfl (lv_at hl 1 rfl) ?_
  refine lv_if_lt (tgt := 17) hx hb dX12_end_6 (by decide) (fun c_1 => ?_) (fun c_1 => ?_)
  · replace c_1 := (iz_lt (Int.le_trans (by decide) x0_a) (Int.le_trans x0_b (by decide))).mp c_1
    refine lv_iconst (v := iI 0) hx hb dX12_end_17 (by decide +kernel) ?_
    exact ret _ (0, (iI 0), x1) _ _ _ _ _ [0] dX12_end_18 (by decide +kernel) ⟨rfl, (show (0 : Int) ≤ 0 from by decide), (show (0 : Int) ≤ 1 from by decide), x1_a, x1_b, (show enT 0 x0 x1 x1 from (by unfold enT; omega))⟩ w (by decide) rfl
  · replace c_1 : 0 ≤ x0 := Int.not_lt.mp (fun h => c_1 ((iz_lt (Int.le_trans (by decide) x0_a) (Int.le_trans x0_b (by decide))).mpr h))
    refine lv_iload_n hx hb dX12_end_9 rfl (lv_at hl 1 rfl) ?_
    refine lv_aload_n hx hb dX12_end_10 rfl (lv_at hl 0 rfl) ?_
    refine r_get (v := .int (iI x1)) M w 0 2 clX12 rfl (by decide) G1465 rfl rfl dX12_end_11 ?_
    refine lv_icmp_le (tgt := 19) hx hb dX12_end_14 (by decide) (fun c_2 => ?_) (fun c_2 => ?_)
    · replace c_2 := (iI_le (Int.le_trans (by decide) x0_a) (Int.le_trans x0_b (by decide)) (Int.le_trans (by decide) x1_a) (Int.le_trans x1_b (by decide))).mp c_2
      refine lv_aload_n hx hb dX12_end_19 rfl (lv_at hl 0 rfl) ?_
      refine lv_iload_n hx hb dX12_end_20 rfl (lv_at hl 1 rfl) ?_
      refine r_put (ws' := [(a0, .inr (11, [.int (iI 0), .ref a1, .int (iI x0), .int (iI x2), .int (iI x3), .int (iI x4), .int (iI x5), .int (iI x6), .int r1, .int (iI x7), .int (iI x8), .int (iI x9), .long y0, .int (iI x10), .ref a2, .ref a3, .ref a4, .ref a5, .ref a6, .ref a7, .ref a8, .ref a9, .ref a10, .ref a11, .int (iI x11), .ref a12, .ref a13, .ref a14, .ref a15, .int (iI x12), .int r2, .int r3, .ref a16, .int (iI x13), .int (iI x14), .ref a17, .ref a18, .int (iI x15), .ref a19, .int (iI x16), .int r4, .ref a20, .ref a21, .int (iI x17), .int r5, .ref a22, .int (iI x18), .int (iI x19), .int (iI x20), .int (iI x21)]))]) M w 0 2 clX12 rfl (by decide) G1465 rfl rfl rfl rfl (Nat.le_of_ble_eq_true rfl) rfl dX12_end_21 (fun H locs w => ?_)
      refine lv_iconst (v := iI 1) hx hb dX12_end_24 (by decide +kernel) ?_
      exact ret _ (1, (iI 0), x0) _ _ _ _ _ [0] dX12_end_25 (by decide +kernel) ⟨rfl, (show (0 : Int) ≤ 1 from by decide), (show (1 : Int) ≤ 1 from by decide), (show 0 ≤ x0 from by omega), (show x0 ≤ 940 from by omega), (show enT 1 x0 x1 x0 from (by unfold enT; omega))⟩ w (by decide) rfl
    · replace c_2 : x1 < x0 := Int.not_le.mp (fun h => c_2 ((iI_le (Int.le_trans (by decide) x0_a) (Int.le_trans x0_b (by decide)) (Int.le_trans (by decide) x1_a) (Int.le_trans x1_b (by decide))).mpr h))
      refine lv_iconst (v := iI 0) hx hb dX12_end_17 (by decide +kernel) ?_
      exact ret _ (0, (iI 0), x1) _ _ _ _ _ [0] dX12_end_18 (by decide +kernel) ⟨rfl, (show (0 : Int) ≤ 0 from by decide), (show (0 : Int) ≤ 1 from by decide), x1_a, x1_b, (show enT 0 x0 x1 x1 from (by unfold enT; omega))⟩ w (by decide) rfl
set_option maxRecDepth 100000 in
set_option maxHeartbeats 4000000 in
theorem c5_X12_take (l : Launch) (D : va_G) (T : Nat → ClassId) (sz : Nat) (a0 : Nat) (r0 : Int32) (a1 : Nat) (x0 : Int) (x1 : Int) (x2 : Int) (x3 : Int) (x4 : Int) (x5 : Int) (r1 : Int32) (x6 : Int) (x7 : Int) (x8 : Int) (y0 : Int64) (x9 : Int) (a2 : Nat) (a3 : Nat) (a4 : Nat) (a5 : Nat) (a6 : Nat) (a7 : Nat) (a8 : Nat) (a9 : Nat) (a10 : Nat) (a11 : Nat) (x10 : Int) (a12 : Nat) (a13 : Nat) (a14 : Nat) (a15 : Nat) (x11 : Int) (r2 : Int32) (r3 : Int32) (a16 : Nat) (x12 : Int) (x13 : Int) (a17 : Nat) (a18 : Nat) (x14 : Int) (a19 : Nat) (x15 : Int) (r4 : Int32) (a20 : Nat) (a21 : Nat) (x16 : Int) (r5 : Int32) (a22 : Nat) (x17 : Int) (x18 : Int) (x19 : Int) (x20 : Int) (x0_a : 0 ≤ x0) (x0_b : x0 ≤ 940) (x1_a : 0 ≤ x1) (x1_b : x1 ≤ 940) (x2_a : 0 ≤ x2) (x2_b : x2 ≤ 940) (x3_a : 0 ≤ x3) (x3_b : x3 ≤ 940) (x4_a : 0 ≤ x4) (x4_b : x4 ≤ 940) (x5_a : 0 ≤ x5) (x5_b : x5 ≤ 4) (x6_a : (-2147483648) ≤ x6) (x6_b : x6 ≤ 2147483647) (x7_a : (-2147483648) ≤ x7) (x7_b : x7 ≤ 2147483647) (x8_a : 0 ≤ x8) (x8_b : x8 ≤ 940) (x9_a : (-2147483648) ≤ x9) (x9_b : x9 ≤ 2147483647) (x10_a : 0 ≤ x10) (x10_b : x10 ≤ 8) (x11_a : 0 ≤ x11) (x11_b : x11 ≤ 9) (x12_a : (-1) ≤ x12) (x12_b : x12 ≤ 9) (x13_a : (-1) ≤ x13) (x13_b : x13 ≤ 8) (x14_a : 0 ≤ x14) (x14_b : x14 ≤ 9) (x15_a : 0 ≤ x15) (x15_b : x15 ≤ 64) (x16_a : 0 ≤ x16) (x16_b : x16 ≤ 40) (x17_a : 0 ≤ x17) (x17_b : x17 ≤ 40) (x18_a : 0 ≤ x18) (x18_b : x18 ≤ 20) (x19_a : 0 ≤ x19) (x19_b : x19 ≤ 8) (x20_a : 0 ≤ x20) (x20_b : x20 ≤ 39) : Met l yX12_take (Cond.code yX12_take cX12_take 2 (some .int) :: GW) (Rm 0 0 0) (cPre [.ref a0] D T [(a0, .inr (11, [.int r0, .ref a1, .int (iI x0), .int (iI x1), .int (iI x2), .int (iI x3), .int (iI x4), .int (iI x5), .int r1, .int (iI x6), .int (iI x7), .int (iI x8), .long y0, .int (iI x9), .ref a2, .ref a3, .ref a4, .ref a5, .ref a6, .ref a7, .ref a8, .ref a9, .ref a10, .ref a11, .int (iI x10), .ref a12, .ref a13, .ref a14, .ref a15, .int (iI x11), .int r2, .int r3, .ref a16, .int (iI x12), .int (iI x13), .ref a17, .ref a18, .int (iI x14), .ref a19, .int (iI x15), .int r4, .ref a20, .ref a21, .int (iI x16), .int r5, .ref a22, .int (iI x17), .int (iI x18), .int (iI x19), .int (iI x20)]))] sz) (qI D [(a0, .inr (11, [.int r0, .ref a1, .int (iI x0), .int (iI x1), .int (iI x2), .int (iI x3), .int (iI x4), .int (iI x5), .int r1, .int (iI x6), .int (iI x7), .int (iI x8), .long y0, .int (iI x9), .ref a2, .ref a3, .ref a4, .ref a5, .ref a6, .ref a7, .ref a8, .ref a9, .ref a10, .ref a11, .int (iI x10), .ref a12, .ref a13, .ref a14, .ref a15, .int (iI x11), .int r2, .int r3, .ref a16, .int (iI x12), .int (iI x13), .ref a17, .ref a18, .int (iI x14), .ref a19, .int (iI x15), .int r4, .ref a20, .ref a21, .int (iI x16), .int r5, .ref a22, .int (iI x17), .int (iI x18), .int (iI x19), .int (iI x20)]))] sz (fun (v : Int32) (u : Int × Int) => iI u.1 = v ∧ 0 ≤ u.1 ∧ u.1 ≤ 940 ∧ 0 ≤ u.2 ∧ u.2 ≤ 940 ∧ 0 ≤ (0 - u.2) ∧ 0 ≤ (u.1 - x0) ∧ 0 ≤ (x0 - u.1)) (fun u => [(a0, .inr (11, [.int r0, .ref a1, .int (iI u.2), .int (iI x1), .int (iI x2), .int (iI x3), .int (iI x4), .int (iI x5), .int r1, .int (iI x6), .int (iI x7), .int (iI x8), .long y0, .int (iI x9), .ref a2, .ref a3, .ref a4, .ref a5, .ref a6, .ref a7, .ref a8, .ref a9, .ref a10, .ref a11, .int (iI x10), .ref a12, .ref a13, .ref a14, .ref a15, .int (iI x11), .int r2, .int r3, .ref a16, .int (iI x12), .int (iI x13), .ref a17, .ref a18, .int (iI x14), .ref a19, .int (iI x15), .int r4, .ref a20, .ref a21, .int (iI x16), .int r5, .ref a22, .int (iI x17), .int (iI x18), .int (iI x19), .int (iI x20)]))])) 0 0 (va_A [(a0, .inr (11, [.int r0, .ref a1, .int (iI x0), .int (iI x1), .int (iI x2), .int (iI x3), .int (iI x4), .int (iI x5), .int r1, .int (iI x6), .int (iI x7), .int (iI x8), .long y0, .int (iI x9), .ref a2, .ref a3, .ref a4, .ref a5, .ref a6, .ref a7, .ref a8, .ref a9, .ref a10, .ref a11, .int (iI x10), .ref a12, .ref a13, .ref a14, .ref a15, .int (iI x11), .int r2, .int r3, .ref a16, .int (iI x12), .int (iI x13), .ref a17, .ref a18, .int (iI x14), .ref a19, .int (iI x15), .int r4, .ref a20, .ref a21, .int (iI x16), .int r5, .ref a22, .int (iI x17), .int (iI x18), .int (iI x19), .int (iI x20)]))] sz) := by
  refine e_I (by decide) (Nat.le_of_ble_eq_true rfl) ?_
  intro p e s m args below meth c A Q ls M hin w ret hl
  have hx := M.1.1
  have hb := M.1.2.1
  have hl : lv_has ls 2 [(0, .ref a0)] := hl
  refine lv_aload_n hx hb dX12_take_0 rfl (lv_at hl 0 rfl) ?_
  refine r_get (v := .int (iI x0)) M w 0 2 clX12 rfl (by decide) G1465 rfl rfl dX12_take_1 ?_
  refine lv_istore_n (lv' := [(1, .int (iI x0)), (0, .ref a0)]) hx hb dX12_take_4 rfl hl (by decide) rfl (fun ls hl => ?_)
  refine lv_aload_n hx hb dX12_take_5 rfl (lv_at hl 1 rfl) ?_
  refine lv_iconst (v := iI 0) hx hb dX12_take_6 (by decide +kernel) ?_
  refine r_put (ws' := [(a0, .inr (11, [.int r0, .ref a1, .int (iI 0), .int (iI x1), .int (iI x2), .int (iI x3), .int (iI x4), .int (iI x5), .int r1, .int (iI x6), .int (iI x7), .int (iI x8), .long y0, .int (iI x9), .ref a2, .ref a3, .ref a4, .ref a5, .ref a6, .ref a7, .ref a8, .ref a9, .ref a10, .ref a11, .int (iI x10), .ref a12, .ref a13, .ref a14, .ref a15, .int (iI x11), .int r2, .int r3, .ref a16, .int (iI x12), .int (iI x13), .ref a17, .ref a18, .int (iI x14), .ref a19, .int (iI x15), .int r4, .ref a20, .ref a21, .int (iI x16), .int r5, .ref a22, .int (iI x17), .int (iI x18), .int (iI x19), .int (iI x20)]))]) M w 0 2 clX12 rfl (by decide) G1465 rfl rfl rfl rfl (Nat.le_of_ble_eq_true rfl) rfl dX12_take_7 (fun H locs w => ?_)
  refine lv_iload_n hx hb dX12_take_10 rfl (lv_at hl 0 rfl) ?_
  exact ret _ (x0, 0) _ _ _ _ _ [0] dX12_take_11 ⟨rfl, x0_a, x0_b, (show (0 : Int) ≤ 0 from by decide), (show (0 : Int) ≤ 940 from by decide), (show 0 ≤ (0 - 0) from by omega), (show 0 ≤ (x0 - x0) from by omega), (show 0 ≤ (x0 - x0) from by omega)⟩ w (by decide) rfl
set_option maxRecDepth 100000 in
set_option maxHeartbeats 4000000 in
theorem c6_X12_isIn (l : Launch) (D : va_G) (T : Nat → ClassId) (sz : Nat) (x0 : Int) (x1 : Int) (x2 : Int) (x0_a : (-2147483648) ≤ x0) (x0_b : x0 ≤ 2147483647) (x1_a : (-2147483648) ≤ x1) (x1_b : x1 ≤ 2147483647) (x2_a : (-2147483648) ≤ x2) (x2_b : x2 ≤ 2147483647) : Met l yX12_isIn (Cond.code yX12_isIn cX12_isIn 3 (some .boolean) :: GW) (Rm 0 0 0) (cPre [.int (iI x0), .int (iI x1), .int (iI x2)] D T [] sz) (qI D [] sz (fun (v : Int32) (u : Int) => iI u = v ∧ 0 ≤ u ∧ u ≤ 1 ∧ ((x0 < x1 ∧ u = 0) ∨ (x1 ≤ x0 ∧ x2 < x0 ∧ u = 0) ∨ (x1 ≤ x0 ∧ x0 ≤ x2 ∧ u = 1))) (fun u => [])) 0 0 (va_A [] sz) := by
  refine e_Z (by decide) (Nat.le_of_ble_eq_true rfl) ?_
  intro p e s m args below meth c A Q ls M hin w ret hl
  have hx := M.1.1
  have hb := M.1.2.1
  have hl : lv_has ls 3 [(0, .int (iI x0)), (1, .int (iI x1)), (2, .int (iI x2))] := hl
  refine lv_iload_n hx hb dX12_isIn_0 rfl (lv_at hl 0 rfl) ?_
  refine lv_iload_n hx hb dX12_isIn_1 rfl (lv_at hl 1 rfl) ?_
  refine lv_icmp_lt (tgt := 14) hx hb dX12_isIn_2 (by decide) (fun c_1 => ?_) (fun c_1 => ?_)
  · replace c_1 := (iI_lt (Int.le_trans (by decide) x0_a) (Int.le_trans x0_b (by decide)) (Int.le_trans (by decide) x1_a) (Int.le_trans x1_b (by decide))).mp c_1
    refine lv_iconst (v := iI 0) hx hb dX12_isIn_14 (by decide +kernel) ?_
    exact ret _ 0 _ _ _ _ _ [] dX12_isIn_15 (by decide +kernel) ⟨rfl, (show (0 : Int) ≤ 0 from by decide), (show (0 : Int) ≤ 1 from by decide), (Or.inl ⟨c_1, rfl⟩)⟩ w (by decide) rfl
  · replace c_1 : x1 ≤ x0 := Int.not_lt.mp (fun h => c_1 ((iI_lt (Int.le_trans (by decide) x0_a) (Int.le_trans x0_b (by decide)) (Int.le_trans (by decide) x1_a) (Int.le_trans x1_b (by decide))).mpr h))
    refine lv_iload_n hx hb dX12_isIn_5 rfl (lv_at hl 0 rfl) ?_
    refine lv_iload_n hx hb dX12_isIn_6 rfl (lv_at hl 2 rfl) ?_
    refine lv_icmp_gt (tgt := 14) hx hb dX12_isIn_7 (by decide) (fun c_2 => ?_) (fun c_2 => ?_)
    · replace c_2 := (iI_lt (Int.le_trans (by decide) x2_a) (Int.le_trans x2_b (by decide)) (Int.le_trans (by decide) x0_a) (Int.le_trans x0_b (by decide))).mp c_2
      refine lv_iconst (v := iI 0) hx hb dX12_isIn_14 (by decide +kernel) ?_
      exact ret _ 0 _ _ _ _ _ [] dX12_isIn_15 (by decide +kernel) ⟨rfl, (show (0 : Int) ≤ 0 from by decide), (show (0 : Int) ≤ 1 from by decide), (Or.inr (Or.inl ⟨c_1, c_2, rfl⟩))⟩ w (by decide) rfl
    · replace c_2 : x0 ≤ x2 := Int.not_lt.mp (fun h => c_2 ((iI_lt (Int.le_trans (by decide) x2_a) (Int.le_trans x2_b (by decide)) (Int.le_trans (by decide) x0_a) (Int.le_trans x0_b (by decide))).mpr h))
      refine lv_iconst (v := iI 1) hx hb dX12_isIn_10 (by decide +kernel) ?_
      refine lv_goto (tgt := 15) hx hb dX12_isIn_11 (by decide) ?_
      exact ret _ 1 _ _ _ _ _ [] dX12_isIn_15 (by decide +kernel) ⟨rfl, (show (0 : Int) ≤ 1 from by decide), (show (1 : Int) ≤ 1 from by decide), (Or.inr (Or.inr (⟨c_1, c_2, rfl⟩)))⟩ w (by decide) rfl
set_option maxRecDepth 100000 in
set_option maxHeartbeats 4000000 in
theorem c7_X12_has (l : Launch) (D : va_G) (T : Nat → ClassId) (sz : Nat) (x0 : Int) (x1 : Int) (x0_a : (-2147483648) ≤ x0) (x0_b : x0 ≤ 2147483647) (x1_a : (-2147483648) ≤ x1) (x1_b : x1 ≤ 2147483647) : Met l yX12_has (Cond.code yX12_has cX12_has 2 (some .boolean) :: GW) (Rm 0 0 0) (cPre [.int (iI x0), .int (iI x1)] D T [] sz) (qI D [] sz (fun (v : Int32) (u : Int) => iI u = v ∧ 0 ≤ u ∧ u ≤ 1 ∧ (hsQ u x0 x1)) (fun u => [])) 0 0 (va_A [] sz) := by
  refine e_Z (by decide) (Nat.le_of_ble_eq_true rfl) ?_
  intro p e s m args below meth c A Q ls M hin w ret hl
  have hx := M.1.1
  have hb := M.1.2.1
  have hl : lv_has ls 2 [(0, .int (iI x0)), (1, .int (iI x1))] := hl
  refine lv_iload_n hx hb dX12_has_0 rfl (lv_at hl 0 rfl) ?_
  refine lv_iload_n hx hb dX12_has_1 rfl (lv_at hl 1 rfl) ?_
  refine r_ishr (v := ((iI x0) >>> ((iI x1) &&& 31))) M rfl dX12_has_2 ?_
  refine lv_iconst (v := iI 1) hx hb dX12_has_3 (by decide +kernel) ?_
  refine r_iand (v := (((iI x0) >>> ((iI x1) &&& 31)) &&& (iI 1))) M rfl dX12_has_4 ?_
  refine lv_iconst (v := iI 1) hx hb dX12_has_5 (by decide +kernel) ?_
  refine lv_icmp_ne (tgt := 13) hx hb dX12_has_6 (by decide) (fun c_1 => ?_) (fun c_1 => ?_)
  · refine lv_iconst (v := iI 0) hx hb dX12_has_13 (by decide +kernel) ?_
    exact ret _ 0 _ _ _ _ _ [] dX12_has_14 (by decide +kernel) ⟨rfl, (show (0 : Int) ≤ 0 from by decide), (show (0 : Int) ≤ 1 from by decide), (show hsQ 0 x0 x1 from (hs_0 c_1))⟩ w (by decide) rfl
  · refine lv_iconst (v := iI 1) hx hb dX12_has_9 (by decide +kernel) ?_
    refine lv_goto (tgt := 14) hx hb dX12_has_10 (by decide) ?_
    exact ret _ 1 _ _ _ _ _ [] dX12_has_14 (by decide +kernel) ⟨rfl, (show (0 : Int) ≤ 1 from by decide), (show (1 : Int) ≤ 1 from by decide), (show hsQ 1 x0 x1 from (hs_1 c_1))⟩ w (by decide) rfl
set_option maxRecDepth 100000 in
set_option maxHeartbeats 4000000 in
theorem c8_X12_least (l : Launch) (D : va_G) (T : Nat → ClassId) (sz : Nat) (x0 : Int) (x1 : Int) (x0_a : (-2147483648) ≤ x0) (x0_b : x0 ≤ 2147483647) (x1_a : (-2147483648) ≤ x1) (x1_b : x1 ≤ 2147483647) : Met l yX12_least (Cond.code yX12_least cX12_least 2 (some .int) :: GW) (Rm 0 0 0) (cPre [.int (iI x0), .int (iI x1)] D T [] sz) (qI D [] sz (fun (v : Int32) (u : Int) => iI u = v ∧ (-2147483648) ≤ u ∧ u ≤ 2147483647 ∧ ((x1 ≤ x0 ∧ u = x1) ∨ (x0 < x1 ∧ u = x0))) (fun u => [])) 0 0 (va_A [] sz) := by
  refine e_I (by decide) (Nat.le_of_ble_eq_true rfl) ?_
  intro p e s m args below meth c A Q ls M hin w ret hl
  have hx := M.1.1
  have hb := M.1.2.1
  have hl : lv_has ls 2 [(0, .int (iI x0)), (1, .int (iI x1))] := hl
  refine lv_iload_n hx hb dX12_least_0 rfl (lv_at hl 0 rfl) ?_
  refine lv_iload_n hx hb dX12_least_1 rfl (lv_at hl 1 rfl) ?_
  refine lv_icmp_ge (tgt := 9) hx hb dX12_least_2 (by decide) (fun c_1 => ?_) (fun c_1 => ?_)
  · replace c_1 := (iI_le (Int.le_trans (by decide) x1_a) (Int.le_trans x1_b (by decide)) (Int.le_trans (by decide) x0_a) (Int.le_trans x0_b (by decide))).mp c_1
    refine lv_iload_n hx hb dX12_least_9 rfl (lv_at hl 1 rfl) ?_
    exact ret _ x1 _ _ _ _ _ [] dX12_least_10 ⟨rfl, x1_a, x1_b, (Or.inl ⟨c_1, rfl⟩)⟩ w (by decide) rfl
  · replace c_1 : x0 < x1 := Int.not_le.mp (fun h => c_1 ((iI_le (Int.le_trans (by decide) x1_a) (Int.le_trans x1_b (by decide)) (Int.le_trans (by decide) x0_a) (Int.le_trans x0_b (by decide))).mpr h))
    refine lv_iload_n hx hb dX12_least_5 rfl (lv_at hl 0 rfl) ?_
    refine lv_goto (tgt := 10) hx hb dX12_least_6 (by decide) ?_
    exact ret _ x0 _ _ _ _ _ [] dX12_least_10 ⟨rfl, x0_a, x0_b, (Or.inr (⟨c_1, rfl⟩))⟩ w (by decide) rfl
set_option maxRecDepth 100000 in
set_option maxHeartbeats 4000000 in
theorem c9_X12_tapeAt (l : Launch) (D : va_G) (T : Nat → ClassId) (sz : Nat) (a0 : Nat) (x0 : Int) (r0 : Int32) (a1 : Nat) (x1 : Int) (x2 : Int) (x3 : Int) (x4 : Int) (x5 : Int) (x6 : Int) (r1 : Int32) (x7 : Int) (x8 : Int) (x9 : Int) (y0 : Int64) (x10 : Int) (a2 : Nat) (a3 : Nat) (a4 : Nat) (a5 : Nat) (a6 : Nat) (a7 : Nat) (a8 : Nat) (a9 : Nat) (a10 : Nat) (a11 : Nat) (x11 : Int) (a12 : Nat) (a13 : Nat) (a14 : Nat) (a15 : Nat) (x12 : Int) (r2 : Int32) (r3 : Int32) (a16 : Nat) (x13 : Int) (x14 : Int) (a17 : Nat) (a18 : Nat) (x15 : Int) (a19 : Nat) (x16 : Int) (r4 : Int32) (a20 : Nat) (a21 : Nat) (x17 : Int) (r5 : Int32) (a22 : Nat) (x18 : Int) (x19 : Int) (x20 : Int) (x21 : Int) (f0 : Int → Int) (x0_a : 0 ≤ x0) (x0_b : x0 ≤ 940) (x1_a : 0 ≤ x1) (x1_b : x1 ≤ 940) (x2_a : 0 ≤ x2) (x2_b : x2 ≤ 940) (x3_a : 0 ≤ x3) (x3_b : x3 ≤ 940) (x4_a : 0 ≤ x4) (x4_b : x4 ≤ 940) (x5_a : 0 ≤ x5) (x5_b : x5 ≤ 940) (x6_a : 0 ≤ x6) (x6_b : x6 ≤ 4) (x7_a : (-2147483648) ≤ x7) (x7_b : x7 ≤ 2147483647) (x8_a : (-2147483648) ≤ x8) (x8_b : x8 ≤ 2147483647) (x9_a : 0 ≤ x9) (x9_b : x9 ≤ 940) (x10_a : (-2147483648) ≤ x10) (x10_b : x10 ≤ 2147483647) (x11_a : 0 ≤ x11) (x11_b : x11 ≤ 8) (x12_a : 0 ≤ x12) (x12_b : x12 ≤ 9) (x13_a : (-1) ≤ x13) (x13_b : x13 ≤ 9) (x14_a : (-1) ≤ x14) (x14_b : x14 ≤ 8) (x15_a : 0 ≤ x15) (x15_b : x15 ≤ 9) (x16_a : 0 ≤ x16) (x16_b : x16 ≤ 64) (x17_a : 0 ≤ x17) (x17_b : x17 ≤ 40) (x18_a : 0 ≤ x18) (x18_b : x18 ≤ 40) (x19_a : 0 ≤ x19) (x19_b : x19 ≤ 20) (x20_a : 0 ≤ x20) (x20_b : x20 ≤ 8) (x21_a : 0 ≤ x21) (x21_b : x21 ≤ 39) (f0_h : rng 0 255 f0) : Met l yX12_tapeAt (Cond.code yX12_tapeAt cX12_tapeAt 2 (some .int) :: GW) (Rm 0 0 0) (cPre [.ref a0, .int (iI x0)] D T [(a0, .inr (11, [.int r0, .ref a1, .int (iI x1), .int (iI x2), .int (iI x3), .int (iI x4), .int (iI x5), .int (iI x6), .int r1, .int (iI x7), .int (iI x8), .int (iI x9), .long y0, .int (iI x10), .ref a2, .ref a3, .ref a4, .ref a5, .ref a6, .ref a7, .ref a8, .ref a9, .ref a10, .ref a11, .int (iI x11), .ref a12, .ref a13, .ref a14, .ref a15, .int (iI x12), .int r2, .int r3, .ref a16, .int (iI x13), .int (iI x14), .ref a17, .ref a18, .int (iI x15), .ref a19, .int (iI x16), .int r4, .ref a20, .ref a21, .int (iI x17), .int r5, .ref a22, .int (iI x18), .int (iI x19), .int (iI x20), .int (iI x21)])), (a1, .inl (T 0, 940, .inl (cI f0)))] sz) (qI D [(a0, .inr (11, [.int r0, .ref a1, .int (iI x1), .int (iI x2), .int (iI x3), .int (iI x4), .int (iI x5), .int (iI x6), .int r1, .int (iI x7), .int (iI x8), .int (iI x9), .long y0, .int (iI x10), .ref a2, .ref a3, .ref a4, .ref a5, .ref a6, .ref a7, .ref a8, .ref a9, .ref a10, .ref a11, .int (iI x11), .ref a12, .ref a13, .ref a14, .ref a15, .int (iI x12), .int r2, .int r3, .ref a16, .int (iI x13), .int (iI x14), .ref a17, .ref a18, .int (iI x15), .ref a19, .int (iI x16), .int r4, .ref a20, .ref a21, .int (iI x17), .int r5, .ref a22, .int (iI x18), .int (iI x19), .int (iI x20), .int (iI x21)])), (a1, .inl (T 0, 940, .inl (cI f0)))] sz (fun (v : Int32) (u : Int) => iI u = v ∧ (-2147483648) ≤ u ∧ u ≤ 2147483647 ∧ (taQ x0 x2 u (f0 x0)) ∧ ((x2 ≤ x0 ∧ u = 0) ∨ (x0 < x2))) (fun u => [(a0, .inr (11, [.int r0, .ref a1, .int (iI x1), .int (iI x2), .int (iI x3), .int (iI x4), .int (iI x5), .int (iI x6), .int r1, .int (iI x7), .int (iI x8), .int (iI x9), .long y0, .int (iI x10), .ref a2, .ref a3, .ref a4, .ref a5, .ref a6, .ref a7, .ref a8, .ref a9, .ref a10, .ref a11, .int (iI x11), .ref a12, .ref a13, .ref a14, .ref a15, .int (iI x12), .int r2, .int r3, .ref a16, .int (iI x13), .int (iI x14), .ref a17, .ref a18, .int (iI x15), .ref a19, .int (iI x16), .int r4, .ref a20, .ref a21, .int (iI x17), .int r5, .ref a22, .int (iI x18), .int (iI x19), .int (iI x20), .int (iI x21)])), (a1, .inl (T 0, 940, .inl (cI f0)))])) 0 0 (va_A [(a0, .inr (11, [.int r0, .ref a1, .int (iI x1), .int (iI x2), .int (iI x3), .int (iI x4), .int (iI x5), .int (iI x6), .int r1, .int (iI x7), .int (iI x8), .int (iI x9), .long y0, .int (iI x10), .ref a2, .ref a3, .ref a4, .ref a5, .ref a6, .ref a7, .ref a8, .ref a9, .ref a10, .ref a11, .int (iI x11), .ref a12, .ref a13, .ref a14, .ref a15, .int (iI x12), .int r2, .int r3, .ref a16, .int (iI x13), .int (iI x14), .ref a17, .ref a18, .int (iI x15), .ref a19, .int (iI x16), .int r4, .ref a20, .ref a21, .int (iI x17), .int r5, .ref a22, .int (iI x18), .int (iI x19), .int (iI x20), .int (iI x21)])), (a1, .inl (T 0, 940, .inl (cI f0)))] sz) := by
  refine e_I (by decide) (Nat.le_of_ble_eq_true rfl) ?_
  intro p e s m args below meth c A Q ls M hin w ret hl
  have hx := M.1.1
  have hb := M.1.2.1
  have hl : lv_has ls 2 [(0, .ref a0), (1, .int (iI x0))] := hl
  refine lv_iload_n hx hb dX12_tapeAt_0 rfl (lv_at hl 1 rfl) ?_
  refine lv_aload_n hx hb dX12_tapeAt_1 rfl (lv_at hl 0 rfl) ?_
  refine r_get (v := .int (iI x2)) M w 0 3 clX12 rfl (by decide) G1466 rfl rfl dX12_tapeAt_2 ?_
  refine lv_icmp_ge (tgt := 17) hx hb dX12_tapeAt_5 (by decide) (fun c_1 => ?_) (fun c_1 => ?_)
  · replace c_1 := (iI_le (Int.le_trans (by decide) x2_a) (Int.le_trans x2_b (by decide)) (Int.le_trans (by decide) x0_a) (Int.le_trans x0_b (by decide))).mp c_1
    refine lv_iconst (v := iI 0) hx hb dX12_tapeAt_17 (by decide +kernel) ?_
    exact ret _ 0 _ _ _ _ _ [0, 1] dX12_tapeAt_18 ⟨rfl, (show (-2147483648) ≤ 0 from by decide), (show (0 : Int) ≤ 2147483647 from by decide), (show taQ x0 x2 0 (f0 x0) from (by unfold taQ; omega)), (Or.inl ⟨c_1, rfl⟩)⟩ w (by decide) rfl
  · replace c_1 : x0 < x2 := Int.not_le.mp (fun h => c_1 ((iI_le (Int.le_trans (by decide) x2_a) (Int.le_trans x2_b (by decide)) (Int.le_trans (by decide) x0_a) (Int.le_trans x0_b (by decide))).mpr h))
    refine lv_aload_n hx hb dX12_tapeAt_8 rfl (lv_at hl 0 rfl) ?_
    refine r_get (v := .ref a1) M w 0 1 clX12 rfl (by decide) G1464 rfl rfl dX12_tapeAt_9 ?_
    refine lv_iload_n hx hb dX12_tapeAt_12 rfl (lv_at hl 1 rfl) ?_
    refine r_iald (v := iI (f0 x0)) M w 1 rfl (iI_in (by omega) (by omega) (by decide)) (cI_at (by omega) (by omega)) dX12_tapeAt_13 ?_
    have hh2 : 0 ≤ (f0 x0) ∧ (f0 x0) ≤ 255 := f0_h x0
    refine lv_goto (tgt := 18) hx hb dX12_tapeAt_14 (by decide) ?_
    exact ret _ (f0 x0) _ _ _ _ _ [0, 1] dX12_tapeAt_18 ⟨rfl, (show (-2147483648) ≤ (f0 x0) from by omega), (show (f0 x0) ≤ 2147483647 from by omega), (show taQ x0 x2 (f0 x0) (f0 x0) from (by unfold taQ; omega)), (Or.inr (c_1))⟩ w (by decide) rfl
set_option maxRecDepth 100000 in
set_option maxHeartbeats 4000000 in
theorem c10_X12_isDigit (l : Launch) (D : va_G) (T : Nat → ClassId) (sz : Nat) (x0 : Int) (x0_a : (-2147483648) ≤ x0) (x0_b : x0 ≤ 2147483647) : Met l yX12_isDigit (Cond.code yX12_isDigit cX12_isDigit 1 (some .boolean) :: GW) (Rm 0 0 0) (cPre [.int (iI x0)] D T [] sz) (qI D [] sz (fun (v : Int32) (u : Int) => iI u = v ∧ 0 ≤ u ∧ u ≤ 1 ∧ 0 ≤ ((x0 + 4294967296) - (u * 4294967344)) ∧ (lq u x0 48 57)) (fun u => [])) 0 0 (va_A [] sz) := by
  refine e_Z (by decide) (Nat.le_of_ble_eq_true rfl) ?_
  intro p e s m args below meth c A Q ls M hin w ret hl
  have hx := M.1.1
  have hb := M.1.2.1
  have hl : lv_has ls 1 [(0, .int (iI x0))] := hl
  refine lv_iload_n hx hb dX12_isDigit_0 rfl (lv_at hl 0 rfl) ?_
  refine lv_bipush (v := iI 48) hx hb dX12_isDigit_1 (by decide +kernel) ?_
  refine lv_icmp_lt (tgt := 16) hx hb dX12_isDigit_3 (by decide) (fun c_1 => ?_) (fun c_1 => ?_)
  · replace c_1 := (iI_lt (Int.le_trans (by decide) x0_a) (Int.le_trans x0_b (by decide)) (by decide) (by decide)).mp c_1
    refine lv_iconst (v := iI 0) hx hb dX12_isDigit_16 (by decide +kernel) ?_
    exact ret _ 0 _ _ _ _ _ [] dX12_isDigit_17 (by decide +kernel) ⟨rfl, (show (0 : Int) ≤ 0 from by decide), (show (0 : Int) ≤ 1 from by decide), (show 0 ≤ ((x0 + 4294967296) - (0 * 4294967344)) from by omega), (show lq 0 x0 48 57 from (by unfold lq; omega))⟩ w (by decide) rfl
  · replace c_1 : 48 ≤ x0 := Int.not_lt.mp (fun h => c_1 ((iI_lt (Int.le_trans (by decide) x0_a) (Int.le_trans x0_b (by decide)) (by decide) (by decide)).mpr h))
    refine lv_iload_n hx hb dX12_isDigit_6 rfl (lv_at hl 0 rfl) ?_
    refine lv_bipush (v := iI 57) hx hb dX12_isDigit_7 (by decide +kernel) ?_
    refine lv_icmp_gt (tgt := 16) hx hb dX12_isDigit_9 (by decide) (fun c_2 => ?_) (fun c_2 => ?_)
    · replace c_2 := (iI_lt (by decide) (by decide) (Int.le_trans (by decide) x0_a) (Int.le_trans x0_b (by decide))).mp c_2
      refine lv_iconst (v := iI 0) hx hb dX12_isDigit_16 (by decide +kernel) ?_
      exact ret _ 0 _ _ _ _ _ [] dX12_isDigit_17 (by decide +kernel) ⟨rfl, (show (0 : Int) ≤ 0 from by decide), (show (0 : Int) ≤ 1 from by decide), (show 0 ≤ ((x0 + 4294967296) - (0 * 4294967344)) from by omega), (show lq 0 x0 48 57 from (by unfold lq; omega))⟩ w (by decide) rfl
    · replace c_2 : x0 ≤ 57 := Int.not_lt.mp (fun h => c_2 ((iI_lt (by decide) (by decide) (Int.le_trans (by decide) x0_a) (Int.le_trans x0_b (by decide))).mpr h))
      refine lv_iconst (v := iI 1) hx hb dX12_isDigit_12 (by decide +kernel) ?_
      refine lv_goto (tgt := 17) hx hb dX12_isDigit_13 (by decide) ?_
      exact ret _ 1 _ _ _ _ _ [] dX12_isDigit_17 (by decide +kernel) ⟨rfl, (show (0 : Int) ≤ 1 from by decide), (show (1 : Int) ≤ 1 from by decide), (show 0 ≤ ((x0 + 4294967296) - (1 * 4294967344)) from by omega), (show lq 1 x0 48 57 from (by unfold lq; omega))⟩ w (by decide) rfl
set_option maxRecDepth 100000 in
set_option maxHeartbeats 4000000 in
theorem c11_X12_isLetter (l : Launch) (D : va_G) (T : Nat → ClassId) (sz : Nat) (x0 : Int) (x0_a : (-2147483648) ≤ x0) (x0_b : x0 ≤ 2147483647) : Met l yX12_isLetter (Cond.code yX12_isLetter cX12_isLetter 1 (some .boolean) :: GW) (Rm 0 0 0) (cPre [.int (iI x0)] D T [] sz) (qI D [] sz (fun (v : Int32) (u : Int) => iI u = v ∧ 0 ≤ u ∧ u ≤ 1 ∧ 0 ≤ ((x0 + 4294967296) - (u * 4294967393)) ∧ (lq u x0 97 122)) (fun u => [])) 0 0 (va_A [] sz) := by
  refine e_Z (by decide) (Nat.le_of_ble_eq_true rfl) ?_
  intro p e s m args below meth c A Q ls M hin w ret hl
  have hx := M.1.1
  have hb := M.1.2.1
  have hl : lv_has ls 1 [(0, .int (iI x0))] := hl
  refine lv_iload_n hx hb dX12_isLetter_0 rfl (lv_at hl 0 rfl) ?_
  refine lv_bipush (v := iI 97) hx hb dX12_isLetter_1 (by decide +kernel) ?_
  refine lv_icmp_lt (tgt := 16) hx hb dX12_isLetter_3 (by decide) (fun c_1 => ?_) (fun c_1 => ?_)
  · replace c_1 := (iI_lt (Int.le_trans (by decide) x0_a) (Int.le_trans x0_b (by decide)) (by decide) (by decide)).mp c_1
    refine lv_iconst (v := iI 0) hx hb dX12_isLetter_16 (by decide +kernel) ?_
    exact ret _ 0 _ _ _ _ _ [] dX12_isLetter_17 (by decide +kernel) ⟨rfl, (show (0 : Int) ≤ 0 from by decide), (show (0 : Int) ≤ 1 from by decide), (show 0 ≤ ((x0 + 4294967296) - (0 * 4294967393)) from by omega), (show lq 0 x0 97 122 from (by unfold lq; omega))⟩ w (by decide) rfl
  · replace c_1 : 97 ≤ x0 := Int.not_lt.mp (fun h => c_1 ((iI_lt (Int.le_trans (by decide) x0_a) (Int.le_trans x0_b (by decide)) (by decide) (by decide)).mpr h))
    refine lv_iload_n hx hb dX12_isLetter_6 rfl (lv_at hl 0 rfl) ?_
    refine lv_bipush (v := iI 122) hx hb dX12_isLetter_7 (by decide +kernel) ?_
    refine lv_icmp_gt (tgt := 16) hx hb dX12_isLetter_9 (by decide) (fun c_2 => ?_) (fun c_2 => ?_)
    · replace c_2 := (iI_lt (by decide) (by decide) (Int.le_trans (by decide) x0_a) (Int.le_trans x0_b (by decide))).mp c_2
      refine lv_iconst (v := iI 0) hx hb dX12_isLetter_16 (by decide +kernel) ?_
      exact ret _ 0 _ _ _ _ _ [] dX12_isLetter_17 (by decide +kernel) ⟨rfl, (show (0 : Int) ≤ 0 from by decide), (show (0 : Int) ≤ 1 from by decide), (show 0 ≤ ((x0 + 4294967296) - (0 * 4294967393)) from by omega), (show lq 0 x0 97 122 from (by unfold lq; omega))⟩ w (by decide) rfl
    · replace c_2 : x0 ≤ 122 := Int.not_lt.mp (fun h => c_2 ((iI_lt (by decide) (by decide) (Int.le_trans (by decide) x0_a) (Int.le_trans x0_b (by decide))).mpr h))
      refine lv_iconst (v := iI 1) hx hb dX12_isLetter_12 (by decide +kernel) ?_
      refine lv_goto (tgt := 17) hx hb dX12_isLetter_13 (by decide) ?_
      exact ret _ 1 _ _ _ _ _ [] dX12_isLetter_17 (by decide +kernel) ⟨rfl, (show (0 : Int) ≤ 1 from by decide), (show (1 : Int) ≤ 1 from by decide), (show 0 ≤ ((x0 + 4294967296) - (1 * 4294967393)) from by omega), (show lq 1 x0 97 122 from (by unfold lq; omega))⟩ w (by decide) rfl
set_option maxRecDepth 100000 in
set_option maxHeartbeats 4000000 in
theorem c12_X12_go (l : Launch) (D : va_G) (T : Nat → ClassId) (sz : Nat) (a0 : Nat) (r0 : Int32) (a1 : Nat) (x0 : Int) (x1 : Int) (x2 : Int) (x3 : Int) (x4 : Int) (x5 : Int) (r1 : Int32) (x6 : Int) (x7 : Int) (x8 : Int) (y0 : Int64) (x9 : Int) (a2 : Nat) (a3 : Nat) (a4 : Nat) (a5 : Nat) (a6 : Nat) (a7 : Nat) (a8 : Nat) (a9 : Nat) (a10 : Nat) (a11 : Nat) (x10 : Int) (a12 : Nat) (a13 : Nat) (a14 : Nat) (a15 : Nat) (x11 : Int) (r2 : Int32) (r3 : Int32) (a16 : Nat) (x12 : Int) (x13 : Int) (a17 : Nat) (a18 : Nat) (x14 : Int) (a19 : Nat) (x15 : Int) (r4 : Int32) (a20 : Nat) (a21 : Nat) (x16 : Int) (r5 : Int32) (a22 : Nat) (x17 : Int) (x18 : Int) (x19 : Int) (x20 : Int) (f0 : Int → Int) (x0_a : 0 ≤ x0) (x0_b : x0 ≤ 940) (x1_a : 0 ≤ x1) (x1_b : x1 ≤ 940) (x2_a : 0 ≤ x2) (x2_b : x2 ≤ 940) (x3_a : 0 ≤ x3) (x3_b : x3 ≤ 940) (x4_a : 0 ≤ x4) (x4_b : x4 ≤ 940) (x5_a : 0 ≤ x5) (x5_b : x5 ≤ 4) (x6_a : (-2147483648) ≤ x6) (x6_b : x6 ≤ 2147483647) (x7_a : (-2147483648) ≤ x7) (x7_b : x7 ≤ 2147483647) (x8_a : 0 ≤ x8) (x8_b : x8 ≤ 940) (x9_a : (-2147483648) ≤ x9) (x9_b : x9 ≤ 2147483647) (x10_a : 0 ≤ x10) (x10_b : x10 ≤ 8) (x11_a : 0 ≤ x11) (x11_b : x11 ≤ 9) (x12_a : (-1) ≤ x12) (x12_b : x12 ≤ 9) (x13_a : (-1) ≤ x13) (x13_b : x13 ≤ 8) (x14_a : 0 ≤ x14) (x14_b : x14 ≤ 9) (x15_a : 0 ≤ x15) (x15_b : x15 ≤ 64) (x16_a : 0 ≤ x16) (x16_b : x16 ≤ 40) (x17_a : 0 ≤ x17) (x17_b : x17 ≤ 40) (x18_a : 0 ≤ x18) (x18_b : x18 ≤ 20) (x19_a : 0 ≤ x19) (x19_b : x19 ≤ 8) (x20_a : 0 ≤ x20) (x20_b : x20 ≤ 39) (f0_h : rng 0 255 f0) : Met l yX12_go (Cond.code yX12_go cX12_go 5 none :: GW) (Rm 1 0 0) (cPre [.ref a0] D T [(a0, .inr (11, [.int r0, .ref a1, .int (iI x0), .int (iI x1), .int (iI x2), .int (iI x3), .int (iI x4), .int (iI x5), .int r1, .int (iI x6), .int (iI x7), .int (iI x8), .long y0, .int (iI x9), .ref a2, .ref a3, .ref a4, .ref a5, .ref a6, .ref a7, .ref a8, .ref a9, .ref a10, .ref a11, .int (iI x10), .ref a12, .ref a13, .ref a14, .ref a15, .int (iI x11), .int r2, .int r3, .ref a16, .int (iI x12), .int (iI x13), .ref a17, .ref a18, .int (iI x14), .ref a19, .int (iI x15), .int r4, .ref a20, .ref a21, .int (iI x16), .int r5, .ref a22, .int (iI x17), .int (iI x18), .int (iI x19), .int (iI x20)])), (a1, .inl (T 0, 940, .inl (cI f0)))] sz) (qV D [(a0, .inr (11, [.int r0, .ref a1, .int (iI x0), .int (iI x1), .int (iI x2), .int (iI x3), .int (iI x4), .int (iI x5), .int r1, .int (iI x6), .int (iI x7), .int (iI x8), .long y0, .int (iI x9), .ref a2, .ref a3, .ref a4, .ref a5, .ref a6, .ref a7, .ref a8, .ref a9, .ref a10, .ref a11, .int (iI x10), .ref a12, .ref a13, .ref a14, .ref a15, .int (iI x11), .int r2, .int r3, .ref a16, .int (iI x12), .int (iI x13), .ref a17, .ref a18, .int (iI x14), .ref a19, .int (iI x15), .int r4, .ref a20, .ref a21, .int (iI x16), .int r5, .ref a22, .int (iI x17), .int (iI x18), .int (iI x19), .int (iI x20)])), (a1, .inl (T 0, 940, .inl (cI f0)))] sz (fun (u : Int × Int × Int × Int32 × Int × Int64) => 0 ≤ u.1 ∧ u.1 ≤ 940 ∧ 0 ≤ u.2.1 ∧ u.2.1 ≤ 940 ∧ 0 ≤ u.2.2.1 ∧ u.2.2.1 ≤ 4 ∧ (-2147483648) ≤ u.2.2.2.2.1 ∧ u.2.2.2.2.1 ≤ 2147483647 ∧ 0 ≤ (u.1 - x3) ∧ 0 ≤ (((u.1 - x3) - u.2.2.1) + 3) ∧ (gT (tkAt f0 x1 x2 x3) u.2.2.1 u.2.1 u.1 u.2.2.2.2.2 u.2.2.2.1 u.2.2.2.2.1)) (fun u => [(a0, .inr (11, [.int r0, .ref a1, .int (iI x0), .int (iI x1), .int (iI x2), .int (iI u.1), .int (iI u.2.1), .int (iI u.2.2.1), .int u.2.2.2.1, .int (iI u.2.2.2.2.1), .int (iI x7), .int (iI x8), .long u.2.2.2.2.2, .int (iI x9), .ref a2, .ref a3, .ref a4, .ref a5, .ref a6, .ref a7, .ref a8, .ref a9, .ref a10, .ref a11, .int (iI x10), .ref a12, .ref a13, .ref a14, .ref a15, .int (iI x11), .int r2, .int r3, .ref a16, .int (iI x12), .int (iI x13), .ref a17, .ref a18, .int (iI x14), .ref a19, .int (iI x15), .int r4, .ref a20, .ref a21, .int (iI x16), .int r5, .ref a22, .int (iI x17), .int (iI x18), .int (iI x19), .int (iI x20)])), (a1, .inl (T 0, 940, .inl (cI f0)))])) 0 0 (va_A [(a0, .inr (11, [.int r0, .ref a1, .int (iI x0), .int (iI x1), .int (iI x2), .int (iI x3), .int (iI x4), .int (iI x5), .int r1, .int (iI x6), .int (iI x7), .int (iI x8), .long y0, .int (iI x9), .ref a2, .ref a3, .ref a4, .ref a5, .ref a6, .ref a7, .ref a8, .ref a9, .ref a10, .ref a11, .int (iI x10), .ref a12, .ref a13, .ref a14, .ref a15, .int (iI x11), .int r2, .int r3, .ref a16, .int (iI x12), .int (iI x13), .ref a17, .ref a18, .int (iI x14), .ref a19, .int (iI x15), .int r4, .ref a20, .ref a21, .int (iI x16), .int r5, .ref a22, .int (iI x17), .int (iI x18), .int (iI x19), .int (iI x20)])), (a1, .inl (T 0, 940, .inl (cI f0)))] sz) := by
  refine e_V (by decide) (Nat.le_of_ble_eq_true rfl) ?_
  intro p e s m args below meth c A Q ls M hin w ret hl
  have hx := M.1.1
  have hb := M.1.2.1
  have hl : lv_has ls 5 [(0, .ref a0)] := hl
  have loop1 : ∀ (k1 : Nat) (z1 : Int) (H : Heap) (locs : List Loc) (ls : Array Slot), 0 ≤ z1 → z1 ≤ 940 → 0 ≤ (z1 - x3) → sk f0 x1 x3 = sk f0 x1 z1 → ((x1 - z1) : Int).toNat < k1 → WD D A s.heap [(a0, .inr (11, [.int r0, .ref a1, .int (iI x0), .int (iI x1), .int (iI x2), .int (iI z1), .int (iI x4), .int (iI x5), .int r1, .int (iI x6), .int (iI x7), .int (iI x8), .long y0, .int (iI x9), .ref a2, .ref a3, .ref a4, .ref a5, .ref a6, .ref a7, .ref a8, .ref a9, .ref a10, .ref a11, .int (iI x10), .ref a12, .ref a13, .ref a14, .ref a15, .int (iI x11), .int r2, .int r3, .ref a16, .int (iI x12), .int (iI x13), .ref a17, .ref a18, .int (iI x14), .ref a19, .int (iI x15), .int r4, .ref a20, .ref a21, .int (iI x16), .int r5, .ref a22, .int (iI x17), .int (iI x18), .int (iI x19), .int (iI x20)])), (a1, .inl (T 0, 940, .inl (cI f0)))] H locs → lv_has ls 5 [(0, .ref a0)] → W p l e (Rm 1 0 0) s m args below meth c H locs 0 0 Q (F0 m 0 ls []) := by
    intro k1
    induction k1 with
    | zero => intro z1 H locs ls z1_a z1_b q1_0 lq1_s hm; exact absurd hm (Nat.not_lt_zero _)
    | succ k1 ih1 =>
      intro z1 H locs ls z1_a z1_b q1_0 lq1_s hm1 w hl
      refine lv_aload_n hx hb dX12_go_0 rfl (lv_at hl 0 rfl) ?_
      refine r_get (v := .int (iI z1)) M w 0 5 clX12 rfl (by decide) G1468 rfl rfl dX12_go_1 ?_
      refine lv_aload_n hx hb dX12_go_4 rfl (lv_at hl 0 rfl) ?_
      refine r_get (v := .int (iI x1)) M w 0 3 clX12 rfl (by decide) G1466 rfl rfl dX12_go_5 ?_
      refine lv_icmp_ge (tgt := 52) hx hb dX12_go_8 (by decide) (fun c_2 => ?_) (fun c_2 => ?_)
      · replace c_2 := (iI_le (Int.le_trans (by decide) x1_a) (Int.le_trans x1_b (by decide)) (Int.le_trans (by decide) z1_a) (Int.le_trans z1_b (by decide))).mp c_2
        refine lv_aload_n hx hb dX12_go_52 rfl (lv_at hl 0 rfl) ?_
        refine lv_aload_n hx hb dX12_go_53 rfl (lv_at hl 0 rfl) ?_
        refine r_get (v := .int (iI z1)) M w 0 5 clX12 rfl (by decide) G1468 rfl rfl dX12_go_54 ?_
        refine r_put (ws' := [(a0, .inr (11, [.int r0, .ref a1, .int (iI x0), .int (iI x1), .int (iI x2), .int (iI z1), .int (iI z1), .int (iI x5), .int r1, .int (iI x6), .int (iI x7), .int (iI x8), .long y0, .int (iI x9), .ref a2, .ref a3, .ref a4, .ref a5, .ref a6, .ref a7, .ref a8, .ref a9, .ref a10, .ref a11, .int (iI x10), .ref a12, .ref a13, .ref a14, .ref a15, .int (iI x11), .int r2, .int r3, .ref a16, .int (iI x12), .int (iI x13), .ref a17, .ref a18, .int (iI x14), .ref a19, .int (iI x15), .int r4, .ref a20, .ref a21, .int (iI x16), .int r5, .ref a22, .int (iI x17), .int (iI x18), .int (iI x19), .int (iI x20)])), (a1, .inl (T 0, 940, .inl (cI f0)))]) M w 0 6 clX12 rfl (by decide) G1469 rfl rfl rfl rfl (Nat.le_of_ble_eq_true rfl) rfl dX12_go_57 (fun H locs w => ?_)
        refine lv_aload_n hx hb dX12_go_60 rfl (lv_at hl 0 rfl) ?_
        refine r_get (v := .int (iI x1)) M w 0 3 clX12 rfl (by decide) G1466 rfl rfl dX12_go_61 ?_
        refine lv_aload_n hx hb dX12_go_64 rfl (lv_at hl 0 rfl) ?_
        refine r_get (v := .int (iI x2)) M w 0 4 clX12 rfl (by decide) G1467 rfl rfl dX12_go_65 ?_
        refine lv_icmp_le (tgt := 96) hx hb dX12_go_68 (by decide) (fun c_3 => ?_) (fun c_3 => ?_)
        · replace c_3 := (iI_le (Int.le_trans (by decide) x1_a) (Int.le_trans x1_b (by decide)) (Int.le_trans (by decide) x2_a) (Int.le_trans x2_b (by decide))).mp c_3
          refine lv_aload_n hx hb dX12_go_96 rfl (lv_at hl 0 rfl) ?_
          refine r_get (v := .int (iI z1)) M w 0 5 clX12 rfl (by decide) G1468 rfl rfl dX12_go_97 ?_
          refine lv_aload_n hx hb dX12_go_100 rfl (lv_at hl 0 rfl) ?_
          refine r_get (v := .int (iI x1)) M w 0 3 clX12 rfl (by decide) G1466 rfl rfl dX12_go_101 ?_
          refine lv_icmp_lt (tgt := 113) hx hb dX12_go_104 (by decide) (fun c_4 => ?_) (fun c_4 => ?_)
          · replace c_4 := (iI_lt (Int.le_trans (by decide) z1_a) (Int.le_trans z1_b (by decide)) (Int.le_trans (by decide) x1_a) (Int.le_trans x1_b (by decide))).mp c_4
            exfalso; omega
          · replace c_4 : x1 ≤ z1 := Int.not_lt.mp (fun h => c_4 ((iI_lt (Int.le_trans (by decide) z1_a) (Int.le_trans z1_b (by decide)) (Int.le_trans (by decide) x1_a) (Int.le_trans x1_b (by decide))).mpr h))
            refine lv_aload_n hx hb dX12_go_107 rfl (lv_at hl 0 rfl) ?_
            refine lv_iconst (v := iI 0) hx hb dX12_go_108 (by decide +kernel) ?_
            refine r_put (ws' := [(a0, .inr (11, [.int r0, .ref a1, .int (iI x0), .int (iI x1), .int (iI x2), .int (iI z1), .int (iI z1), .int (iI 0), .int r1, .int (iI x6), .int (iI x7), .int (iI x8), .long y0, .int (iI x9), .ref a2, .ref a3, .ref a4, .ref a5, .ref a6, .ref a7, .ref a8, .ref a9, .ref a10, .ref a11, .int (iI x10), .ref a12, .ref a13, .ref a14, .ref a15, .int (iI x11), .int r2, .int r3, .ref a16, .int (iI x12), .int (iI x13), .ref a17, .ref a18, .int (iI x14), .ref a19, .int (iI x15), .int r4, .ref a20, .ref a21, .int (iI x16), .int r5, .ref a22, .int (iI x17), .int (iI x18), .int (iI x19), .int (iI x20)])), (a1, .inl (T 0, 940, .inl (cI f0)))]) M w 0 7 clX12 rfl (by decide) G1470 rfl rfl rfl rfl (Nat.le_of_ble_eq_true rfl) rfl dX12_go_109 (fun H locs w => ?_)
            exact ret (z1, z1, 0, r1, x6, y0) _ _ _ _ _ [0, 1] dX12_go_112 ⟨z1_a, z1_b, z1_a, z1_b, (show (0 : Int) ≤ 0 from by decide), (show (0 : Int) ≤ 4 from by decide), x6_a, x6_b, (show 0 ≤ (z1 - x3) from by omega), (show 0 ≤ (((z1 - x3) - 0) + 3) from by omega), (show gT (tkAt f0 x1 x2 x3) 0 z1 z1 y0 r1 x6 from (by rw [tk_stop (lq1_s.trans (sk_e (by omega))) (by omega) (by omega)]; exact ⟨rfl, rfl, rfl⟩))⟩ w (by decide) rfl
        · replace c_3 : x2 < x1 := Int.not_le.mp (fun h => c_3 ((iI_le (Int.le_trans (by decide) x1_a) (Int.le_trans x1_b (by decide)) (Int.le_trans (by decide) x2_a) (Int.le_trans x2_b (by decide))).mpr h))
          refine lv_aload_n hx hb dX12_go_71 rfl (lv_at hl 0 rfl) ?_
          refine r_get (v := .int (iI z1)) M w 0 6 clX12 rfl (by decide) G1469 rfl rfl dX12_go_72 ?_
          refine lv_aload_n hx hb dX12_go_75 rfl (lv_at hl 0 rfl) ?_
          refine r_get (v := .int (iI x2)) M w 0 4 clX12 rfl (by decide) G1467 rfl rfl dX12_go_76 ?_
          refine lv_icmp_lt (tgt := 96) hx hb dX12_go_79 (by decide) (fun c_5 => ?_) (fun c_5 => ?_)
          · replace c_5 := (iI_lt (Int.le_trans (by decide) z1_a) (Int.le_trans z1_b (by decide)) (Int.le_trans (by decide) x2_a) (Int.le_trans x2_b (by decide))).mp c_5
            exfalso; omega
          · replace c_5 : x2 ≤ z1 := Int.not_lt.mp (fun h => c_5 ((iI_lt (Int.le_trans (by decide) z1_a) (Int.le_trans z1_b (by decide)) (Int.le_trans (by decide) x2_a) (Int.le_trans x2_b (by decide))).mpr h))
            refine lv_aload_n hx hb dX12_go_82 rfl (lv_at hl 0 rfl) ?_
            refine lv_aload_n hx hb dX12_go_83 rfl (lv_at hl 0 rfl) ?_
            refine r_get (v := .int (iI x2)) M w 0 4 clX12 rfl (by decide) G1467 rfl rfl dX12_go_84 ?_
            refine r_put (ws' := [(a0, .inr (11, [.int r0, .ref a1, .int (iI x0), .int (iI x1), .int (iI x2), .int (iI z1), .int (iI x2), .int (iI x5), .int r1, .int (iI x6), .int (iI x7), .int (iI x8), .long y0, .int (iI x9), .ref a2, .ref a3, .ref a4, .ref a5, .ref a6, .ref a7, .ref a8, .ref a9, .ref a10, .ref a11, .int (iI x10), .ref a12, .ref a13, .ref a14, .ref a15, .int (iI x11), .int r2, .int r3, .ref a16, .int (iI x12), .int (iI x13), .ref a17, .ref a18, .int (iI x14), .ref a19, .int (iI x15), .int r4, .ref a20, .ref a21, .int (iI x16), .int r5, .ref a22, .int (iI x17), .int (iI x18), .int (iI x19), .int (iI x20)])), (a1, .inl (T 0, 940, .inl (cI f0)))]) M w 0 6 clX12 rfl (by decide) G1469 rfl rfl rfl rfl (Nat.le_of_ble_eq_true rfl) rfl dX12_go_87 (fun H locs w => ?_)
            refine lv_aload_n hx hb dX12_go_90 rfl (lv_at hl 0 rfl) ?_
            refine lv_iconst (v := iI 1) hx hb dX12_go_91 (by decide +kernel) ?_
            refine r_put (ws' := [(a0, .inr (11, [.int r0, .ref a1, .int (iI x0), .int (iI x1), .int (iI x2), .int (iI z1), .int (iI x2), .int (iI 1), .int r1, .int (iI x6), .int (iI x7), .int (iI x8), .long y0, .int (iI x9), .ref a2, .ref a3, .ref a4, .ref a5, .ref a6, .ref a7, .ref a8, .ref a9, .ref a10, .ref a11, .int (iI x10), .ref a12, .ref a13, .ref a14, .ref a15, .int (iI x11), .int r2, .int r3, .ref a16, .int (iI x12), .int (iI x13), .ref a17, .ref a18, .int (iI x14), .ref a19, .int (iI x15), .int r4, .ref a20, .ref a21, .int (iI x16), .int r5, .ref a22, .int (iI x17), .int (iI x18), .int (iI x19), .int (iI x20)])), (a1, .inl (T 0, 940, .inl (cI f0)))]) M w 0 7 clX12 rfl (by decide) G1470 rfl rfl rfl rfl (Nat.le_of_ble_eq_true rfl) rfl dX12_go_92 (fun H locs w => ?_)
            exact ret (z1, x2, 1, r1, x6, y0) _ _ _ _ _ [0, 1] dX12_go_95 ⟨z1_a, z1_b, x2_a, x2_b, (show (0 : Int) ≤ 1 from by decide), (show (1 : Int) ≤ 4 from by decide), x6_a, x6_b, (show 0 ≤ (z1 - x3) from by omega), (show 0 ≤ (((z1 - x3) - 1) + 3) from by omega), (show gT (tkAt f0 x1 x2 x3) 1 x2 z1 y0 r1 x6 from (by rw [tk_lim (lq1_s.trans (sk_e (by omega))) (by omega) (by omega)]; exact ⟨rfl, rfl, rfl⟩))⟩ w (by decide) rfl
      · replace c_2 : z1 < x1 := Int.not_le.mp (fun h => c_2 ((iI_le (Int.le_trans (by decide) x1_a) (Int.le_trans x1_b (by decide)) (Int.le_trans (by decide) z1_a) (Int.le_trans z1_b (by decide))).mpr h))
        refine lv_aload_n hx hb dX12_go_11 rfl (lv_at hl 0 rfl) ?_
        refine r_get (v := .ref a1) M w 0 1 clX12 rfl (by decide) G1464 rfl rfl dX12_go_12 ?_
        refine lv_aload_n hx hb dX12_go_15 rfl (lv_at hl 0 rfl) ?_
        refine r_get (v := .int (iI z1)) M w 0 5 clX12 rfl (by decide) G1468 rfl rfl dX12_go_16 ?_
        refine r_iald (v := iI (f0 z1)) M w 1 rfl (iI_in (by omega) (by omega) (by decide)) (cI_at (by omega) (by omega)) dX12_go_19 ?_
        have hh6 : 0 ≤ (f0 z1) ∧ (f0 z1) ≤ 255 := f0_h z1
        refine lv_bipush (v := iI 32) hx hb dX12_go_20 (by decide +kernel) ?_
        refine lv_icmp_eq (tgt := 39) hx hb dX12_go_22 (by decide) (fun c_7 => ?_) (fun c_7 => ?_)
        · replace c_7 := (iI_eq (by omega) (by omega) (by decide) (by decide)).mp c_7
          refine lv_aload_n hx hb dX12_go_39 rfl (lv_at hl 0 rfl) ?_
          refine lv_dup hx hb dX12_go_40 rfl ?_
          refine r_get (v := .int (iI z1)) M w 0 5 clX12 rfl (by decide) G1468 rfl rfl dX12_go_41 ?_
          refine lv_iconst (v := iI 1) hx hb dX12_go_44 (by decide +kernel) ?_
          refine r_iadd (v := iI (z1 + 1)) M (iI_add _ _) dX12_go_45 ?_
          refine r_put (ws' := [(a0, .inr (11, [.int r0, .ref a1, .int (iI x0), .int (iI x1), .int (iI x2), .int (iI (z1 + 1)), .int (iI x4), .int (iI x5), .int r1, .int (iI x6), .int (iI x7), .int (iI x8), .long y0, .int (iI x9), .ref a2, .ref a3, .ref a4, .ref a5, .ref a6, .ref a7, .ref a8, .ref a9, .ref a10, .ref a11, .int (iI x10), .ref a12, .ref a13, .ref a14, .ref a15, .int (iI x11), .int r2, .int r3, .ref a16, .int (iI x12), .int (iI x13), .ref a17, .ref a18, .int (iI x14), .ref a19, .int (iI x15), .int r4, .ref a20, .ref a21, .int (iI x16), .int r5, .ref a22, .int (iI x17), .int (iI x18), .int (iI x19), .int (iI x20)])), (a1, .inl (T 0, 940, .inl (cI f0)))]) M w 0 5 clX12 rfl (by decide) G1468 rfl rfl rfl rfl (Nat.le_of_ble_eq_true rfl) rfl dX12_go_46 (fun H locs w => ?_)
          refine lv_goto (tgt := 0) hx hb dX12_go_49 (by decide) ?_
          exact ih1 (z1 + 1) _ _ _ (by omega) (by omega) (by omega) (lq1_s.trans (sk_t (by omega) (by omega))) (by omega) w (lv_sub hl [0] rfl)
        · replace c_7 : ¬ (f0 z1) = 32 := fun h => c_7 ((iI_eq (by omega) (by omega) (by decide) (by decide)).mpr h)
          refine lv_aload_n hx hb dX12_go_25 rfl (lv_at hl 0 rfl) ?_
          refine r_get (v := .ref a1) M w 0 1 clX12 rfl (by decide) G1464 rfl rfl dX12_go_26 ?_
          refine lv_aload_n hx hb dX12_go_29 rfl (lv_at hl 0 rfl) ?_
          refine r_get (v := .int (iI z1)) M w 0 5 clX12 rfl (by decide) G1468 rfl rfl dX12_go_30 ?_
          refine r_iald (v := iI (f0 z1)) M w 1 rfl (iI_in (by omega) (by omega) (by decide)) (cI_at (by omega) (by omega)) dX12_go_33 ?_
          have hh8 : 0 ≤ (f0 z1) ∧ (f0 z1) ≤ 255 := f0_h z1
          refine lv_bipush (v := iI 10) hx hb dX12_go_34 (by decide +kernel) ?_
          refine lv_icmp_ne (tgt := 52) hx hb dX12_go_36 (by decide) (fun c_9 => ?_) (fun c_9 => ?_)
          · replace c_9 : ¬ (f0 z1) = 10 := fun h => c_9 ((iI_eq (by omega) (by omega) (by decide) (by decide)).mpr h)
            refine lv_aload_n hx hb dX12_go_52 rfl (lv_at hl 0 rfl) ?_
            refine lv_aload_n hx hb dX12_go_53 rfl (lv_at hl 0 rfl) ?_
            refine r_get (v := .int (iI z1)) M w 0 5 clX12 rfl (by decide) G1468 rfl rfl dX12_go_54 ?_
            refine r_put (ws' := [(a0, .inr (11, [.int r0, .ref a1, .int (iI x0), .int (iI x1), .int (iI x2), .int (iI z1), .int (iI z1), .int (iI x5), .int r1, .int (iI x6), .int (iI x7), .int (iI x8), .long y0, .int (iI x9), .ref a2, .ref a3, .ref a4, .ref a5, .ref a6, .ref a7, .ref a8, .ref a9, .ref a10, .ref a11, .int (iI x10), .ref a12, .ref a13, .ref a14, .ref a15, .int (iI x11), .int r2, .int r3, .ref a16, .int (iI x12), .int (iI x13), .ref a17, .ref a18, .int (iI x14), .ref a19, .int (iI x15), .int r4, .ref a20, .ref a21, .int (iI x16), .int r5, .ref a22, .int (iI x17), .int (iI x18), .int (iI x19), .int (iI x20)])), (a1, .inl (T 0, 940, .inl (cI f0)))]) M w 0 6 clX12 rfl (by decide) G1469 rfl rfl rfl rfl (Nat.le_of_ble_eq_true rfl) rfl dX12_go_57 (fun H locs w => ?_)
            refine lv_aload_n hx hb dX12_go_60 rfl (lv_at hl 0 rfl) ?_
            refine r_get (v := .int (iI x1)) M w 0 3 clX12 rfl (by decide) G1466 rfl rfl dX12_go_61 ?_
            refine lv_aload_n hx hb dX12_go_64 rfl (lv_at hl 0 rfl) ?_
            refine r_get (v := .int (iI x2)) M w 0 4 clX12 rfl (by decide) G1467 rfl rfl dX12_go_65 ?_
            refine lv_icmp_le (tgt := 96) hx hb dX12_go_68 (by decide) (fun c_10 => ?_) (fun c_10 => ?_)
            · replace c_10 := (iI_le (Int.le_trans (by decide) x1_a) (Int.le_trans x1_b (by decide)) (Int.le_trans (by decide) x2_a) (Int.le_trans x2_b (by decide))).mp c_10
              refine lv_aload_n hx hb dX12_go_96 rfl (lv_at hl 0 rfl) ?_
              refine r_get (v := .int (iI z1)) M w 0 5 clX12 rfl (by decide) G1468 rfl rfl dX12_go_97 ?_
              refine lv_aload_n hx hb dX12_go_100 rfl (lv_at hl 0 rfl) ?_
              refine r_get (v := .int (iI x1)) M w 0 3 clX12 rfl (by decide) G1466 rfl rfl dX12_go_101 ?_
              refine lv_icmp_lt (tgt := 113) hx hb dX12_go_104 (by decide) (fun c_11 => ?_) (fun c_11 => ?_)
              · replace c_11 := (iI_lt (Int.le_trans (by decide) z1_a) (Int.le_trans z1_b (by decide)) (Int.le_trans (by decide) x1_a) (Int.le_trans x1_b (by decide))).mp c_11
                refine lv_aload_n hx hb dX12_go_113 rfl (lv_at hl 0 rfl) ?_
                refine r_get (v := .ref a1) M w 0 1 clX12 rfl (by decide) G1464 rfl rfl dX12_go_114 ?_
                refine lv_aload_n hx hb dX12_go_117 rfl (lv_at hl 0 rfl) ?_
                refine r_get (v := .int (iI z1)) M w 0 5 clX12 rfl (by decide) G1468 rfl rfl dX12_go_118 ?_
                refine r_iald (v := iI (f0 z1)) M w 1 rfl (iI_in (by omega) (by omega) (by decide)) (cI_at (by omega) (by omega)) dX12_go_121 ?_
                have hh12 : 0 ≤ (f0 z1) ∧ (f0 z1) ≤ 255 := f0_h z1
                refine lv_istore_n (lv' := [(1, .int (iI (f0 z1))), (0, .ref a0)]) hx hb dX12_go_122 rfl hl (by decide) rfl (fun ls hl => ?_)
                refine lv_iload_n hx hb dX12_go_123 rfl (lv_at hl 0 rfl) ?_
                refine k_I (ce := 0) (sl := 0) (rest := []) (wr := [(a0, .inr (11, [.int r0, .ref a1, .int (iI x0), .int (iI x1), .int (iI x2), .int (iI z1), .int (iI z1), .int (iI x5), .int r1, .int (iI x6), .int (iI x7), .int (iI x8), .long y0, .int (iI x9), .ref a2, .ref a3, .ref a4, .ref a5, .ref a6, .ref a7, .ref a8, .ref a9, .ref a10, .ref a11, .int (iI x10), .ref a12, .ref a13, .ref a14, .ref a15, .int (iI x11), .int r2, .int r3, .ref a16, .int (iI x12), .int (iI x13), .ref a17, .ref a18, .int (iI x14), .ref a19, .int (iI x15), .int r4, .ref a20, .ref a21, .int (iI x16), .int r5, .ref a22, .int (iI x17), .int (iI x18), .int (iI x19), .int (iI x20)])), (a1, .inl (T 0, 940, .inl (cI f0)))]) (r_S (f := 0) [] M w V_HookedCityModel_33 G1632 (c11_X12_isLetter l D T _ (f0 z1) (by omega) (by omega)) rfl (by decide) rfl hl.1 rfl (Nat.le_of_ble_eq_true rfl) dX12_go_124 (by decide) (by decide) (by decide) (by decide)) w [] [0, 1] rfl rfl (by decide) (by decide) rfl rfl (fun v z13 H locs hp w => ?_)
                have hv : iI z13 = v := hp.1
                subst hv
                have z13_a : 0 ≤ z13 := hp.2.1
                have z13_b : z13 ≤ 1 := hp.2.2.1
                have ee14 : 0 ≤ (((f0 z1) + 4294967296) - (z13 * 4294967393)) := hp.2.2.2.1
                have pq15 : lq z13 (f0 z1) 97 122 := hp.2.2.2.2
                have w : WD D A s.heap [(a0, .inr (11, [.int r0, .ref a1, .int (iI x0), .int (iI x1), .int (iI x2), .int (iI z1), .int (iI z1), .int (iI x5), .int r1, .int (iI x6), .int (iI x7), .int (iI x8), .long y0, .int (iI x9), .ref a2, .ref a3, .ref a4, .ref a5, .ref a6, .ref a7, .ref a8, .ref a9, .ref a10, .ref a11, .int (iI x10), .ref a12, .ref a13, .ref a14, .ref a15, .int (iI x11), .int r2, .int r3, .ref a16, .int (iI x12), .int (iI x13), .ref a17, .ref a18, .int (iI x14), .ref a19, .int (iI x15), .int r4, .ref a20, .ref a21, .int (iI x16), .int r5, .ref a22, .int (iI x17), .int (iI x18), .int (iI x19), .int (iI x20)])), (a1, .inl (T 0, 940, .inl (cI f0)))] H locs := w
                refine lv_if_ne (tgt := 198) hx hb dX12_go_127 (by decide) (fun c_16 => ?_) (fun c_16 => ?_)
                · replace c_16 : ¬ z13 = 0 := fun h => c_16 ((iz_eq (Int.le_trans (by decide) z13_a) (Int.le_trans z13_b (by decide))).mpr h)
                  refine lv_iload_n hx hb dX12_go_198 rfl (lv_at hl 0 rfl) ?_
                  refine k_I (ce := 0) (sl := 0) (rest := []) (wr := [(a0, .inr (11, [.int r0, .ref a1, .int (iI x0), .int (iI x1), .int (iI x2), .int (iI z1), .int (iI z1), .int (iI x5), .int r1, .int (iI x6), .int (iI x7), .int (iI x8), .long y0, .int (iI x9), .ref a2, .ref a3, .ref a4, .ref a5, .ref a6, .ref a7, .ref a8, .ref a9, .ref a10, .ref a11, .int (iI x10), .ref a12, .ref a13, .ref a14, .ref a15, .int (iI x11), .int r2, .int r3, .ref a16, .int (iI x12), .int (iI x13), .ref a17, .ref a18, .int (iI x14), .ref a19, .int (iI x15), .int r4, .ref a20, .ref a21, .int (iI x16), .int r5, .ref a22, .int (iI x17), .int (iI x18), .int (iI x19), .int (iI x20)])), (a1, .inl (T 0, 940, .inl (cI f0)))]) (r_S (f := 0) [] M w V_HookedCityModel_33 G1632 (c11_X12_isLetter l D T _ (f0 z1) (by omega) (by omega)) rfl (by decide) rfl hl.1 rfl (Nat.le_of_ble_eq_true rfl) dX12_go_199 (by decide) (by decide) (by decide) (by decide)) w [] [0, 1] rfl rfl (by decide) (by decide) rfl rfl (fun v z17 H locs hp w => ?_)
                  have hv : iI z17 = v := hp.1
                  subst hv
                  have z17_a : 0 ≤ z17 := hp.2.1
                  have z17_b : z17 ≤ 1 := hp.2.2.1
                  have ee18 : 0 ≤ (((f0 z1) + 4294967296) - (z17 * 4294967393)) := hp.2.2.2.1
                  have pq19 : lq z17 (f0 z1) 97 122 := hp.2.2.2.2
                  have w : WD D A s.heap [(a0, .inr (11, [.int r0, .ref a1, .int (iI x0), .int (iI x1), .int (iI x2), .int (iI z1), .int (iI z1), .int (iI x5), .int r1, .int (iI x6), .int (iI x7), .int (iI x8), .long y0, .int (iI x9), .ref a2, .ref a3, .ref a4, .ref a5, .ref a6, .ref a7, .ref a8, .ref a9, .ref a10, .ref a11, .int (iI x10), .ref a12, .ref a13, .ref a14, .ref a15, .int (iI x11), .int r2, .int r3, .ref a16, .int (iI x12), .int (iI x13), .ref a17, .ref a18, .int (iI x14), .ref a19, .int (iI x15), .int r4, .ref a20, .ref a21, .int (iI x16), .int r5, .ref a22, .int (iI x17), .int (iI x18), .int (iI x19), .int (iI x20)])), (a1, .inl (T 0, 940, .inl (cI f0)))] H locs := w
                  refine lv_istore_n (lv' := [(2, .int (iI z17)), (1, .int (iI (f0 z1))), (0, .ref a0)]) hx hb dX12_go_202 rfl hl (by decide) rfl (fun ls hl => ?_)
                  refine lv_iconst (v := iI 1) hx hb dX12_go_203 (by decide +kernel) ?_
                  refine lv_istore_n (lv' := [(3, .int (iI 1)), (2, .int (iI z17)), (1, .int (iI (f0 z1))), (0, .ref a0)]) hx hb dX12_go_204 rfl hl (by decide) rfl (fun ls hl => ?_)
                  refine lv_aload_n hx hb dX12_go_205 rfl (lv_at hl 3 rfl) ?_
                  refine lv_lconst (v := 0) hx hb dX12_go_206 (by decide) ?_
                  refine r_put (ws' := [(a0, .inr (11, [.int r0, .ref a1, .int (iI x0), .int (iI x1), .int (iI x2), .int (iI z1), .int (iI z1), .int (iI x5), .int r1, .int (iI x6), .int (iI x7), .int (iI x8), .long 0, .int (iI x9), .ref a2, .ref a3, .ref a4, .ref a5, .ref a6, .ref a7, .ref a8, .ref a9, .ref a10, .ref a11, .int (iI x10), .ref a12, .ref a13, .ref a14, .ref a15, .int (iI x11), .int r2, .int r3, .ref a16, .int (iI x12), .int (iI x13), .ref a17, .ref a18, .int (iI x14), .ref a19, .int (iI x15), .int r4, .ref a20, .ref a21, .int (iI x16), .int r5, .ref a22, .int (iI x17), .int (iI x18), .int (iI x19), .int (iI x20)])), (a1, .inl (T 0, 940, .inl (cI f0)))]) M w 0 12 clX12 rfl (by decide) G1475 rfl rfl rfl rfl (Nat.le_of_ble_eq_true rfl) rfl dX12_go_207 (fun H locs w => ?_)
                  refine lv_aload_n hx hb dX12_go_210 rfl (lv_at hl 3 rfl) ?_
                  refine lv_iconst (v := iI 0) hx hb dX12_go_211 (by decide +kernel) ?_
                  refine r_put (ws' := [(a0, .inr (11, [.int r0, .ref a1, .int (iI x0), .int (iI x1), .int (iI x2), .int (iI z1), .int (iI z1), .int (iI x5), .int (iI 0), .int (iI x6), .int (iI x7), .int (iI x8), .long 0, .int (iI x9), .ref a2, .ref a3, .ref a4, .ref a5, .ref a6, .ref a7, .ref a8, .ref a9, .ref a10, .ref a11, .int (iI x10), .ref a12, .ref a13, .ref a14, .ref a15, .int (iI x11), .int r2, .int r3, .ref a16, .int (iI x12), .int (iI x13), .ref a17, .ref a18, .int (iI x14), .ref a19, .int (iI x15), .int r4, .ref a20, .ref a21, .int (iI x16), .int r5, .ref a22, .int (iI x17), .int (iI x18), .int (iI x19), .int (iI x20)])), (a1, .inl (T 0, 940, .inl (cI f0)))]) M w 0 8 clX12 rfl (by decide) G1471 rfl rfl rfl rfl (Nat.le_of_ble_eq_true rfl) rfl dX12_go_212 (fun H locs w => ?_)
                  have loop2 : ∀ (k2 : Nat) (fy20 : Int64) (z21 : Int) (fr22 : Int32) (z23 : Int) (H : Heap) (locs : List Loc) (ls : Array Slot), 0 ≤ z21 → z21 ≤ 940 → 0 ≤ z23 → z23 ≤ 1 → 0 ≤ (z21 - x3) → 0 ≤ (z21 - z1) → rn f0 x1 z1 = rn f0 x1 z21 → aR f0 z1 z21 → gdI f0 z1 z21 z17 z23 → wI f0 z1 z21 fy20 fr22 → ((x1 - z21) : Int).toNat < k2 → WD D A s.heap [(a0, .inr (11, [.int r0, .ref a1, .int (iI x0), .int (iI x1), .int (iI x2), .int (iI z21), .int (iI z1), .int (iI x5), .int fr22, .int (iI x6), .int (iI x7), .int (iI x8), .long fy20, .int (iI x9), .ref a2, .ref a3, .ref a4, .ref a5, .ref a6, .ref a7, .ref a8, .ref a9, .ref a10, .ref a11, .int (iI x10), .ref a12, .ref a13, .ref a14, .ref a15, .int (iI x11), .int r2, .int r3, .ref a16, .int (iI x12), .int (iI x13), .ref a17, .ref a18, .int (iI x14), .ref a19, .int (iI x15), .int r4, .ref a20, .ref a21, .int (iI x16), .int r5, .ref a22, .int (iI x17), .int (iI x18), .int (iI x19), .int (iI x20)])), (a1, .inl (T 0, 940, .inl (cI f0)))] H locs → lv_has ls 5 [(3, .int (iI z23)), (2, .int (iI z17)), (1, .int (iI (f0 z1))), (0, .ref a0)] → W p l e (Rm 1 0 0) s m args below meth c H locs 0 0 Q (F0 m 215 ls []) := by
                    intro k2
                    induction k2 with
                    | zero => intro fy20 z21 fr22 z23 H locs ls z21_a z21_b z23_a z23_b q2_0 q2_1 lq2_r lq2_a lq2_g lq2_w hm; exact absurd hm (Nat.not_lt_zero _)
                    | succ k2 ih2 =>
                      intro fy20 z21 fr22 z23 H locs ls z21_a z21_b z23_a z23_b q2_0 q2_1 lq2_r lq2_a lq2_g lq2_w hm2 w hl
                      refine lv_aload_n hx hb dX12_go_215 rfl (lv_at hl 3 rfl) ?_
                      refine lv_aload_n hx hb dX12_go_216 rfl (lv_at hl 3 rfl) ?_
                      refine r_get (v := .int (iI z21)) M w 0 5 clX12 rfl (by decide) G1468 rfl rfl dX12_go_217 ?_
                      refine k_I (ce := 0) (sl := 0) (rest := []) (wr := []) (r_V (f := 0) [0, 1] M w V_HookedCityModel_50 G1639 G50 (c9_X12_tapeAt l D T _ a0 z21 r0 a1 x0 x1 x2 z21 z1 x5 fr22 x6 x7 x8 fy20 x9 a2 a3 a4 a5 a6 a7 a8 a9 a10 a11 x10 a12 a13 a14 a15 x11 r2 r3 a16 x12 x13 a17 a18 x14 a19 x15 r4 a20 a21 x16 r5 a22 x17 x18 x19 x20 f0 z21_a z21_b x0_a x0_b x1_a x1_b x2_a x2_b z21_a z21_b z1_a z1_b x5_a x5_b x6_a x6_b x7_a x7_b x8_a x8_b x9_a x9_b x10_a x10_b x11_a x11_b x12_a x12_b x13_a x13_b x14_a x14_b x15_a x15_b x16_a x16_b x17_a x17_b x18_a x18_b x19_a x19_b x20_a x20_b f0_h) 0 clX12 rfl rfl (by decide) rfl hl.1 rfl (Nat.le_of_ble_eq_true rfl) dX12_go_220 (by decide) (by decide) (by decide) (by decide)) w [0, 1] [] rfl rfl (by decide) (by decide) rfl rfl (fun v z24 H locs hp w => ?_)
                      have hv : iI z24 = v := hp.1
                      subst hv
                      have z24_a : (-2147483648) ≤ z24 := hp.2.1
                      have z24_b : z24 ≤ 2147483647 := hp.2.2.1
                      have pq25 : taQ z21 x1 z24 (f0 z21) := hp.2.2.2.1
                      have w : WD D A s.heap [(a0, .inr (11, [.int r0, .ref a1, .int (iI x0), .int (iI x1), .int (iI x2), .int (iI z21), .int (iI z1), .int (iI x5), .int fr22, .int (iI x6), .int (iI x7), .int (iI x8), .long fy20, .int (iI x9), .ref a2, .ref a3, .ref a4, .ref a5, .ref a6, .ref a7, .ref a8, .ref a9, .ref a10, .ref a11, .int (iI x10), .ref a12, .ref a13, .ref a14, .ref a15, .int (iI x11), .int r2, .int r3, .ref a16, .int (iI x12), .int (iI x13), .ref a17, .ref a18, .int (iI x14), .ref a19, .int (iI x15), .int r4, .ref a20, .ref a21, .int (iI x16), .int r5, .ref a22, .int (iI x17), .int (iI x18), .int (iI x19), .int (iI x20)])), (a1, .inl (T 0, 940, .inl (cI f0)))] H locs := w
                      rcases hp.2.2.2.2 with ⟨c_26, hr⟩ | c_27
                      · subst hr
                        refine k_I (ce := 0) (sl := 0) (rest := []) (wr := [(a0, .inr (11, [.int r0, .ref a1, .int (iI x0), .int (iI x1), .int (iI x2), .int (iI z21), .int (iI z1), .int (iI x5), .int fr22, .int (iI x6), .int (iI x7), .int (iI x8), .long fy20, .int (iI x9), .ref a2, .ref a3, .ref a4, .ref a5, .ref a6, .ref a7, .ref a8, .ref a9, .ref a10, .ref a11, .int (iI x10), .ref a12, .ref a13, .ref a14, .ref a15, .int (iI x11), .int r2, .int r3, .ref a16, .int (iI x12), .int (iI x13), .ref a17, .ref a18, .int (iI x14), .ref a19, .int (iI x15), .int r4, .ref a20, .ref a21, .int (iI x16), .int r5, .ref a22, .int (iI x17), .int (iI x18), .int (iI x19), .int (iI x20)])), (a1, .inl (T 0, 940, .inl (cI f0)))]) (r_S (f := 0) [] M w V_HookedCityModel_33 G1632 (c11_X12_isLetter l D T _ 0 (by decide) (by decide)) rfl (by decide) rfl hl.1 rfl (Nat.le_of_ble_eq_true rfl) dX12_go_223 (by decide) (by decide) (by decide) (by decide)) w [] [0, 1] rfl rfl (by decide) (by decide) rfl rfl (fun v z28 H locs hp w => ?_)
                        have hv : iI z28 = v := hp.1
                        subst hv
                        have z28_a : 0 ≤ z28 := hp.2.1
                        have z28_b : z28 ≤ 1 := hp.2.2.1
                        have ee29 : 0 ≤ ((0 + 4294967296) - (z28 * 4294967393)) := hp.2.2.2.1
                        have pq30 : lq z28 0 97 122 := hp.2.2.2.2
                        have w : WD D A s.heap [(a0, .inr (11, [.int r0, .ref a1, .int (iI x0), .int (iI x1), .int (iI x2), .int (iI z21), .int (iI z1), .int (iI x5), .int fr22, .int (iI x6), .int (iI x7), .int (iI x8), .long fy20, .int (iI x9), .ref a2, .ref a3, .ref a4, .ref a5, .ref a6, .ref a7, .ref a8, .ref a9, .ref a10, .ref a11, .int (iI x10), .ref a12, .ref a13, .ref a14, .ref a15, .int (iI x11), .int r2, .int r3, .ref a16, .int (iI x12), .int (iI x13), .ref a17, .ref a18, .int (iI x14), .ref a19, .int (iI x15), .int r4, .ref a20, .ref a21, .int (iI x16), .int r5, .ref a22, .int (iI x17), .int (iI x18), .int (iI x19), .int (iI x20)])), (a1, .inl (T 0, 940, .inl (cI f0)))] H locs := w
                        refine lv_if_ne (tgt := 243) hx hb dX12_go_226 (by decide) (fun c_31 => ?_) (fun c_31 => ?_)
                        · replace c_31 : ¬ z28 = 0 := fun h => c_31 ((iz_eq (Int.le_trans (by decide) z28_a) (Int.le_trans z28_b (by decide))).mpr h)
                          exfalso; omega
                        · replace c_31 := (iz_eq (Int.le_trans (by decide) z28_a) (Int.le_trans z28_b (by decide))).mp c_31
                          refine lv_aload_n hx hb dX12_go_229 rfl (lv_at hl 3 rfl) ?_
                          refine lv_aload_n hx hb dX12_go_230 rfl (lv_at hl 3 rfl) ?_
                          refine r_get (v := .int (iI z21)) M w 0 5 clX12 rfl (by decide) G1468 rfl rfl dX12_go_231 ?_
                          refine k_I (ce := 0) (sl := 0) (rest := []) (wr := []) (r_V (f := 0) [0, 1] M w V_HookedCityModel_50 G1639 G50 (c9_X12_tapeAt l D T _ a0 z21 r0 a1 x0 x1 x2 z21 z1 x5 fr22 x6 x7 x8 fy20 x9 a2 a3 a4 a5 a6 a7 a8 a9 a10 a11 x10 a12 a13 a14 a15 x11 r2 r3 a16 x12 x13 a17 a18 x14 a19 x15 r4 a20 a21 x16 r5 a22 x17 x18 x19 x20 f0 z21_a z21_b x0_a x0_b x1_a x1_b x2_a x2_b z21_a z21_b z1_a z1_b x5_a x5_b x6_a x6_b x7_a x7_b x8_a x8_b x9_a x9_b x10_a x10_b x11_a x11_b x12_a x12_b x13_a x13_b x14_a x14_b x15_a x15_b x16_a x16_b x17_a x17_b x18_a x18_b x19_a x19_b x20_a x20_b f0_h) 0 clX12 rfl rfl (by decide) rfl hl.1 rfl (Nat.le_of_ble_eq_true rfl) dX12_go_234 (by decide) (by decide) (by decide) (by decide)) w [0, 1] [] rfl rfl (by decide) (by decide) rfl rfl (fun v z32 H locs hp w => ?_)
                          have hv : iI z32 = v := hp.1
                          subst hv
                          have z32_a : (-2147483648) ≤ z32 := hp.2.1
                          have z32_b : z32 ≤ 2147483647 := hp.2.2.1
                          have pq33 : taQ z21 x1 z32 (f0 z21) := hp.2.2.2.1
                          have w : WD D A s.heap [(a0, .inr (11, [.int r0, .ref a1, .int (iI x0), .int (iI x1), .int (iI x2), .int (iI z21), .int (iI z1), .int (iI x5), .int fr22, .int (iI x6), .int (iI x7), .int (iI x8), .long fy20, .int (iI x9), .ref a2, .ref a3, .ref a4, .ref a5, .ref a6, .ref a7, .ref a8, .ref a9, .ref a10, .ref a11, .int (iI x10), .ref a12, .ref a13, .ref a14, .ref a15, .int (iI x11), .int r2, .int r3, .ref a16, .int (iI x12), .int (iI x13), .ref a17, .ref a18, .int (iI x14), .ref a19, .int (iI x15), .int r4, .ref a20, .ref a21, .int (iI x16), .int r5, .ref a22, .int (iI x17), .int (iI x18), .int (iI x19), .int (iI x20)])), (a1, .inl (T 0, 940, .inl (cI f0)))] H locs := w
                          rcases hp.2.2.2.2 with ⟨c_34, hr⟩ | c_35
                          · subst hr
                            refine k_I (ce := 0) (sl := 0) (rest := []) (wr := [(a0, .inr (11, [.int r0, .ref a1, .int (iI x0), .int (iI x1), .int (iI x2), .int (iI z21), .int (iI z1), .int (iI x5), .int fr22, .int (iI x6), .int (iI x7), .int (iI x8), .long fy20, .int (iI x9), .ref a2, .ref a3, .ref a4, .ref a5, .ref a6, .ref a7, .ref a8, .ref a9, .ref a10, .ref a11, .int (iI x10), .ref a12, .ref a13, .ref a14, .ref a15, .int (iI x11), .int r2, .int r3, .ref a16, .int (iI x12), .int (iI x13), .ref a17, .ref a18, .int (iI x14), .ref a19, .int (iI x15), .int r4, .ref a20, .ref a21, .int (iI x16), .int r5, .ref a22, .int (iI x17), .int (iI x18), .int (iI x19), .int (iI x20)])), (a1, .inl (T 0, 940, .inl (cI f0)))]) (r_S (f := 0) [] M w V_HookedCityModel_37 G1635 (c10_X12_isDigit l D T _ 0 (by decide) (by decide)) rfl (by decide) rfl hl.1 rfl (Nat.le_of_ble_eq_true rfl) dX12_go_237 (by decide) (by decide) (by decide) (by decide)) w [] [0, 1] rfl rfl (by decide) (by decide) rfl rfl (fun v z36 H locs hp w => ?_)
                            have hv : iI z36 = v := hp.1
                            subst hv
                            have z36_a : 0 ≤ z36 := hp.2.1
                            have z36_b : z36 ≤ 1 := hp.2.2.1
                            have ee37 : 0 ≤ ((0 + 4294967296) - (z36 * 4294967344)) := hp.2.2.2.1
                            have pq38 : lq z36 0 48 57 := hp.2.2.2.2
                            have w : WD D A s.heap [(a0, .inr (11, [.int r0, .ref a1, .int (iI x0), .int (iI x1), .int (iI x2), .int (iI z21), .int (iI z1), .int (iI x5), .int fr22, .int (iI x6), .int (iI x7), .int (iI x8), .long fy20, .int (iI x9), .ref a2, .ref a3, .ref a4, .ref a5, .ref a6, .ref a7, .ref a8, .ref a9, .ref a10, .ref a11, .int (iI x10), .ref a12, .ref a13, .ref a14, .ref a15, .int (iI x11), .int r2, .int r3, .ref a16, .int (iI x12), .int (iI x13), .ref a17, .ref a18, .int (iI x14), .ref a19, .int (iI x15), .int r4, .ref a20, .ref a21, .int (iI x16), .int r5, .ref a22, .int (iI x17), .int (iI x18), .int (iI x19), .int (iI x20)])), (a1, .inl (T 0, 940, .inl (cI f0)))] H locs := w
                            refine lv_if_eq (tgt := 350) hx hb dX12_go_240 (by decide) (fun c_39 => ?_) (fun c_39 => ?_)
                            · replace c_39 := (iz_eq (Int.le_trans (by decide) z36_a) (Int.le_trans z36_b (by decide))).mp c_39
                              refine lv_aload_n hx hb dX12_go_350 rfl (lv_at hl 3 rfl) ?_
                              refine lv_iload_n hx hb dX12_go_351 rfl (lv_at hl 0 rfl) ?_
                              refine lv_if_eq (tgt := 377) hx hb dX12_go_352 (by decide) (fun c_40 => ?_) (fun c_40 => ?_)
                              · replace c_40 := (iz_eq (Int.le_trans (by decide) z23_a) (Int.le_trans z23_b (by decide))).mp c_40
                                refine lv_iconst (v := iI 1) hx hb dX12_go_377 (by decide +kernel) ?_
                                refine lv_goto (tgt := 390) hx hb dX12_go_378 (by decide) ?_
                                refine r_put (ws' := [(a0, .inr (11, [.int r0, .ref a1, .int (iI x0), .int (iI x1), .int (iI x2), .int (iI z21), .int (iI z1), .int (iI 1), .int fr22, .int (iI x6), .int (iI x7), .int (iI x8), .long fy20, .int (iI x9), .ref a2, .ref a3, .ref a4, .ref a5, .ref a6, .ref a7, .ref a8, .ref a9, .ref a10, .ref a11, .int (iI x10), .ref a12, .ref a13, .ref a14, .ref a15, .int (iI x11), .int r2, .int r3, .ref a16, .int (iI x12), .int (iI x13), .ref a17, .ref a18, .int (iI x14), .ref a19, .int (iI x15), .int r4, .ref a20, .ref a21, .int (iI x16), .int r5, .ref a22, .int (iI x17), .int (iI x18), .int (iI x19), .int (iI x20)])), (a1, .inl (T 0, 940, .inl (cI f0)))]) M w 0 7 clX12 rfl (by decide) G1470 rfl rfl rfl rfl (Nat.le_of_ble_eq_true rfl) rfl dX12_go_390 (fun H locs w => ?_)
                                exact ret (z21, z1, 1, fr22, x6, fy20) _ _ _ _ _ [0, 1] dX12_go_393 ⟨z21_a, z21_b, z1_a, z1_b, (show (0 : Int) ≤ 1 from by decide), (show (1 : Int) ≤ 4 from by decide), x6_a, x6_b, (show 0 ≤ (z21 - x3) from by omega), (show 0 ≤ (((z21 - x3) - 1) + 3) from by omega), (show gT (tkAt f0 x1 x2 x3) 1 z1 z21 fy20 fr22 x6 from (by rw [tk_run (lq1_s.trans (sk_e (by omega))) (by omega) (by omega) (Or.inl (lq_1 pq15 (by omega))) (lq2_r.trans (rn_e (ta_E pq25 pq30 (by omega) pq33 pq38 (by omega))))]; exact ⟨rfl, rfl, go_fin lq2_a lq2_g pq19 (lq2_r.trans (rn_e (ta_E pq25 pq30 (by omega) pq33 pq38 (by omega)))) (by omega) (Or.inl (lq_1 pq15 (by omega))) lq2_w (by omega)⟩))⟩ w (by decide) rfl
                              · replace c_40 : ¬ z23 = 0 := fun h => c_40 ((iz_eq (Int.le_trans (by decide) z23_a) (Int.le_trans z23_b (by decide))).mpr h)
                                refine lv_aload_n hx hb dX12_go_355 rfl (lv_at hl 3 rfl) ?_
                                refine r_get (v := .int (iI z21)) M w 0 5 clX12 rfl (by decide) G1468 rfl rfl dX12_go_356 ?_
                                refine lv_aload_n hx hb dX12_go_359 rfl (lv_at hl 3 rfl) ?_
                                refine r_get (v := .int (iI z1)) M w 0 6 clX12 rfl (by decide) G1469 rfl rfl dX12_go_360 ?_
                                refine r_isub (v := iI (z21 - z1)) M (iI_sub _ _) dX12_go_363 ?_
                                refine lv_iload_n hx hb dX12_go_364 rfl (lv_at hl 1 rfl) ?_
                                refine lv_if_eq (tgt := 373) hx hb dX12_go_365 (by decide) (fun c_41 => ?_) (fun c_41 => ?_)
                                · replace c_41 := (iz_eq (Int.le_trans (by decide) z17_a) (Int.le_trans z17_b (by decide))).mp c_41
                                  refine lv_iconst (v := iI 3) hx hb dX12_go_373 (by decide +kernel) ?_
                                  refine lv_icmp_le (tgt := 381) hx hb dX12_go_374 (by decide) (fun c_42 => ?_) (fun c_42 => ?_)
                                  · replace c_42 := (iI_le (by omega) (by omega) (by decide) (by decide)).mp c_42
                                    refine lv_iload_n hx hb dX12_go_381 rfl (lv_at hl 1 rfl) ?_
                                    refine lv_if_eq (tgt := 389) hx hb dX12_go_382 (by decide) (fun c_43 => ?_) (fun c_43 => ?_)
                                    · replace c_43 := (iz_eq (Int.le_trans (by decide) z17_a) (Int.le_trans z17_b (by decide))).mp c_43
                                      refine lv_iconst (v := iI 3) hx hb dX12_go_389 (by decide +kernel) ?_
                                      refine r_put (ws' := [(a0, .inr (11, [.int r0, .ref a1, .int (iI x0), .int (iI x1), .int (iI x2), .int (iI z21), .int (iI z1), .int (iI 3), .int fr22, .int (iI x6), .int (iI x7), .int (iI x8), .long fy20, .int (iI x9), .ref a2, .ref a3, .ref a4, .ref a5, .ref a6, .ref a7, .ref a8, .ref a9, .ref a10, .ref a11, .int (iI x10), .ref a12, .ref a13, .ref a14, .ref a15, .int (iI x11), .int r2, .int r3, .ref a16, .int (iI x12), .int (iI x13), .ref a17, .ref a18, .int (iI x14), .ref a19, .int (iI x15), .int r4, .ref a20, .ref a21, .int (iI x16), .int r5, .ref a22, .int (iI x17), .int (iI x18), .int (iI x19), .int (iI x20)])), (a1, .inl (T 0, 940, .inl (cI f0)))]) M w 0 7 clX12 rfl (by decide) G1470 rfl rfl rfl rfl (Nat.le_of_ble_eq_true rfl) rfl dX12_go_390 (fun H locs w => ?_)
                                      exact ret (z21, z1, 3, fr22, x6, fy20) _ _ _ _ _ [0, 1] dX12_go_393 ⟨z21_a, z21_b, z1_a, z1_b, (show (0 : Int) ≤ 3 from by decide), (show (3 : Int) ≤ 4 from by decide), x6_a, x6_b, (show 0 ≤ (z21 - x3) from by omega), (show 0 ≤ (((z21 - x3) - 3) + 3) from by omega), (show gT (tkAt f0 x1 x2 x3) 3 z1 z21 fy20 fr22 x6 from (by rw [tk_run (lq1_s.trans (sk_e (by omega))) (by omega) (by omega) (Or.inl (lq_1 pq15 (by omega))) (lq2_r.trans (rn_e (ta_E pq25 pq30 (by omega) pq33 pq38 (by omega))))]; exact ⟨rfl, rfl, go_fin lq2_a lq2_g pq19 (lq2_r.trans (rn_e (ta_E pq25 pq30 (by omega) pq33 pq38 (by omega)))) (by omega) (Or.inl (lq_1 pq15 (by omega))) lq2_w (by omega)⟩))⟩ w (by decide) rfl
                                    · replace c_43 : ¬ z17 = 0 := fun h => c_43 ((iz_eq (Int.le_trans (by decide) z17_a) (Int.le_trans z17_b (by decide))).mpr h)
                                      exfalso; omega
                                  · replace c_42 : 3 < (z21 - z1) := Int.not_le.mp (fun h => c_42 ((iI_le (by omega) (by omega) (by decide) (by decide)).mpr h))
                                    refine lv_iconst (v := iI 1) hx hb dX12_go_377 (by decide +kernel) ?_
                                    refine lv_goto (tgt := 390) hx hb dX12_go_378 (by decide) ?_
                                    refine r_put (ws' := [(a0, .inr (11, [.int r0, .ref a1, .int (iI x0), .int (iI x1), .int (iI x2), .int (iI z21), .int (iI z1), .int (iI 1), .int fr22, .int (iI x6), .int (iI x7), .int (iI x8), .long fy20, .int (iI x9), .ref a2, .ref a3, .ref a4, .ref a5, .ref a6, .ref a7, .ref a8, .ref a9, .ref a10, .ref a11, .int (iI x10), .ref a12, .ref a13, .ref a14, .ref a15, .int (iI x11), .int r2, .int r3, .ref a16, .int (iI x12), .int (iI x13), .ref a17, .ref a18, .int (iI x14), .ref a19, .int (iI x15), .int r4, .ref a20, .ref a21, .int (iI x16), .int r5, .ref a22, .int (iI x17), .int (iI x18), .int (iI x19), .int (iI x20)])), (a1, .inl (T 0, 940, .inl (cI f0)))]) M w 0 7 clX12 rfl (by decide) G1470 rfl rfl rfl rfl (Nat.le_of_ble_eq_true rfl) rfl dX12_go_390 (fun H locs w => ?_)
                                    exact ret (z21, z1, 1, fr22, x6, fy20) _ _ _ _ _ [0, 1] dX12_go_393 ⟨z21_a, z21_b, z1_a, z1_b, (show (0 : Int) ≤ 1 from by decide), (show (1 : Int) ≤ 4 from by decide), x6_a, x6_b, (show 0 ≤ (z21 - x3) from by omega), (show 0 ≤ (((z21 - x3) - 1) + 3) from by omega), (show gT (tkAt f0 x1 x2 x3) 1 z1 z21 fy20 fr22 x6 from (by rw [tk_run (lq1_s.trans (sk_e (by omega))) (by omega) (by omega) (Or.inl (lq_1 pq15 (by omega))) (lq2_r.trans (rn_e (ta_E pq25 pq30 (by omega) pq33 pq38 (by omega))))]; exact ⟨rfl, rfl, go_fin lq2_a lq2_g pq19 (lq2_r.trans (rn_e (ta_E pq25 pq30 (by omega) pq33 pq38 (by omega)))) (by omega) (Or.inl (lq_1 pq15 (by omega))) lq2_w (by omega)⟩))⟩ w (by decide) rfl
                                · replace c_41 : ¬ z17 = 0 := fun h => c_41 ((iz_eq (Int.le_trans (by decide) z17_a) (Int.le_trans z17_b (by decide))).mpr h)
                                  refine lv_bipush (v := iI 7) hx hb dX12_go_368 (by decide +kernel) ?_
                                  refine lv_goto (tgt := 374) hx hb dX12_go_370 (by decide) ?_
                                  refine lv_icmp_le (tgt := 381) hx hb dX12_go_374 (by decide) (fun c_44 => ?_) (fun c_44 => ?_)
                                  · replace c_44 := (iI_le (by omega) (by omega) (by decide) (by decide)).mp c_44
                                    refine lv_iload_n hx hb dX12_go_381 rfl (lv_at hl 1 rfl) ?_
                                    refine lv_if_eq (tgt := 389) hx hb dX12_go_382 (by decide) (fun c_45 => ?_) (fun c_45 => ?_)
                                    · replace c_45 := (iz_eq (Int.le_trans (by decide) z17_a) (Int.le_trans z17_b (by decide))).mp c_45
                                      exfalso; omega
                                    · replace c_45 : ¬ z17 = 0 := fun h => c_45 ((iz_eq (Int.le_trans (by decide) z17_a) (Int.le_trans z17_b (by decide))).mpr h)
                                      refine lv_iconst (v := iI 2) hx hb dX12_go_385 (by decide +kernel) ?_
                                      refine lv_goto (tgt := 390) hx hb dX12_go_386 (by decide) ?_
                                      refine r_put (ws' := [(a0, .inr (11, [.int r0, .ref a1, .int (iI x0), .int (iI x1), .int (iI x2), .int (iI z21), .int (iI z1), .int (iI 2), .int fr22, .int (iI x6), .int (iI x7), .int (iI x8), .long fy20, .int (iI x9), .ref a2, .ref a3, .ref a4, .ref a5, .ref a6, .ref a7, .ref a8, .ref a9, .ref a10, .ref a11, .int (iI x10), .ref a12, .ref a13, .ref a14, .ref a15, .int (iI x11), .int r2, .int r3, .ref a16, .int (iI x12), .int (iI x13), .ref a17, .ref a18, .int (iI x14), .ref a19, .int (iI x15), .int r4, .ref a20, .ref a21, .int (iI x16), .int r5, .ref a22, .int (iI x17), .int (iI x18), .int (iI x19), .int (iI x20)])), (a1, .inl (T 0, 940, .inl (cI f0)))]) M w 0 7 clX12 rfl (by decide) G1470 rfl rfl rfl rfl (Nat.le_of_ble_eq_true rfl) rfl dX12_go_390 (fun H locs w => ?_)
                                      exact ret (z21, z1, 2, fr22, x6, fy20) _ _ _ _ _ [0, 1] dX12_go_393 ⟨z21_a, z21_b, z1_a, z1_b, (show (0 : Int) ≤ 2 from by decide), (show (2 : Int) ≤ 4 from by decide), x6_a, x6_b, (show 0 ≤ (z21 - x3) from by omega), (show 0 ≤ (((z21 - x3) - 2) + 3) from by omega), (show gT (tkAt f0 x1 x2 x3) 2 z1 z21 fy20 fr22 x6 from (by rw [tk_run (lq1_s.trans (sk_e (by omega))) (by omega) (by omega) (Or.inl (lq_1 pq15 (by omega))) (lq2_r.trans (rn_e (ta_E pq25 pq30 (by omega) pq33 pq38 (by omega))))]; exact ⟨rfl, rfl, go_fin lq2_a lq2_g pq19 (lq2_r.trans (rn_e (ta_E pq25 pq30 (by omega) pq33 pq38 (by omega)))) (by omega) (Or.inl (lq_1 pq15 (by omega))) lq2_w (by omega)⟩))⟩ w (by decide) rfl
                                  · replace c_44 : 7 < (z21 - z1) := Int.not_le.mp (fun h => c_44 ((iI_le (by omega) (by omega) (by decide) (by decide)).mpr h))
                                    refine lv_iconst (v := iI 1) hx hb dX12_go_377 (by decide +kernel) ?_
                                    refine lv_goto (tgt := 390) hx hb dX12_go_378 (by decide) ?_
                                    refine r_put (ws' := [(a0, .inr (11, [.int r0, .ref a1, .int (iI x0), .int (iI x1), .int (iI x2), .int (iI z21), .int (iI z1), .int (iI 1), .int fr22, .int (iI x6), .int (iI x7), .int (iI x8), .long fy20, .int (iI x9), .ref a2, .ref a3, .ref a4, .ref a5, .ref a6, .ref a7, .ref a8, .ref a9, .ref a10, .ref a11, .int (iI x10), .ref a12, .ref a13, .ref a14, .ref a15, .int (iI x11), .int r2, .int r3, .ref a16, .int (iI x12), .int (iI x13), .ref a17, .ref a18, .int (iI x14), .ref a19, .int (iI x15), .int r4, .ref a20, .ref a21, .int (iI x16), .int r5, .ref a22, .int (iI x17), .int (iI x18), .int (iI x19), .int (iI x20)])), (a1, .inl (T 0, 940, .inl (cI f0)))]) M w 0 7 clX12 rfl (by decide) G1470 rfl rfl rfl rfl (Nat.le_of_ble_eq_true rfl) rfl dX12_go_390 (fun H locs w => ?_)
                                    exact ret (z21, z1, 1, fr22, x6, fy20) _ _ _ _ _ [0, 1] dX12_go_393 ⟨z21_a, z21_b, z1_a, z1_b, (show (0 : Int) ≤ 1 from by decide), (show (1 : Int) ≤ 4 from by decide), x6_a, x6_b, (show 0 ≤ (z21 - x3) from by omega), (show 0 ≤ (((z21 - x3) - 1) + 3) from by omega), (show gT (tkAt f0 x1 x2 x3) 1 z1 z21 fy20 fr22 x6 from (by rw [tk_run (lq1_s.trans (sk_e (by omega))) (by omega) (by omega) (Or.inl (lq_1 pq15 (by omega))) (lq2_r.trans (rn_e (ta_E pq25 pq30 (by omega) pq33 pq38 (by omega))))]; exact ⟨rfl, rfl, go_fin lq2_a lq2_g pq19 (lq2_r.trans (rn_e (ta_E pq25 pq30 (by omega) pq33 pq38 (by omega)))) (by omega) (Or.inl (lq_1 pq15 (by omega))) lq2_w (by omega)⟩))⟩ w (by decide) rfl
                            · replace c_39 : ¬ z36 = 0 := fun h => c_39 ((iz_eq (Int.le_trans (by decide) z36_a) (Int.le_trans z36_b (by decide))).mpr h)
                              exfalso; omega
                          · exfalso; omega
                      · refine k_I (ce := 0) (sl := 0) (rest := []) (wr := [(a0, .inr (11, [.int r0, .ref a1, .int (iI x0), .int (iI x1), .int (iI x2), .int (iI z21), .int (iI z1), .int (iI x5), .int fr22, .int (iI x6), .int (iI x7), .int (iI x8), .long fy20, .int (iI x9), .ref a2, .ref a3, .ref a4, .ref a5, .ref a6, .ref a7, .ref a8, .ref a9, .ref a10, .ref a11, .int (iI x10), .ref a12, .ref a13, .ref a14, .ref a15, .int (iI x11), .int r2, .int r3, .ref a16, .int (iI x12), .int (iI x13), .ref a17, .ref a18, .int (iI x14), .ref a19, .int (iI x15), .int r4, .ref a20, .ref a21, .int (iI x16), .int r5, .ref a22, .int (iI x17), .int (iI x18), .int (iI x19), .int (iI x20)])), (a1, .inl (T 0, 940, .inl (cI f0)))]) (r_S (f := 0) [] M w V_HookedCityModel_33 G1632 (c11_X12_isLetter l D T _ z24 z24_a z24_b) rfl (by decide) rfl hl.1 rfl (Nat.le_of_ble_eq_true rfl) dX12_go_223 (by decide) (by decide) (by decide) (by decide)) w [] [0, 1] rfl rfl (by decide) (by decide) rfl rfl (fun v z46 H locs hp w => ?_)
                        have hv : iI z46 = v := hp.1
                        subst hv
                        have z46_a : 0 ≤ z46 := hp.2.1
                        have z46_b : z46 ≤ 1 := hp.2.2.1
                        have ee47 : 0 ≤ ((z24 + 4294967296) - (z46 * 4294967393)) := hp.2.2.2.1
                        have pq48 : lq z46 z24 97 122 := hp.2.2.2.2
                        have w : WD D A s.heap [(a0, .inr (11, [.int r0, .ref a1, .int (iI x0), .int (iI x1), .int (iI x2), .int (iI z21), .int (iI z1), .int (iI x5), .int fr22, .int (iI x6), .int (iI x7), .int (iI x8), .long fy20, .int (iI x9), .ref a2, .ref a3, .ref a4, .ref a5, .ref a6, .ref a7, .ref a8, .ref a9, .ref a10, .ref a11, .int (iI x10), .ref a12, .ref a13, .ref a14, .ref a15, .int (iI x11), .int r2, .int r3, .ref a16, .int (iI x12), .int (iI x13), .ref a17, .ref a18, .int (iI x14), .ref a19, .int (iI x15), .int r4, .ref a20, .ref a21, .int (iI x16), .int r5, .ref a22, .int (iI x17), .int (iI x18), .int (iI x19), .int (iI x20)])), (a1, .inl (T 0, 940, .inl (cI f0)))] H locs := w
                        refine lv_if_ne (tgt := 243) hx hb dX12_go_226 (by decide) (fun c_49 => ?_) (fun c_49 => ?_)
                        · replace c_49 : ¬ z46 = 0 := fun h => c_49 ((iz_eq (Int.le_trans (by decide) z46_a) (Int.le_trans z46_b (by decide))).mpr h)
                          refine lv_aload_n hx hb dX12_go_243 rfl (lv_at hl 3 rfl) ?_
                          refine r_get (v := .ref a1) M w 0 1 clX12 rfl (by decide) G1464 rfl rfl dX12_go_244 ?_
                          refine lv_aload_n hx hb dX12_go_247 rfl (lv_at hl 3 rfl) ?_
                          refine r_get (v := .int (iI z21)) M w 0 5 clX12 rfl (by decide) G1468 rfl rfl dX12_go_248 ?_
                          refine r_iald (v := iI (f0 z21)) M w 1 rfl (iI_in (by omega) (by omega) (by decide)) (cI_at (by omega) (by omega)) dX12_go_251 ?_
                          have hh50 : 0 ≤ (f0 z21) ∧ (f0 z21) ≤ 255 := f0_h z21
                          refine lv_istore (lv' := [(4, .int (iI (f0 z21))), (3, .int (iI z23)), (2, .int (iI z17)), (1, .int (iI (f0 z1))), (0, .ref a0)]) hx hb dX12_go_252 hl (by decide) rfl (fun ls hl => ?_)
                          refine lv_iload_n hx hb dX12_go_254 rfl (lv_at hl 1 rfl) ?_
                          refine lv_if_eq (tgt := 271) hx hb dX12_go_255 (by decide) (fun c_51 => ?_) (fun c_51 => ?_)
                          · replace c_51 := (iz_eq (Int.le_trans (by decide) z23_a) (Int.le_trans z23_b (by decide))).mp c_51
                            refine lv_iconst (v := iI 0) hx hb dX12_go_271 (by decide +kernel) ?_
                            refine lv_istore_n (lv' := [(3, .int (iI 0)), (4, .int (iI (f0 z21))), (2, .int (iI z17)), (1, .int (iI (f0 z1))), (0, .ref a0)]) hx hb dX12_go_272 rfl hl (by decide) rfl (fun ls hl => ?_)
                            refine lv_aload_n hx hb dX12_go_273 rfl (lv_at hl 4 rfl) ?_
                            refine r_get (v := .int (iI z21)) M w 0 5 clX12 rfl (by decide) G1468 rfl rfl dX12_go_274 ?_
                            refine lv_aload_n hx hb dX12_go_277 rfl (lv_at hl 4 rfl) ?_
                            refine r_get (v := .int (iI z1)) M w 0 6 clX12 rfl (by decide) G1469 rfl rfl dX12_go_278 ?_
                            refine r_isub (v := iI (z21 - z1)) M (iI_sub _ _) dX12_go_281 ?_
                            refine lv_bipush (v := iI 7) hx hb dX12_go_282 (by decide +kernel) ?_
                            refine lv_icmp_ge (tgt := 307) hx hb dX12_go_284 (by decide) (fun c_52 => ?_) (fun c_52 => ?_)
                            · replace c_52 := (iI_le (by decide) (by decide) (by omega) (by omega)).mp c_52
                              refine lv_aload_n hx hb dX12_go_307 rfl (lv_at hl 4 rfl) ?_
                              refine r_get (v := .int (iI z21)) M w 0 5 clX12 rfl (by decide) G1468 rfl rfl dX12_go_308 ?_
                              refine lv_aload_n hx hb dX12_go_311 rfl (lv_at hl 4 rfl) ?_
                              refine r_get (v := .int (iI z1)) M w 0 6 clX12 rfl (by decide) G1469 rfl rfl dX12_go_312 ?_
                              refine r_isub (v := iI (z21 - z1)) M (iI_sub _ _) dX12_go_315 ?_
                              refine lv_iconst (v := iI 3) hx hb dX12_go_316 (by decide +kernel) ?_
                              refine lv_icmp_ge (tgt := 337) hx hb dX12_go_317 (by decide) (fun c_53 => ?_) (fun c_53 => ?_)
                              · replace c_53 := (iI_le (by decide) (by decide) (by omega) (by omega)).mp c_53
                                refine lv_aload_n hx hb dX12_go_337 rfl (lv_at hl 4 rfl) ?_
                                refine lv_dup hx hb dX12_go_338 rfl ?_
                                refine r_get (v := .int (iI z21)) M w 0 5 clX12 rfl (by decide) G1468 rfl rfl dX12_go_339 ?_
                                refine lv_iconst (v := iI 1) hx hb dX12_go_342 (by decide +kernel) ?_
                                refine r_iadd (v := iI (z21 + 1)) M (iI_add _ _) dX12_go_343 ?_
                                refine r_put (ws' := [(a0, .inr (11, [.int r0, .ref a1, .int (iI x0), .int (iI x1), .int (iI x2), .int (iI (z21 + 1)), .int (iI z1), .int (iI x5), .int fr22, .int (iI x6), .int (iI x7), .int (iI x8), .long fy20, .int (iI x9), .ref a2, .ref a3, .ref a4, .ref a5, .ref a6, .ref a7, .ref a8, .ref a9, .ref a10, .ref a11, .int (iI x10), .ref a12, .ref a13, .ref a14, .ref a15, .int (iI x11), .int r2, .int r3, .ref a16, .int (iI x12), .int (iI x13), .ref a17, .ref a18, .int (iI x14), .ref a19, .int (iI x15), .int r4, .ref a20, .ref a21, .int (iI x16), .int r5, .ref a22, .int (iI x17), .int (iI x18), .int (iI x19), .int (iI x20)])), (a1, .inl (T 0, 940, .inl (cI f0)))]) M w 0 5 clX12 rfl (by decide) G1468 rfl rfl rfl rfl (Nat.le_of_ble_eq_true rfl) rfl dX12_go_344 (fun H locs w => ?_)
                                refine lv_goto (tgt := 215) hx hb dX12_go_347 (by decide) ?_
                                exact ih2 fy20 (z21 + 1) fr22 0 _ _ _ (by omega) (by omega) (by decide) (by decide) (by omega) (by omega) (lq2_r.trans (rn_t (ta_L pq25 pq48 (by omega)).1 (Or.inl (ta_L pq25 pq48 (by omega)).2))) (aR_s lq2_a (Or.inl (ta_L pq25 pq48 (by omega)).2)) (gd_z lq2_g (by omega)) (wI_s lq2_w (by omega) (f0_h _) (by first | exact Or.inl ⟨by omega, rfl⟩ | exact Or.inr ⟨by omega, rfl⟩) (by first | exact Or.inl ⟨by omega, rfl⟩ | exact Or.inr ⟨by omega, rfl⟩)) (by omega) w (lv_sub hl [0, 2, 3, 4] rfl)
                              · replace c_53 : (z21 - z1) < 3 := Int.not_le.mp (fun h => c_53 ((iI_le (by decide) (by decide) (by omega) (by omega)).mpr h))
                                exfalso; omega
                            · replace c_52 : (z21 - z1) < 7 := Int.not_le.mp (fun h => c_52 ((iI_le (by decide) (by decide) (by omega) (by omega)).mpr h))
                              refine lv_aload_n hx hb dX12_go_287 rfl (lv_at hl 4 rfl) ?_
                              refine lv_ldc2 (v := 27) hx hb M.1.2.2.2.1 (M.1.2.2.2.2 _ G1641) dX12_go_288 ?_
                              refine lv_aload_n hx hb dX12_go_291 rfl (lv_at hl 4 rfl) ?_
                              refine r_get (v := .long fy20) M w 0 12 clX12 rfl (by decide) G1475 rfl rfl dX12_go_292 ?_
                              refine r_lmul (v := (27 * fy20)) M rfl dX12_go_295 ?_
                              refine lv_iload hx hb dX12_go_296 (lv_at hl 1 rfl) ?_
                              refine lv_i2l (v := (Int32.toInt64 (iI (f0 z21)))) hx hb dX12_go_298 rfl ?_
                              refine r_ladd (v := ((27 * fy20) + (Int32.toInt64 (iI (f0 z21))))) M rfl dX12_go_299 ?_
                              refine lv_ldc2 (v := 96) hx hb M.1.2.2.2.1 (M.1.2.2.2.2 _ G1642) dX12_go_300 ?_
                              refine r_lsub (v := (((27 * fy20) + (Int32.toInt64 (iI (f0 z21)))) - 96)) M rfl dX12_go_303 ?_
                              refine r_put (ws' := [(a0, .inr (11, [.int r0, .ref a1, .int (iI x0), .int (iI x1), .int (iI x2), .int (iI z21), .int (iI z1), .int (iI x5), .int fr22, .int (iI x6), .int (iI x7), .int (iI x8), .long (((27 * fy20) + (Int32.toInt64 (iI (f0 z21)))) - 96), .int (iI x9), .ref a2, .ref a3, .ref a4, .ref a5, .ref a6, .ref a7, .ref a8, .ref a9, .ref a10, .ref a11, .int (iI x10), .ref a12, .ref a13, .ref a14, .ref a15, .int (iI x11), .int r2, .int r3, .ref a16, .int (iI x12), .int (iI x13), .ref a17, .ref a18, .int (iI x14), .ref a19, .int (iI x15), .int r4, .ref a20, .ref a21, .int (iI x16), .int r5, .ref a22, .int (iI x17), .int (iI x18), .int (iI x19), .int (iI x20)])), (a1, .inl (T 0, 940, .inl (cI f0)))]) M w 0 12 clX12 rfl (by decide) G1475 rfl rfl rfl rfl (Nat.le_of_ble_eq_true rfl) rfl dX12_go_304 (fun H locs w => ?_)
                              refine lv_aload_n hx hb dX12_go_307 rfl (lv_at hl 4 rfl) ?_
                              refine r_get (v := .int (iI z21)) M w 0 5 clX12 rfl (by decide) G1468 rfl rfl dX12_go_308 ?_
                              refine lv_aload_n hx hb dX12_go_311 rfl (lv_at hl 4 rfl) ?_
                              refine r_get (v := .int (iI z1)) M w 0 6 clX12 rfl (by decide) G1469 rfl rfl dX12_go_312 ?_
                              refine r_isub (v := iI (z21 - z1)) M (iI_sub _ _) dX12_go_315 ?_
                              refine lv_iconst (v := iI 3) hx hb dX12_go_316 (by decide +kernel) ?_
                              refine lv_icmp_ge (tgt := 337) hx hb dX12_go_317 (by decide) (fun c_54 => ?_) (fun c_54 => ?_)
                              · replace c_54 := (iI_le (by decide) (by decide) (by omega) (by omega)).mp c_54
                                refine lv_aload_n hx hb dX12_go_337 rfl (lv_at hl 4 rfl) ?_
                                refine lv_dup hx hb dX12_go_338 rfl ?_
                                refine r_get (v := .int (iI z21)) M w 0 5 clX12 rfl (by decide) G1468 rfl rfl dX12_go_339 ?_
                                refine lv_iconst (v := iI 1) hx hb dX12_go_342 (by decide +kernel) ?_
                                refine r_iadd (v := iI (z21 + 1)) M (iI_add _ _) dX12_go_343 ?_
                                refine r_put (ws' := [(a0, .inr (11, [.int r0, .ref a1, .int (iI x0), .int (iI x1), .int (iI x2), .int (iI (z21 + 1)), .int (iI z1), .int (iI x5), .int fr22, .int (iI x6), .int (iI x7), .int (iI x8), .long (((27 * fy20) + (Int32.toInt64 (iI (f0 z21)))) - 96), .int (iI x9), .ref a2, .ref a3, .ref a4, .ref a5, .ref a6, .ref a7, .ref a8, .ref a9, .ref a10, .ref a11, .int (iI x10), .ref a12, .ref a13, .ref a14, .ref a15, .int (iI x11), .int r2, .int r3, .ref a16, .int (iI x12), .int (iI x13), .ref a17, .ref a18, .int (iI x14), .ref a19, .int (iI x15), .int r4, .ref a20, .ref a21, .int (iI x16), .int r5, .ref a22, .int (iI x17), .int (iI x18), .int (iI x19), .int (iI x20)])), (a1, .inl (T 0, 940, .inl (cI f0)))]) M w 0 5 clX12 rfl (by decide) G1468 rfl rfl rfl rfl (Nat.le_of_ble_eq_true rfl) rfl dX12_go_344 (fun H locs w => ?_)
                                refine lv_goto (tgt := 215) hx hb dX12_go_347 (by decide) ?_
                                exact ih2 (((27 * fy20) + (Int32.toInt64 (iI (f0 z21)))) - 96) (z21 + 1) fr22 0 _ _ _ (by omega) (by omega) (by decide) (by decide) (by omega) (by omega) (lq2_r.trans (rn_t (ta_L pq25 pq48 (by omega)).1 (Or.inl (ta_L pq25 pq48 (by omega)).2))) (aR_s lq2_a (Or.inl (ta_L pq25 pq48 (by omega)).2)) (gd_z lq2_g (by omega)) (wI_s lq2_w (by omega) (f0_h _) (by first | exact Or.inl ⟨by omega, rfl⟩ | exact Or.inr ⟨by omega, rfl⟩) (by first | exact Or.inl ⟨by omega, rfl⟩ | exact Or.inr ⟨by omega, rfl⟩)) (by omega) w (lv_sub hl [0, 2, 3, 4] rfl)
                              · replace c_54 : (z21 - z1) < 3 := Int.not_le.mp (fun h => c_54 ((iI_le (by decide) (by decide) (by omega) (by omega)).mpr h))
                                refine lv_aload_n hx hb dX12_go_320 rfl (lv_at hl 4 rfl) ?_
                                refine lv_bipush (v := iI 10) hx hb dX12_go_321 (by decide +kernel) ?_
                                refine lv_aload_n hx hb dX12_go_323 rfl (lv_at hl 4 rfl) ?_
                                refine r_get (v := .int fr22) M w 0 8 clX12 rfl (by decide) G1471 rfl rfl dX12_go_324 ?_
                                refine r_imul (v := ((iI 10) * fr22)) M rfl dX12_go_327 ?_
                                refine lv_iload hx hb dX12_go_328 (lv_at hl 1 rfl) ?_
                                refine r_iadd (v := (((iI 10) * fr22) + (iI (f0 z21)))) M rfl dX12_go_330 ?_
                                refine lv_bipush (v := iI 48) hx hb dX12_go_331 (by decide +kernel) ?_
                                refine r_isub (v := ((((iI 10) * fr22) + (iI (f0 z21))) - (iI 48))) M rfl dX12_go_333 ?_
                                refine r_put (ws' := [(a0, .inr (11, [.int r0, .ref a1, .int (iI x0), .int (iI x1), .int (iI x2), .int (iI z21), .int (iI z1), .int (iI x5), .int ((((iI 10) * fr22) + (iI (f0 z21))) - (iI 48)), .int (iI x6), .int (iI x7), .int (iI x8), .long (((27 * fy20) + (Int32.toInt64 (iI (f0 z21)))) - 96), .int (iI x9), .ref a2, .ref a3, .ref a4, .ref a5, .ref a6, .ref a7, .ref a8, .ref a9, .ref a10, .ref a11, .int (iI x10), .ref a12, .ref a13, .ref a14, .ref a15, .int (iI x11), .int r2, .int r3, .ref a16, .int (iI x12), .int (iI x13), .ref a17, .ref a18, .int (iI x14), .ref a19, .int (iI x15), .int r4, .ref a20, .ref a21, .int (iI x16), .int r5, .ref a22, .int (iI x17), .int (iI x18), .int (iI x19), .int (iI x20)])), (a1, .inl (T 0, 940, .inl (cI f0)))]) M w 0 8 clX12 rfl (by decide) G1471 rfl rfl rfl rfl (Nat.le_of_ble_eq_true rfl) rfl dX12_go_334 (fun H locs w => ?_)
                                refine lv_aload_n hx hb dX12_go_337 rfl (lv_at hl 4 rfl) ?_
                                refine lv_dup hx hb dX12_go_338 rfl ?_
                                refine r_get (v := .int (iI z21)) M w 0 5 clX12 rfl (by decide) G1468 rfl rfl dX12_go_339 ?_
                                refine lv_iconst (v := iI 1) hx hb dX12_go_342 (by decide +kernel) ?_
                                refine r_iadd (v := iI (z21 + 1)) M (iI_add _ _) dX12_go_343 ?_
                                refine r_put (ws' := [(a0, .inr (11, [.int r0, .ref a1, .int (iI x0), .int (iI x1), .int (iI x2), .int (iI (z21 + 1)), .int (iI z1), .int (iI x5), .int ((((iI 10) * fr22) + (iI (f0 z21))) - (iI 48)), .int (iI x6), .int (iI x7), .int (iI x8), .long (((27 * fy20) + (Int32.toInt64 (iI (f0 z21)))) - 96), .int (iI x9), .ref a2, .ref a3, .ref a4, .ref a5, .ref a6, .ref a7, .ref a8, .ref a9, .ref a10, .ref a11, .int (iI x10), .ref a12, .ref a13, .ref a14, .ref a15, .int (iI x11), .int r2, .int r3, .ref a16, .int (iI x12), .int (iI x13), .ref a17, .ref a18, .int (iI x14), .ref a19, .int (iI x15), .int r4, .ref a20, .ref a21, .int (iI x16), .int r5, .ref a22, .int (iI x17), .int (iI x18), .int (iI x19), .int (iI x20)])), (a1, .inl (T 0, 940, .inl (cI f0)))]) M w 0 5 clX12 rfl (by decide) G1468 rfl rfl rfl rfl (Nat.le_of_ble_eq_true rfl) rfl dX12_go_344 (fun H locs w => ?_)
                                refine lv_goto (tgt := 215) hx hb dX12_go_347 (by decide) ?_
                                exact ih2 (((27 * fy20) + (Int32.toInt64 (iI (f0 z21)))) - 96) (z21 + 1) ((((iI 10) * fr22) + (iI (f0 z21))) - (iI 48)) 0 _ _ _ (by omega) (by omega) (by decide) (by decide) (by omega) (by omega) (lq2_r.trans (rn_t (ta_L pq25 pq48 (by omega)).1 (Or.inl (ta_L pq25 pq48 (by omega)).2))) (aR_s lq2_a (Or.inl (ta_L pq25 pq48 (by omega)).2)) (gd_z lq2_g (by omega)) (wI_s lq2_w (by omega) (f0_h _) (by first | exact Or.inl ⟨by omega, rfl⟩ | exact Or.inr ⟨by omega, rfl⟩) (by first | exact Or.inl ⟨by omega, rfl⟩ | exact Or.inr ⟨by omega, rfl⟩)) (by omega) w (lv_sub hl [0, 2, 3, 4] rfl)
                          · replace c_51 : ¬ z23 = 0 := fun h => c_51 ((iz_eq (Int.le_trans (by decide) z23_a) (Int.le_trans z23_b (by decide))).mpr h)
                            refine lv_iload hx hb dX12_go_258 (lv_at hl 0 rfl) ?_
                            refine k_I (ce := 0) (sl := 0) (rest := []) (wr := [(a0, .inr (11, [.int r0, .ref a1, .int (iI x0), .int (iI x1), .int (iI x2), .int (iI z21), .int (iI z1), .int (iI x5), .int fr22, .int (iI x6), .int (iI x7), .int (iI x8), .long fy20, .int (iI x9), .ref a2, .ref a3, .ref a4, .ref a5, .ref a6, .ref a7, .ref a8, .ref a9, .ref a10, .ref a11, .int (iI x10), .ref a12, .ref a13, .ref a14, .ref a15, .int (iI x11), .int r2, .int r3, .ref a16, .int (iI x12), .int (iI x13), .ref a17, .ref a18, .int (iI x14), .ref a19, .int (iI x15), .int r4, .ref a20, .ref a21, .int (iI x16), .int r5, .ref a22, .int (iI x17), .int (iI x18), .int (iI x19), .int (iI x20)])), (a1, .inl (T 0, 940, .inl (cI f0)))]) (r_S (f := 0) [] M w V_HookedCityModel_33 G1632 (c11_X12_isLetter l D T _ (f0 z21) (by omega) (by omega)) rfl (by decide) rfl hl.1 rfl (Nat.le_of_ble_eq_true rfl) dX12_go_260 (by decide) (by decide) (by decide) (by decide)) w [] [0, 1] rfl rfl (by decide) (by decide) rfl rfl (fun v z55 H locs hp w => ?_)
                            have hv : iI z55 = v := hp.1
                            subst hv
                            have z55_a : 0 ≤ z55 := hp.2.1
                            have z55_b : z55 ≤ 1 := hp.2.2.1
                            have ee56 : 0 ≤ (((f0 z21) + 4294967296) - (z55 * 4294967393)) := hp.2.2.2.1
                            have pq57 : lq z55 (f0 z21) 97 122 := hp.2.2.2.2
                            have w : WD D A s.heap [(a0, .inr (11, [.int r0, .ref a1, .int (iI x0), .int (iI x1), .int (iI x2), .int (iI z21), .int (iI z1), .int (iI x5), .int fr22, .int (iI x6), .int (iI x7), .int (iI x8), .long fy20, .int (iI x9), .ref a2, .ref a3, .ref a4, .ref a5, .ref a6, .ref a7, .ref a8, .ref a9, .ref a10, .ref a11, .int (iI x10), .ref a12, .ref a13, .ref a14, .ref a15, .int (iI x11), .int r2, .int r3, .ref a16, .int (iI x12), .int (iI x13), .ref a17, .ref a18, .int (iI x14), .ref a19, .int (iI x15), .int r4, .ref a20, .ref a21, .int (iI x16), .int r5, .ref a22, .int (iI x17), .int (iI x18), .int (iI x19), .int (iI x20)])), (a1, .inl (T 0, 940, .inl (cI f0)))] H locs := w
                            refine lv_iload_n hx hb dX12_go_263 rfl (lv_at hl 2 rfl) ?_
                            refine lv_icmp_ne (tgt := 271) hx hb dX12_go_264 (by decide) (fun c_58 => ?_) (fun c_58 => ?_)
                            · replace c_58 : ¬ z55 = z17 := fun h => c_58 ((iI_eq (Int.le_trans (by decide) z55_a) (Int.le_trans z55_b (by decide)) (Int.le_trans (by decide) z17_a) (Int.le_trans z17_b (by decide))).mpr h)
                              refine lv_iconst (v := iI 0) hx hb dX12_go_271 (by decide +kernel) ?_
                              refine lv_istore_n (lv' := [(3, .int (iI 0)), (4, .int (iI (f0 z21))), (2, .int (iI z17)), (1, .int (iI (f0 z1))), (0, .ref a0)]) hx hb dX12_go_272 rfl hl (by decide) rfl (fun ls hl => ?_)
                              refine lv_aload_n hx hb dX12_go_273 rfl (lv_at hl 4 rfl) ?_
                              refine r_get (v := .int (iI z21)) M w 0 5 clX12 rfl (by decide) G1468 rfl rfl dX12_go_274 ?_
                              refine lv_aload_n hx hb dX12_go_277 rfl (lv_at hl 4 rfl) ?_
                              refine r_get (v := .int (iI z1)) M w 0 6 clX12 rfl (by decide) G1469 rfl rfl dX12_go_278 ?_
                              refine r_isub (v := iI (z21 - z1)) M (iI_sub _ _) dX12_go_281 ?_
                              refine lv_bipush (v := iI 7) hx hb dX12_go_282 (by decide +kernel) ?_
                              refine lv_icmp_ge (tgt := 307) hx hb dX12_go_284 (by decide) (fun c_59 => ?_) (fun c_59 => ?_)
                              · replace c_59 := (iI_le (by decide) (by decide) (by omega) (by omega)).mp c_59
                                refine lv_aload_n hx hb dX12_go_307 rfl (lv_at hl 4 rfl) ?_
                                refine r_get (v := .int (iI z21)) M w 0 5 clX12 rfl (by decide) G1468 rfl rfl dX12_go_308 ?_
                                refine lv_aload_n hx hb dX12_go_311 rfl (lv_at hl 4 rfl) ?_
                                refine r_get (v := .int (iI z1)) M w 0 6 clX12 rfl (by decide) G1469 rfl rfl dX12_go_312 ?_
                                refine r_isub (v := iI (z21 - z1)) M (iI_sub _ _) dX12_go_315 ?_
                                refine lv_iconst (v := iI 3) hx hb dX12_go_316 (by decide +kernel) ?_
                                refine lv_icmp_ge (tgt := 337) hx hb dX12_go_317 (by decide) (fun c_60 => ?_) (fun c_60 => ?_)
                                · replace c_60 := (iI_le (by decide) (by decide) (by omega) (by omega)).mp c_60
                                  refine lv_aload_n hx hb dX12_go_337 rfl (lv_at hl 4 rfl) ?_
                                  refine lv_dup hx hb dX12_go_338 rfl ?_
                                  refine r_get (v := .int (iI z21)) M w 0 5 clX12 rfl (by decide) G1468 rfl rfl dX12_go_339 ?_
                                  refine lv_iconst (v := iI 1) hx hb dX12_go_342 (by decide +kernel) ?_
                                  refine r_iadd (v := iI (z21 + 1)) M (iI_add _ _) dX12_go_343 ?_
                                  refine r_put (ws' := [(a0, .inr (11, [.int r0, .ref a1, .int (iI x0), .int (iI x1), .int (iI x2), .int (iI (z21 + 1)), .int (iI z1), .int (iI x5), .int fr22, .int (iI x6), .int (iI x7), .int (iI x8), .long fy20, .int (iI x9), .ref a2, .ref a3, .ref a4, .ref a5, .ref a6, .ref a7, .ref a8, .ref a9, .ref a10, .ref a11, .int (iI x10), .ref a12, .ref a13, .ref a14, .ref a15, .int (iI x11), .int r2, .int r3, .ref a16, .int (iI x12), .int (iI x13), .ref a17, .ref a18, .int (iI x14), .ref a19, .int (iI x15), .int r4, .ref a20, .ref a21, .int (iI x16), .int r5, .ref a22, .int (iI x17), .int (iI x18), .int (iI x19), .int (iI x20)])), (a1, .inl (T 0, 940, .inl (cI f0)))]) M w 0 5 clX12 rfl (by decide) G1468 rfl rfl rfl rfl (Nat.le_of_ble_eq_true rfl) rfl dX12_go_344 (fun H locs w => ?_)
                                  refine lv_goto (tgt := 215) hx hb dX12_go_347 (by decide) ?_
                                  exact ih2 fy20 (z21 + 1) fr22 0 _ _ _ (by omega) (by omega) (by decide) (by decide) (by omega) (by omega) (lq2_r.trans (rn_t (ta_L pq25 pq48 (by omega)).1 (Or.inl (ta_L pq25 pq48 (by omega)).2))) (aR_s lq2_a (Or.inl (ta_L pq25 pq48 (by omega)).2)) (gd_q lq2_g (by omega) pq57 (by omega) (by omega) (by omega) (by omega) (by omega) (by omega)) (wI_s lq2_w (by omega) (f0_h _) (by first | exact Or.inl ⟨by omega, rfl⟩ | exact Or.inr ⟨by omega, rfl⟩) (by first | exact Or.inl ⟨by omega, rfl⟩ | exact Or.inr ⟨by omega, rfl⟩)) (by omega) w (lv_sub hl [0, 2, 3, 4] rfl)
                                · replace c_60 : (z21 - z1) < 3 := Int.not_le.mp (fun h => c_60 ((iI_le (by decide) (by decide) (by omega) (by omega)).mpr h))
                                  exfalso; omega
                              · replace c_59 : (z21 - z1) < 7 := Int.not_le.mp (fun h => c_59 ((iI_le (by decide) (by decide) (by omega) (by omega)).mpr h))
                                refine lv_aload_n hx hb dX12_go_287 rfl (lv_at hl 4 rfl) ?_
                                refine lv_ldc2 (v := 27) hx hb M.1.2.2.2.1 (M.1.2.2.2.2 _ G1641) dX12_go_288 ?_
                                refine lv_aload_n hx hb dX12_go_291 rfl (lv_at hl 4 rfl) ?_
                                refine r_get (v := .long fy20) M w 0 12 clX12 rfl (by decide) G1475 rfl rfl dX12_go_292 ?_
                                refine r_lmul (v := (27 * fy20)) M rfl dX12_go_295 ?_
                                refine lv_iload hx hb dX12_go_296 (lv_at hl 1 rfl) ?_
                                refine lv_i2l (v := (Int32.toInt64 (iI (f0 z21)))) hx hb dX12_go_298 rfl ?_
                                refine r_ladd (v := ((27 * fy20) + (Int32.toInt64 (iI (f0 z21))))) M rfl dX12_go_299 ?_
                                refine lv_ldc2 (v := 96) hx hb M.1.2.2.2.1 (M.1.2.2.2.2 _ G1642) dX12_go_300 ?_
                                refine r_lsub (v := (((27 * fy20) + (Int32.toInt64 (iI (f0 z21)))) - 96)) M rfl dX12_go_303 ?_
                                refine r_put (ws' := [(a0, .inr (11, [.int r0, .ref a1, .int (iI x0), .int (iI x1), .int (iI x2), .int (iI z21), .int (iI z1), .int (iI x5), .int fr22, .int (iI x6), .int (iI x7), .int (iI x8), .long (((27 * fy20) + (Int32.toInt64 (iI (f0 z21)))) - 96), .int (iI x9), .ref a2, .ref a3, .ref a4, .ref a5, .ref a6, .ref a7, .ref a8, .ref a9, .ref a10, .ref a11, .int (iI x10), .ref a12, .ref a13, .ref a14, .ref a15, .int (iI x11), .int r2, .int r3, .ref a16, .int (iI x12), .int (iI x13), .ref a17, .ref a18, .int (iI x14), .ref a19, .int (iI x15), .int r4, .ref a20, .ref a21, .int (iI x16), .int r5, .ref a22, .int (iI x17), .int (iI x18), .int (iI x19), .int (iI x20)])), (a1, .inl (T 0, 940, .inl (cI f0)))]) M w 0 12 clX12 rfl (by decide) G1475 rfl rfl rfl rfl (Nat.le_of_ble_eq_true rfl) rfl dX12_go_304 (fun H locs w => ?_)
                                refine lv_aload_n hx hb dX12_go_307 rfl (lv_at hl 4 rfl) ?_
                                refine r_get (v := .int (iI z21)) M w 0 5 clX12 rfl (by decide) G1468 rfl rfl dX12_go_308 ?_
                                refine lv_aload_n hx hb dX12_go_311 rfl (lv_at hl 4 rfl) ?_
                                refine r_get (v := .int (iI z1)) M w 0 6 clX12 rfl (by decide) G1469 rfl rfl dX12_go_312 ?_
                                refine r_isub (v := iI (z21 - z1)) M (iI_sub _ _) dX12_go_315 ?_
                                refine lv_iconst (v := iI 3) hx hb dX12_go_316 (by decide +kernel) ?_
                                refine lv_icmp_ge (tgt := 337) hx hb dX12_go_317 (by decide) (fun c_61 => ?_) (fun c_61 => ?_)
                                · replace c_61 := (iI_le (by decide) (by decide) (by omega) (by omega)).mp c_61
                                  refine lv_aload_n hx hb dX12_go_337 rfl (lv_at hl 4 rfl) ?_
                                  refine lv_dup hx hb dX12_go_338 rfl ?_
                                  refine r_get (v := .int (iI z21)) M w 0 5 clX12 rfl (by decide) G1468 rfl rfl dX12_go_339 ?_
                                  refine lv_iconst (v := iI 1) hx hb dX12_go_342 (by decide +kernel) ?_
                                  refine r_iadd (v := iI (z21 + 1)) M (iI_add _ _) dX12_go_343 ?_
                                  refine r_put (ws' := [(a0, .inr (11, [.int r0, .ref a1, .int (iI x0), .int (iI x1), .int (iI x2), .int (iI (z21 + 1)), .int (iI z1), .int (iI x5), .int fr22, .int (iI x6), .int (iI x7), .int (iI x8), .long (((27 * fy20) + (Int32.toInt64 (iI (f0 z21)))) - 96), .int (iI x9), .ref a2, .ref a3, .ref a4, .ref a5, .ref a6, .ref a7, .ref a8, .ref a9, .ref a10, .ref a11, .int (iI x10), .ref a12, .ref a13, .ref a14, .ref a15, .int (iI x11), .int r2, .int r3, .ref a16, .int (iI x12), .int (iI x13), .ref a17, .ref a18, .int (iI x14), .ref a19, .int (iI x15), .int r4, .ref a20, .ref a21, .int (iI x16), .int r5, .ref a22, .int (iI x17), .int (iI x18), .int (iI x19), .int (iI x20)])), (a1, .inl (T 0, 940, .inl (cI f0)))]) M w 0 5 clX12 rfl (by decide) G1468 rfl rfl rfl rfl (Nat.le_of_ble_eq_true rfl) rfl dX12_go_344 (fun H locs w => ?_)
                                  refine lv_goto (tgt := 215) hx hb dX12_go_347 (by decide) ?_
                                  exact ih2 (((27 * fy20) + (Int32.toInt64 (iI (f0 z21)))) - 96) (z21 + 1) fr22 0 _ _ _ (by omega) (by omega) (by decide) (by decide) (by omega) (by omega) (lq2_r.trans (rn_t (ta_L pq25 pq48 (by omega)).1 (Or.inl (ta_L pq25 pq48 (by omega)).2))) (aR_s lq2_a (Or.inl (ta_L pq25 pq48 (by omega)).2)) (gd_q lq2_g (by omega) pq57 (by omega) (by omega) (by omega) (by omega) (by omega) (by omega)) (wI_s lq2_w (by omega) (f0_h _) (by first | exact Or.inl ⟨by omega, rfl⟩ | exact Or.inr ⟨by omega, rfl⟩) (by first | exact Or.inl ⟨by omega, rfl⟩ | exact Or.inr ⟨by omega, rfl⟩)) (by omega) w (lv_sub hl [0, 2, 3, 4] rfl)
                                · replace c_61 : (z21 - z1) < 3 := Int.not_le.mp (fun h => c_61 ((iI_le (by decide) (by decide) (by omega) (by omega)).mpr h))
                                  refine lv_aload_n hx hb dX12_go_320 rfl (lv_at hl 4 rfl) ?_
                                  refine lv_bipush (v := iI 10) hx hb dX12_go_321 (by decide +kernel) ?_
                                  refine lv_aload_n hx hb dX12_go_323 rfl (lv_at hl 4 rfl) ?_
                                  refine r_get (v := .int fr22) M w 0 8 clX12 rfl (by decide) G1471 rfl rfl dX12_go_324 ?_
                                  refine r_imul (v := ((iI 10) * fr22)) M rfl dX12_go_327 ?_
                                  refine lv_iload hx hb dX12_go_328 (lv_at hl 1 rfl) ?_
                                  refine r_iadd (v := (((iI 10) * fr22) + (iI (f0 z21)))) M rfl dX12_go_330 ?_
                                  refine lv_bipush (v := iI 48) hx hb dX12_go_331 (by decide +kernel) ?_
                                  refine r_isub (v := ((((iI 10) * fr22) + (iI (f0 z21))) - (iI 48))) M rfl dX12_go_333 ?_
                                  refine r_put (ws' := [(a0, .inr (11, [.int r0, .ref a1, .int (iI x0), .int (iI x1), .int (iI x2), .int (iI z21), .int (iI z1), .int (iI x5), .int ((((iI 10) * fr22) + (iI (f0 z21))) - (iI 48)), .int (iI x6), .int (iI x7), .int (iI x8), .long (((27 * fy20) + (Int32.toInt64 (iI (f0 z21)))) - 96), .int (iI x9), .ref a2, .ref a3, .ref a4, .ref a5, .ref a6, .ref a7, .ref a8, .ref a9, .ref a10, .ref a11, .int (iI x10), .ref a12, .ref a13, .ref a14, .ref a15, .int (iI x11), .int r2, .int r3, .ref a16, .int (iI x12), .int (iI x13), .ref a17, .ref a18, .int (iI x14), .ref a19, .int (iI x15), .int r4, .ref a20, .ref a21, .int (iI x16), .int r5, .ref a22, .int (iI x17), .int (iI x18), .int (iI x19), .int (iI x20)])), (a1, .inl (T 0, 940, .inl (cI f0)))]) M w 0 8 clX12 rfl (by decide) G1471 rfl rfl rfl rfl (Nat.le_of_ble_eq_true rfl) rfl dX12_go_334 (fun H locs w => ?_)
                                  refine lv_aload_n hx hb dX12_go_337 rfl (lv_at hl 4 rfl) ?_
                                  refine lv_dup hx hb dX12_go_338 rfl ?_
                                  refine r_get (v := .int (iI z21)) M w 0 5 clX12 rfl (by decide) G1468 rfl rfl dX12_go_339 ?_
                                  refine lv_iconst (v := iI 1) hx hb dX12_go_342 (by decide +kernel) ?_
                                  refine r_iadd (v := iI (z21 + 1)) M (iI_add _ _) dX12_go_343 ?_
                                  refine r_put (ws' := [(a0, .inr (11, [.int r0, .ref a1, .int (iI x0), .int (iI x1), .int (iI x2), .int (iI (z21 + 1)), .int (iI z1), .int (iI x5), .int ((((iI 10) * fr22) + (iI (f0 z21))) - (iI 48)), .int (iI x6), .int (iI x7), .int (iI x8), .long (((27 * fy20) + (Int32.toInt64 (iI (f0 z21)))) - 96), .int (iI x9), .ref a2, .ref a3, .ref a4, .ref a5, .ref a6, .ref a7, .ref a8, .ref a9, .ref a10, .ref a11, .int (iI x10), .ref a12, .ref a13, .ref a14, .ref a15, .int (iI x11), .int r2, .int r3, .ref a16, .int (iI x12), .int (iI x13), .ref a17, .ref a18, .int (iI x14), .ref a19, .int (iI x15), .int r4, .ref a20, .ref a21, .int (iI x16), .int r5, .ref a22, .int (iI x17), .int (iI x18), .int (iI x19), .int (iI x20)])), (a1, .inl (T 0, 940, .inl (cI f0)))]) M w 0 5 clX12 rfl (by decide) G1468 rfl rfl rfl rfl (Nat.le_of_ble_eq_true rfl) rfl dX12_go_344 (fun H locs w => ?_)
                                  refine lv_goto (tgt := 215) hx hb dX12_go_347 (by decide) ?_
                                  exact ih2 (((27 * fy20) + (Int32.toInt64 (iI (f0 z21)))) - 96) (z21 + 1) ((((iI 10) * fr22) + (iI (f0 z21))) - (iI 48)) 0 _ _ _ (by omega) (by omega) (by decide) (by decide) (by omega) (by omega) (lq2_r.trans (rn_t (ta_L pq25 pq48 (by omega)).1 (Or.inl (ta_L pq25 pq48 (by omega)).2))) (aR_s lq2_a (Or.inl (ta_L pq25 pq48 (by omega)).2)) (gd_q lq2_g (by omega) pq57 (by omega) (by omega) (by omega) (by omega) (by omega) (by omega)) (wI_s lq2_w (by omega) (f0_h _) (by first | exact Or.inl ⟨by omega, rfl⟩ | exact Or.inr ⟨by omega, rfl⟩) (by first | exact Or.inl ⟨by omega, rfl⟩ | exact Or.inr ⟨by omega, rfl⟩)) (by omega) w (lv_sub hl [0, 2, 3, 4] rfl)
                            · replace c_58 := (iI_eq (Int.le_trans (by decide) z55_a) (Int.le_trans z55_b (by decide)) (Int.le_trans (by decide) z17_a) (Int.le_trans z17_b (by decide))).mp c_58
                              refine lv_iconst (v := iI 1) hx hb dX12_go_267 (by decide +kernel) ?_
                              refine lv_goto (tgt := 272) hx hb dX12_go_268 (by decide) ?_
                              refine lv_istore_n (lv' := [(3, .int (iI 1)), (4, .int (iI (f0 z21))), (2, .int (iI z17)), (1, .int (iI (f0 z1))), (0, .ref a0)]) hx hb dX12_go_272 rfl hl (by decide) rfl (fun ls hl => ?_)
                              refine lv_aload_n hx hb dX12_go_273 rfl (lv_at hl 4 rfl) ?_
                              refine r_get (v := .int (iI z21)) M w 0 5 clX12 rfl (by decide) G1468 rfl rfl dX12_go_274 ?_
                              refine lv_aload_n hx hb dX12_go_277 rfl (lv_at hl 4 rfl) ?_
                              refine r_get (v := .int (iI z1)) M w 0 6 clX12 rfl (by decide) G1469 rfl rfl dX12_go_278 ?_
                              refine r_isub (v := iI (z21 - z1)) M (iI_sub _ _) dX12_go_281 ?_
                              refine lv_bipush (v := iI 7) hx hb dX12_go_282 (by decide +kernel) ?_
                              refine lv_icmp_ge (tgt := 307) hx hb dX12_go_284 (by decide) (fun c_62 => ?_) (fun c_62 => ?_)
                              · replace c_62 := (iI_le (by decide) (by decide) (by omega) (by omega)).mp c_62
                                refine lv_aload_n hx hb dX12_go_307 rfl (lv_at hl 4 rfl) ?_
                                refine r_get (v := .int (iI z21)) M w 0 5 clX12 rfl (by decide) G1468 rfl rfl dX12_go_308 ?_
                                refine lv_aload_n hx hb dX12_go_311 rfl (lv_at hl 4 rfl) ?_
                                refine r_get (v := .int (iI z1)) M w 0 6 clX12 rfl (by decide) G1469 rfl rfl dX12_go_312 ?_
                                refine r_isub (v := iI (z21 - z1)) M (iI_sub _ _) dX12_go_315 ?_
                                refine lv_iconst (v := iI 3) hx hb dX12_go_316 (by decide +kernel) ?_
                                refine lv_icmp_ge (tgt := 337) hx hb dX12_go_317 (by decide) (fun c_63 => ?_) (fun c_63 => ?_)
                                · replace c_63 := (iI_le (by decide) (by decide) (by omega) (by omega)).mp c_63
                                  refine lv_aload_n hx hb dX12_go_337 rfl (lv_at hl 4 rfl) ?_
                                  refine lv_dup hx hb dX12_go_338 rfl ?_
                                  refine r_get (v := .int (iI z21)) M w 0 5 clX12 rfl (by decide) G1468 rfl rfl dX12_go_339 ?_
                                  refine lv_iconst (v := iI 1) hx hb dX12_go_342 (by decide +kernel) ?_
                                  refine r_iadd (v := iI (z21 + 1)) M (iI_add _ _) dX12_go_343 ?_
                                  refine r_put (ws' := [(a0, .inr (11, [.int r0, .ref a1, .int (iI x0), .int (iI x1), .int (iI x2), .int (iI (z21 + 1)), .int (iI z1), .int (iI x5), .int fr22, .int (iI x6), .int (iI x7), .int (iI x8), .long fy20, .int (iI x9), .ref a2, .ref a3, .ref a4, .ref a5, .ref a6, .ref a7, .ref a8, .ref a9, .ref a10, .ref a11, .int (iI x10), .ref a12, .ref a13, .ref a14, .ref a15, .int (iI x11), .int r2, .int r3, .ref a16, .int (iI x12), .int (iI x13), .ref a17, .ref a18, .int (iI x14), .ref a19, .int (iI x15), .int r4, .ref a20, .ref a21, .int (iI x16), .int r5, .ref a22, .int (iI x17), .int (iI x18), .int (iI x19), .int (iI x20)])), (a1, .inl (T 0, 940, .inl (cI f0)))]) M w 0 5 clX12 rfl (by decide) G1468 rfl rfl rfl rfl (Nat.le_of_ble_eq_true rfl) rfl dX12_go_344 (fun H locs w => ?_)
                                  refine lv_goto (tgt := 215) hx hb dX12_go_347 (by decide) ?_
                                  exact ih2 fy20 (z21 + 1) fr22 1 _ _ _ (by omega) (by omega) (by decide) (by decide) (by omega) (by omega) (lq2_r.trans (rn_t (ta_L pq25 pq48 (by omega)).1 (Or.inl (ta_L pq25 pq48 (by omega)).2))) (aR_s lq2_a (Or.inl (ta_L pq25 pq48 (by omega)).2)) (gd_q lq2_g (by omega) pq57 (by omega) (by omega) (by omega) (by omega) (by omega) (by omega)) (wI_s lq2_w (by omega) (f0_h _) (by first | exact Or.inl ⟨by omega, rfl⟩ | exact Or.inr ⟨by omega, rfl⟩) (by first | exact Or.inl ⟨by omega, rfl⟩ | exact Or.inr ⟨by omega, rfl⟩)) (by omega) w (lv_sub hl [0, 2, 3, 4] rfl)
                                · replace c_63 : (z21 - z1) < 3 := Int.not_le.mp (fun h => c_63 ((iI_le (by decide) (by decide) (by omega) (by omega)).mpr h))
                                  exfalso; omega
                              · replace c_62 : (z21 - z1) < 7 := Int.not_le.mp (fun h => c_62 ((iI_le (by decide) (by decide) (by omega) (by omega)).mpr h))
                                refine lv_aload_n hx hb dX12_go_287 rfl (lv_at hl 4 rfl) ?_
                                refine lv_ldc2 (v := 27) hx hb M.1.2.2.2.1 (M.1.2.2.2.2 _ G1641) dX12_go_288 ?_
                                refine lv_aload_n hx hb dX12_go_291 rfl (lv_at hl 4 rfl) ?_
                                refine r_get (v := .long fy20) M w 0 12 clX12 rfl (by decide) G1475 rfl rfl dX12_go_292 ?_
                                refine r_lmul (v := (27 * fy20)) M rfl dX12_go_295 ?_
                                refine lv_iload hx hb dX12_go_296 (lv_at hl 1 rfl) ?_
                                refine lv_i2l (v := (Int32.toInt64 (iI (f0 z21)))) hx hb dX12_go_298 rfl ?_
                                refine r_ladd (v := ((27 * fy20) + (Int32.toInt64 (iI (f0 z21))))) M rfl dX12_go_299 ?_
                                refine lv_ldc2 (v := 96) hx hb M.1.2.2.2.1 (M.1.2.2.2.2 _ G1642) dX12_go_300 ?_
                                refine r_lsub (v := (((27 * fy20) + (Int32.toInt64 (iI (f0 z21)))) - 96)) M rfl dX12_go_303 ?_
                                refine r_put (ws' := [(a0, .inr (11, [.int r0, .ref a1, .int (iI x0), .int (iI x1), .int (iI x2), .int (iI z21), .int (iI z1), .int (iI x5), .int fr22, .int (iI x6), .int (iI x7), .int (iI x8), .long (((27 * fy20) + (Int32.toInt64 (iI (f0 z21)))) - 96), .int (iI x9), .ref a2, .ref a3, .ref a4, .ref a5, .ref a6, .ref a7, .ref a8, .ref a9, .ref a10, .ref a11, .int (iI x10), .ref a12, .ref a13, .ref a14, .ref a15, .int (iI x11), .int r2, .int r3, .ref a16, .int (iI x12), .int (iI x13), .ref a17, .ref a18, .int (iI x14), .ref a19, .int (iI x15), .int r4, .ref a20, .ref a21, .int (iI x16), .int r5, .ref a22, .int (iI x17), .int (iI x18), .int (iI x19), .int (iI x20)])), (a1, .inl (T 0, 940, .inl (cI f0)))]) M w 0 12 clX12 rfl (by decide) G1475 rfl rfl rfl rfl (Nat.le_of_ble_eq_true rfl) rfl dX12_go_304 (fun H locs w => ?_)
                                refine lv_aload_n hx hb dX12_go_307 rfl (lv_at hl 4 rfl) ?_
                                refine r_get (v := .int (iI z21)) M w 0 5 clX12 rfl (by decide) G1468 rfl rfl dX12_go_308 ?_
                                refine lv_aload_n hx hb dX12_go_311 rfl (lv_at hl 4 rfl) ?_
                                refine r_get (v := .int (iI z1)) M w 0 6 clX12 rfl (by decide) G1469 rfl rfl dX12_go_312 ?_
                                refine r_isub (v := iI (z21 - z1)) M (iI_sub _ _) dX12_go_315 ?_
                                refine lv_iconst (v := iI 3) hx hb dX12_go_316 (by decide +kernel) ?_
                                refine lv_icmp_ge (tgt := 337) hx hb dX12_go_317 (by decide) (fun c_64 => ?_) (fun c_64 => ?_)
                                · replace c_64 := (iI_le (by decide) (by decide) (by omega) (by omega)).mp c_64
                                  refine lv_aload_n hx hb dX12_go_337 rfl (lv_at hl 4 rfl) ?_
                                  refine lv_dup hx hb dX12_go_338 rfl ?_
                                  refine r_get (v := .int (iI z21)) M w 0 5 clX12 rfl (by decide) G1468 rfl rfl dX12_go_339 ?_
                                  refine lv_iconst (v := iI 1) hx hb dX12_go_342 (by decide +kernel) ?_
                                  refine r_iadd (v := iI (z21 + 1)) M (iI_add _ _) dX12_go_343 ?_
                                  refine r_put (ws' := [(a0, .inr (11, [.int r0, .ref a1, .int (iI x0), .int (iI x1), .int (iI x2), .int (iI (z21 + 1)), .int (iI z1), .int (iI x5), .int fr22, .int (iI x6), .int (iI x7), .int (iI x8), .long (((27 * fy20) + (Int32.toInt64 (iI (f0 z21)))) - 96), .int (iI x9), .ref a2, .ref a3, .ref a4, .ref a5, .ref a6, .ref a7, .ref a8, .ref a9, .ref a10, .ref a11, .int (iI x10), .ref a12, .ref a13, .ref a14, .ref a15, .int (iI x11), .int r2, .int r3, .ref a16, .int (iI x12), .int (iI x13), .ref a17, .ref a18, .int (iI x14), .ref a19, .int (iI x15), .int r4, .ref a20, .ref a21, .int (iI x16), .int r5, .ref a22, .int (iI x17), .int (iI x18), .int (iI x19), .int (iI x20)])), (a1, .inl (T 0, 940, .inl (cI f0)))]) M w 0 5 clX12 rfl (by decide) G1468 rfl rfl rfl rfl (Nat.le_of_ble_eq_true rfl) rfl dX12_go_344 (fun H locs w => ?_)
                                  refine lv_goto (tgt := 215) hx hb dX12_go_347 (by decide) ?_
                                  exact ih2 (((27 * fy20) + (Int32.toInt64 (iI (f0 z21)))) - 96) (z21 + 1) fr22 1 _ _ _ (by omega) (by omega) (by decide) (by decide) (by omega) (by omega) (lq2_r.trans (rn_t (ta_L pq25 pq48 (by omega)).1 (Or.inl (ta_L pq25 pq48 (by omega)).2))) (aR_s lq2_a (Or.inl (ta_L pq25 pq48 (by omega)).2)) (gd_q lq2_g (by omega) pq57 (by omega) (by omega) (by omega) (by omega) (by omega) (by omega)) (wI_s lq2_w (by omega) (f0_h _) (by first | exact Or.inl ⟨by omega, rfl⟩ | exact Or.inr ⟨by omega, rfl⟩) (by first | exact Or.inl ⟨by omega, rfl⟩ | exact Or.inr ⟨by omega, rfl⟩)) (by omega) w (lv_sub hl [0, 2, 3, 4] rfl)
                                · replace c_64 : (z21 - z1) < 3 := Int.not_le.mp (fun h => c_64 ((iI_le (by decide) (by decide) (by omega) (by omega)).mpr h))
                                  refine lv_aload_n hx hb dX12_go_320 rfl (lv_at hl 4 rfl) ?_
                                  refine lv_bipush (v := iI 10) hx hb dX12_go_321 (by decide +kernel) ?_
                                  refine lv_aload_n hx hb dX12_go_323 rfl (lv_at hl 4 rfl) ?_
                                  refine r_get (v := .int fr22) M w 0 8 clX12 rfl (by decide) G1471 rfl rfl dX12_go_324 ?_
                                  refine r_imul (v := ((iI 10) * fr22)) M rfl dX12_go_327 ?_
                                  refine lv_iload hx hb dX12_go_328 (lv_at hl 1 rfl) ?_
                                  refine r_iadd (v := (((iI 10) * fr22) + (iI (f0 z21)))) M rfl dX12_go_330 ?_
                                  refine lv_bipush (v := iI 48) hx hb dX12_go_331 (by decide +kernel) ?_
                                  refine r_isub (v := ((((iI 10) * fr22) + (iI (f0 z21))) - (iI 48))) M rfl dX12_go_333 ?_
                                  refine r_put (ws' := [(a0, .inr (11, [.int r0, .ref a1, .int (iI x0), .int (iI x1), .int (iI x2), .int (iI z21), .int (iI z1), .int (iI x5), .int ((((iI 10) * fr22) + (iI (f0 z21))) - (iI 48)), .int (iI x6), .int (iI x7), .int (iI x8), .long (((27 * fy20) + (Int32.toInt64 (iI (f0 z21)))) - 96), .int (iI x9), .ref a2, .ref a3, .ref a4, .ref a5, .ref a6, .ref a7, .ref a8, .ref a9, .ref a10, .ref a11, .int (iI x10), .ref a12, .ref a13, .ref a14, .ref a15, .int (iI x11), .int r2, .int r3, .ref a16, .int (iI x12), .int (iI x13), .ref a17, .ref a18, .int (iI x14), .ref a19, .int (iI x15), .int r4, .ref a20, .ref a21, .int (iI x16), .int r5, .ref a22, .int (iI x17), .int (iI x18), .int (iI x19), .int (iI x20)])), (a1, .inl (T 0, 940, .inl (cI f0)))]) M w 0 8 clX12 rfl (by decide) G1471 rfl rfl rfl rfl (Nat.le_of_ble_eq_true rfl) rfl dX12_go_334 (fun H locs w => ?_)
                                  refine lv_aload_n hx hb dX12_go_337 rfl (lv_at hl 4 rfl) ?_
                                  refine lv_dup hx hb dX12_go_338 rfl ?_
                                  refine r_get (v := .int (iI z21)) M w 0 5 clX12 rfl (by decide) G1468 rfl rfl dX12_go_339 ?_
                                  refine lv_iconst (v := iI 1) hx hb dX12_go_342 (by decide +kernel) ?_
                                  refine r_iadd (v := iI (z21 + 1)) M (iI_add _ _) dX12_go_343 ?_
                                  refine r_put (ws' := [(a0, .inr (11, [.int r0, .ref a1, .int (iI x0), .int (iI x1), .int (iI x2), .int (iI (z21 + 1)), .int (iI z1), .int (iI x5), .int ((((iI 10) * fr22) + (iI (f0 z21))) - (iI 48)), .int (iI x6), .int (iI x7), .int (iI x8), .long (((27 * fy20) + (Int32.toInt64 (iI (f0 z21)))) - 96), .int (iI x9), .ref a2, .ref a3, .ref a4, .ref a5, .ref a6, .ref a7, .ref a8, .ref a9, .ref a10, .ref a11, .int (iI x10), .ref a12, .ref a13, .ref a14, .ref a15, .int (iI x11), .int r2, .int r3, .ref a16, .int (iI x12), .int (iI x13), .ref a17, .ref a18, .int (iI x14), .ref a19, .int (iI x15), .int r4, .ref a20, .ref a21, .int (iI x16), .int r5, .ref a22, .int (iI x17), .int (iI x18), .int (iI x19), .int (iI x20)])), (a1, .inl (T 0, 940, .inl (cI f0)))]) M w 0 5 clX12 rfl (by decide) G1468 rfl rfl rfl rfl (Nat.le_of_ble_eq_true rfl) rfl dX12_go_344 (fun H locs w => ?_)
                                  refine lv_goto (tgt := 215) hx hb dX12_go_347 (by decide) ?_
                                  exact ih2 (((27 * fy20) + (Int32.toInt64 (iI (f0 z21)))) - 96) (z21 + 1) ((((iI 10) * fr22) + (iI (f0 z21))) - (iI 48)) 1 _ _ _ (by omega) (by omega) (by decide) (by decide) (by omega) (by omega) (lq2_r.trans (rn_t (ta_L pq25 pq48 (by omega)).1 (Or.inl (ta_L pq25 pq48 (by omega)).2))) (aR_s lq2_a (Or.inl (ta_L pq25 pq48 (by omega)).2)) (gd_q lq2_g (by omega) pq57 (by omega) (by omega) (by omega) (by omega) (by omega) (by omega)) (wI_s lq2_w (by omega) (f0_h _) (by first | exact Or.inl ⟨by omega, rfl⟩ | exact Or.inr ⟨by omega, rfl⟩) (by first | exact Or.inl ⟨by omega, rfl⟩ | exact Or.inr ⟨by omega, rfl⟩)) (by omega) w (lv_sub hl [0, 2, 3, 4] rfl)
                        · replace c_49 := (iz_eq (Int.le_trans (by decide) z46_a) (Int.le_trans z46_b (by decide))).mp c_49
                          refine lv_aload_n hx hb dX12_go_229 rfl (lv_at hl 3 rfl) ?_
                          refine lv_aload_n hx hb dX12_go_230 rfl (lv_at hl 3 rfl) ?_
                          refine r_get (v := .int (iI z21)) M w 0 5 clX12 rfl (by decide) G1468 rfl rfl dX12_go_231 ?_
                          refine k_I (ce := 0) (sl := 0) (rest := []) (wr := []) (r_V (f := 0) [0, 1] M w V_HookedCityModel_50 G1639 G50 (c9_X12_tapeAt l D T _ a0 z21 r0 a1 x0 x1 x2 z21 z1 x5 fr22 x6 x7 x8 fy20 x9 a2 a3 a4 a5 a6 a7 a8 a9 a10 a11 x10 a12 a13 a14 a15 x11 r2 r3 a16 x12 x13 a17 a18 x14 a19 x15 r4 a20 a21 x16 r5 a22 x17 x18 x19 x20 f0 z21_a z21_b x0_a x0_b x1_a x1_b x2_a x2_b z21_a z21_b z1_a z1_b x5_a x5_b x6_a x6_b x7_a x7_b x8_a x8_b x9_a x9_b x10_a x10_b x11_a x11_b x12_a x12_b x13_a x13_b x14_a x14_b x15_a x15_b x16_a x16_b x17_a x17_b x18_a x18_b x19_a x19_b x20_a x20_b f0_h) 0 clX12 rfl rfl (by decide) rfl hl.1 rfl (Nat.le_of_ble_eq_true rfl) dX12_go_234 (by decide) (by decide) (by decide) (by decide)) w [0, 1] [] rfl rfl (by decide) (by decide) rfl rfl (fun v z65 H locs hp w => ?_)
                          have hv : iI z65 = v := hp.1
                          subst hv
                          have z65_a : (-2147483648) ≤ z65 := hp.2.1
                          have z65_b : z65 ≤ 2147483647 := hp.2.2.1
                          have pq66 : taQ z21 x1 z65 (f0 z21) := hp.2.2.2.1
                          have w : WD D A s.heap [(a0, .inr (11, [.int r0, .ref a1, .int (iI x0), .int (iI x1), .int (iI x2), .int (iI z21), .int (iI z1), .int (iI x5), .int fr22, .int (iI x6), .int (iI x7), .int (iI x8), .long fy20, .int (iI x9), .ref a2, .ref a3, .ref a4, .ref a5, .ref a6, .ref a7, .ref a8, .ref a9, .ref a10, .ref a11, .int (iI x10), .ref a12, .ref a13, .ref a14, .ref a15, .int (iI x11), .int r2, .int r3, .ref a16, .int (iI x12), .int (iI x13), .ref a17, .ref a18, .int (iI x14), .ref a19, .int (iI x15), .int r4, .ref a20, .ref a21, .int (iI x16), .int r5, .ref a22, .int (iI x17), .int (iI x18), .int (iI x19), .int (iI x20)])), (a1, .inl (T 0, 940, .inl (cI f0)))] H locs := w
                          rcases hp.2.2.2.2 with ⟨c_67, hr⟩ | c_68
                          · exfalso; omega
                          · refine k_I (ce := 0) (sl := 0) (rest := []) (wr := [(a0, .inr (11, [.int r0, .ref a1, .int (iI x0), .int (iI x1), .int (iI x2), .int (iI z21), .int (iI z1), .int (iI x5), .int fr22, .int (iI x6), .int (iI x7), .int (iI x8), .long fy20, .int (iI x9), .ref a2, .ref a3, .ref a4, .ref a5, .ref a6, .ref a7, .ref a8, .ref a9, .ref a10, .ref a11, .int (iI x10), .ref a12, .ref a13, .ref a14, .ref a15, .int (iI x11), .int r2, .int r3, .ref a16, .int (iI x12), .int (iI x13), .ref a17, .ref a18, .int (iI x14), .ref a19, .int (iI x15), .int r4, .ref a20, .ref a21, .int (iI x16), .int r5, .ref a22, .int (iI x17), .int (iI x18), .int (iI x19), .int (iI x20)])), (a1, .inl (T 0, 940, .inl (cI f0)))]) (r_S (f := 0) [] M w V_HookedCityModel_37 G1635 (c10_X12_isDigit l D T _ z65 z65_a z65_b) rfl (by decide) rfl hl.1 rfl (Nat.le_of_ble_eq_true rfl) dX12_go_237 (by decide) (by decide) (by decide) (by decide)) w [] [0, 1] rfl rfl (by decide) (by decide) rfl rfl (fun v z69 H locs hp w => ?_)
                            have hv : iI z69 = v := hp.1
                            subst hv
                            have z69_a : 0 ≤ z69 := hp.2.1
                            have z69_b : z69 ≤ 1 := hp.2.2.1
                            have ee70 : 0 ≤ ((z65 + 4294967296) - (z69 * 4294967344)) := hp.2.2.2.1
                            have pq71 : lq z69 z65 48 57 := hp.2.2.2.2
                            have w : WD D A s.heap [(a0, .inr (11, [.int r0, .ref a1, .int (iI x0), .int (iI x1), .int (iI x2), .int (iI z21), .int (iI z1), .int (iI x5), .int fr22, .int (iI x6), .int (iI x7), .int (iI x8), .long fy20, .int (iI x9), .ref a2, .ref a3, .ref a4, .ref a5, .ref a6, .ref a7, .ref a8, .ref a9, .ref a10, .ref a11, .int (iI x10), .ref a12, .ref a13, .ref a14, .ref a15, .int (iI x11), .int r2, .int r3, .ref a16, .int (iI x12), .int (iI x13), .ref a17, .ref a18, .int (iI x14), .ref a19, .int (iI x15), .int r4, .ref a20, .ref a21, .int (iI x16), .int r5, .ref a22, .int (iI x17), .int (iI x18), .int (iI x19), .int (iI x20)])), (a1, .inl (T 0, 940, .inl (cI f0)))] H locs := w
                            refine lv_if_eq (tgt := 350) hx hb dX12_go_240 (by decide) (fun c_72 => ?_) (fun c_72 => ?_)
                            · replace c_72 := (iz_eq (Int.le_trans (by decide) z69_a) (Int.le_trans z69_b (by decide))).mp c_72
                              refine lv_aload_n hx hb dX12_go_350 rfl (lv_at hl 3 rfl) ?_
                              refine lv_iload_n hx hb dX12_go_351 rfl (lv_at hl 0 rfl) ?_
                              refine lv_if_eq (tgt := 377) hx hb dX12_go_352 (by decide) (fun c_73 => ?_) (fun c_73 => ?_)
                              · replace c_73 := (iz_eq (Int.le_trans (by decide) z23_a) (Int.le_trans z23_b (by decide))).mp c_73
                                refine lv_iconst (v := iI 1) hx hb dX12_go_377 (by decide +kernel) ?_
                                refine lv_goto (tgt := 390) hx hb dX12_go_378 (by decide) ?_
                                refine r_put (ws' := [(a0, .inr (11, [.int r0, .ref a1, .int (iI x0), .int (iI x1), .int (iI x2), .int (iI z21), .int (iI z1), .int (iI 1), .int fr22, .int (iI x6), .int (iI x7), .int (iI x8), .long fy20, .int (iI x9), .ref a2, .ref a3, .ref a4, .ref a5, .ref a6, .ref a7, .ref a8, .ref a9, .ref a10, .ref a11, .int (iI x10), .ref a12, .ref a13, .ref a14, .ref a15, .int (iI x11), .int r2, .int r3, .ref a16, .int (iI x12), .int (iI x13), .ref a17, .ref a18, .int (iI x14), .ref a19, .int (iI x15), .int r4, .ref a20, .ref a21, .int (iI x16), .int r5, .ref a22, .int (iI x17), .int (iI x18), .int (iI x19), .int (iI x20)])), (a1, .inl (T 0, 940, .inl (cI f0)))]) M w 0 7 clX12 rfl (by decide) G1470 rfl rfl rfl rfl (Nat.le_of_ble_eq_true rfl) rfl dX12_go_390 (fun H locs w => ?_)
                                exact ret (z21, z1, 1, fr22, x6, fy20) _ _ _ _ _ [0, 1] dX12_go_393 ⟨z21_a, z21_b, z1_a, z1_b, (show (0 : Int) ≤ 1 from by decide), (show (1 : Int) ≤ 4 from by decide), x6_a, x6_b, (show 0 ≤ (z21 - x3) from by omega), (show 0 ≤ (((z21 - x3) - 1) + 3) from by omega), (show gT (tkAt f0 x1 x2 x3) 1 z1 z21 fy20 fr22 x6 from (by rw [tk_run (lq1_s.trans (sk_e (by omega))) (by omega) (by omega) (Or.inl (lq_1 pq15 (by omega))) (lq2_r.trans (rn_e (ta_E pq25 pq48 (by omega) pq66 pq71 (by omega))))]; exact ⟨rfl, rfl, go_fin lq2_a lq2_g pq19 (lq2_r.trans (rn_e (ta_E pq25 pq48 (by omega) pq66 pq71 (by omega)))) (by omega) (Or.inl (lq_1 pq15 (by omega))) lq2_w (by omega)⟩))⟩ w (by decide) rfl
                              · replace c_73 : ¬ z23 = 0 := fun h => c_73 ((iz_eq (Int.le_trans (by decide) z23_a) (Int.le_trans z23_b (by decide))).mpr h)
                                refine lv_aload_n hx hb dX12_go_355 rfl (lv_at hl 3 rfl) ?_
                                refine r_get (v := .int (iI z21)) M w 0 5 clX12 rfl (by decide) G1468 rfl rfl dX12_go_356 ?_
                                refine lv_aload_n hx hb dX12_go_359 rfl (lv_at hl 3 rfl) ?_
                                refine r_get (v := .int (iI z1)) M w 0 6 clX12 rfl (by decide) G1469 rfl rfl dX12_go_360 ?_
                                refine r_isub (v := iI (z21 - z1)) M (iI_sub _ _) dX12_go_363 ?_
                                refine lv_iload_n hx hb dX12_go_364 rfl (lv_at hl 1 rfl) ?_
                                refine lv_if_eq (tgt := 373) hx hb dX12_go_365 (by decide) (fun c_74 => ?_) (fun c_74 => ?_)
                                · replace c_74 := (iz_eq (Int.le_trans (by decide) z17_a) (Int.le_trans z17_b (by decide))).mp c_74
                                  refine lv_iconst (v := iI 3) hx hb dX12_go_373 (by decide +kernel) ?_
                                  refine lv_icmp_le (tgt := 381) hx hb dX12_go_374 (by decide) (fun c_75 => ?_) (fun c_75 => ?_)
                                  · replace c_75 := (iI_le (by omega) (by omega) (by decide) (by decide)).mp c_75
                                    refine lv_iload_n hx hb dX12_go_381 rfl (lv_at hl 1 rfl) ?_
                                    refine lv_if_eq (tgt := 389) hx hb dX12_go_382 (by decide) (fun c_76 => ?_) (fun c_76 => ?_)
                                    · replace c_76 := (iz_eq (Int.le_trans (by decide) z17_a) (Int.le_trans z17_b (by decide))).mp c_76
                                      refine lv_iconst (v := iI 3) hx hb dX12_go_389 (by decide +kernel) ?_
                                      refine r_put (ws' := [(a0, .inr (11, [.int r0, .ref a1, .int (iI x0), .int (iI x1), .int (iI x2), .int (iI z21), .int (iI z1), .int (iI 3), .int fr22, .int (iI x6), .int (iI x7), .int (iI x8), .long fy20, .int (iI x9), .ref a2, .ref a3, .ref a4, .ref a5, .ref a6, .ref a7, .ref a8, .ref a9, .ref a10, .ref a11, .int (iI x10), .ref a12, .ref a13, .ref a14, .ref a15, .int (iI x11), .int r2, .int r3, .ref a16, .int (iI x12), .int (iI x13), .ref a17, .ref a18, .int (iI x14), .ref a19, .int (iI x15), .int r4, .ref a20, .ref a21, .int (iI x16), .int r5, .ref a22, .int (iI x17), .int (iI x18), .int (iI x19), .int (iI x20)])), (a1, .inl (T 0, 940, .inl (cI f0)))]) M w 0 7 clX12 rfl (by decide) G1470 rfl rfl rfl rfl (Nat.le_of_ble_eq_true rfl) rfl dX12_go_390 (fun H locs w => ?_)
                                      exact ret (z21, z1, 3, fr22, x6, fy20) _ _ _ _ _ [0, 1] dX12_go_393 ⟨z21_a, z21_b, z1_a, z1_b, (show (0 : Int) ≤ 3 from by decide), (show (3 : Int) ≤ 4 from by decide), x6_a, x6_b, (show 0 ≤ (z21 - x3) from by omega), (show 0 ≤ (((z21 - x3) - 3) + 3) from by omega), (show gT (tkAt f0 x1 x2 x3) 3 z1 z21 fy20 fr22 x6 from (by rw [tk_run (lq1_s.trans (sk_e (by omega))) (by omega) (by omega) (Or.inl (lq_1 pq15 (by omega))) (lq2_r.trans (rn_e (ta_E pq25 pq48 (by omega) pq66 pq71 (by omega))))]; exact ⟨rfl, rfl, go_fin lq2_a lq2_g pq19 (lq2_r.trans (rn_e (ta_E pq25 pq48 (by omega) pq66 pq71 (by omega)))) (by omega) (Or.inl (lq_1 pq15 (by omega))) lq2_w (by omega)⟩))⟩ w (by decide) rfl
                                    · replace c_76 : ¬ z17 = 0 := fun h => c_76 ((iz_eq (Int.le_trans (by decide) z17_a) (Int.le_trans z17_b (by decide))).mpr h)
                                      exfalso; omega
                                  · replace c_75 : 3 < (z21 - z1) := Int.not_le.mp (fun h => c_75 ((iI_le (by omega) (by omega) (by decide) (by decide)).mpr h))
                                    refine lv_iconst (v := iI 1) hx hb dX12_go_377 (by decide +kernel) ?_
                                    refine lv_goto (tgt := 390) hx hb dX12_go_378 (by decide) ?_
                                    refine r_put (ws' := [(a0, .inr (11, [.int r0, .ref a1, .int (iI x0), .int (iI x1), .int (iI x2), .int (iI z21), .int (iI z1), .int (iI 1), .int fr22, .int (iI x6), .int (iI x7), .int (iI x8), .long fy20, .int (iI x9), .ref a2, .ref a3, .ref a4, .ref a5, .ref a6, .ref a7, .ref a8, .ref a9, .ref a10, .ref a11, .int (iI x10), .ref a12, .ref a13, .ref a14, .ref a15, .int (iI x11), .int r2, .int r3, .ref a16, .int (iI x12), .int (iI x13), .ref a17, .ref a18, .int (iI x14), .ref a19, .int (iI x15), .int r4, .ref a20, .ref a21, .int (iI x16), .int r5, .ref a22, .int (iI x17), .int (iI x18), .int (iI x19), .int (iI x20)])), (a1, .inl (T 0, 940, .inl (cI f0)))]) M w 0 7 clX12 rfl (by decide) G1470 rfl rfl rfl rfl (Nat.le_of_ble_eq_true rfl) rfl dX12_go_390 (fun H locs w => ?_)
                                    exact ret (z21, z1, 1, fr22, x6, fy20) _ _ _ _ _ [0, 1] dX12_go_393 ⟨z21_a, z21_b, z1_a, z1_b, (show (0 : Int) ≤ 1 from by decide), (show (1 : Int) ≤ 4 from by decide), x6_a, x6_b, (show 0 ≤ (z21 - x3) from by omega), (show 0 ≤ (((z21 - x3) - 1) + 3) from by omega), (show gT (tkAt f0 x1 x2 x3) 1 z1 z21 fy20 fr22 x6 from (by rw [tk_run (lq1_s.trans (sk_e (by omega))) (by omega) (by omega) (Or.inl (lq_1 pq15 (by omega))) (lq2_r.trans (rn_e (ta_E pq25 pq48 (by omega) pq66 pq71 (by omega))))]; exact ⟨rfl, rfl, go_fin lq2_a lq2_g pq19 (lq2_r.trans (rn_e (ta_E pq25 pq48 (by omega) pq66 pq71 (by omega)))) (by omega) (Or.inl (lq_1 pq15 (by omega))) lq2_w (by omega)⟩))⟩ w (by decide) rfl
                                · replace c_74 : ¬ z17 = 0 := fun h => c_74 ((iz_eq (Int.le_trans (by decide) z17_a) (Int.le_trans z17_b (by decide))).mpr h)
                                  refine lv_bipush (v := iI 7) hx hb dX12_go_368 (by decide +kernel) ?_
                                  refine lv_goto (tgt := 374) hx hb dX12_go_370 (by decide) ?_
                                  refine lv_icmp_le (tgt := 381) hx hb dX12_go_374 (by decide) (fun c_77 => ?_) (fun c_77 => ?_)
                                  · replace c_77 := (iI_le (by omega) (by omega) (by decide) (by decide)).mp c_77
                                    refine lv_iload_n hx hb dX12_go_381 rfl (lv_at hl 1 rfl) ?_
                                    refine lv_if_eq (tgt := 389) hx hb dX12_go_382 (by decide) (fun c_78 => ?_) (fun c_78 => ?_)
                                    · replace c_78 := (iz_eq (Int.le_trans (by decide) z17_a) (Int.le_trans z17_b (by decide))).mp c_78
                                      exfalso; omega
                                    · replace c_78 : ¬ z17 = 0 := fun h => c_78 ((iz_eq (Int.le_trans (by decide) z17_a) (Int.le_trans z17_b (by decide))).mpr h)
                                      refine lv_iconst (v := iI 2) hx hb dX12_go_385 (by decide +kernel) ?_
                                      refine lv_goto (tgt := 390) hx hb dX12_go_386 (by decide) ?_
                                      refine r_put (ws' := [(a0, .inr (11, [.int r0, .ref a1, .int (iI x0), .int (iI x1), .int (iI x2), .int (iI z21), .int (iI z1), .int (iI 2), .int fr22, .int (iI x6), .int (iI x7), .int (iI x8), .long fy20, .int (iI x9), .ref a2, .ref a3, .ref a4, .ref a5, .ref a6, .ref a7, .ref a8, .ref a9, .ref a10, .ref a11, .int (iI x10), .ref a12, .ref a13, .ref a14, .ref a15, .int (iI x11), .int r2, .int r3, .ref a16, .int (iI x12), .int (iI x13), .ref a17, .ref a18, .int (iI x14), .ref a19, .int (iI x15), .int r4, .ref a20, .ref a21, .int (iI x16), .int r5, .ref a22, .int (iI x17), .int (iI x18), .int (iI x19), .int (iI x20)])), (a1, .inl (T 0, 940, .inl (cI f0)))]) M w 0 7 clX12 rfl (by decide) G1470 rfl rfl rfl rfl (Nat.le_of_ble_eq_true rfl) rfl dX12_go_390 (fun H locs w => ?_)
                                      exact ret (z21, z1, 2, fr22, x6, fy20) _ _ _ _ _ [0, 1] dX12_go_393 ⟨z21_a, z21_b, z1_a, z1_b, (show (0 : Int) ≤ 2 from by decide), (show (2 : Int) ≤ 4 from by decide), x6_a, x6_b, (show 0 ≤ (z21 - x3) from by omega), (show 0 ≤ (((z21 - x3) - 2) + 3) from by omega), (show gT (tkAt f0 x1 x2 x3) 2 z1 z21 fy20 fr22 x6 from (by rw [tk_run (lq1_s.trans (sk_e (by omega))) (by omega) (by omega) (Or.inl (lq_1 pq15 (by omega))) (lq2_r.trans (rn_e (ta_E pq25 pq48 (by omega) pq66 pq71 (by omega))))]; exact ⟨rfl, rfl, go_fin lq2_a lq2_g pq19 (lq2_r.trans (rn_e (ta_E pq25 pq48 (by omega) pq66 pq71 (by omega)))) (by omega) (Or.inl (lq_1 pq15 (by omega))) lq2_w (by omega)⟩))⟩ w (by decide) rfl
                                  · replace c_77 : 7 < (z21 - z1) := Int.not_le.mp (fun h => c_77 ((iI_le (by omega) (by omega) (by decide) (by decide)).mpr h))
                                    refine lv_iconst (v := iI 1) hx hb dX12_go_377 (by decide +kernel) ?_
                                    refine lv_goto (tgt := 390) hx hb dX12_go_378 (by decide) ?_
                                    refine r_put (ws' := [(a0, .inr (11, [.int r0, .ref a1, .int (iI x0), .int (iI x1), .int (iI x2), .int (iI z21), .int (iI z1), .int (iI 1), .int fr22, .int (iI x6), .int (iI x7), .int (iI x8), .long fy20, .int (iI x9), .ref a2, .ref a3, .ref a4, .ref a5, .ref a6, .ref a7, .ref a8, .ref a9, .ref a10, .ref a11, .int (iI x10), .ref a12, .ref a13, .ref a14, .ref a15, .int (iI x11), .int r2, .int r3, .ref a16, .int (iI x12), .int (iI x13), .ref a17, .ref a18, .int (iI x14), .ref a19, .int (iI x15), .int r4, .ref a20, .ref a21, .int (iI x16), .int r5, .ref a22, .int (iI x17), .int (iI x18), .int (iI x19), .int (iI x20)])), (a1, .inl (T 0, 940, .inl (cI f0)))]) M w 0 7 clX12 rfl (by decide) G1470 rfl rfl rfl rfl (Nat.le_of_ble_eq_true rfl) rfl dX12_go_390 (fun H locs w => ?_)
                                    exact ret (z21, z1, 1, fr22, x6, fy20) _ _ _ _ _ [0, 1] dX12_go_393 ⟨z21_a, z21_b, z1_a, z1_b, (show (0 : Int) ≤ 1 from by decide), (show (1 : Int) ≤ 4 from by decide), x6_a, x6_b, (show 0 ≤ (z21 - x3) from by omega), (show 0 ≤ (((z21 - x3) - 1) + 3) from by omega), (show gT (tkAt f0 x1 x2 x3) 1 z1 z21 fy20 fr22 x6 from (by rw [tk_run (lq1_s.trans (sk_e (by omega))) (by omega) (by omega) (Or.inl (lq_1 pq15 (by omega))) (lq2_r.trans (rn_e (ta_E pq25 pq48 (by omega) pq66 pq71 (by omega))))]; exact ⟨rfl, rfl, go_fin lq2_a lq2_g pq19 (lq2_r.trans (rn_e (ta_E pq25 pq48 (by omega) pq66 pq71 (by omega)))) (by omega) (Or.inl (lq_1 pq15 (by omega))) lq2_w (by omega)⟩))⟩ w (by decide) rfl
                            · replace c_72 : ¬ z69 = 0 := fun h => c_72 ((iz_eq (Int.le_trans (by decide) z69_a) (Int.le_trans z69_b (by decide))).mpr h)
                              refine lv_aload_n hx hb dX12_go_243 rfl (lv_at hl 3 rfl) ?_
                              refine r_get (v := .ref a1) M w 0 1 clX12 rfl (by decide) G1464 rfl rfl dX12_go_244 ?_
                              refine lv_aload_n hx hb dX12_go_247 rfl (lv_at hl 3 rfl) ?_
                              refine r_get (v := .int (iI z21)) M w 0 5 clX12 rfl (by decide) G1468 rfl rfl dX12_go_248 ?_
                              refine r_iald (v := iI (f0 z21)) M w 1 rfl (iI_in (by omega) (by omega) (by decide)) (cI_at (by omega) (by omega)) dX12_go_251 ?_
                              have hh79 : 0 ≤ (f0 z21) ∧ (f0 z21) ≤ 255 := f0_h z21
                              refine lv_istore (lv' := [(4, .int (iI (f0 z21))), (3, .int (iI z23)), (2, .int (iI z17)), (1, .int (iI (f0 z1))), (0, .ref a0)]) hx hb dX12_go_252 hl (by decide) rfl (fun ls hl => ?_)
                              refine lv_iload_n hx hb dX12_go_254 rfl (lv_at hl 1 rfl) ?_
                              refine lv_if_eq (tgt := 271) hx hb dX12_go_255 (by decide) (fun c_80 => ?_) (fun c_80 => ?_)
                              · replace c_80 := (iz_eq (Int.le_trans (by decide) z23_a) (Int.le_trans z23_b (by decide))).mp c_80
                                refine lv_iconst (v := iI 0) hx hb dX12_go_271 (by decide +kernel) ?_
                                refine lv_istore_n (lv' := [(3, .int (iI 0)), (4, .int (iI (f0 z21))), (2, .int (iI z17)), (1, .int (iI (f0 z1))), (0, .ref a0)]) hx hb dX12_go_272 rfl hl (by decide) rfl (fun ls hl => ?_)
                                refine lv_aload_n hx hb dX12_go_273 rfl (lv_at hl 4 rfl) ?_
                                refine r_get (v := .int (iI z21)) M w 0 5 clX12 rfl (by decide) G1468 rfl rfl dX12_go_274 ?_
                                refine lv_aload_n hx hb dX12_go_277 rfl (lv_at hl 4 rfl) ?_
                                refine r_get (v := .int (iI z1)) M w 0 6 clX12 rfl (by decide) G1469 rfl rfl dX12_go_278 ?_
                                refine r_isub (v := iI (z21 - z1)) M (iI_sub _ _) dX12_go_281 ?_
                                refine lv_bipush (v := iI 7) hx hb dX12_go_282 (by decide +kernel) ?_
                                refine lv_icmp_ge (tgt := 307) hx hb dX12_go_284 (by decide) (fun c_81 => ?_) (fun c_81 => ?_)
                                · replace c_81 := (iI_le (by decide) (by decide) (by omega) (by omega)).mp c_81
                                  refine lv_aload_n hx hb dX12_go_307 rfl (lv_at hl 4 rfl) ?_
                                  refine r_get (v := .int (iI z21)) M w 0 5 clX12 rfl (by decide) G1468 rfl rfl dX12_go_308 ?_
                                  refine lv_aload_n hx hb dX12_go_311 rfl (lv_at hl 4 rfl) ?_
                                  refine r_get (v := .int (iI z1)) M w 0 6 clX12 rfl (by decide) G1469 rfl rfl dX12_go_312 ?_
                                  refine r_isub (v := iI (z21 - z1)) M (iI_sub _ _) dX12_go_315 ?_
                                  refine lv_iconst (v := iI 3) hx hb dX12_go_316 (by decide +kernel) ?_
                                  refine lv_icmp_ge (tgt := 337) hx hb dX12_go_317 (by decide) (fun c_82 => ?_) (fun c_82 => ?_)
                                  · replace c_82 := (iI_le (by decide) (by decide) (by omega) (by omega)).mp c_82
                                    refine lv_aload_n hx hb dX12_go_337 rfl (lv_at hl 4 rfl) ?_
                                    refine lv_dup hx hb dX12_go_338 rfl ?_
                                    refine r_get (v := .int (iI z21)) M w 0 5 clX12 rfl (by decide) G1468 rfl rfl dX12_go_339 ?_
                                    refine lv_iconst (v := iI 1) hx hb dX12_go_342 (by decide +kernel) ?_
                                    refine r_iadd (v := iI (z21 + 1)) M (iI_add _ _) dX12_go_343 ?_
                                    refine r_put (ws' := [(a0, .inr (11, [.int r0, .ref a1, .int (iI x0), .int (iI x1), .int (iI x2), .int (iI (z21 + 1)), .int (iI z1), .int (iI x5), .int fr22, .int (iI x6), .int (iI x7), .int (iI x8), .long fy20, .int (iI x9), .ref a2, .ref a3, .ref a4, .ref a5, .ref a6, .ref a7, .ref a8, .ref a9, .ref a10, .ref a11, .int (iI x10), .ref a12, .ref a13, .ref a14, .ref a15, .int (iI x11), .int r2, .int r3, .ref a16, .int (iI x12), .int (iI x13), .ref a17, .ref a18, .int (iI x14), .ref a19, .int (iI x15), .int r4, .ref a20, .ref a21, .int (iI x16), .int r5, .ref a22, .int (iI x17), .int (iI x18), .int (iI x19), .int (iI x20)])), (a1, .inl (T 0, 940, .inl (cI f0)))]) M w 0 5 clX12 rfl (by decide) G1468 rfl rfl rfl rfl (Nat.le_of_ble_eq_true rfl) rfl dX12_go_344 (fun H locs w => ?_)
                                    refine lv_goto (tgt := 215) hx hb dX12_go_347 (by decide) ?_
                                    exact ih2 fy20 (z21 + 1) fr22 0 _ _ _ (by omega) (by omega) (by decide) (by decide) (by omega) (by omega) (lq2_r.trans (rn_t (ta_D pq66 pq71 (by omega)).1 (Or.inr (ta_D pq66 pq71 (by omega)).2))) (aR_s lq2_a (Or.inr (ta_D pq66 pq71 (by omega)).2)) (gd_z lq2_g (by omega)) (wI_s lq2_w (by omega) (f0_h _) (by first | exact Or.inl ⟨by omega, rfl⟩ | exact Or.inr ⟨by omega, rfl⟩) (by first | exact Or.inl ⟨by omega, rfl⟩ | exact Or.inr ⟨by omega, rfl⟩)) (by omega) w (lv_sub hl [0, 2, 3, 4] rfl)
                                  · replace c_82 : (z21 - z1) < 3 := Int.not_le.mp (fun h => c_82 ((iI_le (by decide) (by decide) (by omega) (by omega)).mpr h))
                                    exfalso; omega
                                · replace c_81 : (z21 - z1) < 7 := Int.not_le.mp (fun h => c_81 ((iI_le (by decide) (by decide) (by omega) (by omega)).mpr h))
                                  refine lv_aload_n hx hb dX12_go_287 rfl (lv_at hl 4 rfl) ?_
                                  refine lv_ldc2 (v := 27) hx hb M.1.2.2.2.1 (M.1.2.2.2.2 _ G1641) dX12_go_288 ?_
                                  refine lv_aload_n hx hb dX12_go_291 rfl (lv_at hl 4 rfl) ?_
                                  refine r_get (v := .long fy20) M w 0 12 clX12 rfl (by decide) G1475 rfl rfl dX12_go_292 ?_
                                  refine r_lmul (v := (27 * fy20)) M rfl dX12_go_295 ?_
                                  refine lv_iload hx hb dX12_go_296 (lv_at hl 1 rfl) ?_
                                  refine lv_i2l (v := (Int32.toInt64 (iI (f0 z21)))) hx hb dX12_go_298 rfl ?_
                                  refine r_ladd (v := ((27 * fy20) + (Int32.toInt64 (iI (f0 z21))))) M rfl dX12_go_299 ?_
                                  refine lv_ldc2 (v := 96) hx hb M.1.2.2.2.1 (M.1.2.2.2.2 _ G1642) dX12_go_300 ?_
                                  refine r_lsub (v := (((27 * fy20) + (Int32.toInt64 (iI (f0 z21)))) - 96)) M rfl dX12_go_303 ?_
                                  refine r_put (ws' := [(a0, .inr (11, [.int r0, .ref a1, .int (iI x0), .int (iI x1), .int (iI x2), .int (iI z21), .int (iI z1), .int (iI x5), .int fr22, .int (iI x6), .int (iI x7), .int (iI x8), .long (((27 * fy20) + (Int32.toInt64 (iI (f0 z21)))) - 96), .int (iI x9), .ref a2, .ref a3, .ref a4, .ref a5, .ref a6, .ref a7, .ref a8, .ref a9, .ref a10, .ref a11, .int (iI x10), .ref a12, .ref a13, .ref a14, .ref a15, .int (iI x11), .int r2, .int r3, .ref a16, .int (iI x12), .int (iI x13), .ref a17, .ref a18, .int (iI x14), .ref a19, .int (iI x15), .int r4, .ref a20, .ref a21, .int (iI x16), .int r5, .ref a22, .int (iI x17), .int (iI x18), .int (iI x19), .int (iI x20)])), (a1, .inl (T 0, 940, .inl (cI f0)))]) M w 0 12 clX12 rfl (by decide) G1475 rfl rfl rfl rfl (Nat.le_of_ble_eq_true rfl) rfl dX12_go_304 (fun H locs w => ?_)
                                  refine lv_aload_n hx hb dX12_go_307 rfl (lv_at hl 4 rfl) ?_
                                  refine r_get (v := .int (iI z21)) M w 0 5 clX12 rfl (by decide) G1468 rfl rfl dX12_go_308 ?_
                                  refine lv_aload_n hx hb dX12_go_311 rfl (lv_at hl 4 rfl) ?_
                                  refine r_get (v := .int (iI z1)) M w 0 6 clX12 rfl (by decide) G1469 rfl rfl dX12_go_312 ?_
                                  refine r_isub (v := iI (z21 - z1)) M (iI_sub _ _) dX12_go_315 ?_
                                  refine lv_iconst (v := iI 3) hx hb dX12_go_316 (by decide +kernel) ?_
                                  refine lv_icmp_ge (tgt := 337) hx hb dX12_go_317 (by decide) (fun c_83 => ?_) (fun c_83 => ?_)
                                  · replace c_83 := (iI_le (by decide) (by decide) (by omega) (by omega)).mp c_83
                                    refine lv_aload_n hx hb dX12_go_337 rfl (lv_at hl 4 rfl) ?_
                                    refine lv_dup hx hb dX12_go_338 rfl ?_
                                    refine r_get (v := .int (iI z21)) M w 0 5 clX12 rfl (by decide) G1468 rfl rfl dX12_go_339 ?_
                                    refine lv_iconst (v := iI 1) hx hb dX12_go_342 (by decide +kernel) ?_
                                    refine r_iadd (v := iI (z21 + 1)) M (iI_add _ _) dX12_go_343 ?_
                                    refine r_put (ws' := [(a0, .inr (11, [.int r0, .ref a1, .int (iI x0), .int (iI x1), .int (iI x2), .int (iI (z21 + 1)), .int (iI z1), .int (iI x5), .int fr22, .int (iI x6), .int (iI x7), .int (iI x8), .long (((27 * fy20) + (Int32.toInt64 (iI (f0 z21)))) - 96), .int (iI x9), .ref a2, .ref a3, .ref a4, .ref a5, .ref a6, .ref a7, .ref a8, .ref a9, .ref a10, .ref a11, .int (iI x10), .ref a12, .ref a13, .ref a14, .ref a15, .int (iI x11), .int r2, .int r3, .ref a16, .int (iI x12), .int (iI x13), .ref a17, .ref a18, .int (iI x14), .ref a19, .int (iI x15), .int r4, .ref a20, .ref a21, .int (iI x16), .int r5, .ref a22, .int (iI x17), .int (iI x18), .int (iI x19), .int (iI x20)])), (a1, .inl (T 0, 940, .inl (cI f0)))]) M w 0 5 clX12 rfl (by decide) G1468 rfl rfl rfl rfl (Nat.le_of_ble_eq_true rfl) rfl dX12_go_344 (fun H locs w => ?_)
                                    refine lv_goto (tgt := 215) hx hb dX12_go_347 (by decide) ?_
                                    exact ih2 (((27 * fy20) + (Int32.toInt64 (iI (f0 z21)))) - 96) (z21 + 1) fr22 0 _ _ _ (by omega) (by omega) (by decide) (by decide) (by omega) (by omega) (lq2_r.trans (rn_t (ta_D pq66 pq71 (by omega)).1 (Or.inr (ta_D pq66 pq71 (by omega)).2))) (aR_s lq2_a (Or.inr (ta_D pq66 pq71 (by omega)).2)) (gd_z lq2_g (by omega)) (wI_s lq2_w (by omega) (f0_h _) (by first | exact Or.inl ⟨by omega, rfl⟩ | exact Or.inr ⟨by omega, rfl⟩) (by first | exact Or.inl ⟨by omega, rfl⟩ | exact Or.inr ⟨by omega, rfl⟩)) (by omega) w (lv_sub hl [0, 2, 3, 4] rfl)
                                  · replace c_83 : (z21 - z1) < 3 := Int.not_le.mp (fun h => c_83 ((iI_le (by decide) (by decide) (by omega) (by omega)).mpr h))
                                    refine lv_aload_n hx hb dX12_go_320 rfl (lv_at hl 4 rfl) ?_
                                    refine lv_bipush (v := iI 10) hx hb dX12_go_321 (by decide +kernel) ?_
                                    refine lv_aload_n hx hb dX12_go_323 rfl (lv_at hl 4 rfl) ?_
                                    refine r_get (v := .int fr22) M w 0 8 clX12 rfl (by decide) G1471 rfl rfl dX12_go_324 ?_
                                    refine r_imul (v := ((iI 10) * fr22)) M rfl dX12_go_327 ?_
                                    refine lv_iload hx hb dX12_go_328 (lv_at hl 1 rfl) ?_
                                    refine r_iadd (v := (((iI 10) * fr22) + (iI (f0 z21)))) M rfl dX12_go_330 ?_
                                    refine lv_bipush (v := iI 48) hx hb dX12_go_331 (by decide +kernel) ?_
                                    refine r_isub (v := ((((iI 10) * fr22) + (iI (f0 z21))) - (iI 48))) M rfl dX12_go_333 ?_
                                    refine r_put (ws' := [(a0, .inr (11, [.int r0, .ref a1, .int (iI x0), .int (iI x1), .int (iI x2), .int (iI z21), .int (iI z1), .int (iI x5), .int ((((iI 10) * fr22) + (iI (f0 z21))) - (iI 48)), .int (iI x6), .int (iI x7), .int (iI x8), .long (((27 * fy20) + (Int32.toInt64 (iI (f0 z21)))) - 96), .int (iI x9), .ref a2, .ref a3, .ref a4, .ref a5, .ref a6, .ref a7, .ref a8, .ref a9, .ref a10, .ref a11, .int (iI x10), .ref a12, .ref a13, .ref a14, .ref a15, .int (iI x11), .int r2, .int r3, .ref a16, .int (iI x12), .int (iI x13), .ref a17, .ref a18, .int (iI x14), .ref a19, .int (iI x15), .int r4, .ref a20, .ref a21, .int (iI x16), .int r5, .ref a22, .int (iI x17), .int (iI x18), .int (iI x19), .int (iI x20)])), (a1, .inl (T 0, 940, .inl (cI f0)))]) M w 0 8 clX12 rfl (by decide) G1471 rfl rfl rfl rfl (Nat.le_of_ble_eq_true rfl) rfl dX12_go_334 (fun H locs w => ?_)
                                    refine lv_aload_n hx hb dX12_go_337 rfl (lv_at hl 4 rfl) ?_
                                    refine lv_dup hx hb dX12_go_338 rfl ?_
                                    refine r_get (v := .int (iI z21)) M w 0 5 clX12 rfl (by decide) G1468 rfl rfl dX12_go_339 ?_
                                    refine lv_iconst (v := iI 1) hx hb dX12_go_342 (by decide +kernel) ?_
                                    refine r_iadd (v := iI (z21 + 1)) M (iI_add _ _) dX12_go_343 ?_
                                    refine r_put (ws' := [(a0, .inr (11, [.int r0, .ref a1, .int (iI x0), .int (iI x1), .int (iI x2), .int (iI (z21 + 1)), .int (iI z1), .int (iI x5), .int ((((iI 10) * fr22) + (iI (f0 z21))) - (iI 48)), .int (iI x6), .int (iI x7), .int (iI x8), .long (((27 * fy20) + (Int32.toInt64 (iI (f0 z21)))) - 96), .int (iI x9), .ref a2, .ref a3, .ref a4, .ref a5, .ref a6, .ref a7, .ref a8, .ref a9, .ref a10, .ref a11, .int (iI x10), .ref a12, .ref a13, .ref a14, .ref a15, .int (iI x11), .int r2, .int r3, .ref a16, .int (iI x12), .int (iI x13), .ref a17, .ref a18, .int (iI x14), .ref a19, .int (iI x15), .int r4, .ref a20, .ref a21, .int (iI x16), .int r5, .ref a22, .int (iI x17), .int (iI x18), .int (iI x19), .int (iI x20)])), (a1, .inl (T 0, 940, .inl (cI f0)))]) M w 0 5 clX12 rfl (by decide) G1468 rfl rfl rfl rfl (Nat.le_of_ble_eq_true rfl) rfl dX12_go_344 (fun H locs w => ?_)
                                    refine lv_goto (tgt := 215) hx hb dX12_go_347 (by decide) ?_
                                    exact ih2 (((27 * fy20) + (Int32.toInt64 (iI (f0 z21)))) - 96) (z21 + 1) ((((iI 10) * fr22) + (iI (f0 z21))) - (iI 48)) 0 _ _ _ (by omega) (by omega) (by decide) (by decide) (by omega) (by omega) (lq2_r.trans (rn_t (ta_D pq66 pq71 (by omega)).1 (Or.inr (ta_D pq66 pq71 (by omega)).2))) (aR_s lq2_a (Or.inr (ta_D pq66 pq71 (by omega)).2)) (gd_z lq2_g (by omega)) (wI_s lq2_w (by omega) (f0_h _) (by first | exact Or.inl ⟨by omega, rfl⟩ | exact Or.inr ⟨by omega, rfl⟩) (by first | exact Or.inl ⟨by omega, rfl⟩ | exact Or.inr ⟨by omega, rfl⟩)) (by omega) w (lv_sub hl [0, 2, 3, 4] rfl)
                              · replace c_80 : ¬ z23 = 0 := fun h => c_80 ((iz_eq (Int.le_trans (by decide) z23_a) (Int.le_trans z23_b (by decide))).mpr h)
                                refine lv_iload hx hb dX12_go_258 (lv_at hl 0 rfl) ?_
                                refine k_I (ce := 0) (sl := 0) (rest := []) (wr := [(a0, .inr (11, [.int r0, .ref a1, .int (iI x0), .int (iI x1), .int (iI x2), .int (iI z21), .int (iI z1), .int (iI x5), .int fr22, .int (iI x6), .int (iI x7), .int (iI x8), .long fy20, .int (iI x9), .ref a2, .ref a3, .ref a4, .ref a5, .ref a6, .ref a7, .ref a8, .ref a9, .ref a10, .ref a11, .int (iI x10), .ref a12, .ref a13, .ref a14, .ref a15, .int (iI x11), .int r2, .int r3, .ref a16, .int (iI x12), .int (iI x13), .ref a17, .ref a18, .int (iI x14), .ref a19, .int (iI x15), .int r4, .ref a20, .ref a21, .int (iI x16), .int r5, .ref a22, .int (iI x17), .int (iI x18), .int (iI x19), .int (iI x20)])), (a1, .inl (T 0, 940, .inl (cI f0)))]) (r_S (f := 0) [] M w V_HookedCityModel_33 G1632 (c11_X12_isLetter l D T _ (f0 z21) (by omega) (by omega)) rfl (by decide) rfl hl.1 rfl (Nat.le_of_ble_eq_true rfl) dX12_go_260 (by decide) (by decide) (by decide) (by decide)) w [] [0, 1] rfl rfl (by decide) (by decide) rfl rfl (fun v z84 H locs hp w => ?_)
                                have hv : iI z84 = v := hp.1
                                subst hv
                                have z84_a : 0 ≤ z84 := hp.2.1
                                have z84_b : z84 ≤ 1 := hp.2.2.1
                                have ee85 : 0 ≤ (((f0 z21) + 4294967296) - (z84 * 4294967393)) := hp.2.2.2.1
                                have pq86 : lq z84 (f0 z21) 97 122 := hp.2.2.2.2
                                have w : WD D A s.heap [(a0, .inr (11, [.int r0, .ref a1, .int (iI x0), .int (iI x1), .int (iI x2), .int (iI z21), .int (iI z1), .int (iI x5), .int fr22, .int (iI x6), .int (iI x7), .int (iI x8), .long fy20, .int (iI x9), .ref a2, .ref a3, .ref a4, .ref a5, .ref a6, .ref a7, .ref a8, .ref a9, .ref a10, .ref a11, .int (iI x10), .ref a12, .ref a13, .ref a14, .ref a15, .int (iI x11), .int r2, .int r3, .ref a16, .int (iI x12), .int (iI x13), .ref a17, .ref a18, .int (iI x14), .ref a19, .int (iI x15), .int r4, .ref a20, .ref a21, .int (iI x16), .int r5, .ref a22, .int (iI x17), .int (iI x18), .int (iI x19), .int (iI x20)])), (a1, .inl (T 0, 940, .inl (cI f0)))] H locs := w
                                refine lv_iload_n hx hb dX12_go_263 rfl (lv_at hl 2 rfl) ?_
                                refine lv_icmp_ne (tgt := 271) hx hb dX12_go_264 (by decide) (fun c_87 => ?_) (fun c_87 => ?_)
                                · replace c_87 : ¬ z84 = z17 := fun h => c_87 ((iI_eq (Int.le_trans (by decide) z84_a) (Int.le_trans z84_b (by decide)) (Int.le_trans (by decide) z17_a) (Int.le_trans z17_b (by decide))).mpr h)
                                  refine lv_iconst (v := iI 0) hx hb dX12_go_271 (by decide +kernel) ?_
                                  refine lv_istore_n (lv' := [(3, .int (iI 0)), (4, .int (iI (f0 z21))), (2, .int (iI z17)), (1, .int (iI (f0 z1))), (0, .ref a0)]) hx hb dX12_go_272 rfl hl (by decide) rfl (fun ls hl => ?_)
                                  refine lv_aload_n hx hb dX12_go_273 rfl (lv_at hl 4 rfl) ?_
                                  refine r_get (v := .int (iI z21)) M w 0 5 clX12 rfl (by decide) G1468 rfl rfl dX12_go_274 ?_
                                  refine lv_aload_n hx hb dX12_go_277 rfl (lv_at hl 4 rfl) ?_
                                  refine r_get (v := .int (iI z1)) M w 0 6 clX12 rfl (by decide) G1469 rfl rfl dX12_go_278 ?_
                                  refine r_isub (v := iI (z21 - z1)) M (iI_sub _ _) dX12_go_281 ?_
                                  refine lv_bipush (v := iI 7) hx hb dX12_go_282 (by decide +kernel) ?_
                                  refine lv_icmp_ge (tgt := 307) hx hb dX12_go_284 (by decide) (fun c_88 => ?_) (fun c_88 => ?_)
                                  · replace c_88 := (iI_le (by decide) (by decide) (by omega) (by omega)).mp c_88
                                    refine lv_aload_n hx hb dX12_go_307 rfl (lv_at hl 4 rfl) ?_
                                    refine r_get (v := .int (iI z21)) M w 0 5 clX12 rfl (by decide) G1468 rfl rfl dX12_go_308 ?_
                                    refine lv_aload_n hx hb dX12_go_311 rfl (lv_at hl 4 rfl) ?_
                                    refine r_get (v := .int (iI z1)) M w 0 6 clX12 rfl (by decide) G1469 rfl rfl dX12_go_312 ?_
                                    refine r_isub (v := iI (z21 - z1)) M (iI_sub _ _) dX12_go_315 ?_
                                    refine lv_iconst (v := iI 3) hx hb dX12_go_316 (by decide +kernel) ?_
                                    refine lv_icmp_ge (tgt := 337) hx hb dX12_go_317 (by decide) (fun c_89 => ?_) (fun c_89 => ?_)
                                    · replace c_89 := (iI_le (by decide) (by decide) (by omega) (by omega)).mp c_89
                                      refine lv_aload_n hx hb dX12_go_337 rfl (lv_at hl 4 rfl) ?_
                                      refine lv_dup hx hb dX12_go_338 rfl ?_
                                      refine r_get (v := .int (iI z21)) M w 0 5 clX12 rfl (by decide) G1468 rfl rfl dX12_go_339 ?_
                                      refine lv_iconst (v := iI 1) hx hb dX12_go_342 (by decide +kernel) ?_
                                      refine r_iadd (v := iI (z21 + 1)) M (iI_add _ _) dX12_go_343 ?_
                                      refine r_put (ws' := [(a0, .inr (11, [.int r0, .ref a1, .int (iI x0), .int (iI x1), .int (iI x2), .int (iI (z21 + 1)), .int (iI z1), .int (iI x5), .int fr22, .int (iI x6), .int (iI x7), .int (iI x8), .long fy20, .int (iI x9), .ref a2, .ref a3, .ref a4, .ref a5, .ref a6, .ref a7, .ref a8, .ref a9, .ref a10, .ref a11, .int (iI x10), .ref a12, .ref a13, .ref a14, .ref a15, .int (iI x11), .int r2, .int r3, .ref a16, .int (iI x12), .int (iI x13), .ref a17, .ref a18, .int (iI x14), .ref a19, .int (iI x15), .int r4, .ref a20, .ref a21, .int (iI x16), .int r5, .ref a22, .int (iI x17), .int (iI x18), .int (iI x19), .int (iI x20)])), (a1, .inl (T 0, 940, .inl (cI f0)))]) M w 0 5 clX12 rfl (by decide) G1468 rfl rfl rfl rfl (Nat.le_of_ble_eq_true rfl) rfl dX12_go_344 (fun H locs w => ?_)
                                      refine lv_goto (tgt := 215) hx hb dX12_go_347 (by decide) ?_
                                      exact ih2 fy20 (z21 + 1) fr22 0 _ _ _ (by omega) (by omega) (by decide) (by decide) (by omega) (by omega) (lq2_r.trans (rn_t (ta_D pq66 pq71 (by omega)).1 (Or.inr (ta_D pq66 pq71 (by omega)).2))) (aR_s lq2_a (Or.inr (ta_D pq66 pq71 (by omega)).2)) (gd_q lq2_g (by omega) pq86 (by omega) (by omega) (by omega) (by omega) (by omega) (by omega)) (wI_s lq2_w (by omega) (f0_h _) (by first | exact Or.inl ⟨by omega, rfl⟩ | exact Or.inr ⟨by omega, rfl⟩) (by first | exact Or.inl ⟨by omega, rfl⟩ | exact Or.inr ⟨by omega, rfl⟩)) (by omega) w (lv_sub hl [0, 2, 3, 4] rfl)
                                    · replace c_89 : (z21 - z1) < 3 := Int.not_le.mp (fun h => c_89 ((iI_le (by decide) (by decide) (by omega) (by omega)).mpr h))
                                      exfalso; omega
                                  · replace c_88 : (z21 - z1) < 7 := Int.not_le.mp (fun h => c_88 ((iI_le (by decide) (by decide) (by omega) (by omega)).mpr h))
                                    refine lv_aload_n hx hb dX12_go_287 rfl (lv_at hl 4 rfl) ?_
                                    refine lv_ldc2 (v := 27) hx hb M.1.2.2.2.1 (M.1.2.2.2.2 _ G1641) dX12_go_288 ?_
                                    refine lv_aload_n hx hb dX12_go_291 rfl (lv_at hl 4 rfl) ?_
                                    refine r_get (v := .long fy20) M w 0 12 clX12 rfl (by decide) G1475 rfl rfl dX12_go_292 ?_
                                    refine r_lmul (v := (27 * fy20)) M rfl dX12_go_295 ?_
                                    refine lv_iload hx hb dX12_go_296 (lv_at hl 1 rfl) ?_
                                    refine lv_i2l (v := (Int32.toInt64 (iI (f0 z21)))) hx hb dX12_go_298 rfl ?_
                                    refine r_ladd (v := ((27 * fy20) + (Int32.toInt64 (iI (f0 z21))))) M rfl dX12_go_299 ?_
                                    refine lv_ldc2 (v := 96) hx hb M.1.2.2.2.1 (M.1.2.2.2.2 _ G1642) dX12_go_300 ?_
                                    refine r_lsub (v := (((27 * fy20) + (Int32.toInt64 (iI (f0 z21)))) - 96)) M rfl dX12_go_303 ?_
                                    refine r_put (ws' := [(a0, .inr (11, [.int r0, .ref a1, .int (iI x0), .int (iI x1), .int (iI x2), .int (iI z21), .int (iI z1), .int (iI x5), .int fr22, .int (iI x6), .int (iI x7), .int (iI x8), .long (((27 * fy20) + (Int32.toInt64 (iI (f0 z21)))) - 96), .int (iI x9), .ref a2, .ref a3, .ref a4, .ref a5, .ref a6, .ref a7, .ref a8, .ref a9, .ref a10, .ref a11, .int (iI x10), .ref a12, .ref a13, .ref a14, .ref a15, .int (iI x11), .int r2, .int r3, .ref a16, .int (iI x12), .int (iI x13), .ref a17, .ref a18, .int (iI x14), .ref a19, .int (iI x15), .int r4, .ref a20, .ref a21, .int (iI x16), .int r5, .ref a22, .int (iI x17), .int (iI x18), .int (iI x19), .int (iI x20)])), (a1, .inl (T 0, 940, .inl (cI f0)))]) M w 0 12 clX12 rfl (by decide) G1475 rfl rfl rfl rfl (Nat.le_of_ble_eq_true rfl) rfl dX12_go_304 (fun H locs w => ?_)
                                    refine lv_aload_n hx hb dX12_go_307 rfl (lv_at hl 4 rfl) ?_
                                    refine r_get (v := .int (iI z21)) M w 0 5 clX12 rfl (by decide) G1468 rfl rfl dX12_go_308 ?_
                                    refine lv_aload_n hx hb dX12_go_311 rfl (lv_at hl 4 rfl) ?_
                                    refine r_get (v := .int (iI z1)) M w 0 6 clX12 rfl (by decide) G1469 rfl rfl dX12_go_312 ?_
                                    refine r_isub (v := iI (z21 - z1)) M (iI_sub _ _) dX12_go_315 ?_
                                    refine lv_iconst (v := iI 3) hx hb dX12_go_316 (by decide +kernel) ?_
                                    refine lv_icmp_ge (tgt := 337) hx hb dX12_go_317 (by decide) (fun c_90 => ?_) (fun c_90 => ?_)
                                    · replace c_90 := (iI_le (by decide) (by decide) (by omega) (by omega)).mp c_90
                                      refine lv_aload_n hx hb dX12_go_337 rfl (lv_at hl 4 rfl) ?_
                                      refine lv_dup hx hb dX12_go_338 rfl ?_
                                      refine r_get (v := .int (iI z21)) M w 0 5 clX12 rfl (by decide) G1468 rfl rfl dX12_go_339 ?_
                                      refine lv_iconst (v := iI 1) hx hb dX12_go_342 (by decide +kernel) ?_
                                      refine r_iadd (v := iI (z21 + 1)) M (iI_add _ _) dX12_go_343 ?_
                                      refine r_put (ws' := [(a0, .inr (11, [.int r0, .ref a1, .int (iI x0), .int (iI x1), .int (iI x2), .int (iI (z21 + 1)), .int (iI z1), .int (iI x5), .int fr22, .int (iI x6), .int (iI x7), .int (iI x8), .long (((27 * fy20) + (Int32.toInt64 (iI (f0 z21)))) - 96), .int (iI x9), .ref a2, .ref a3, .ref a4, .ref a5, .ref a6, .ref a7, .ref a8, .ref a9, .ref a10, .ref a11, .int (iI x10), .ref a12, .ref a13, .ref a14, .ref a15, .int (iI x11), .int r2, .int r3, .ref a16, .int (iI x12), .int (iI x13), .ref a17, .ref a18, .int (iI x14), .ref a19, .int (iI x15), .int r4, .ref a20, .ref a21, .int (iI x16), .int r5, .ref a22, .int (iI x17), .int (iI x18), .int (iI x19), .int (iI x20)])), (a1, .inl (T 0, 940, .inl (cI f0)))]) M w 0 5 clX12 rfl (by decide) G1468 rfl rfl rfl rfl (Nat.le_of_ble_eq_true rfl) rfl dX12_go_344 (fun H locs w => ?_)
                                      refine lv_goto (tgt := 215) hx hb dX12_go_347 (by decide) ?_
                                      exact ih2 (((27 * fy20) + (Int32.toInt64 (iI (f0 z21)))) - 96) (z21 + 1) fr22 0 _ _ _ (by omega) (by omega) (by decide) (by decide) (by omega) (by omega) (lq2_r.trans (rn_t (ta_D pq66 pq71 (by omega)).1 (Or.inr (ta_D pq66 pq71 (by omega)).2))) (aR_s lq2_a (Or.inr (ta_D pq66 pq71 (by omega)).2)) (gd_q lq2_g (by omega) pq86 (by omega) (by omega) (by omega) (by omega) (by omega) (by omega)) (wI_s lq2_w (by omega) (f0_h _) (by first | exact Or.inl ⟨by omega, rfl⟩ | exact Or.inr ⟨by omega, rfl⟩) (by first | exact Or.inl ⟨by omega, rfl⟩ | exact Or.inr ⟨by omega, rfl⟩)) (by omega) w (lv_sub hl [0, 2, 3, 4] rfl)
                                    · replace c_90 : (z21 - z1) < 3 := Int.not_le.mp (fun h => c_90 ((iI_le (by decide) (by decide) (by omega) (by omega)).mpr h))
                                      refine lv_aload_n hx hb dX12_go_320 rfl (lv_at hl 4 rfl) ?_
                                      refine lv_bipush (v := iI 10) hx hb dX12_go_321 (by decide +kernel) ?_
                                      refine lv_aload_n hx hb dX12_go_323 rfl (lv_at hl 4 rfl) ?_
                                      refine r_get (v := .int fr22) M w 0 8 clX12 rfl (by decide) G1471 rfl rfl dX12_go_324 ?_
                                      refine r_imul (v := ((iI 10) * fr22)) M rfl dX12_go_327 ?_
                                      refine lv_iload hx hb dX12_go_328 (lv_at hl 1 rfl) ?_
                                      refine r_iadd (v := (((iI 10) * fr22) + (iI (f0 z21)))) M rfl dX12_go_330 ?_
                                      refine lv_bipush (v := iI 48) hx hb dX12_go_331 (by decide +kernel) ?_
                                      refine r_isub (v := ((((iI 10) * fr22) + (iI (f0 z21))) - (iI 48))) M rfl dX12_go_333 ?_
                                      refine r_put (ws' := [(a0, .inr (11, [.int r0, .ref a1, .int (iI x0), .int (iI x1), .int (iI x2), .int (iI z21), .int (iI z1), .int (iI x5), .int ((((iI 10) * fr22) + (iI (f0 z21))) - (iI 48)), .int (iI x6), .int (iI x7), .int (iI x8), .long (((27 * fy20) + (Int32.toInt64 (iI (f0 z21)))) - 96), .int (iI x9), .ref a2, .ref a3, .ref a4, .ref a5, .ref a6, .ref a7, .ref a8, .ref a9, .ref a10, .ref a11, .int (iI x10), .ref a12, .ref a13, .ref a14, .ref a15, .int (iI x11), .int r2, .int r3, .ref a16, .int (iI x12), .int (iI x13), .ref a17, .ref a18, .int (iI x14), .ref a19, .int (iI x15), .int r4, .ref a20, .ref a21, .int (iI x16), .int r5, .ref a22, .int (iI x17), .int (iI x18), .int (iI x19), .int (iI x20)])), (a1, .inl (T 0, 940, .inl (cI f0)))]) M w 0 8 clX12 rfl (by decide) G1471 rfl rfl rfl rfl (Nat.le_of_ble_eq_true rfl) rfl dX12_go_334 (fun H locs w => ?_)
                                      refine lv_aload_n hx hb dX12_go_337 rfl (lv_at hl 4 rfl) ?_
                                      refine lv_dup hx hb dX12_go_338 rfl ?_
                                      refine r_get (v := .int (iI z21)) M w 0 5 clX12 rfl (by decide) G1468 rfl rfl dX12_go_339 ?_
                                      refine lv_iconst (v := iI 1) hx hb dX12_go_342 (by decide +kernel) ?_
                                      refine r_iadd (v := iI (z21 + 1)) M (iI_add _ _) dX12_go_343 ?_
                                      refine r_put (ws' := [(a0, .inr (11, [.int r0, .ref a1, .int (iI x0), .int (iI x1), .int (iI x2), .int (iI (z21 + 1)), .int (iI z1), .int (iI x5), .int ((((iI 10) * fr22) + (iI (f0 z21))) - (iI 48)), .int (iI x6), .int (iI x7), .int (iI x8), .long (((27 * fy20) + (Int32.toInt64 (iI (f0 z21)))) - 96), .int (iI x9), .ref a2, .ref a3, .ref a4, .ref a5, .ref a6, .ref a7, .ref a8, .ref a9, .ref a10, .ref a11, .int (iI x10), .ref a12, .ref a13, .ref a14, .ref a15, .int (iI x11), .int r2, .int r3, .ref a16, .int (iI x12), .int (iI x13), .ref a17, .ref a18, .int (iI x14), .ref a19, .int (iI x15), .int r4, .ref a20, .ref a21, .int (iI x16), .int r5, .ref a22, .int (iI x17), .int (iI x18), .int (iI x19), .int (iI x20)])), (a1, .inl (T 0, 940, .inl (cI f0)))]) M w 0 5 clX12 rfl (by decide) G1468 rfl rfl rfl rfl (Nat.le_of_ble_eq_true rfl) rfl dX12_go_344 (fun H locs w => ?_)
                                      refine lv_goto (tgt := 215) hx hb dX12_go_347 (by decide) ?_
                                      exact ih2 (((27 * fy20) + (Int32.toInt64 (iI (f0 z21)))) - 96) (z21 + 1) ((((iI 10) * fr22) + (iI (f0 z21))) - (iI 48)) 0 _ _ _ (by omega) (by omega) (by decide) (by decide) (by omega) (by omega) (lq2_r.trans (rn_t (ta_D pq66 pq71 (by omega)).1 (Or.inr (ta_D pq66 pq71 (by omega)).2))) (aR_s lq2_a (Or.inr (ta_D pq66 pq71 (by omega)).2)) (gd_q lq2_g (by omega) pq86 (by omega) (by omega) (by omega) (by omega) (by omega) (by omega)) (wI_s lq2_w (by omega) (f0_h _) (by first | exact Or.inl ⟨by omega, rfl⟩ | exact Or.inr ⟨by omega, rfl⟩) (by first | exact Or.inl ⟨by omega, rfl⟩ | exact Or.inr ⟨by omega, rfl⟩)) (by omega) w (lv_sub hl [0, 2, 3, 4] rfl)
                                · replace c_87 := (iI_eq (Int.le_trans (by decide) z84_a) (Int.le_trans z84_b (by decide)) (Int.le_trans (by decide) z17_a) (Int.le_trans z17_b (by decide))).mp c_87
                                  refine lv_iconst (v := iI 1) hx hb dX12_go_267 (by decide +kernel) ?_
                                  refine lv_goto (tgt := 272) hx hb dX12_go_268 (by decide) ?_
                                  refine lv_istore_n (lv' := [(3, .int (iI 1)), (4, .int (iI (f0 z21))), (2, .int (iI z17)), (1, .int (iI (f0 z1))), (0, .ref a0)]) hx hb dX12_go_272 rfl hl (by decide) rfl (fun ls hl => ?_)
                                  refine lv_aload_n hx hb dX12_go_273 rfl (lv_at hl 4 rfl) ?_
                                  refine r_get (v := .int (iI z21)) M w 0 5 clX12 rfl (by decide) G1468 rfl rfl dX12_go_274 ?_
                                  refine lv_aload_n hx hb dX12_go_277 rfl (lv_at hl 4 rfl) ?_
                                  refine r_get (v := .int (iI z1)) M w 0 6 clX12 rfl (by decide) G1469 rfl rfl dX12_go_278 ?_
                                  refine r_isub (v := iI (z21 - z1)) M (iI_sub _ _) dX12_go_281 ?_
                                  refine lv_bipush (v := iI 7) hx hb dX12_go_282 (by decide +kernel) ?_
                                  refine lv_icmp_ge (tgt := 307) hx hb dX12_go_284 (by decide) (fun c_91 => ?_) (fun c_91 => ?_)
                                  · replace c_91 := (iI_le (by decide) (by decide) (by omega) (by omega)).mp c_91
                                    refine lv_aload_n hx hb dX12_go_307 rfl (lv_at hl 4 rfl) ?_
                                    refine r_get (v := .int (iI z21)) M w 0 5 clX12 rfl (by decide) G1468 rfl rfl dX12_go_308 ?_
                                    refine lv_aload_n hx hb dX12_go_311 rfl (lv_at hl 4 rfl) ?_
                                    refine r_get (v := .int (iI z1)) M w 0 6 clX12 rfl (by decide) G1469 rfl rfl dX12_go_312 ?_
                                    refine r_isub (v := iI (z21 - z1)) M (iI_sub _ _) dX12_go_315 ?_
                                    refine lv_iconst (v := iI 3) hx hb dX12_go_316 (by decide +kernel) ?_
                                    refine lv_icmp_ge (tgt := 337) hx hb dX12_go_317 (by decide) (fun c_92 => ?_) (fun c_92 => ?_)
                                    · replace c_92 := (iI_le (by decide) (by decide) (by omega) (by omega)).mp c_92
                                      refine lv_aload_n hx hb dX12_go_337 rfl (lv_at hl 4 rfl) ?_
                                      refine lv_dup hx hb dX12_go_338 rfl ?_
                                      refine r_get (v := .int (iI z21)) M w 0 5 clX12 rfl (by decide) G1468 rfl rfl dX12_go_339 ?_
                                      refine lv_iconst (v := iI 1) hx hb dX12_go_342 (by decide +kernel) ?_
                                      refine r_iadd (v := iI (z21 + 1)) M (iI_add _ _) dX12_go_343 ?_
                                      refine r_put (ws' := [(a0, .inr (11, [.int r0, .ref a1, .int (iI x0), .int (iI x1), .int (iI x2), .int (iI (z21 + 1)), .int (iI z1), .int (iI x5), .int fr22, .int (iI x6), .int (iI x7), .int (iI x8), .long fy20, .int (iI x9), .ref a2, .ref a3, .ref a4, .ref a5, .ref a6, .ref a7, .ref a8, .ref a9, .ref a10, .ref a11, .int (iI x10), .ref a12, .ref a13, .ref a14, .ref a15, .int (iI x11), .int r2, .int r3, .ref a16, .int (iI x12), .int (iI x13), .ref a17, .ref a18, .int (iI x14), .ref a19, .int (iI x15), .int r4, .ref a20, .ref a21, .int (iI x16), .int r5, .ref a22, .int (iI x17), .int (iI x18), .int (iI x19), .int (iI x20)])), (a1, .inl (T 0, 940, .inl (cI f0)))]) M w 0 5 clX12 rfl (by decide) G1468 rfl rfl rfl rfl (Nat.le_of_ble_eq_true rfl) rfl dX12_go_344 (fun H locs w => ?_)
                                      refine lv_goto (tgt := 215) hx hb dX12_go_347 (by decide) ?_
                                      exact ih2 fy20 (z21 + 1) fr22 1 _ _ _ (by omega) (by omega) (by decide) (by decide) (by omega) (by omega) (lq2_r.trans (rn_t (ta_D pq66 pq71 (by omega)).1 (Or.inr (ta_D pq66 pq71 (by omega)).2))) (aR_s lq2_a (Or.inr (ta_D pq66 pq71 (by omega)).2)) (gd_q lq2_g (by omega) pq86 (by omega) (by omega) (by omega) (by omega) (by omega) (by omega)) (wI_s lq2_w (by omega) (f0_h _) (by first | exact Or.inl ⟨by omega, rfl⟩ | exact Or.inr ⟨by omega, rfl⟩) (by first | exact Or.inl ⟨by omega, rfl⟩ | exact Or.inr ⟨by omega, rfl⟩)) (by omega) w (lv_sub hl [0, 2, 3, 4] rfl)
                                    · replace c_92 : (z21 - z1) < 3 := Int.not_le.mp (fun h => c_92 ((iI_le (by decide) (by decide) (by omega) (by omega)).mpr h))
                                      exfalso; omega
                                  · replace c_91 : (z21 - z1) < 7 := Int.not_le.mp (fun h => c_91 ((iI_le (by decide) (by decide) (by omega) (by omega)).mpr h))
                                    refine lv_aload_n hx hb dX12_go_287 rfl (lv_at hl 4 rfl) ?_
                                    refine lv_ldc2 (v := 27) hx hb M.1.2.2.2.1 (M.1.2.2.2.2 _ G1641) dX12_go_288 ?_
                                    refine lv_aload_n hx hb dX12_go_291 rfl (lv_at hl 4 rfl) ?_
                                    refine r_get (v := .long fy20) M w 0 12 clX12 rfl (by decide) G1475 rfl rfl dX12_go_292 ?_
                                    refine r_lmul (v := (27 * fy20)) M rfl dX12_go_295 ?_
                                    refine lv_iload hx hb dX12_go_296 (lv_at hl 1 rfl) ?_
                                    refine lv_i2l (v := (Int32.toInt64 (iI (f0 z21)))) hx hb dX12_go_298 rfl ?_
                                    refine r_ladd (v := ((27 * fy20) + (Int32.toInt64 (iI (f0 z21))))) M rfl dX12_go_299 ?_
                                    refine lv_ldc2 (v := 96) hx hb M.1.2.2.2.1 (M.1.2.2.2.2 _ G1642) dX12_go_300 ?_
                                    refine r_lsub (v := (((27 * fy20) + (Int32.toInt64 (iI (f0 z21)))) - 96)) M rfl dX12_go_303 ?_
                                    refine r_put (ws' := [(a0, .inr (11, [.int r0, .ref a1, .int (iI x0), .int (iI x1), .int (iI x2), .int (iI z21), .int (iI z1), .int (iI x5), .int fr22, .int (iI x6), .int (iI x7), .int (iI x8), .long (((27 * fy20) + (Int32.toInt64 (iI (f0 z21)))) - 96), .int (iI x9), .ref a2, .ref a3, .ref a4, .ref a5, .ref a6, .ref a7, .ref a8, .ref a9, .ref a10, .ref a11, .int (iI x10), .ref a12, .ref a13, .ref a14, .ref a15, .int (iI x11), .int r2, .int r3, .ref a16, .int (iI x12), .int (iI x13), .ref a17, .ref a18, .int (iI x14), .ref a19, .int (iI x15), .int r4, .ref a20, .ref a21, .int (iI x16), .int r5, .ref a22, .int (iI x17), .int (iI x18), .int (iI x19), .int (iI x20)])), (a1, .inl (T 0, 940, .inl (cI f0)))]) M w 0 12 clX12 rfl (by decide) G1475 rfl rfl rfl rfl (Nat.le_of_ble_eq_true rfl) rfl dX12_go_304 (fun H locs w => ?_)
                                    refine lv_aload_n hx hb dX12_go_307 rfl (lv_at hl 4 rfl) ?_
                                    refine r_get (v := .int (iI z21)) M w 0 5 clX12 rfl (by decide) G1468 rfl rfl dX12_go_308 ?_
                                    refine lv_aload_n hx hb dX12_go_311 rfl (lv_at hl 4 rfl) ?_
                                    refine r_get (v := .int (iI z1)) M w 0 6 clX12 rfl (by decide) G1469 rfl rfl dX12_go_312 ?_
                                    refine r_isub (v := iI (z21 - z1)) M (iI_sub _ _) dX12_go_315 ?_
                                    refine lv_iconst (v := iI 3) hx hb dX12_go_316 (by decide +kernel) ?_
                                    refine lv_icmp_ge (tgt := 337) hx hb dX12_go_317 (by decide) (fun c_93 => ?_) (fun c_93 => ?_)
                                    · replace c_93 := (iI_le (by decide) (by decide) (by omega) (by omega)).mp c_93
                                      refine lv_aload_n hx hb dX12_go_337 rfl (lv_at hl 4 rfl) ?_
                                      refine lv_dup hx hb dX12_go_338 rfl ?_
                                      refine r_get (v := .int (iI z21)) M w 0 5 clX12 rfl (by decide) G1468 rfl rfl dX12_go_339 ?_
                                      refine lv_iconst (v := iI 1) hx hb dX12_go_342 (by decide +kernel) ?_
                                      refine r_iadd (v := iI (z21 + 1)) M (iI_add _ _) dX12_go_343 ?_
                                      refine r_put (ws' := [(a0, .inr (11, [.int r0, .ref a1, .int (iI x0), .int (iI x1), .int (iI x2), .int (iI (z21 + 1)), .int (iI z1), .int (iI x5), .int fr22, .int (iI x6), .int (iI x7), .int (iI x8), .long (((27 * fy20) + (Int32.toInt64 (iI (f0 z21)))) - 96), .int (iI x9), .ref a2, .ref a3, .ref a4, .ref a5, .ref a6, .ref a7, .ref a8, .ref a9, .ref a10, .ref a11, .int (iI x10), .ref a12, .ref a13, .ref a14, .ref a15, .int (iI x11), .int r2, .int r3, .ref a16, .int (iI x12), .int (iI x13), .ref a17, .ref a18, .int (iI x14), .ref a19, .int (iI x15), .int r4, .ref a20, .ref a21, .int (iI x16), .int r5, .ref a22, .int (iI x17), .int (iI x18), .int (iI x19), .int (iI x20)])), (a1, .inl (T 0, 940, .inl (cI f0)))]) M w 0 5 clX12 rfl (by decide) G1468 rfl rfl rfl rfl (Nat.le_of_ble_eq_true rfl) rfl dX12_go_344 (fun H locs w => ?_)
                                      refine lv_goto (tgt := 215) hx hb dX12_go_347 (by decide) ?_
                                      exact ih2 (((27 * fy20) + (Int32.toInt64 (iI (f0 z21)))) - 96) (z21 + 1) fr22 1 _ _ _ (by omega) (by omega) (by decide) (by decide) (by omega) (by omega) (lq2_r.trans (rn_t (ta_D pq66 pq71 (by omega)).1 (Or.inr (ta_D pq66 pq71 (by omega)).2))) (aR_s lq2_a (Or.inr (ta_D pq66 pq71 (by omega)).2)) (gd_q lq2_g (by omega) pq86 (by omega) (by omega) (by omega) (by omega) (by omega) (by omega)) (wI_s lq2_w (by omega) (f0_h _) (by first | exact Or.inl ⟨by omega, rfl⟩ | exact Or.inr ⟨by omega, rfl⟩) (by first | exact Or.inl ⟨by omega, rfl⟩ | exact Or.inr ⟨by omega, rfl⟩)) (by omega) w (lv_sub hl [0, 2, 3, 4] rfl)
                                    · replace c_93 : (z21 - z1) < 3 := Int.not_le.mp (fun h => c_93 ((iI_le (by decide) (by decide) (by omega) (by omega)).mpr h))
                                      refine lv_aload_n hx hb dX12_go_320 rfl (lv_at hl 4 rfl) ?_
                                      refine lv_bipush (v := iI 10) hx hb dX12_go_321 (by decide +kernel) ?_
                                      refine lv_aload_n hx hb dX12_go_323 rfl (lv_at hl 4 rfl) ?_
                                      refine r_get (v := .int fr22) M w 0 8 clX12 rfl (by decide) G1471 rfl rfl dX12_go_324 ?_
                                      refine r_imul (v := ((iI 10) * fr22)) M rfl dX12_go_327 ?_
                                      refine lv_iload hx hb dX12_go_328 (lv_at hl 1 rfl) ?_
                                      refine r_iadd (v := (((iI 10) * fr22) + (iI (f0 z21)))) M rfl dX12_go_330 ?_
                                      refine lv_bipush (v := iI 48) hx hb dX12_go_331 (by decide +kernel) ?_
                                      refine r_isub (v := ((((iI 10) * fr22) + (iI (f0 z21))) - (iI 48))) M rfl dX12_go_333 ?_
                                      refine r_put (ws' := [(a0, .inr (11, [.int r0, .ref a1, .int (iI x0), .int (iI x1), .int (iI x2), .int (iI z21), .int (iI z1), .int (iI x5), .int ((((iI 10) * fr22) + (iI (f0 z21))) - (iI 48)), .int (iI x6), .int (iI x7), .int (iI x8), .long (((27 * fy20) + (Int32.toInt64 (iI (f0 z21)))) - 96), .int (iI x9), .ref a2, .ref a3, .ref a4, .ref a5, .ref a6, .ref a7, .ref a8, .ref a9, .ref a10, .ref a11, .int (iI x10), .ref a12, .ref a13, .ref a14, .ref a15, .int (iI x11), .int r2, .int r3, .ref a16, .int (iI x12), .int (iI x13), .ref a17, .ref a18, .int (iI x14), .ref a19, .int (iI x15), .int r4, .ref a20, .ref a21, .int (iI x16), .int r5, .ref a22, .int (iI x17), .int (iI x18), .int (iI x19), .int (iI x20)])), (a1, .inl (T 0, 940, .inl (cI f0)))]) M w 0 8 clX12 rfl (by decide) G1471 rfl rfl rfl rfl (Nat.le_of_ble_eq_true rfl) rfl dX12_go_334 (fun H locs w => ?_)
                                      refine lv_aload_n hx hb dX12_go_337 rfl (lv_at hl 4 rfl) ?_
                                      refine lv_dup hx hb dX12_go_338 rfl ?_
                                      refine r_get (v := .int (iI z21)) M w 0 5 clX12 rfl (by decide) G1468 rfl rfl dX12_go_339 ?_
                                      refine lv_iconst (v := iI 1) hx hb dX12_go_342 (by decide +kernel) ?_
                                      refine r_iadd (v := iI (z21 + 1)) M (iI_add _ _) dX12_go_343 ?_
                                      refine r_put (ws' := [(a0, .inr (11, [.int r0, .ref a1, .int (iI x0), .int (iI x1), .int (iI x2), .int (iI (z21 + 1)), .int (iI z1), .int (iI x5), .int ((((iI 10) * fr22) + (iI (f0 z21))) - (iI 48)), .int (iI x6), .int (iI x7), .int (iI x8), .long (((27 * fy20) + (Int32.toInt64 (iI (f0 z21)))) - 96), .int (iI x9), .ref a2, .ref a3, .ref a4, .ref a5, .ref a6, .ref a7, .ref a8, .ref a9, .ref a10, .ref a11, .int (iI x10), .ref a12, .ref a13, .ref a14, .ref a15, .int (iI x11), .int r2, .int r3, .ref a16, .int (iI x12), .int (iI x13), .ref a17, .ref a18, .int (iI x14), .ref a19, .int (iI x15), .int r4, .ref a20, .ref a21, .int (iI x16), .int r5, .ref a22, .int (iI x17), .int (iI x18), .int (iI x19), .int (iI x20)])), (a1, .inl (T 0, 940, .inl (cI f0)))]) M w 0 5 clX12 rfl (by decide) G1468 rfl rfl rfl rfl (Nat.le_of_ble_eq_true rfl) rfl dX12_go_344 (fun H locs w => ?_)
                                      refine lv_goto (tgt := 215) hx hb dX12_go_347 (by decide) ?_
                                      exact ih2 (((27 * fy20) + (Int32.toInt64 (iI (f0 z21)))) - 96) (z21 + 1) ((((iI 10) * fr22) + (iI (f0 z21))) - (iI 48)) 1 _ _ _ (by omega) (by omega) (by decide) (by decide) (by omega) (by omega) (lq2_r.trans (rn_t (ta_D pq66 pq71 (by omega)).1 (Or.inr (ta_D pq66 pq71 (by omega)).2))) (aR_s lq2_a (Or.inr (ta_D pq66 pq71 (by omega)).2)) (gd_q lq2_g (by omega) pq86 (by omega) (by omega) (by omega) (by omega) (by omega) (by omega)) (wI_s lq2_w (by omega) (f0_h _) (by first | exact Or.inl ⟨by omega, rfl⟩ | exact Or.inr ⟨by omega, rfl⟩) (by first | exact Or.inl ⟨by omega, rfl⟩ | exact Or.inr ⟨by omega, rfl⟩)) (by omega) w (lv_sub hl [0, 2, 3, 4] rfl)
                  exact loop2 (((x1 - z1) : Int).toNat + 1) 0 z1 (iI 0) 1 _ _ _ z1_a z1_b (by decide) (by decide) (by omega) (by omega) rfl aR_0 gd_0 (wI_0 rfl rfl) (Nat.lt_succ_self _) w (lv_sub hl [0, 1, 2, 3] rfl)
                · replace c_16 := (iz_eq (Int.le_trans (by decide) z13_a) (Int.le_trans z13_b (by decide))).mp c_16
                  refine lv_iload_n hx hb dX12_go_130 rfl (lv_at hl 0 rfl) ?_
                  refine k_I (ce := 0) (sl := 0) (rest := []) (wr := [(a0, .inr (11, [.int r0, .ref a1, .int (iI x0), .int (iI x1), .int (iI x2), .int (iI z1), .int (iI z1), .int (iI x5), .int r1, .int (iI x6), .int (iI x7), .int (iI x8), .long y0, .int (iI x9), .ref a2, .ref a3, .ref a4, .ref a5, .ref a6, .ref a7, .ref a8, .ref a9, .ref a10, .ref a11, .int (iI x10), .ref a12, .ref a13, .ref a14, .ref a15, .int (iI x11), .int r2, .int r3, .ref a16, .int (iI x12), .int (iI x13), .ref a17, .ref a18, .int (iI x14), .ref a19, .int (iI x15), .int r4, .ref a20, .ref a21, .int (iI x16), .int r5, .ref a22, .int (iI x17), .int (iI x18), .int (iI x19), .int (iI x20)])), (a1, .inl (T 0, 940, .inl (cI f0)))]) (r_S (f := 0) [] M w V_HookedCityModel_37 G1635 (c10_X12_isDigit l D T _ (f0 z1) (by omega) (by omega)) rfl (by decide) rfl hl.1 rfl (Nat.le_of_ble_eq_true rfl) dX12_go_131 (by decide) (by decide) (by decide) (by decide)) w [] [0, 1] rfl rfl (by decide) (by decide) rfl rfl (fun v z94 H locs hp w => ?_)
                  have hv : iI z94 = v := hp.1
                  subst hv
                  have z94_a : 0 ≤ z94 := hp.2.1
                  have z94_b : z94 ≤ 1 := hp.2.2.1
                  have ee95 : 0 ≤ (((f0 z1) + 4294967296) - (z94 * 4294967344)) := hp.2.2.2.1
                  have pq96 : lq z94 (f0 z1) 48 57 := hp.2.2.2.2
                  have w : WD D A s.heap [(a0, .inr (11, [.int r0, .ref a1, .int (iI x0), .int (iI x1), .int (iI x2), .int (iI z1), .int (iI z1), .int (iI x5), .int r1, .int (iI x6), .int (iI x7), .int (iI x8), .long y0, .int (iI x9), .ref a2, .ref a3, .ref a4, .ref a5, .ref a6, .ref a7, .ref a8, .ref a9, .ref a10, .ref a11, .int (iI x10), .ref a12, .ref a13, .ref a14, .ref a15, .int (iI x11), .int r2, .int r3, .ref a16, .int (iI x12), .int (iI x13), .ref a17, .ref a18, .int (iI x14), .ref a19, .int (iI x15), .int r4, .ref a20, .ref a21, .int (iI x16), .int r5, .ref a22, .int (iI x17), .int (iI x18), .int (iI x19), .int (iI x20)])), (a1, .inl (T 0, 940, .inl (cI f0)))] H locs := w
                  refine lv_if_ne (tgt := 198) hx hb dX12_go_134 (by decide) (fun c_97 => ?_) (fun c_97 => ?_)
                  · replace c_97 : ¬ z94 = 0 := fun h => c_97 ((iz_eq (Int.le_trans (by decide) z94_a) (Int.le_trans z94_b (by decide))).mpr h)
                    refine lv_iload_n hx hb dX12_go_198 rfl (lv_at hl 0 rfl) ?_
                    refine k_I (ce := 0) (sl := 0) (rest := []) (wr := [(a0, .inr (11, [.int r0, .ref a1, .int (iI x0), .int (iI x1), .int (iI x2), .int (iI z1), .int (iI z1), .int (iI x5), .int r1, .int (iI x6), .int (iI x7), .int (iI x8), .long y0, .int (iI x9), .ref a2, .ref a3, .ref a4, .ref a5, .ref a6, .ref a7, .ref a8, .ref a9, .ref a10, .ref a11, .int (iI x10), .ref a12, .ref a13, .ref a14, .ref a15, .int (iI x11), .int r2, .int r3, .ref a16, .int (iI x12), .int (iI x13), .ref a17, .ref a18, .int (iI x14), .ref a19, .int (iI x15), .int r4, .ref a20, .ref a21, .int (iI x16), .int r5, .ref a22, .int (iI x17), .int (iI x18), .int (iI x19), .int (iI x20)])), (a1, .inl (T 0, 940, .inl (cI f0)))]) (r_S (f := 0) [] M w V_HookedCityModel_33 G1632 (c11_X12_isLetter l D T _ (f0 z1) (by omega) (by omega)) rfl (by decide) rfl hl.1 rfl (Nat.le_of_ble_eq_true rfl) dX12_go_199 (by decide) (by decide) (by decide) (by decide)) w [] [0, 1] rfl rfl (by decide) (by decide) rfl rfl (fun v z98 H locs hp w => ?_)
                    have hv : iI z98 = v := hp.1
                    subst hv
                    have z98_a : 0 ≤ z98 := hp.2.1
                    have z98_b : z98 ≤ 1 := hp.2.2.1
                    have ee99 : 0 ≤ (((f0 z1) + 4294967296) - (z98 * 4294967393)) := hp.2.2.2.1
                    have pq100 : lq z98 (f0 z1) 97 122 := hp.2.2.2.2
                    have w : WD D A s.heap [(a0, .inr (11, [.int r0, .ref a1, .int (iI x0), .int (iI x1), .int (iI x2), .int (iI z1), .int (iI z1), .int (iI x5), .int r1, .int (iI x6), .int (iI x7), .int (iI x8), .long y0, .int (iI x9), .ref a2, .ref a3, .ref a4, .ref a5, .ref a6, .ref a7, .ref a8, .ref a9, .ref a10, .ref a11, .int (iI x10), .ref a12, .ref a13, .ref a14, .ref a15, .int (iI x11), .int r2, .int r3, .ref a16, .int (iI x12), .int (iI x13), .ref a17, .ref a18, .int (iI x14), .ref a19, .int (iI x15), .int r4, .ref a20, .ref a21, .int (iI x16), .int r5, .ref a22, .int (iI x17), .int (iI x18), .int (iI x19), .int (iI x20)])), (a1, .inl (T 0, 940, .inl (cI f0)))] H locs := w
                    refine lv_istore_n (lv' := [(2, .int (iI z98)), (1, .int (iI (f0 z1))), (0, .ref a0)]) hx hb dX12_go_202 rfl hl (by decide) rfl (fun ls hl => ?_)
                    refine lv_iconst (v := iI 1) hx hb dX12_go_203 (by decide +kernel) ?_
                    refine lv_istore_n (lv' := [(3, .int (iI 1)), (2, .int (iI z98)), (1, .int (iI (f0 z1))), (0, .ref a0)]) hx hb dX12_go_204 rfl hl (by decide) rfl (fun ls hl => ?_)
                    refine lv_aload_n hx hb dX12_go_205 rfl (lv_at hl 3 rfl) ?_
                    refine lv_lconst (v := 0) hx hb dX12_go_206 (by decide) ?_
                    refine r_put (ws' := [(a0, .inr (11, [.int r0, .ref a1, .int (iI x0), .int (iI x1), .int (iI x2), .int (iI z1), .int (iI z1), .int (iI x5), .int r1, .int (iI x6), .int (iI x7), .int (iI x8), .long 0, .int (iI x9), .ref a2, .ref a3, .ref a4, .ref a5, .ref a6, .ref a7, .ref a8, .ref a9, .ref a10, .ref a11, .int (iI x10), .ref a12, .ref a13, .ref a14, .ref a15, .int (iI x11), .int r2, .int r3, .ref a16, .int (iI x12), .int (iI x13), .ref a17, .ref a18, .int (iI x14), .ref a19, .int (iI x15), .int r4, .ref a20, .ref a21, .int (iI x16), .int r5, .ref a22, .int (iI x17), .int (iI x18), .int (iI x19), .int (iI x20)])), (a1, .inl (T 0, 940, .inl (cI f0)))]) M w 0 12 clX12 rfl (by decide) G1475 rfl rfl rfl rfl (Nat.le_of_ble_eq_true rfl) rfl dX12_go_207 (fun H locs w => ?_)
                    refine lv_aload_n hx hb dX12_go_210 rfl (lv_at hl 3 rfl) ?_
                    refine lv_iconst (v := iI 0) hx hb dX12_go_211 (by decide +kernel) ?_
                    refine r_put (ws' := [(a0, .inr (11, [.int r0, .ref a1, .int (iI x0), .int (iI x1), .int (iI x2), .int (iI z1), .int (iI z1), .int (iI x5), .int (iI 0), .int (iI x6), .int (iI x7), .int (iI x8), .long 0, .int (iI x9), .ref a2, .ref a3, .ref a4, .ref a5, .ref a6, .ref a7, .ref a8, .ref a9, .ref a10, .ref a11, .int (iI x10), .ref a12, .ref a13, .ref a14, .ref a15, .int (iI x11), .int r2, .int r3, .ref a16, .int (iI x12), .int (iI x13), .ref a17, .ref a18, .int (iI x14), .ref a19, .int (iI x15), .int r4, .ref a20, .ref a21, .int (iI x16), .int r5, .ref a22, .int (iI x17), .int (iI x18), .int (iI x19), .int (iI x20)])), (a1, .inl (T 0, 940, .inl (cI f0)))]) M w 0 8 clX12 rfl (by decide) G1471 rfl rfl rfl rfl (Nat.le_of_ble_eq_true rfl) rfl dX12_go_212 (fun H locs w => ?_)
                    have loop2 : ∀ (k2 : Nat) (fy101 : Int64) (z102 : Int) (fr103 : Int32) (z104 : Int) (H : Heap) (locs : List Loc) (ls : Array Slot), 0 ≤ z102 → z102 ≤ 940 → 0 ≤ z104 → z104 ≤ 1 → 0 ≤ (z102 - x3) → 0 ≤ (z102 - z1) → rn f0 x1 z1 = rn f0 x1 z102 → aR f0 z1 z102 → gdI f0 z1 z102 z98 z104 → wI f0 z1 z102 fy101 fr103 → ((x1 - z102) : Int).toNat < k2 → WD D A s.heap [(a0, .inr (11, [.int r0, .ref a1, .int (iI x0), .int (iI x1), .int (iI x2), .int (iI z102), .int (iI z1), .int (iI x5), .int fr103, .int (iI x6), .int (iI x7), .int (iI x8), .long fy101, .int (iI x9), .ref a2, .ref a3, .ref a4, .ref a5, .ref a6, .ref a7, .ref a8, .ref a9, .ref a10, .ref a11, .int (iI x10), .ref a12, .ref a13, .ref a14, .ref a15, .int (iI x11), .int r2, .int r3, .ref a16, .int (iI x12), .int (iI x13), .ref a17, .ref a18, .int (iI x14), .ref a19, .int (iI x15), .int r4, .ref a20, .ref a21, .int (iI x16), .int r5, .ref a22, .int (iI x17), .int (iI x18), .int (iI x19), .int (iI x20)])), (a1, .inl (T 0, 940, .inl (cI f0)))] H locs → lv_has ls 5 [(3, .int (iI z104)), (2, .int (iI z98)), (1, .int (iI (f0 z1))), (0, .ref a0)] → W p l e (Rm 1 0 0) s m args below meth c H locs 0 0 Q (F0 m 215 ls []) := by
                      intro k2
                      induction k2 with
                      | zero => intro fy101 z102 fr103 z104 H locs ls z102_a z102_b z104_a z104_b q2_0 q2_1 lq2_r lq2_a lq2_g lq2_w hm; exact absurd hm (Nat.not_lt_zero _)
                      | succ k2 ih2 =>
                        intro fy101 z102 fr103 z104 H locs ls z102_a z102_b z104_a z104_b q2_0 q2_1 lq2_r lq2_a lq2_g lq2_w hm2 w hl
                        refine lv_aload_n hx hb dX12_go_215 rfl (lv_at hl 3 rfl) ?_
                        refine lv_aload_n hx hb dX12_go_216 rfl (lv_at hl 3 rfl) ?_
                        refine r_get (v := .int (iI z102)) M w 0 5 clX12 rfl (by decide) G1468 rfl rfl dX12_go_217 ?_
                        refine k_I (ce := 0) (sl := 0) (rest := []) (wr := []) (r_V (f := 0) [0, 1] M w V_HookedCityModel_50 G1639 G50 (c9_X12_tapeAt l D T _ a0 z102 r0 a1 x0 x1 x2 z102 z1 x5 fr103 x6 x7 x8 fy101 x9 a2 a3 a4 a5 a6 a7 a8 a9 a10 a11 x10 a12 a13 a14 a15 x11 r2 r3 a16 x12 x13 a17 a18 x14 a19 x15 r4 a20 a21 x16 r5 a22 x17 x18 x19 x20 f0 z102_a z102_b x0_a x0_b x1_a x1_b x2_a x2_b z102_a z102_b z1_a z1_b x5_a x5_b x6_a x6_b x7_a x7_b x8_a x8_b x9_a x9_b x10_a x10_b x11_a x11_b x12_a x12_b x13_a x13_b x14_a x14_b x15_a x15_b x16_a x16_b x17_a x17_b x18_a x18_b x19_a x19_b x20_a x20_b f0_h) 0 clX12 rfl rfl (by decide) rfl hl.1 rfl (Nat.le_of_ble_eq_true rfl) dX12_go_220 (by decide) (by decide) (by decide) (by decide)) w [0, 1] [] rfl rfl (by decide) (by decide) rfl rfl (fun v z105 H locs hp w => ?_)
                        have hv : iI z105 = v := hp.1
                        subst hv
                        have z105_a : (-2147483648) ≤ z105 := hp.2.1
                        have z105_b : z105 ≤ 2147483647 := hp.2.2.1
                        have pq106 : taQ z102 x1 z105 (f0 z102) := hp.2.2.2.1
                        have w : WD D A s.heap [(a0, .inr (11, [.int r0, .ref a1, .int (iI x0), .int (iI x1), .int (iI x2), .int (iI z102), .int (iI z1), .int (iI x5), .int fr103, .int (iI x6), .int (iI x7), .int (iI x8), .long fy101, .int (iI x9), .ref a2, .ref a3, .ref a4, .ref a5, .ref a6, .ref a7, .ref a8, .ref a9, .ref a10, .ref a11, .int (iI x10), .ref a12, .ref a13, .ref a14, .ref a15, .int (iI x11), .int r2, .int r3, .ref a16, .int (iI x12), .int (iI x13), .ref a17, .ref a18, .int (iI x14), .ref a19, .int (iI x15), .int r4, .ref a20, .ref a21, .int (iI x16), .int r5, .ref a22, .int (iI x17), .int (iI x18), .int (iI x19), .int (iI x20)])), (a1, .inl (T 0, 940, .inl (cI f0)))] H locs := w
                        rcases hp.2.2.2.2 with ⟨c_107, hr⟩ | c_108
                        · subst hr
                          refine k_I (ce := 0) (sl := 0) (rest := []) (wr := [(a0, .inr (11, [.int r0, .ref a1, .int (iI x0), .int (iI x1), .int (iI x2), .int (iI z102), .int (iI z1), .int (iI x5), .int fr103, .int (iI x6), .int (iI x7), .int (iI x8), .long fy101, .int (iI x9), .ref a2, .ref a3, .ref a4, .ref a5, .ref a6, .ref a7, .ref a8, .ref a9, .ref a10, .ref a11, .int (iI x10), .ref a12, .ref a13, .ref a14, .ref a15, .int (iI x11), .int r2, .int r3, .ref a16, .int (iI x12), .int (iI x13), .ref a17, .ref a18, .int (iI x14), .ref a19, .int (iI x15), .int r4, .ref a20, .ref a21, .int (iI x16), .int r5, .ref a22, .int (iI x17), .int (iI x18), .int (iI x19), .int (iI x20)])), (a1, .inl (T 0, 940, .inl (cI f0)))]) (r_S (f := 0) [] M w V_HookedCityModel_33 G1632 (c11_X12_isLetter l D T _ 0 (by decide) (by decide)) rfl (by decide) rfl hl.1 rfl (Nat.le_of_ble_eq_true rfl) dX12_go_223 (by decide) (by decide) (by decide) (by decide)) w [] [0, 1] rfl rfl (by decide) (by decide) rfl rfl (fun v z109 H locs hp w => ?_)
                          have hv : iI z109 = v := hp.1
                          subst hv
                          have z109_a : 0 ≤ z109 := hp.2.1
                          have z109_b : z109 ≤ 1 := hp.2.2.1
                          have ee110 : 0 ≤ ((0 + 4294967296) - (z109 * 4294967393)) := hp.2.2.2.1
                          have pq111 : lq z109 0 97 122 := hp.2.2.2.2
                          have w : WD D A s.heap [(a0, .inr (11, [.int r0, .ref a1, .int (iI x0), .int (iI x1), .int (iI x2), .int (iI z102), .int (iI z1), .int (iI x5), .int fr103, .int (iI x6), .int (iI x7), .int (iI x8), .long fy101, .int (iI x9), .ref a2, .ref a3, .ref a4, .ref a5, .ref a6, .ref a7, .ref a8, .ref a9, .ref a10, .ref a11, .int (iI x10), .ref a12, .ref a13, .ref a14, .ref a15, .int (iI x11), .int r2, .int r3, .ref a16, .int (iI x12), .int (iI x13), .ref a17, .ref a18, .int (iI x14), .ref a19, .int (iI x15), .int r4, .ref a20, .ref a21, .int (iI x16), .int r5, .ref a22, .int (iI x17), .int (iI x18), .int (iI x19), .int (iI x20)])), (a1, .inl (T 0, 940, .inl (cI f0)))] H locs := w
                          refine lv_if_ne (tgt := 243) hx hb dX12_go_226 (by decide) (fun c_112 => ?_) (fun c_112 => ?_)
                          · replace c_112 : ¬ z109 = 0 := fun h => c_112 ((iz_eq (Int.le_trans (by decide) z109_a) (Int.le_trans z109_b (by decide))).mpr h)
                            exfalso; omega
                          · replace c_112 := (iz_eq (Int.le_trans (by decide) z109_a) (Int.le_trans z109_b (by decide))).mp c_112
                            refine lv_aload_n hx hb dX12_go_229 rfl (lv_at hl 3 rfl) ?_
                            refine lv_aload_n hx hb dX12_go_230 rfl (lv_at hl 3 rfl) ?_
                            refine r_get (v := .int (iI z102)) M w 0 5 clX12 rfl (by decide) G1468 rfl rfl dX12_go_231 ?_
                            refine k_I (ce := 0) (sl := 0) (rest := []) (wr := []) (r_V (f := 0) [0, 1] M w V_HookedCityModel_50 G1639 G50 (c9_X12_tapeAt l D T _ a0 z102 r0 a1 x0 x1 x2 z102 z1 x5 fr103 x6 x7 x8 fy101 x9 a2 a3 a4 a5 a6 a7 a8 a9 a10 a11 x10 a12 a13 a14 a15 x11 r2 r3 a16 x12 x13 a17 a18 x14 a19 x15 r4 a20 a21 x16 r5 a22 x17 x18 x19 x20 f0 z102_a z102_b x0_a x0_b x1_a x1_b x2_a x2_b z102_a z102_b z1_a z1_b x5_a x5_b x6_a x6_b x7_a x7_b x8_a x8_b x9_a x9_b x10_a x10_b x11_a x11_b x12_a x12_b x13_a x13_b x14_a x14_b x15_a x15_b x16_a x16_b x17_a x17_b x18_a x18_b x19_a x19_b x20_a x20_b f0_h) 0 clX12 rfl rfl (by decide) rfl hl.1 rfl (Nat.le_of_ble_eq_true rfl) dX12_go_234 (by decide) (by decide) (by decide) (by decide)) w [0, 1] [] rfl rfl (by decide) (by decide) rfl rfl (fun v z113 H locs hp w => ?_)
                            have hv : iI z113 = v := hp.1
                            subst hv
                            have z113_a : (-2147483648) ≤ z113 := hp.2.1
                            have z113_b : z113 ≤ 2147483647 := hp.2.2.1
                            have pq114 : taQ z102 x1 z113 (f0 z102) := hp.2.2.2.1
                            have w : WD D A s.heap [(a0, .inr (11, [.int r0, .ref a1, .int (iI x0), .int (iI x1), .int (iI x2), .int (iI z102), .int (iI z1), .int (iI x5), .int fr103, .int (iI x6), .int (iI x7), .int (iI x8), .long fy101, .int (iI x9), .ref a2, .ref a3, .ref a4, .ref a5, .ref a6, .ref a7, .ref a8, .ref a9, .ref a10, .ref a11, .int (iI x10), .ref a12, .ref a13, .ref a14, .ref a15, .int (iI x11), .int r2, .int r3, .ref a16, .int (iI x12), .int (iI x13), .ref a17, .ref a18, .int (iI x14), .ref a19, .int (iI x15), .int r4, .ref a20, .ref a21, .int (iI x16), .int r5, .ref a22, .int (iI x17), .int (iI x18), .int (iI x19), .int (iI x20)])), (a1, .inl (T 0, 940, .inl (cI f0)))] H locs := w
                            rcases hp.2.2.2.2 with ⟨c_115, hr⟩ | c_116
                            · subst hr
                              refine k_I (ce := 0) (sl := 0) (rest := []) (wr := [(a0, .inr (11, [.int r0, .ref a1, .int (iI x0), .int (iI x1), .int (iI x2), .int (iI z102), .int (iI z1), .int (iI x5), .int fr103, .int (iI x6), .int (iI x7), .int (iI x8), .long fy101, .int (iI x9), .ref a2, .ref a3, .ref a4, .ref a5, .ref a6, .ref a7, .ref a8, .ref a9, .ref a10, .ref a11, .int (iI x10), .ref a12, .ref a13, .ref a14, .ref a15, .int (iI x11), .int r2, .int r3, .ref a16, .int (iI x12), .int (iI x13), .ref a17, .ref a18, .int (iI x14), .ref a19, .int (iI x15), .int r4, .ref a20, .ref a21, .int (iI x16), .int r5, .ref a22, .int (iI x17), .int (iI x18), .int (iI x19), .int (iI x20)])), (a1, .inl (T 0, 940, .inl (cI f0)))]) (r_S (f := 0) [] M w V_HookedCityModel_37 G1635 (c10_X12_isDigit l D T _ 0 (by decide) (by decide)) rfl (by decide) rfl hl.1 rfl (Nat.le_of_ble_eq_true rfl) dX12_go_237 (by decide) (by decide) (by decide) (by decide)) w [] [0, 1] rfl rfl (by decide) (by decide) rfl rfl (fun v z117 H locs hp w => ?_)
                              have hv : iI z117 = v := hp.1
                              subst hv
                              have z117_a : 0 ≤ z117 := hp.2.1
                              have z117_b : z117 ≤ 1 := hp.2.2.1
                              have ee118 : 0 ≤ ((0 + 4294967296) - (z117 * 4294967344)) := hp.2.2.2.1
                              have pq119 : lq z117 0 48 57 := hp.2.2.2.2
                              have w : WD D A s.heap [(a0, .inr (11, [.int r0, .ref a1, .int (iI x0), .int (iI x1), .int (iI x2), .int (iI z102), .int (iI z1), .int (iI x5), .int fr103, .int (iI x6), .int (iI x7), .int (iI x8), .long fy101, .int (iI x9), .ref a2, .ref a3, .ref a4, .ref a5, .ref a6, .ref a7, .ref a8, .ref a9, .ref a10, .ref a11, .int (iI x10), .ref a12, .ref a13, .ref a14, .ref a15, .int (iI x11), .int r2, .int r3, .ref a16, .int (iI x12), .int (iI x13), .ref a17, .ref a18, .int (iI x14), .ref a19, .int (iI x15), .int r4, .ref a20, .ref a21, .int (iI x16), .int r5, .ref a22, .int (iI x17), .int (iI x18), .int (iI x19), .int (iI x20)])), (a1, .inl (T 0, 940, .inl (cI f0)))] H locs := w
                              refine lv_if_eq (tgt := 350) hx hb dX12_go_240 (by decide) (fun c_120 => ?_) (fun c_120 => ?_)
                              · replace c_120 := (iz_eq (Int.le_trans (by decide) z117_a) (Int.le_trans z117_b (by decide))).mp c_120
                                refine lv_aload_n hx hb dX12_go_350 rfl (lv_at hl 3 rfl) ?_
                                refine lv_iload_n hx hb dX12_go_351 rfl (lv_at hl 0 rfl) ?_
                                refine lv_if_eq (tgt := 377) hx hb dX12_go_352 (by decide) (fun c_121 => ?_) (fun c_121 => ?_)
                                · replace c_121 := (iz_eq (Int.le_trans (by decide) z104_a) (Int.le_trans z104_b (by decide))).mp c_121
                                  refine lv_iconst (v := iI 1) hx hb dX12_go_377 (by decide +kernel) ?_
                                  refine lv_goto (tgt := 390) hx hb dX12_go_378 (by decide) ?_
                                  refine r_put (ws' := [(a0, .inr (11, [.int r0, .ref a1, .int (iI x0), .int (iI x1), .int (iI x2), .int (iI z102), .int (iI z1), .int (iI 1), .int fr103, .int (iI x6), .int (iI x7), .int (iI x8), .long fy101, .int (iI x9), .ref a2, .ref a3, .ref a4, .ref a5, .ref a6, .ref a7, .ref a8, .ref a9, .ref a10, .ref a11, .int (iI x10), .ref a12, .ref a13, .ref a14, .ref a15, .int (iI x11), .int r2, .int r3, .ref a16, .int (iI x12), .int (iI x13), .ref a17, .ref a18, .int (iI x14), .ref a19, .int (iI x15), .int r4, .ref a20, .ref a21, .int (iI x16), .int r5, .ref a22, .int (iI x17), .int (iI x18), .int (iI x19), .int (iI x20)])), (a1, .inl (T 0, 940, .inl (cI f0)))]) M w 0 7 clX12 rfl (by decide) G1470 rfl rfl rfl rfl (Nat.le_of_ble_eq_true rfl) rfl dX12_go_390 (fun H locs w => ?_)
                                  exact ret (z102, z1, 1, fr103, x6, fy101) _ _ _ _ _ [0, 1] dX12_go_393 ⟨z102_a, z102_b, z1_a, z1_b, (show (0 : Int) ≤ 1 from by decide), (show (1 : Int) ≤ 4 from by decide), x6_a, x6_b, (show 0 ≤ (z102 - x3) from by omega), (show 0 ≤ (((z102 - x3) - 1) + 3) from by omega), (show gT (tkAt f0 x1 x2 x3) 1 z1 z102 fy101 fr103 x6 from (by rw [tk_run (lq1_s.trans (sk_e (by omega))) (by omega) (by omega) (Or.inr (lq_1 pq96 (by omega))) (lq2_r.trans (rn_e (ta_E pq106 pq111 (by omega) pq114 pq119 (by omega))))]; exact ⟨rfl, rfl, go_fin lq2_a lq2_g pq100 (lq2_r.trans (rn_e (ta_E pq106 pq111 (by omega) pq114 pq119 (by omega)))) (by omega) (Or.inr (lq_1 pq96 (by omega))) lq2_w (by omega)⟩))⟩ w (by decide) rfl
                                · replace c_121 : ¬ z104 = 0 := fun h => c_121 ((iz_eq (Int.le_trans (by decide) z104_a) (Int.le_trans z104_b (by decide))).mpr h)
                                  refine lv_aload_n hx hb dX12_go_355 rfl (lv_at hl 3 rfl) ?_
                                  refine r_get (v := .int (iI z102)) M w 0 5 clX12 rfl (by decide) G1468 rfl rfl dX12_go_356 ?_
                                  refine lv_aload_n hx hb dX12_go_359 rfl (lv_at hl 3 rfl) ?_
                                  refine r_get (v := .int (iI z1)) M w 0 6 clX12 rfl (by decide) G1469 rfl rfl dX12_go_360 ?_
                                  refine r_isub (v := iI (z102 - z1)) M (iI_sub _ _) dX12_go_363 ?_
                                  refine lv_iload_n hx hb dX12_go_364 rfl (lv_at hl 1 rfl) ?_
                                  refine lv_if_eq (tgt := 373) hx hb dX12_go_365 (by decide) (fun c_122 => ?_) (fun c_122 => ?_)
                                  · replace c_122 := (iz_eq (Int.le_trans (by decide) z98_a) (Int.le_trans z98_b (by decide))).mp c_122
                                    refine lv_iconst (v := iI 3) hx hb dX12_go_373 (by decide +kernel) ?_
                                    refine lv_icmp_le (tgt := 381) hx hb dX12_go_374 (by decide) (fun c_123 => ?_) (fun c_123 => ?_)
                                    · replace c_123 := (iI_le (by omega) (by omega) (by decide) (by decide)).mp c_123
                                      refine lv_iload_n hx hb dX12_go_381 rfl (lv_at hl 1 rfl) ?_
                                      refine lv_if_eq (tgt := 389) hx hb dX12_go_382 (by decide) (fun c_124 => ?_) (fun c_124 => ?_)
                                      · replace c_124 := (iz_eq (Int.le_trans (by decide) z98_a) (Int.le_trans z98_b (by decide))).mp c_124
                                        refine lv_iconst (v := iI 3) hx hb dX12_go_389 (by decide +kernel) ?_
                                        refine r_put (ws' := [(a0, .inr (11, [.int r0, .ref a1, .int (iI x0), .int (iI x1), .int (iI x2), .int (iI z102), .int (iI z1), .int (iI 3), .int fr103, .int (iI x6), .int (iI x7), .int (iI x8), .long fy101, .int (iI x9), .ref a2, .ref a3, .ref a4, .ref a5, .ref a6, .ref a7, .ref a8, .ref a9, .ref a10, .ref a11, .int (iI x10), .ref a12, .ref a13, .ref a14, .ref a15, .int (iI x11), .int r2, .int r3, .ref a16, .int (iI x12), .int (iI x13), .ref a17, .ref a18, .int (iI x14), .ref a19, .int (iI x15), .int r4, .ref a20, .ref a21, .int (iI x16), .int r5, .ref a22, .int (iI x17), .int (iI x18), .int (iI x19), .int (iI x20)])), (a1, .inl (T 0, 940, .inl (cI f0)))]) M w 0 7 clX12 rfl (by decide) G1470 rfl rfl rfl rfl (Nat.le_of_ble_eq_true rfl) rfl dX12_go_390 (fun H locs w => ?_)
                                        exact ret (z102, z1, 3, fr103, x6, fy101) _ _ _ _ _ [0, 1] dX12_go_393 ⟨z102_a, z102_b, z1_a, z1_b, (show (0 : Int) ≤ 3 from by decide), (show (3 : Int) ≤ 4 from by decide), x6_a, x6_b, (show 0 ≤ (z102 - x3) from by omega), (show 0 ≤ (((z102 - x3) - 3) + 3) from by omega), (show gT (tkAt f0 x1 x2 x3) 3 z1 z102 fy101 fr103 x6 from (by rw [tk_run (lq1_s.trans (sk_e (by omega))) (by omega) (by omega) (Or.inr (lq_1 pq96 (by omega))) (lq2_r.trans (rn_e (ta_E pq106 pq111 (by omega) pq114 pq119 (by omega))))]; exact ⟨rfl, rfl, go_fin lq2_a lq2_g pq100 (lq2_r.trans (rn_e (ta_E pq106 pq111 (by omega) pq114 pq119 (by omega)))) (by omega) (Or.inr (lq_1 pq96 (by omega))) lq2_w (by omega)⟩))⟩ w (by decide) rfl
                                      · replace c_124 : ¬ z98 = 0 := fun h => c_124 ((iz_eq (Int.le_trans (by decide) z98_a) (Int.le_trans z98_b (by decide))).mpr h)
                                        exfalso; omega
                                    · replace c_123 : 3 < (z102 - z1) := Int.not_le.mp (fun h => c_123 ((iI_le (by omega) (by omega) (by decide) (by decide)).mpr h))
                                      refine lv_iconst (v := iI 1) hx hb dX12_go_377 (by decide +kernel) ?_
                                      refine lv_goto (tgt := 390) hx hb dX12_go_378 (by decide) ?_
                                      refine r_put (ws' := [(a0, .inr (11, [.int r0, .ref a1, .int (iI x0), .int (iI x1), .int (iI x2), .int (iI z102), .int (iI z1), .int (iI 1), .int fr103, .int (iI x6), .int (iI x7), .int (iI x8), .long fy101, .int (iI x9), .ref a2, .ref a3, .ref a4, .ref a5, .ref a6, .ref a7, .ref a8, .ref a9, .ref a10, .ref a11, .int (iI x10), .ref a12, .ref a13, .ref a14, .ref a15, .int (iI x11), .int r2, .int r3, .ref a16, .int (iI x12), .int (iI x13), .ref a17, .ref a18, .int (iI x14), .ref a19, .int (iI x15), .int r4, .ref a20, .ref a21, .int (iI x16), .int r5, .ref a22, .int (iI x17), .int (iI x18), .int (iI x19), .int (iI x20)])), (a1, .inl (T 0, 940, .inl (cI f0)))]) M w 0 7 clX12 rfl (by decide) G1470 rfl rfl rfl rfl (Nat.le_of_ble_eq_true rfl) rfl dX12_go_390 (fun H locs w => ?_)
                                      exact ret (z102, z1, 1, fr103, x6, fy101) _ _ _ _ _ [0, 1] dX12_go_393 ⟨z102_a, z102_b, z1_a, z1_b, (show (0 : Int) ≤ 1 from by decide), (show (1 : Int) ≤ 4 from by decide), x6_a, x6_b, (show 0 ≤ (z102 - x3) from by omega), (show 0 ≤ (((z102 - x3) - 1) + 3) from by omega), (show gT (tkAt f0 x1 x2 x3) 1 z1 z102 fy101 fr103 x6 from (by rw [tk_run (lq1_s.trans (sk_e (by omega))) (by omega) (by omega) (Or.inr (lq_1 pq96 (by omega))) (lq2_r.trans (rn_e (ta_E pq106 pq111 (by omega) pq114 pq119 (by omega))))]; exact ⟨rfl, rfl, go_fin lq2_a lq2_g pq100 (lq2_r.trans (rn_e (ta_E pq106 pq111 (by omega) pq114 pq119 (by omega)))) (by omega) (Or.inr (lq_1 pq96 (by omega))) lq2_w (by omega)⟩))⟩ w (by decide) rfl
                                  · replace c_122 : ¬ z98 = 0 := fun h => c_122 ((iz_eq (Int.le_trans (by decide) z98_a) (Int.le_trans z98_b (by decide))).mpr h)
                                    refine lv_bipush (v := iI 7) hx hb dX12_go_368 (by decide +kernel) ?_
                                    refine lv_goto (tgt := 374) hx hb dX12_go_370 (by decide) ?_
                                    refine lv_icmp_le (tgt := 381) hx hb dX12_go_374 (by decide) (fun c_125 => ?_) (fun c_125 => ?_)
                                    · replace c_125 := (iI_le (by omega) (by omega) (by decide) (by decide)).mp c_125
                                      refine lv_iload_n hx hb dX12_go_381 rfl (lv_at hl 1 rfl) ?_
                                      refine lv_if_eq (tgt := 389) hx hb dX12_go_382 (by decide) (fun c_126 => ?_) (fun c_126 => ?_)
                                      · replace c_126 := (iz_eq (Int.le_trans (by decide) z98_a) (Int.le_trans z98_b (by decide))).mp c_126
                                        exfalso; omega
                                      · replace c_126 : ¬ z98 = 0 := fun h => c_126 ((iz_eq (Int.le_trans (by decide) z98_a) (Int.le_trans z98_b (by decide))).mpr h)
                                        refine lv_iconst (v := iI 2) hx hb dX12_go_385 (by decide +kernel) ?_
                                        refine lv_goto (tgt := 390) hx hb dX12_go_386 (by decide) ?_
                                        refine r_put (ws' := [(a0, .inr (11, [.int r0, .ref a1, .int (iI x0), .int (iI x1), .int (iI x2), .int (iI z102), .int (iI z1), .int (iI 2), .int fr103, .int (iI x6), .int (iI x7), .int (iI x8), .long fy101, .int (iI x9), .ref a2, .ref a3, .ref a4, .ref a5, .ref a6, .ref a7, .ref a8, .ref a9, .ref a10, .ref a11, .int (iI x10), .ref a12, .ref a13, .ref a14, .ref a15, .int (iI x11), .int r2, .int r3, .ref a16, .int (iI x12), .int (iI x13), .ref a17, .ref a18, .int (iI x14), .ref a19, .int (iI x15), .int r4, .ref a20, .ref a21, .int (iI x16), .int r5, .ref a22, .int (iI x17), .int (iI x18), .int (iI x19), .int (iI x20)])), (a1, .inl (T 0, 940, .inl (cI f0)))]) M w 0 7 clX12 rfl (by decide) G1470 rfl rfl rfl rfl (Nat.le_of_ble_eq_true rfl) rfl dX12_go_390 (fun H locs w => ?_)
                                        exact ret (z102, z1, 2, fr103, x6, fy101) _ _ _ _ _ [0, 1] dX12_go_393 ⟨z102_a, z102_b, z1_a, z1_b, (show (0 : Int) ≤ 2 from by decide), (show (2 : Int) ≤ 4 from by decide), x6_a, x6_b, (show 0 ≤ (z102 - x3) from by omega), (show 0 ≤ (((z102 - x3) - 2) + 3) from by omega), (show gT (tkAt f0 x1 x2 x3) 2 z1 z102 fy101 fr103 x6 from (by rw [tk_run (lq1_s.trans (sk_e (by omega))) (by omega) (by omega) (Or.inr (lq_1 pq96 (by omega))) (lq2_r.trans (rn_e (ta_E pq106 pq111 (by omega) pq114 pq119 (by omega))))]; exact ⟨rfl, rfl, go_fin lq2_a lq2_g pq100 (lq2_r.trans (rn_e (ta_E pq106 pq111 (by omega) pq114 pq119 (by omega)))) (by omega) (Or.inr (lq_1 pq96 (by omega))) lq2_w (by omega)⟩))⟩ w (by decide) rfl
                                    · replace c_125 : 7 < (z102 - z1) := Int.not_le.mp (fun h => c_125 ((iI_le (by omega) (by omega) (by decide) (by decide)).mpr h))
                                      refine lv_iconst (v := iI 1) hx hb dX12_go_377 (by decide +kernel) ?_
                                      refine lv_goto (tgt := 390) hx hb dX12_go_378 (by decide) ?_
                                      refine r_put (ws' := [(a0, .inr (11, [.int r0, .ref a1, .int (iI x0), .int (iI x1), .int (iI x2), .int (iI z102), .int (iI z1), .int (iI 1), .int fr103, .int (iI x6), .int (iI x7), .int (iI x8), .long fy101, .int (iI x9), .ref a2, .ref a3, .ref a4, .ref a5, .ref a6, .ref a7, .ref a8, .ref a9, .ref a10, .ref a11, .int (iI x10), .ref a12, .ref a13, .ref a14, .ref a15, .int (iI x11), .int r2, .int r3, .ref a16, .int (iI x12), .int (iI x13), .ref a17, .ref a18, .int (iI x14), .ref a19, .int (iI x15), .int r4, .ref a20, .ref a21, .int (iI x16), .int r5, .ref a22, .int (iI x17), .int (iI x18), .int (iI x19), .int (iI x20)])), (a1, .inl (T 0, 940, .inl (cI f0)))]) M w 0 7 clX12 rfl (by decide) G1470 rfl rfl rfl rfl (Nat.le_of_ble_eq_true rfl) rfl dX12_go_390 (fun H locs w => ?_)
                                      exact ret (z102, z1, 1, fr103, x6, fy101) _ _ _ _ _ [0, 1] dX12_go_393 ⟨z102_a, z102_b, z1_a, z1_b, (show (0 : Int) ≤ 1 from by decide), (show (1 : Int) ≤ 4 from by decide), x6_a, x6_b, (show 0 ≤ (z102 - x3) from by omega), (show 0 ≤ (((z102 - x3) - 1) + 3) from by omega), (show gT (tkAt f0 x1 x2 x3) 1 z1 z102 fy101 fr103 x6 from (by rw [tk_run (lq1_s.trans (sk_e (by omega))) (by omega) (by omega) (Or.inr (lq_1 pq96 (by omega))) (lq2_r.trans (rn_e (ta_E pq106 pq111 (by omega) pq114 pq119 (by omega))))]; exact ⟨rfl, rfl, go_fin lq2_a lq2_g pq100 (lq2_r.trans (rn_e (ta_E pq106 pq111 (by omega) pq114 pq119 (by omega)))) (by omega) (Or.inr (lq_1 pq96 (by omega))) lq2_w (by omega)⟩))⟩ w (by decide) rfl
                              · replace c_120 : ¬ z117 = 0 := fun h => c_120 ((iz_eq (Int.le_trans (by decide) z117_a) (Int.le_trans z117_b (by decide))).mpr h)
                                exfalso; omega
                            · exfalso; omega
                        · refine k_I (ce := 0) (sl := 0) (rest := []) (wr := [(a0, .inr (11, [.int r0, .ref a1, .int (iI x0), .int (iI x1), .int (iI x2), .int (iI z102), .int (iI z1), .int (iI x5), .int fr103, .int (iI x6), .int (iI x7), .int (iI x8), .long fy101, .int (iI x9), .ref a2, .ref a3, .ref a4, .ref a5, .ref a6, .ref a7, .ref a8, .ref a9, .ref a10, .ref a11, .int (iI x10), .ref a12, .ref a13, .ref a14, .ref a15, .int (iI x11), .int r2, .int r3, .ref a16, .int (iI x12), .int (iI x13), .ref a17, .ref a18, .int (iI x14), .ref a19, .int (iI x15), .int r4, .ref a20, .ref a21, .int (iI x16), .int r5, .ref a22, .int (iI x17), .int (iI x18), .int (iI x19), .int (iI x20)])), (a1, .inl (T 0, 940, .inl (cI f0)))]) (r_S (f := 0) [] M w V_HookedCityModel_33 G1632 (c11_X12_isLetter l D T _ z105 z105_a z105_b) rfl (by decide) rfl hl.1 rfl (Nat.le_of_ble_eq_true rfl) dX12_go_223 (by decide) (by decide) (by decide) (by decide)) w [] [0, 1] rfl rfl (by decide) (by decide) rfl rfl (fun v z127 H locs hp w => ?_)
                          have hv : iI z127 = v := hp.1
                          subst hv
                          have z127_a : 0 ≤ z127 := hp.2.1
                          have z127_b : z127 ≤ 1 := hp.2.2.1
                          have ee128 : 0 ≤ ((z105 + 4294967296) - (z127 * 4294967393)) := hp.2.2.2.1
                          have pq129 : lq z127 z105 97 122 := hp.2.2.2.2
                          have w : WD D A s.heap [(a0, .inr (11, [.int r0, .ref a1, .int (iI x0), .int (iI x1), .int (iI x2), .int (iI z102), .int (iI z1), .int (iI x5), .int fr103, .int (iI x6), .int (iI x7), .int (iI x8), .long fy101, .int (iI x9), .ref a2, .ref a3, .ref a4, .ref a5, .ref a6, .ref a7, .ref a8, .ref a9, .ref a10, .ref a11, .int (iI x10), .ref a12, .ref a13, .ref a14, .ref a15, .int (iI x11), .int r2, .int r3, .ref a16, .int (iI x12), .int (iI x13), .ref a17, .ref a18, .int (iI x14), .ref a19, .int (iI x15), .int r4, .ref a20, .ref a21, .int (iI x16), .int r5, .ref a22, .int (iI x17), .int (iI x18), .int (iI x19), .int (iI x20)])), (a1, .inl (T 0, 940, .inl (cI f0)))] H locs := w
                          refine lv_if_ne (tgt := 243) hx hb dX12_go_226 (by decide) (fun c_130 => ?_) (fun c_130 => ?_)
                          · replace c_130 : ¬ z127 = 0 := fun h => c_130 ((iz_eq (Int.le_trans (by decide) z127_a) (Int.le_trans z127_b (by decide))).mpr h)
                            refine lv_aload_n hx hb dX12_go_243 rfl (lv_at hl 3 rfl) ?_
                            refine r_get (v := .ref a1) M w 0 1 clX12 rfl (by decide) G1464 rfl rfl dX12_go_244 ?_
                            refine lv_aload_n hx hb dX12_go_247 rfl (lv_at hl 3 rfl) ?_
                            refine r_get (v := .int (iI z102)) M w 0 5 clX12 rfl (by decide) G1468 rfl rfl dX12_go_248 ?_
                            refine r_iald (v := iI (f0 z102)) M w 1 rfl (iI_in (by omega) (by omega) (by decide)) (cI_at (by omega) (by omega)) dX12_go_251 ?_
                            have hh131 : 0 ≤ (f0 z102) ∧ (f0 z102) ≤ 255 := f0_h z102
                            refine lv_istore (lv' := [(4, .int (iI (f0 z102))), (3, .int (iI z104)), (2, .int (iI z98)), (1, .int (iI (f0 z1))), (0, .ref a0)]) hx hb dX12_go_252 hl (by decide) rfl (fun ls hl => ?_)
                            refine lv_iload_n hx hb dX12_go_254 rfl (lv_at hl 1 rfl) ?_
                            refine lv_if_eq (tgt := 271) hx hb dX12_go_255 (by decide) (fun c_132 => ?_) (fun c_132 => ?_)
                            · replace c_132 := (iz_eq (Int.le_trans (by decide) z104_a) (Int.le_trans z104_b (by decide))).mp c_132
                              refine lv_iconst (v := iI 0) hx hb dX12_go_271 (by decide +kernel) ?_
                              refine lv_istore_n (lv' := [(3, .int (iI 0)), (4, .int (iI (f0 z102))), (2, .int (iI z98)), (1, .int (iI (f0 z1))), (0, .ref a0)]) hx hb dX12_go_272 rfl hl (by decide) rfl (fun ls hl => ?_)
                              refine lv_aload_n hx hb dX12_go_273 rfl (lv_at hl 4 rfl) ?_
                              refine r_get (v := .int (iI z102)) M w 0 5 clX12 rfl (by decide) G1468 rfl rfl dX12_go_274 ?_
                              refine lv_aload_n hx hb dX12_go_277 rfl (lv_at hl 4 rfl) ?_
                              refine r_get (v := .int (iI z1)) M w 0 6 clX12 rfl (by decide) G1469 rfl rfl dX12_go_278 ?_
                              refine r_isub (v := iI (z102 - z1)) M (iI_sub _ _) dX12_go_281 ?_
                              refine lv_bipush (v := iI 7) hx hb dX12_go_282 (by decide +kernel) ?_
                              refine lv_icmp_ge (tgt := 307) hx hb dX12_go_284 (by decide) (fun c_133 => ?_) (fun c_133 => ?_)
                              · replace c_133 := (iI_le (by decide) (by decide) (by omega) (by omega)).mp c_133
                                refine lv_aload_n hx hb dX12_go_307 rfl (lv_at hl 4 rfl) ?_
                                refine r_get (v := .int (iI z102)) M w 0 5 clX12 rfl (by decide) G1468 rfl rfl dX12_go_308 ?_
                                refine lv_aload_n hx hb dX12_go_311 rfl (lv_at hl 4 rfl) ?_
                                refine r_get (v := .int (iI z1)) M w 0 6 clX12 rfl (by decide) G1469 rfl rfl dX12_go_312 ?_
                                refine r_isub (v := iI (z102 - z1)) M (iI_sub _ _) dX12_go_315 ?_
                                refine lv_iconst (v := iI 3) hx hb dX12_go_316 (by decide +kernel) ?_
                                refine lv_icmp_ge (tgt := 337) hx hb dX12_go_317 (by decide) (fun c_134 => ?_) (fun c_134 => ?_)
                                · replace c_134 := (iI_le (by decide) (by decide) (by omega) (by omega)).mp c_134
                                  refine lv_aload_n hx hb dX12_go_337 rfl (lv_at hl 4 rfl) ?_
                                  refine lv_dup hx hb dX12_go_338 rfl ?_
                                  refine r_get (v := .int (iI z102)) M w 0 5 clX12 rfl (by decide) G1468 rfl rfl dX12_go_339 ?_
                                  refine lv_iconst (v := iI 1) hx hb dX12_go_342 (by decide +kernel) ?_
                                  refine r_iadd (v := iI (z102 + 1)) M (iI_add _ _) dX12_go_343 ?_
                                  refine r_put (ws' := [(a0, .inr (11, [.int r0, .ref a1, .int (iI x0), .int (iI x1), .int (iI x2), .int (iI (z102 + 1)), .int (iI z1), .int (iI x5), .int fr103, .int (iI x6), .int (iI x7), .int (iI x8), .long fy101, .int (iI x9), .ref a2, .ref a3, .ref a4, .ref a5, .ref a6, .ref a7, .ref a8, .ref a9, .ref a10, .ref a11, .int (iI x10), .ref a12, .ref a13, .ref a14, .ref a15, .int (iI x11), .int r2, .int r3, .ref a16, .int (iI x12), .int (iI x13), .ref a17, .ref a18, .int (iI x14), .ref a19, .int (iI x15), .int r4, .ref a20, .ref a21, .int (iI x16), .int r5, .ref a22, .int (iI x17), .int (iI x18), .int (iI x19), .int (iI x20)])), (a1, .inl (T 0, 940, .inl (cI f0)))]) M w 0 5 clX12 rfl (by decide) G1468 rfl rfl rfl rfl (Nat.le_of_ble_eq_true rfl) rfl dX12_go_344 (fun H locs w => ?_)
                                  refine lv_goto (tgt := 215) hx hb dX12_go_347 (by decide) ?_
                                  exact ih2 fy101 (z102 + 1) fr103 0 _ _ _ (by omega) (by omega) (by decide) (by decide) (by omega) (by omega) (lq2_r.trans (rn_t (ta_L pq106 pq129 (by omega)).1 (Or.inl (ta_L pq106 pq129 (by omega)).2))) (aR_s lq2_a (Or.inl (ta_L pq106 pq129 (by omega)).2)) (gd_z lq2_g (by omega)) (wI_s lq2_w (by omega) (f0_h _) (by first | exact Or.inl ⟨by omega, rfl⟩ | exact Or.inr ⟨by omega, rfl⟩) (by first | exact Or.inl ⟨by omega, rfl⟩ | exact Or.inr ⟨by omega, rfl⟩)) (by omega) w (lv_sub hl [0, 2, 3, 4] rfl)
                                · replace c_134 : (z102 - z1) < 3 := Int.not_le.mp (fun h => c_134 ((iI_le (by decide) (by decide) (by omega) (by omega)).mpr h))
                                  exfalso; omega
                              · replace c_133 : (z102 - z1) < 7 := Int.not_le.mp (fun h => c_133 ((iI_le (by decide) (by decide) (by omega) (by omega)).mpr h))
                                refine lv_aload_n hx hb dX12_go_287 rfl (lv_at hl 4 rfl) ?_
                                refine lv_ldc2 (v := 27) hx hb M.1.2.2.2.1 (M.1.2.2.2.2 _ G1641) dX12_go_288 ?_
                                refine lv_aload_n hx hb dX12_go_291 rfl (lv_at hl 4 rfl) ?_
                                refine r_get (v := .long fy101) M w 0 12 clX12 rfl (by decide) G1475 rfl rfl dX12_go_292 ?_
                                refine r_lmul (v := (27 * fy101)) M rfl dX12_go_295 ?_
                                refine lv_iload hx hb dX12_go_296 (lv_at hl 1 rfl) ?_
                                refine lv_i2l (v := (Int32.toInt64 (iI (f0 z102)))) hx hb dX12_go_298 rfl ?_
                                refine r_ladd (v := ((27 * fy101) + (Int32.toInt64 (iI (f0 z102))))) M rfl dX12_go_299 ?_
                                refine lv_ldc2 (v := 96) hx hb M.1.2.2.2.1 (M.1.2.2.2.2 _ G1642) dX12_go_300 ?_
                                refine r_lsub (v := (((27 * fy101) + (Int32.toInt64 (iI (f0 z102)))) - 96)) M rfl dX12_go_303 ?_
                                refine r_put (ws' := [(a0, .inr (11, [.int r0, .ref a1, .int (iI x0), .int (iI x1), .int (iI x2), .int (iI z102), .int (iI z1), .int (iI x5), .int fr103, .int (iI x6), .int (iI x7), .int (iI x8), .long (((27 * fy101) + (Int32.toInt64 (iI (f0 z102)))) - 96), .int (iI x9), .ref a2, .ref a3, .ref a4, .ref a5, .ref a6, .ref a7, .ref a8, .ref a9, .ref a10, .ref a11, .int (iI x10), .ref a12, .ref a13, .ref a14, .ref a15, .int (iI x11), .int r2, .int r3, .ref a16, .int (iI x12), .int (iI x13), .ref a17, .ref a18, .int (iI x14), .ref a19, .int (iI x15), .int r4, .ref a20, .ref a21, .int (iI x16), .int r5, .ref a22, .int (iI x17), .int (iI x18), .int (iI x19), .int (iI x20)])), (a1, .inl (T 0, 940, .inl (cI f0)))]) M w 0 12 clX12 rfl (by decide) G1475 rfl rfl rfl rfl (Nat.le_of_ble_eq_true rfl) rfl dX12_go_304 (fun H locs w => ?_)
                                refine lv_aload_n hx hb dX12_go_307 rfl (lv_at hl 4 rfl) ?_
                                refine r_get (v := .int (iI z102)) M w 0 5 clX12 rfl (by decide) G1468 rfl rfl dX12_go_308 ?_
                                refine lv_aload_n hx hb dX12_go_311 rfl (lv_at hl 4 rfl) ?_
                                refine r_get (v := .int (iI z1)) M w 0 6 clX12 rfl (by decide) G1469 rfl rfl dX12_go_312 ?_
                                refine r_isub (v := iI (z102 - z1)) M (iI_sub _ _) dX12_go_315 ?_
                                refine lv_iconst (v := iI 3) hx hb dX12_go_316 (by decide +kernel) ?_
                                refine lv_icmp_ge (tgt := 337) hx hb dX12_go_317 (by decide) (fun c_135 => ?_) (fun c_135 => ?_)
                                · replace c_135 := (iI_le (by decide) (by decide) (by omega) (by omega)).mp c_135
                                  refine lv_aload_n hx hb dX12_go_337 rfl (lv_at hl 4 rfl) ?_
                                  refine lv_dup hx hb dX12_go_338 rfl ?_
                                  refine r_get (v := .int (iI z102)) M w 0 5 clX12 rfl (by decide) G1468 rfl rfl dX12_go_339 ?_
                                  refine lv_iconst (v := iI 1) hx hb dX12_go_342 (by decide +kernel) ?_
                                  refine r_iadd (v := iI (z102 + 1)) M (iI_add _ _) dX12_go_343 ?_
                                  refine r_put (ws' := [(a0, .inr (11, [.int r0, .ref a1, .int (iI x0), .int (iI x1), .int (iI x2), .int (iI (z102 + 1)), .int (iI z1), .int (iI x5), .int fr103, .int (iI x6), .int (iI x7), .int (iI x8), .long (((27 * fy101) + (Int32.toInt64 (iI (f0 z102)))) - 96), .int (iI x9), .ref a2, .ref a3, .ref a4, .ref a5, .ref a6, .ref a7, .ref a8, .ref a9, .ref a10, .ref a11, .int (iI x10), .ref a12, .ref a13, .ref a14, .ref a15, .int (iI x11), .int r2, .int r3, .ref a16, .int (iI x12), .int (iI x13), .ref a17, .ref a18, .int (iI x14), .ref a19, .int (iI x15), .int r4, .ref a20, .ref a21, .int (iI x16), .int r5, .ref a22, .int (iI x17), .int (iI x18), .int (iI x19), .int (iI x20)])), (a1, .inl (T 0, 940, .inl (cI f0)))]) M w 0 5 clX12 rfl (by decide) G1468 rfl rfl rfl rfl (Nat.le_of_ble_eq_true rfl) rfl dX12_go_344 (fun H locs w => ?_)
                                  refine lv_goto (tgt := 215) hx hb dX12_go_347 (by decide) ?_
                                  exact ih2 (((27 * fy101) + (Int32.toInt64 (iI (f0 z102)))) - 96) (z102 + 1) fr103 0 _ _ _ (by omega) (by omega) (by decide) (by decide) (by omega) (by omega) (lq2_r.trans (rn_t (ta_L pq106 pq129 (by omega)).1 (Or.inl (ta_L pq106 pq129 (by omega)).2))) (aR_s lq2_a (Or.inl (ta_L pq106 pq129 (by omega)).2)) (gd_z lq2_g (by omega)) (wI_s lq2_w (by omega) (f0_h _) (by first | exact Or.inl ⟨by omega, rfl⟩ | exact Or.inr ⟨by omega, rfl⟩) (by first | exact Or.inl ⟨by omega, rfl⟩ | exact Or.inr ⟨by omega, rfl⟩)) (by omega) w (lv_sub hl [0, 2, 3, 4] rfl)
                                · replace c_135 : (z102 - z1) < 3 := Int.not_le.mp (fun h => c_135 ((iI_le (by decide) (by decide) (by omega) (by omega)).mpr h))
                                  refine lv_aload_n hx hb dX12_go_320 rfl (lv_at hl 4 rfl) ?_
                                  refine lv_bipush (v := iI 10) hx hb dX12_go_321 (by decide +kernel) ?_
                                  refine lv_aload_n hx hb dX12_go_323 rfl (lv_at hl 4 rfl) ?_
                                  refine r_get (v := .int fr103) M w 0 8 clX12 rfl (by decide) G1471 rfl rfl dX12_go_324 ?_
                                  refine r_imul (v := ((iI 10) * fr103)) M rfl dX12_go_327 ?_
                                  refine lv_iload hx hb dX12_go_328 (lv_at hl 1 rfl) ?_
                                  refine r_iadd (v := (((iI 10) * fr103) + (iI (f0 z102)))) M rfl dX12_go_330 ?_
                                  refine lv_bipush (v := iI 48) hx hb dX12_go_331 (by decide +kernel) ?_
                                  refine r_isub (v := ((((iI 10) * fr103) + (iI (f0 z102))) - (iI 48))) M rfl dX12_go_333 ?_
                                  refine r_put (ws' := [(a0, .inr (11, [.int r0, .ref a1, .int (iI x0), .int (iI x1), .int (iI x2), .int (iI z102), .int (iI z1), .int (iI x5), .int ((((iI 10) * fr103) + (iI (f0 z102))) - (iI 48)), .int (iI x6), .int (iI x7), .int (iI x8), .long (((27 * fy101) + (Int32.toInt64 (iI (f0 z102)))) - 96), .int (iI x9), .ref a2, .ref a3, .ref a4, .ref a5, .ref a6, .ref a7, .ref a8, .ref a9, .ref a10, .ref a11, .int (iI x10), .ref a12, .ref a13, .ref a14, .ref a15, .int (iI x11), .int r2, .int r3, .ref a16, .int (iI x12), .int (iI x13), .ref a17, .ref a18, .int (iI x14), .ref a19, .int (iI x15), .int r4, .ref a20, .ref a21, .int (iI x16), .int r5, .ref a22, .int (iI x17), .int (iI x18), .int (iI x19), .int (iI x20)])), (a1, .inl (T 0, 940, .inl (cI f0)))]) M w 0 8 clX12 rfl (by decide) G1471 rfl rfl rfl rfl (Nat.le_of_ble_eq_true rfl) rfl dX12_go_334 (fun H locs w => ?_)
                                  refine lv_aload_n hx hb dX12_go_337 rfl (lv_at hl 4 rfl) ?_
                                  refine lv_dup hx hb dX12_go_338 rfl ?_
                                  refine r_get (v := .int (iI z102)) M w 0 5 clX12 rfl (by decide) G1468 rfl rfl dX12_go_339 ?_
                                  refine lv_iconst (v := iI 1) hx hb dX12_go_342 (by decide +kernel) ?_
                                  refine r_iadd (v := iI (z102 + 1)) M (iI_add _ _) dX12_go_343 ?_
                                  refine r_put (ws' := [(a0, .inr (11, [.int r0, .ref a1, .int (iI x0), .int (iI x1), .int (iI x2), .int (iI (z102 + 1)), .int (iI z1), .int (iI x5), .int ((((iI 10) * fr103) + (iI (f0 z102))) - (iI 48)), .int (iI x6), .int (iI x7), .int (iI x8), .long (((27 * fy101) + (Int32.toInt64 (iI (f0 z102)))) - 96), .int (iI x9), .ref a2, .ref a3, .ref a4, .ref a5, .ref a6, .ref a7, .ref a8, .ref a9, .ref a10, .ref a11, .int (iI x10), .ref a12, .ref a13, .ref a14, .ref a15, .int (iI x11), .int r2, .int r3, .ref a16, .int (iI x12), .int (iI x13), .ref a17, .ref a18, .int (iI x14), .ref a19, .int (iI x15), .int r4, .ref a20, .ref a21, .int (iI x16), .int r5, .ref a22, .int (iI x17), .int (iI x18), .int (iI x19), .int (iI x20)])), (a1, .inl (T 0, 940, .inl (cI f0)))]) M w 0 5 clX12 rfl (by decide) G1468 rfl rfl rfl rfl (Nat.le_of_ble_eq_true rfl) rfl dX12_go_344 (fun H locs w => ?_)
                                  refine lv_goto (tgt := 215) hx hb dX12_go_347 (by decide) ?_
                                  exact ih2 (((27 * fy101) + (Int32.toInt64 (iI (f0 z102)))) - 96) (z102 + 1) ((((iI 10) * fr103) + (iI (f0 z102))) - (iI 48)) 0 _ _ _ (by omega) (by omega) (by decide) (by decide) (by omega) (by omega) (lq2_r.trans (rn_t (ta_L pq106 pq129 (by omega)).1 (Or.inl (ta_L pq106 pq129 (by omega)).2))) (aR_s lq2_a (Or.inl (ta_L pq106 pq129 (by omega)).2)) (gd_z lq2_g (by omega)) (wI_s lq2_w (by omega) (f0_h _) (by first | exact Or.inl ⟨by omega, rfl⟩ | exact Or.inr ⟨by omega, rfl⟩) (by first | exact Or.inl ⟨by omega, rfl⟩ | exact Or.inr ⟨by omega, rfl⟩)) (by omega) w (lv_sub hl [0, 2, 3, 4] rfl)
                            · replace c_132 : ¬ z104 = 0 := fun h => c_132 ((iz_eq (Int.le_trans (by decide) z104_a) (Int.le_trans z104_b (by decide))).mpr h)
                              refine lv_iload hx hb dX12_go_258 (lv_at hl 0 rfl) ?_
                              refine k_I (ce := 0) (sl := 0) (rest := []) (wr := [(a0, .inr (11, [.int r0, .ref a1, .int (iI x0), .int (iI x1), .int (iI x2), .int (iI z102), .int (iI z1), .int (iI x5), .int fr103, .int (iI x6), .int (iI x7), .int (iI x8), .long fy101, .int (iI x9), .ref a2, .ref a3, .ref a4, .ref a5, .ref a6, .ref a7, .ref a8, .ref a9, .ref a10, .ref a11, .int (iI x10), .ref a12, .ref a13, .ref a14, .ref a15, .int (iI x11), .int r2, .int r3, .ref a16, .int (iI x12), .int (iI x13), .ref a17, .ref a18, .int (iI x14), .ref a19, .int (iI x15), .int r4, .ref a20, .ref a21, .int (iI x16), .int r5, .ref a22, .int (iI x17), .int (iI x18), .int (iI x19), .int (iI x20)])), (a1, .inl (T 0, 940, .inl (cI f0)))]) (r_S (f := 0) [] M w V_HookedCityModel_33 G1632 (c11_X12_isLetter l D T _ (f0 z102) (by omega) (by omega)) rfl (by decide) rfl hl.1 rfl (Nat.le_of_ble_eq_true rfl) dX12_go_260 (by decide) (by decide) (by decide) (by decide)) w [] [0, 1] rfl rfl (by decide) (by decide) rfl rfl (fun v z136 H locs hp w => ?_)
                              have hv : iI z136 = v := hp.1
                              subst hv
                              have z136_a : 0 ≤ z136 := hp.2.1
                              have z136_b : z136 ≤ 1 := hp.2.2.1
                              have ee137 : 0 ≤ (((f0 z102) + 4294967296) - (z136 * 4294967393)) := hp.2.2.2.1
                              have pq138 : lq z136 (f0 z102) 97 122 := hp.2.2.2.2
                              have w : WD D A s.heap [(a0, .inr (11, [.int r0, .ref a1, .int (iI x0), .int (iI x1), .int (iI x2), .int (iI z102), .int (iI z1), .int (iI x5), .int fr103, .int (iI x6), .int (iI x7), .int (iI x8), .long fy101, .int (iI x9), .ref a2, .ref a3, .ref a4, .ref a5, .ref a6, .ref a7, .ref a8, .ref a9, .ref a10, .ref a11, .int (iI x10), .ref a12, .ref a13, .ref a14, .ref a15, .int (iI x11), .int r2, .int r3, .ref a16, .int (iI x12), .int (iI x13), .ref a17, .ref a18, .int (iI x14), .ref a19, .int (iI x15), .int r4, .ref a20, .ref a21, .int (iI x16), .int r5, .ref a22, .int (iI x17), .int (iI x18), .int (iI x19), .int (iI x20)])), (a1, .inl (T 0, 940, .inl (cI f0)))] H locs := w
                              refine lv_iload_n hx hb dX12_go_263 rfl (lv_at hl 2 rfl) ?_
                              refine lv_icmp_ne (tgt := 271) hx hb dX12_go_264 (by decide) (fun c_139 => ?_) (fun c_139 => ?_)
                              · replace c_139 : ¬ z136 = z98 := fun h => c_139 ((iI_eq (Int.le_trans (by decide) z136_a) (Int.le_trans z136_b (by decide)) (Int.le_trans (by decide) z98_a) (Int.le_trans z98_b (by decide))).mpr h)
                                refine lv_iconst (v := iI 0) hx hb dX12_go_271 (by decide +kernel) ?_
                                refine lv_istore_n (lv' := [(3, .int (iI 0)), (4, .int (iI (f0 z102))), (2, .int (iI z98)), (1, .int (iI (f0 z1))), (0, .ref a0)]) hx hb dX12_go_272 rfl hl (by decide) rfl (fun ls hl => ?_)
                                refine lv_aload_n hx hb dX12_go_273 rfl (lv_at hl 4 rfl) ?_
                                refine r_get (v := .int (iI z102)) M w 0 5 clX12 rfl (by decide) G1468 rfl rfl dX12_go_274 ?_
                                refine lv_aload_n hx hb dX12_go_277 rfl (lv_at hl 4 rfl) ?_
                                refine r_get (v := .int (iI z1)) M w 0 6 clX12 rfl (by decide) G1469 rfl rfl dX12_go_278 ?_
                                refine r_isub (v := iI (z102 - z1)) M (iI_sub _ _) dX12_go_281 ?_
                                refine lv_bipush (v := iI 7) hx hb dX12_go_282 (by decide +kernel) ?_
                                refine lv_icmp_ge (tgt := 307) hx hb dX12_go_284 (by decide) (fun c_140 => ?_) (fun c_140 => ?_)
                                · replace c_140 := (iI_le (by decide) (by decide) (by omega) (by omega)).mp c_140
                                  refine lv_aload_n hx hb dX12_go_307 rfl (lv_at hl 4 rfl) ?_
                                  refine r_get (v := .int (iI z102)) M w 0 5 clX12 rfl (by decide) G1468 rfl rfl dX12_go_308 ?_
                                  refine lv_aload_n hx hb dX12_go_311 rfl (lv_at hl 4 rfl) ?_
                                  refine r_get (v := .int (iI z1)) M w 0 6 clX12 rfl (by decide) G1469 rfl rfl dX12_go_312 ?_
                                  refine r_isub (v := iI (z102 - z1)) M (iI_sub _ _) dX12_go_315 ?_
                                  refine lv_iconst (v := iI 3) hx hb dX12_go_316 (by decide +kernel) ?_
                                  refine lv_icmp_ge (tgt := 337) hx hb dX12_go_317 (by decide) (fun c_141 => ?_) (fun c_141 => ?_)
                                  · replace c_141 := (iI_le (by decide) (by decide) (by omega) (by omega)).mp c_141
                                    refine lv_aload_n hx hb dX12_go_337 rfl (lv_at hl 4 rfl) ?_
                                    refine lv_dup hx hb dX12_go_338 rfl ?_
                                    refine r_get (v := .int (iI z102)) M w 0 5 clX12 rfl (by decide) G1468 rfl rfl dX12_go_339 ?_
                                    refine lv_iconst (v := iI 1) hx hb dX12_go_342 (by decide +kernel) ?_
                                    refine r_iadd (v := iI (z102 + 1)) M (iI_add _ _) dX12_go_343 ?_
                                    refine r_put (ws' := [(a0, .inr (11, [.int r0, .ref a1, .int (iI x0), .int (iI x1), .int (iI x2), .int (iI (z102 + 1)), .int (iI z1), .int (iI x5), .int fr103, .int (iI x6), .int (iI x7), .int (iI x8), .long fy101, .int (iI x9), .ref a2, .ref a3, .ref a4, .ref a5, .ref a6, .ref a7, .ref a8, .ref a9, .ref a10, .ref a11, .int (iI x10), .ref a12, .ref a13, .ref a14, .ref a15, .int (iI x11), .int r2, .int r3, .ref a16, .int (iI x12), .int (iI x13), .ref a17, .ref a18, .int (iI x14), .ref a19, .int (iI x15), .int r4, .ref a20, .ref a21, .int (iI x16), .int r5, .ref a22, .int (iI x17), .int (iI x18), .int (iI x19), .int (iI x20)])), (a1, .inl (T 0, 940, .inl (cI f0)))]) M w 0 5 clX12 rfl (by decide) G1468 rfl rfl rfl rfl (Nat.le_of_ble_eq_true rfl) rfl dX12_go_344 (fun H locs w => ?_)
                                    refine lv_goto (tgt := 215) hx hb dX12_go_347 (by decide) ?_
                                    exact ih2 fy101 (z102 + 1) fr103 0 _ _ _ (by omega) (by omega) (by decide) (by decide) (by omega) (by omega) (lq2_r.trans (rn_t (ta_L pq106 pq129 (by omega)).1 (Or.inl (ta_L pq106 pq129 (by omega)).2))) (aR_s lq2_a (Or.inl (ta_L pq106 pq129 (by omega)).2)) (gd_q lq2_g (by omega) pq138 (by omega) (by omega) (by omega) (by omega) (by omega) (by omega)) (wI_s lq2_w (by omega) (f0_h _) (by first | exact Or.inl ⟨by omega, rfl⟩ | exact Or.inr ⟨by omega, rfl⟩) (by first | exact Or.inl ⟨by omega, rfl⟩ | exact Or.inr ⟨by omega, rfl⟩)) (by omega) w (lv_sub hl [0, 2, 3, 4] rfl)
                                  · replace c_141 : (z102 - z1) < 3 := Int.not_le.mp (fun h => c_141 ((iI_le (by decide) (by decide) (by omega) (by omega)).mpr h))
                                    exfalso; omega
                                · replace c_140 : (z102 - z1) < 7 := Int.not_le.mp (fun h => c_140 ((iI_le (by decide) (by decide) (by omega) (by omega)).mpr h))
                                  refine lv_aload_n hx hb dX12_go_287 rfl (lv_at hl 4 rfl) ?_
                                  refine lv_ldc2 (v := 27) hx hb M.1.2.2.2.1 (M.1.2.2.2.2 _ G1641) dX12_go_288 ?_
                                  refine lv_aload_n hx hb dX12_go_291 rfl (lv_at hl 4 rfl) ?_
                                  refine r_get (v := .long fy101) M w 0 12 clX12 rfl (by decide) G1475 rfl rfl dX12_go_292 ?_
                                  refine r_lmul (v := (27 * fy101)) M rfl dX12_go_295 ?_
                                  refine lv_iload hx hb dX12_go_296 (lv_at hl 1 rfl) ?_
                                  refine lv_i2l (v := (Int32.toInt64 (iI (f0 z102)))) hx hb dX12_go_298 rfl ?_
                                  refine r_ladd (v := ((27 * fy101) + (Int32.toInt64 (iI (f0 z102))))) M rfl dX12_go_299 ?_
                                  refine lv_ldc2 (v := 96) hx hb M.1.2.2.2.1 (M.1.2.2.2.2 _ G1642) dX12_go_300 ?_
                                  refine r_lsub (v := (((27 * fy101) + (Int32.toInt64 (iI (f0 z102)))) - 96)) M rfl dX12_go_303 ?_
                                  refine r_put (ws' := [(a0, .inr (11, [.int r0, .ref a1, .int (iI x0), .int (iI x1), .int (iI x2), .int (iI z102), .int (iI z1), .int (iI x5), .int fr103, .int (iI x6), .int (iI x7), .int (iI x8), .long (((27 * fy101) + (Int32.toInt64 (iI (f0 z102)))) - 96), .int (iI x9), .ref a2, .ref a3, .ref a4, .ref a5, .ref a6, .ref a7, .ref a8, .ref a9, .ref a10, .ref a11, .int (iI x10), .ref a12, .ref a13, .ref a14, .ref a15, .int (iI x11), .int r2, .int r3, .ref a16, .int (iI x12), .int (iI x13), .ref a17, .ref a18, .int (iI x14), .ref a19, .int (iI x15), .int r4, .ref a20, .ref a21, .int (iI x16), .int r5, .ref a22, .int (iI x17), .int (iI x18), .int (iI x19), .int (iI x20)])), (a1, .inl (T 0, 940, .inl (cI f0)))]) M w 0 12 clX12 rfl (by decide) G1475 rfl rfl rfl rfl (Nat.le_of_ble_eq_true rfl) rfl dX12_go_304 (fun H locs w => ?_)
                                  refine lv_aload_n hx hb dX12_go_307 rfl (lv_at hl 4 rfl) ?_
                                  refine r_get (v := .int (iI z102)) M w 0 5 clX12 rfl (by decide) G1468 rfl rfl dX12_go_308 ?_
                                  refine lv_aload_n hx hb dX12_go_311 rfl (lv_at hl 4 rfl) ?_
                                  refine r_get (v := .int (iI z1)) M w 0 6 clX12 rfl (by decide) G1469 rfl rfl dX12_go_312 ?_
                                  refine r_isub (v := iI (z102 - z1)) M (iI_sub _ _) dX12_go_315 ?_
                                  refine lv_iconst (v := iI 3) hx hb dX12_go_316 (by decide +kernel) ?_
                                  refine lv_icmp_ge (tgt := 337) hx hb dX12_go_317 (by decide) (fun c_142 => ?_) (fun c_142 => ?_)
                                  · replace c_142 := (iI_le (by decide) (by decide) (by omega) (by omega)).mp c_142
                                    refine lv_aload_n hx hb dX12_go_337 rfl (lv_at hl 4 rfl) ?_
                                    refine lv_dup hx hb dX12_go_338 rfl ?_
                                    refine r_get (v := .int (iI z102)) M w 0 5 clX12 rfl (by decide) G1468 rfl rfl dX12_go_339 ?_
                                    refine lv_iconst (v := iI 1) hx hb dX12_go_342 (by decide +kernel) ?_
                                    refine r_iadd (v := iI (z102 + 1)) M (iI_add _ _) dX12_go_343 ?_
                                    refine r_put (ws' := [(a0, .inr (11, [.int r0, .ref a1, .int (iI x0), .int (iI x1), .int (iI x2), .int (iI (z102 + 1)), .int (iI z1), .int (iI x5), .int fr103, .int (iI x6), .int (iI x7), .int (iI x8), .long (((27 * fy101) + (Int32.toInt64 (iI (f0 z102)))) - 96), .int (iI x9), .ref a2, .ref a3, .ref a4, .ref a5, .ref a6, .ref a7, .ref a8, .ref a9, .ref a10, .ref a11, .int (iI x10), .ref a12, .ref a13, .ref a14, .ref a15, .int (iI x11), .int r2, .int r3, .ref a16, .int (iI x12), .int (iI x13), .ref a17, .ref a18, .int (iI x14), .ref a19, .int (iI x15), .int r4, .ref a20, .ref a21, .int (iI x16), .int r5, .ref a22, .int (iI x17), .int (iI x18), .int (iI x19), .int (iI x20)])), (a1, .inl (T 0, 940, .inl (cI f0)))]) M w 0 5 clX12 rfl (by decide) G1468 rfl rfl rfl rfl (Nat.le_of_ble_eq_true rfl) rfl dX12_go_344 (fun H locs w => ?_)
                                    refine lv_goto (tgt := 215) hx hb dX12_go_347 (by decide) ?_
                                    exact ih2 (((27 * fy101) + (Int32.toInt64 (iI (f0 z102)))) - 96) (z102 + 1) fr103 0 _ _ _ (by omega) (by omega) (by decide) (by decide) (by omega) (by omega) (lq2_r.trans (rn_t (ta_L pq106 pq129 (by omega)).1 (Or.inl (ta_L pq106 pq129 (by omega)).2))) (aR_s lq2_a (Or.inl (ta_L pq106 pq129 (by omega)).2)) (gd_q lq2_g (by omega) pq138 (by omega) (by omega) (by omega) (by omega) (by omega) (by omega)) (wI_s lq2_w (by omega) (f0_h _) (by first | exact Or.inl ⟨by omega, rfl⟩ | exact Or.inr ⟨by omega, rfl⟩) (by first | exact Or.inl ⟨by omega, rfl⟩ | exact Or.inr ⟨by omega, rfl⟩)) (by omega) w (lv_sub hl [0, 2, 3, 4] rfl)
                                  · replace c_142 : (z102 - z1) < 3 := Int.not_le.mp (fun h => c_142 ((iI_le (by decide) (by decide) (by omega) (by omega)).mpr h))
                                    refine lv_aload_n hx hb dX12_go_320 rfl (lv_at hl 4 rfl) ?_
                                    refine lv_bipush (v := iI 10) hx hb dX12_go_321 (by decide +kernel) ?_
                                    refine lv_aload_n hx hb dX12_go_323 rfl (lv_at hl 4 rfl) ?_
                                    refine r_get (v := .int fr103) M w 0 8 clX12 rfl (by decide) G1471 rfl rfl dX12_go_324 ?_
                                    refine r_imul (v := ((iI 10) * fr103)) M rfl dX12_go_327 ?_
                                    refine lv_iload hx hb dX12_go_328 (lv_at hl 1 rfl) ?_
                                    refine r_iadd (v := (((iI 10) * fr103) + (iI (f0 z102)))) M rfl dX12_go_330 ?_
                                    refine lv_bipush (v := iI 48) hx hb dX12_go_331 (by decide +kernel) ?_
                                    refine r_isub (v := ((((iI 10) * fr103) + (iI (f0 z102))) - (iI 48))) M rfl dX12_go_333 ?_
                                    refine r_put (ws' := [(a0, .inr (11, [.int r0, .ref a1, .int (iI x0), .int (iI x1), .int (iI x2), .int (iI z102), .int (iI z1), .int (iI x5), .int ((((iI 10) * fr103) + (iI (f0 z102))) - (iI 48)), .int (iI x6), .int (iI x7), .int (iI x8), .long (((27 * fy101) + (Int32.toInt64 (iI (f0 z102)))) - 96), .int (iI x9), .ref a2, .ref a3, .ref a4, .ref a5, .ref a6, .ref a7, .ref a8, .ref a9, .ref a10, .ref a11, .int (iI x10), .ref a12, .ref a13, .ref a14, .ref a15, .int (iI x11), .int r2, .int r3, .ref a16, .int (iI x12), .int (iI x13), .ref a17, .ref a18, .int (iI x14), .ref a19, .int (iI x15), .int r4, .ref a20, .ref a21, .int (iI x16), .int r5, .ref a22, .int (iI x17), .int (iI x18), .int (iI x19), .int (iI x20)])), (a1, .inl (T 0, 940, .inl (cI f0)))]) M w 0 8 clX12 rfl (by decide) G1471 rfl rfl rfl rfl (Nat.le_of_ble_eq_true rfl) rfl dX12_go_334 (fun H locs w => ?_)
                                    refine lv_aload_n hx hb dX12_go_337 rfl (lv_at hl 4 rfl) ?_
                                    refine lv_dup hx hb dX12_go_338 rfl ?_
                                    refine r_get (v := .int (iI z102)) M w 0 5 clX12 rfl (by decide) G1468 rfl rfl dX12_go_339 ?_
                                    refine lv_iconst (v := iI 1) hx hb dX12_go_342 (by decide +kernel) ?_
                                    refine r_iadd (v := iI (z102 + 1)) M (iI_add _ _) dX12_go_343 ?_
                                    refine r_put (ws' := [(a0, .inr (11, [.int r0, .ref a1, .int (iI x0), .int (iI x1), .int (iI x2), .int (iI (z102 + 1)), .int (iI z1), .int (iI x5), .int ((((iI 10) * fr103) + (iI (f0 z102))) - (iI 48)), .int (iI x6), .int (iI x7), .int (iI x8), .long (((27 * fy101) + (Int32.toInt64 (iI (f0 z102)))) - 96), .int (iI x9), .ref a2, .ref a3, .ref a4, .ref a5, .ref a6, .ref a7, .ref a8, .ref a9, .ref a10, .ref a11, .int (iI x10), .ref a12, .ref a13, .ref a14, .ref a15, .int (iI x11), .int r2, .int r3, .ref a16, .int (iI x12), .int (iI x13), .ref a17, .ref a18, .int (iI x14), .ref a19, .int (iI x15), .int r4, .ref a20, .ref a21, .int (iI x16), .int r5, .ref a22, .int (iI x17), .int (iI x18), .int (iI x19), .int (iI x20)])), (a1, .inl (T 0, 940, .inl (cI f0)))]) M w 0 5 clX12 rfl (by decide) G1468 rfl rfl rfl rfl (Nat.le_of_ble_eq_true rfl) rfl dX12_go_344 (fun H locs w => ?_)
                                    refine lv_goto (tgt := 215) hx hb dX12_go_347 (by decide) ?_
                                    exact ih2 (((27 * fy101) + (Int32.toInt64 (iI (f0 z102)))) - 96) (z102 + 1) ((((iI 10) * fr103) + (iI (f0 z102))) - (iI 48)) 0 _ _ _ (by omega) (by omega) (by decide) (by decide) (by omega) (by omega) (lq2_r.trans (rn_t (ta_L pq106 pq129 (by omega)).1 (Or.inl (ta_L pq106 pq129 (by omega)).2))) (aR_s lq2_a (Or.inl (ta_L pq106 pq129 (by omega)).2)) (gd_q lq2_g (by omega) pq138 (by omega) (by omega) (by omega) (by omega) (by omega) (by omega)) (wI_s lq2_w (by omega) (f0_h _) (by first | exact Or.inl ⟨by omega, rfl⟩ | exact Or.inr ⟨by omega, rfl⟩) (by first | exact Or.inl ⟨by omega, rfl⟩ | exact Or.inr ⟨by omega, rfl⟩)) (by omega) w (lv_sub hl [0, 2, 3, 4] rfl)
                              · replace c_139 := (iI_eq (Int.le_trans (by decide) z136_a) (Int.le_trans z136_b (by decide)) (Int.le_trans (by decide) z98_a) (Int.le_trans z98_b (by decide))).mp c_139
                                refine lv_iconst (v := iI 1) hx hb dX12_go_267 (by decide +kernel) ?_
                                refine lv_goto (tgt := 272) hx hb dX12_go_268 (by decide) ?_
                                refine lv_istore_n (lv' := [(3, .int (iI 1)), (4, .int (iI (f0 z102))), (2, .int (iI z98)), (1, .int (iI (f0 z1))), (0, .ref a0)]) hx hb dX12_go_272 rfl hl (by decide) rfl (fun ls hl => ?_)
                                refine lv_aload_n hx hb dX12_go_273 rfl (lv_at hl 4 rfl) ?_
                                refine r_get (v := .int (iI z102)) M w 0 5 clX12 rfl (by decide) G1468 rfl rfl dX12_go_274 ?_
                                refine lv_aload_n hx hb dX12_go_277 rfl (lv_at hl 4 rfl) ?_
                                refine r_get (v := .int (iI z1)) M w 0 6 clX12 rfl (by decide) G1469 rfl rfl dX12_go_278 ?_
                                refine r_isub (v := iI (z102 - z1)) M (iI_sub _ _) dX12_go_281 ?_
                                refine lv_bipush (v := iI 7) hx hb dX12_go_282 (by decide +kernel) ?_
                                refine lv_icmp_ge (tgt := 307) hx hb dX12_go_284 (by decide) (fun c_143 => ?_) (fun c_143 => ?_)
                                · replace c_143 := (iI_le (by decide) (by decide) (by omega) (by omega)).mp c_143
                                  refine lv_aload_n hx hb dX12_go_307 rfl (lv_at hl 4 rfl) ?_
                                  refine r_get (v := .int (iI z102)) M w 0 5 clX12 rfl (by decide) G1468 rfl rfl dX12_go_308 ?_
                                  refine lv_aload_n hx hb dX12_go_311 rfl (lv_at hl 4 rfl) ?_
                                  refine r_get (v := .int (iI z1)) M w 0 6 clX12 rfl (by decide) G1469 rfl rfl dX12_go_312 ?_
                                  refine r_isub (v := iI (z102 - z1)) M (iI_sub _ _) dX12_go_315 ?_
                                  refine lv_iconst (v := iI 3) hx hb dX12_go_316 (by decide +kernel) ?_
                                  refine lv_icmp_ge (tgt := 337) hx hb dX12_go_317 (by decide) (fun c_144 => ?_) (fun c_144 => ?_)
                                  · replace c_144 := (iI_le (by decide) (by decide) (by omega) (by omega)).mp c_144
                                    refine lv_aload_n hx hb dX12_go_337 rfl (lv_at hl 4 rfl) ?_
                                    refine lv_dup hx hb dX12_go_338 rfl ?_
                                    refine r_get (v := .int (iI z102)) M w 0 5 clX12 rfl (by decide) G1468 rfl rfl dX12_go_339 ?_
                                    refine lv_iconst (v := iI 1) hx hb dX12_go_342 (by decide +kernel) ?_
                                    refine r_iadd (v := iI (z102 + 1)) M (iI_add _ _) dX12_go_343 ?_
                                    refine r_put (ws' := [(a0, .inr (11, [.int r0, .ref a1, .int (iI x0), .int (iI x1), .int (iI x2), .int (iI (z102 + 1)), .int (iI z1), .int (iI x5), .int fr103, .int (iI x6), .int (iI x7), .int (iI x8), .long fy101, .int (iI x9), .ref a2, .ref a3, .ref a4, .ref a5, .ref a6, .ref a7, .ref a8, .ref a9, .ref a10, .ref a11, .int (iI x10), .ref a12, .ref a13, .ref a14, .ref a15, .int (iI x11), .int r2, .int r3, .ref a16, .int (iI x12), .int (iI x13), .ref a17, .ref a18, .int (iI x14), .ref a19, .int (iI x15), .int r4, .ref a20, .ref a21, .int (iI x16), .int r5, .ref a22, .int (iI x17), .int (iI x18), .int (iI x19), .int (iI x20)])), (a1, .inl (T 0, 940, .inl (cI f0)))]) M w 0 5 clX12 rfl (by decide) G1468 rfl rfl rfl rfl (Nat.le_of_ble_eq_true rfl) rfl dX12_go_344 (fun H locs w => ?_)
                                    refine lv_goto (tgt := 215) hx hb dX12_go_347 (by decide) ?_
                                    exact ih2 fy101 (z102 + 1) fr103 1 _ _ _ (by omega) (by omega) (by decide) (by decide) (by omega) (by omega) (lq2_r.trans (rn_t (ta_L pq106 pq129 (by omega)).1 (Or.inl (ta_L pq106 pq129 (by omega)).2))) (aR_s lq2_a (Or.inl (ta_L pq106 pq129 (by omega)).2)) (gd_q lq2_g (by omega) pq138 (by omega) (by omega) (by omega) (by omega) (by omega) (by omega)) (wI_s lq2_w (by omega) (f0_h _) (by first | exact Or.inl ⟨by omega, rfl⟩ | exact Or.inr ⟨by omega, rfl⟩) (by first | exact Or.inl ⟨by omega, rfl⟩ | exact Or.inr ⟨by omega, rfl⟩)) (by omega) w (lv_sub hl [0, 2, 3, 4] rfl)
                                  · replace c_144 : (z102 - z1) < 3 := Int.not_le.mp (fun h => c_144 ((iI_le (by decide) (by decide) (by omega) (by omega)).mpr h))
                                    exfalso; omega
                                · replace c_143 : (z102 - z1) < 7 := Int.not_le.mp (fun h => c_143 ((iI_le (by decide) (by decide) (by omega) (by omega)).mpr h))
                                  refine lv_aload_n hx hb dX12_go_287 rfl (lv_at hl 4 rfl) ?_
                                  refine lv_ldc2 (v := 27) hx hb M.1.2.2.2.1 (M.1.2.2.2.2 _ G1641) dX12_go_288 ?_
                                  refine lv_aload_n hx hb dX12_go_291 rfl (lv_at hl 4 rfl) ?_
                                  refine r_get (v := .long fy101) M w 0 12 clX12 rfl (by decide) G1475 rfl rfl dX12_go_292 ?_
                                  refine r_lmul (v := (27 * fy101)) M rfl dX12_go_295 ?_
                                  refine lv_iload hx hb dX12_go_296 (lv_at hl 1 rfl) ?_
                                  refine lv_i2l (v := (Int32.toInt64 (iI (f0 z102)))) hx hb dX12_go_298 rfl ?_
                                  refine r_ladd (v := ((27 * fy101) + (Int32.toInt64 (iI (f0 z102))))) M rfl dX12_go_299 ?_
                                  refine lv_ldc2 (v := 96) hx hb M.1.2.2.2.1 (M.1.2.2.2.2 _ G1642) dX12_go_300 ?_
                                  refine r_lsub (v := (((27 * fy101) + (Int32.toInt64 (iI (f0 z102)))) - 96)) M rfl dX12_go_303 ?_
                                  refine r_put (ws' := [(a0, .inr (11, [.int r0, .ref a1, .int (iI x0), .int (iI x1), .int (iI x2), .int (iI z102), .int (iI z1), .int (iI x5), .int fr103, .int (iI x6), .int (iI x7), .int (iI x8), .long (((27 * fy101) + (Int32.toInt64 (iI (f0 z102)))) - 96), .int (iI x9), .ref a2, .ref a3, .ref a4, .ref a5, .ref a6, .ref a7, .ref a8, .ref a9, .ref a10, .ref a11, .int (iI x10), .ref a12, .ref a13, .ref a14, .ref a15, .int (iI x11), .int r2, .int r3, .ref a16, .int (iI x12), .int (iI x13), .ref a17, .ref a18, .int (iI x14), .ref a19, .int (iI x15), .int r4, .ref a20, .ref a21, .int (iI x16), .int r5, .ref a22, .int (iI x17), .int (iI x18), .int (iI x19), .int (iI x20)])), (a1, .inl (T 0, 940, .inl (cI f0)))]) M w 0 12 clX12 rfl (by decide) G1475 rfl rfl rfl rfl (Nat.le_of_ble_eq_true rfl) rfl dX12_go_304 (fun H locs w => ?_)
                                  refine lv_aload_n hx hb dX12_go_307 rfl (lv_at hl 4 rfl) ?_
                                  refine r_get (v := .int (iI z102)) M w 0 5 clX12 rfl (by decide) G1468 rfl rfl dX12_go_308 ?_
                                  refine lv_aload_n hx hb dX12_go_311 rfl (lv_at hl 4 rfl) ?_
                                  refine r_get (v := .int (iI z1)) M w 0 6 clX12 rfl (by decide) G1469 rfl rfl dX12_go_312 ?_
                                  refine r_isub (v := iI (z102 - z1)) M (iI_sub _ _) dX12_go_315 ?_
                                  refine lv_iconst (v := iI 3) hx hb dX12_go_316 (by decide +kernel) ?_
                                  refine lv_icmp_ge (tgt := 337) hx hb dX12_go_317 (by decide) (fun c_145 => ?_) (fun c_145 => ?_)
                                  · replace c_145 := (iI_le (by decide) (by decide) (by omega) (by omega)).mp c_145
                                    refine lv_aload_n hx hb dX12_go_337 rfl (lv_at hl 4 rfl) ?_
                                    refine lv_dup hx hb dX12_go_338 rfl ?_
                                    refine r_get (v := .int (iI z102)) M w 0 5 clX12 rfl (by decide) G1468 rfl rfl dX12_go_339 ?_
                                    refine lv_iconst (v := iI 1) hx hb dX12_go_342 (by decide +kernel) ?_
                                    refine r_iadd (v := iI (z102 + 1)) M (iI_add _ _) dX12_go_343 ?_
                                    refine r_put (ws' := [(a0, .inr (11, [.int r0, .ref a1, .int (iI x0), .int (iI x1), .int (iI x2), .int (iI (z102 + 1)), .int (iI z1), .int (iI x5), .int fr103, .int (iI x6), .int (iI x7), .int (iI x8), .long (((27 * fy101) + (Int32.toInt64 (iI (f0 z102)))) - 96), .int (iI x9), .ref a2, .ref a3, .ref a4, .ref a5, .ref a6, .ref a7, .ref a8, .ref a9, .ref a10, .ref a11, .int (iI x10), .ref a12, .ref a13, .ref a14, .ref a15, .int (iI x11), .int r2, .int r3, .ref a16, .int (iI x12), .int (iI x13), .ref a17, .ref a18, .int (iI x14), .ref a19, .int (iI x15), .int r4, .ref a20, .ref a21, .int (iI x16), .int r5, .ref a22, .int (iI x17), .int (iI x18), .int (iI x19), .int (iI x20)])), (a1, .inl (T 0, 940, .inl (cI f0)))]) M w 0 5 clX12 rfl (by decide) G1468 rfl rfl rfl rfl (Nat.le_of_ble_eq_true rfl) rfl dX12_go_344 (fun H locs w => ?_)
                                    refine lv_goto (tgt := 215) hx hb dX12_go_347 (by decide) ?_
                                    exact ih2 (((27 * fy101) + (Int32.toInt64 (iI (f0 z102)))) - 96) (z102 + 1) fr103 1 _ _ _ (by omega) (by omega) (by decide) (by decide) (by omega) (by omega) (lq2_r.trans (rn_t (ta_L pq106 pq129 (by omega)).1 (Or.inl (ta_L pq106 pq129 (by omega)).2))) (aR_s lq2_a (Or.inl (ta_L pq106 pq129 (by omega)).2)) (gd_q lq2_g (by omega) pq138 (by omega) (by omega) (by omega) (by omega) (by omega) (by omega)) (wI_s lq2_w (by omega) (f0_h _) (by first | exact Or.inl ⟨by omega, rfl⟩ | exact Or.inr ⟨by omega, rfl⟩) (by first | exact Or.inl ⟨by omega, rfl⟩ | exact Or.inr ⟨by omega, rfl⟩)) (by omega) w (lv_sub hl [0, 2, 3, 4] rfl)
                                  · replace c_145 : (z102 - z1) < 3 := Int.not_le.mp (fun h => c_145 ((iI_le (by decide) (by decide) (by omega) (by omega)).mpr h))
                                    refine lv_aload_n hx hb dX12_go_320 rfl (lv_at hl 4 rfl) ?_
                                    refine lv_bipush (v := iI 10) hx hb dX12_go_321 (by decide +kernel) ?_
                                    refine lv_aload_n hx hb dX12_go_323 rfl (lv_at hl 4 rfl) ?_
                                    refine r_get (v := .int fr103) M w 0 8 clX12 rfl (by decide) G1471 rfl rfl dX12_go_324 ?_
                                    refine r_imul (v := ((iI 10) * fr103)) M rfl dX12_go_327 ?_
                                    refine lv_iload hx hb dX12_go_328 (lv_at hl 1 rfl) ?_
                                    refine r_iadd (v := (((iI 10) * fr103) + (iI (f0 z102)))) M rfl dX12_go_330 ?_
                                    refine lv_bipush (v := iI 48) hx hb dX12_go_331 (by decide +kernel) ?_
                                    refine r_isub (v := ((((iI 10) * fr103) + (iI (f0 z102))) - (iI 48))) M rfl dX12_go_333 ?_
                                    refine r_put (ws' := [(a0, .inr (11, [.int r0, .ref a1, .int (iI x0), .int (iI x1), .int (iI x2), .int (iI z102), .int (iI z1), .int (iI x5), .int ((((iI 10) * fr103) + (iI (f0 z102))) - (iI 48)), .int (iI x6), .int (iI x7), .int (iI x8), .long (((27 * fy101) + (Int32.toInt64 (iI (f0 z102)))) - 96), .int (iI x9), .ref a2, .ref a3, .ref a4, .ref a5, .ref a6, .ref a7, .ref a8, .ref a9, .ref a10, .ref a11, .int (iI x10), .ref a12, .ref a13, .ref a14, .ref a15, .int (iI x11), .int r2, .int r3, .ref a16, .int (iI x12), .int (iI x13), .ref a17, .ref a18, .int (iI x14), .ref a19, .int (iI x15), .int r4, .ref a20, .ref a21, .int (iI x16), .int r5, .ref a22, .int (iI x17), .int (iI x18), .int (iI x19), .int (iI x20)])), (a1, .inl (T 0, 940, .inl (cI f0)))]) M w 0 8 clX12 rfl (by decide) G1471 rfl rfl rfl rfl (Nat.le_of_ble_eq_true rfl) rfl dX12_go_334 (fun H locs w => ?_)
                                    refine lv_aload_n hx hb dX12_go_337 rfl (lv_at hl 4 rfl) ?_
                                    refine lv_dup hx hb dX12_go_338 rfl ?_
                                    refine r_get (v := .int (iI z102)) M w 0 5 clX12 rfl (by decide) G1468 rfl rfl dX12_go_339 ?_
                                    refine lv_iconst (v := iI 1) hx hb dX12_go_342 (by decide +kernel) ?_
                                    refine r_iadd (v := iI (z102 + 1)) M (iI_add _ _) dX12_go_343 ?_
                                    refine r_put (ws' := [(a0, .inr (11, [.int r0, .ref a1, .int (iI x0), .int (iI x1), .int (iI x2), .int (iI (z102 + 1)), .int (iI z1), .int (iI x5), .int ((((iI 10) * fr103) + (iI (f0 z102))) - (iI 48)), .int (iI x6), .int (iI x7), .int (iI x8), .long (((27 * fy101) + (Int32.toInt64 (iI (f0 z102)))) - 96), .int (iI x9), .ref a2, .ref a3, .ref a4, .ref a5, .ref a6, .ref a7, .ref a8, .ref a9, .ref a10, .ref a11, .int (iI x10), .ref a12, .ref a13, .ref a14, .ref a15, .int (iI x11), .int r2, .int r3, .ref a16, .int (iI x12), .int (iI x13), .ref a17, .ref a18, .int (iI x14), .ref a19, .int (iI x15), .int r4, .ref a20, .ref a21, .int (iI x16), .int r5, .ref a22, .int (iI x17), .int (iI x18), .int (iI x19), .int (iI x20)])), (a1, .inl (T 0, 940, .inl (cI f0)))]) M w 0 5 clX12 rfl (by decide) G1468 rfl rfl rfl rfl (Nat.le_of_ble_eq_true rfl) rfl dX12_go_344 (fun H locs w => ?_)
                                    refine lv_goto (tgt := 215) hx hb dX12_go_347 (by decide) ?_
                                    exact ih2 (((27 * fy101) + (Int32.toInt64 (iI (f0 z102)))) - 96) (z102 + 1) ((((iI 10) * fr103) + (iI (f0 z102))) - (iI 48)) 1 _ _ _ (by omega) (by omega) (by decide) (by decide) (by omega) (by omega) (lq2_r.trans (rn_t (ta_L pq106 pq129 (by omega)).1 (Or.inl (ta_L pq106 pq129 (by omega)).2))) (aR_s lq2_a (Or.inl (ta_L pq106 pq129 (by omega)).2)) (gd_q lq2_g (by omega) pq138 (by omega) (by omega) (by omega) (by omega) (by omega) (by omega)) (wI_s lq2_w (by omega) (f0_h _) (by first | exact Or.inl ⟨by omega, rfl⟩ | exact Or.inr ⟨by omega, rfl⟩) (by first | exact Or.inl ⟨by omega, rfl⟩ | exact Or.inr ⟨by omega, rfl⟩)) (by omega) w (lv_sub hl [0, 2, 3, 4] rfl)
                          · replace c_130 := (iz_eq (Int.le_trans (by decide) z127_a) (Int.le_trans z127_b (by decide))).mp c_130
                            refine lv_aload_n hx hb dX12_go_229 rfl (lv_at hl 3 rfl) ?_
                            refine lv_aload_n hx hb dX12_go_230 rfl (lv_at hl 3 rfl) ?_
                            refine r_get (v := .int (iI z102)) M w 0 5 clX12 rfl (by decide) G1468 rfl rfl dX12_go_231 ?_
                            refine k_I (ce := 0) (sl := 0) (rest := []) (wr := []) (r_V (f := 0) [0, 1] M w V_HookedCityModel_50 G1639 G50 (c9_X12_tapeAt l D T _ a0 z102 r0 a1 x0 x1 x2 z102 z1 x5 fr103 x6 x7 x8 fy101 x9 a2 a3 a4 a5 a6 a7 a8 a9 a10 a11 x10 a12 a13 a14 a15 x11 r2 r3 a16 x12 x13 a17 a18 x14 a19 x15 r4 a20 a21 x16 r5 a22 x17 x18 x19 x20 f0 z102_a z102_b x0_a x0_b x1_a x1_b x2_a x2_b z102_a z102_b z1_a z1_b x5_a x5_b x6_a x6_b x7_a x7_b x8_a x8_b x9_a x9_b x10_a x10_b x11_a x11_b x12_a x12_b x13_a x13_b x14_a x14_b x15_a x15_b x16_a x16_b x17_a x17_b x18_a x18_b x19_a x19_b x20_a x20_b f0_h) 0 clX12 rfl rfl (by decide) rfl hl.1 rfl (Nat.le_of_ble_eq_true rfl) dX12_go_234 (by decide) (by decide) (by decide) (by decide)) w [0, 1] [] rfl rfl (by decide) (by decide) rfl rfl (fun v z146 H locs hp w => ?_)
                            have hv : iI z146 = v := hp.1
                            subst hv
                            have z146_a : (-2147483648) ≤ z146 := hp.2.1
                            have z146_b : z146 ≤ 2147483647 := hp.2.2.1
                            have pq147 : taQ z102 x1 z146 (f0 z102) := hp.2.2.2.1
                            have w : WD D A s.heap [(a0, .inr (11, [.int r0, .ref a1, .int (iI x0), .int (iI x1), .int (iI x2), .int (iI z102), .int (iI z1), .int (iI x5), .int fr103, .int (iI x6), .int (iI x7), .int (iI x8), .long fy101, .int (iI x9), .ref a2, .ref a3, .ref a4, .ref a5, .ref a6, .ref a7, .ref a8, .ref a9, .ref a10, .ref a11, .int (iI x10), .ref a12, .ref a13, .ref a14, .ref a15, .int (iI x11), .int r2, .int r3, .ref a16, .int (iI x12), .int (iI x13), .ref a17, .ref a18, .int (iI x14), .ref a19, .int (iI x15), .int r4, .ref a20, .ref a21, .int (iI x16), .int r5, .ref a22, .int (iI x17), .int (iI x18), .int (iI x19), .int (iI x20)])), (a1, .inl (T 0, 940, .inl (cI f0)))] H locs := w
                            rcases hp.2.2.2.2 with ⟨c_148, hr⟩ | c_149
                            · exfalso; omega
                            · refine k_I (ce := 0) (sl := 0) (rest := []) (wr := [(a0, .inr (11, [.int r0, .ref a1, .int (iI x0), .int (iI x1), .int (iI x2), .int (iI z102), .int (iI z1), .int (iI x5), .int fr103, .int (iI x6), .int (iI x7), .int (iI x8), .long fy101, .int (iI x9), .ref a2, .ref a3, .ref a4, .ref a5, .ref a6, .ref a7, .ref a8, .ref a9, .ref a10, .ref a11, .int (iI x10), .ref a12, .ref a13, .ref a14, .ref a15, .int (iI x11), .int r2, .int r3, .ref a16, .int (iI x12), .int (iI x13), .ref a17, .ref a18, .int (iI x14), .ref a19, .int (iI x15), .int r4, .ref a20, .ref a21, .int (iI x16), .int r5, .ref a22, .int (iI x17), .int (iI x18), .int (iI x19), .int (iI x20)])), (a1, .inl (T 0, 940, .inl (cI f0)))]) (r_S (f := 0) [] M w V_HookedCityModel_37 G1635 (c10_X12_isDigit l D T _ z146 z146_a z146_b) rfl (by decide) rfl hl.1 rfl (Nat.le_of_ble_eq_true rfl) dX12_go_237 (by decide) (by decide) (by decide) (by decide)) w [] [0, 1] rfl rfl (by decide) (by decide) rfl rfl (fun v z150 H locs hp w => ?_)
                              have hv : iI z150 = v := hp.1
                              subst hv
                              have z150_a : 0 ≤ z150 := hp.2.1
                              have z150_b : z150 ≤ 1 := hp.2.2.1
                              have ee151 : 0 ≤ ((z146 + 4294967296) - (z150 * 4294967344)) := hp.2.2.2.1
                              have pq152 : lq z150 z146 48 57 := hp.2.2.2.2
                              have w : WD D A s.heap [(a0, .inr (11, [.int r0, .ref a1, .int (iI x0), .int (iI x1), .int (iI x2), .int (iI z102), .int (iI z1), .int (iI x5), .int fr103, .int (iI x6), .int (iI x7), .int (iI x8), .long fy101, .int (iI x9), .ref a2, .ref a3, .ref a4, .ref a5, .ref a6, .ref a7, .ref a8, .ref a9, .ref a10, .ref a11, .int (iI x10), .ref a12, .ref a13, .ref a14, .ref a15, .int (iI x11), .int r2, .int r3, .ref a16, .int (iI x12), .int (iI x13), .ref a17, .ref a18, .int (iI x14), .ref a19, .int (iI x15), .int r4, .ref a20, .ref a21, .int (iI x16), .int r5, .ref a22, .int (iI x17), .int (iI x18), .int (iI x19), .int (iI x20)])), (a1, .inl (T 0, 940, .inl (cI f0)))] H locs := w
                              refine lv_if_eq (tgt := 350) hx hb dX12_go_240 (by decide) (fun c_153 => ?_) (fun c_153 => ?_)
                              · replace c_153 := (iz_eq (Int.le_trans (by decide) z150_a) (Int.le_trans z150_b (by decide))).mp c_153
                                refine lv_aload_n hx hb dX12_go_350 rfl (lv_at hl 3 rfl) ?_
                                refine lv_iload_n hx hb dX12_go_351 rfl (lv_at hl 0 rfl) ?_
                                refine lv_if_eq (tgt := 377) hx hb dX12_go_352 (by decide) (fun c_154 => ?_) (fun c_154 => ?_)
                                · replace c_154 := (iz_eq (Int.le_trans (by decide) z104_a) (Int.le_trans z104_b (by decide))).mp c_154
                                  refine lv_iconst (v := iI 1) hx hb dX12_go_377 (by decide +kernel) ?_
                                  refine lv_goto (tgt := 390) hx hb dX12_go_378 (by decide) ?_
                                  refine r_put (ws' := [(a0, .inr (11, [.int r0, .ref a1, .int (iI x0), .int (iI x1), .int (iI x2), .int (iI z102), .int (iI z1), .int (iI 1), .int fr103, .int (iI x6), .int (iI x7), .int (iI x8), .long fy101, .int (iI x9), .ref a2, .ref a3, .ref a4, .ref a5, .ref a6, .ref a7, .ref a8, .ref a9, .ref a10, .ref a11, .int (iI x10), .ref a12, .ref a13, .ref a14, .ref a15, .int (iI x11), .int r2, .int r3, .ref a16, .int (iI x12), .int (iI x13), .ref a17, .ref a18, .int (iI x14), .ref a19, .int (iI x15), .int r4, .ref a20, .ref a21, .int (iI x16), .int r5, .ref a22, .int (iI x17), .int (iI x18), .int (iI x19), .int (iI x20)])), (a1, .inl (T 0, 940, .inl (cI f0)))]) M w 0 7 clX12 rfl (by decide) G1470 rfl rfl rfl rfl (Nat.le_of_ble_eq_true rfl) rfl dX12_go_390 (fun H locs w => ?_)
                                  exact ret (z102, z1, 1, fr103, x6, fy101) _ _ _ _ _ [0, 1] dX12_go_393 ⟨z102_a, z102_b, z1_a, z1_b, (show (0 : Int) ≤ 1 from by decide), (show (1 : Int) ≤ 4 from by decide), x6_a, x6_b, (show 0 ≤ (z102 - x3) from by omega), (show 0 ≤ (((z102 - x3) - 1) + 3) from by omega), (show gT (tkAt f0 x1 x2 x3) 1 z1 z102 fy101 fr103 x6 from (by rw [tk_run (lq1_s.trans (sk_e (by omega))) (by omega) (by omega) (Or.inr (lq_1 pq96 (by omega))) (lq2_r.trans (rn_e (ta_E pq106 pq129 (by omega) pq147 pq152 (by omega))))]; exact ⟨rfl, rfl, go_fin lq2_a lq2_g pq100 (lq2_r.trans (rn_e (ta_E pq106 pq129 (by omega) pq147 pq152 (by omega)))) (by omega) (Or.inr (lq_1 pq96 (by omega))) lq2_w (by omega)⟩))⟩ w (by decide) rfl
                                · replace c_154 : ¬ z104 = 0 := fun h => c_154 ((iz_eq (Int.le_trans (by decide) z104_a) (Int.le_trans z104_b (by decide))).mpr h)
                                  refine lv_aload_n hx hb dX12_go_355 rfl (lv_at hl 3 rfl) ?_
                                  refine r_get (v := .int (iI z102)) M w 0 5 clX12 rfl (by decide) G1468 rfl rfl dX12_go_356 ?_
                                  refine lv_aload_n hx hb dX12_go_359 rfl (lv_at hl 3 rfl) ?_
                                  refine r_get (v := .int (iI z1)) M w 0 6 clX12 rfl (by decide) G1469 rfl rfl dX12_go_360 ?_
                                  refine r_isub (v := iI (z102 - z1)) M (iI_sub _ _) dX12_go_363 ?_
                                  refine lv_iload_n hx hb dX12_go_364 rfl (lv_at hl 1 rfl) ?_
                                  refine lv_if_eq (tgt := 373) hx hb dX12_go_365 (by decide) (fun c_155 => ?_) (fun c_155 => ?_)
                                  · replace c_155 := (iz_eq (Int.le_trans (by decide) z98_a) (Int.le_trans z98_b (by decide))).mp c_155
                                    refine lv_iconst (v := iI 3) hx hb dX12_go_373 (by decide +kernel) ?_
                                    refine lv_icmp_le (tgt := 381) hx hb dX12_go_374 (by decide) (fun c_156 => ?_) (fun c_156 => ?_)
                                    · replace c_156 := (iI_le (by omega) (by omega) (by decide) (by decide)).mp c_156
                                      refine lv_iload_n hx hb dX12_go_381 rfl (lv_at hl 1 rfl) ?_
                                      refine lv_if_eq (tgt := 389) hx hb dX12_go_382 (by decide) (fun c_157 => ?_) (fun c_157 => ?_)
                                      · replace c_157 := (iz_eq (Int.le_trans (by decide) z98_a) (Int.le_trans z98_b (by decide))).mp c_157
                                        refine lv_iconst (v := iI 3) hx hb dX12_go_389 (by decide +kernel) ?_
                                        refine r_put (ws' := [(a0, .inr (11, [.int r0, .ref a1, .int (iI x0), .int (iI x1), .int (iI x2), .int (iI z102), .int (iI z1), .int (iI 3), .int fr103, .int (iI x6), .int (iI x7), .int (iI x8), .long fy101, .int (iI x9), .ref a2, .ref a3, .ref a4, .ref a5, .ref a6, .ref a7, .ref a8, .ref a9, .ref a10, .ref a11, .int (iI x10), .ref a12, .ref a13, .ref a14, .ref a15, .int (iI x11), .int r2, .int r3, .ref a16, .int (iI x12), .int (iI x13), .ref a17, .ref a18, .int (iI x14), .ref a19, .int (iI x15), .int r4, .ref a20, .ref a21, .int (iI x16), .int r5, .ref a22, .int (iI x17), .int (iI x18), .int (iI x19), .int (iI x20)])), (a1, .inl (T 0, 940, .inl (cI f0)))]) M w 0 7 clX12 rfl (by decide) G1470 rfl rfl rfl rfl (Nat.le_of_ble_eq_true rfl) rfl dX12_go_390 (fun H locs w => ?_)
                                        exact ret (z102, z1, 3, fr103, x6, fy101) _ _ _ _ _ [0, 1] dX12_go_393 ⟨z102_a, z102_b, z1_a, z1_b, (show (0 : Int) ≤ 3 from by decide), (show (3 : Int) ≤ 4 from by decide), x6_a, x6_b, (show 0 ≤ (z102 - x3) from by omega), (show 0 ≤ (((z102 - x3) - 3) + 3) from by omega), (show gT (tkAt f0 x1 x2 x3) 3 z1 z102 fy101 fr103 x6 from (by rw [tk_run (lq1_s.trans (sk_e (by omega))) (by omega) (by omega) (Or.inr (lq_1 pq96 (by omega))) (lq2_r.trans (rn_e (ta_E pq106 pq129 (by omega) pq147 pq152 (by omega))))]; exact ⟨rfl, rfl, go_fin lq2_a lq2_g pq100 (lq2_r.trans (rn_e (ta_E pq106 pq129 (by omega) pq147 pq152 (by omega)))) (by omega) (Or.inr (lq_1 pq96 (by omega))) lq2_w (by omega)⟩))⟩ w (by decide) rfl
                                      · replace c_157 : ¬ z98 = 0 := fun h => c_157 ((iz_eq (Int.le_trans (by decide) z98_a) (Int.le_trans z98_b (by decide))).mpr h)
                                        exfalso; omega
                                    · replace c_156 : 3 < (z102 - z1) := Int.not_le.mp (fun h => c_156 ((iI_le (by omega) (by omega) (by decide) (by decide)).mpr h))
                                      refine lv_iconst (v := iI 1) hx hb dX12_go_377 (by decide +kernel) ?_
                                      refine lv_goto (tgt := 390) hx hb dX12_go_378 (by decide) ?_
                                      refine r_put (ws' := [(a0, .inr (11, [.int r0, .ref a1, .int (iI x0), .int (iI x1), .int (iI x2), .int (iI z102), .int (iI z1), .int (iI 1), .int fr103, .int (iI x6), .int (iI x7), .int (iI x8), .long fy101, .int (iI x9), .ref a2, .ref a3, .ref a4, .ref a5, .ref a6, .ref a7, .ref a8, .ref a9, .ref a10, .ref a11, .int (iI x10), .ref a12, .ref a13, .ref a14, .ref a15, .int (iI x11), .int r2, .int r3, .ref a16, .int (iI x12), .int (iI x13), .ref a17, .ref a18, .int (iI x14), .ref a19, .int (iI x15), .int r4, .ref a20, .ref a21, .int (iI x16), .int r5, .ref a22, .int (iI x17), .int (iI x18), .int (iI x19), .int (iI x20)])), (a1, .inl (T 0, 940, .inl (cI f0)))]) M w 0 7 clX12 rfl (by decide) G1470 rfl rfl rfl rfl (Nat.le_of_ble_eq_true rfl) rfl dX12_go_390 (fun H locs w => ?_)
                                      exact ret (z102, z1, 1, fr103, x6, fy101) _ _ _ _ _ [0, 1] dX12_go_393 ⟨z102_a, z102_b, z1_a, z1_b, (show (0 : Int) ≤ 1 from by decide), (show (1 : Int) ≤ 4 from by decide), x6_a, x6_b, (show 0 ≤ (z102 - x3) from by omega), (show 0 ≤ (((z102 - x3) - 1) + 3) from by omega), (show gT (tkAt f0 x1 x2 x3) 1 z1 z102 fy101 fr103 x6 from (by rw [tk_run (lq1_s.trans (sk_e (by omega))) (by omega) (by omega) (Or.inr (lq_1 pq96 (by omega))) (lq2_r.trans (rn_e (ta_E pq106 pq129 (by omega) pq147 pq152 (by omega))))]; exact ⟨rfl, rfl, go_fin lq2_a lq2_g pq100 (lq2_r.trans (rn_e (ta_E pq106 pq129 (by omega) pq147 pq152 (by omega)))) (by omega) (Or.inr (lq_1 pq96 (by omega))) lq2_w (by omega)⟩))⟩ w (by decide) rfl
                                  · replace c_155 : ¬ z98 = 0 := fun h => c_155 ((iz_eq (Int.le_trans (by decide) z98_a) (Int.le_trans z98_b (by decide))).mpr h)
                                    refine lv_bipush (v := iI 7) hx hb dX12_go_368 (by decide +kernel) ?_
                                    refine lv_goto (tgt := 374) hx hb dX12_go_370 (by decide) ?_
                                    refine lv_icmp_le (tgt := 381) hx hb dX12_go_374 (by decide) (fun c_158 => ?_) (fun c_158 => ?_)
                                    · replace c_158 := (iI_le (by omega) (by omega) (by decide) (by decide)).mp c_158
                                      refine lv_iload_n hx hb dX12_go_381 rfl (lv_at hl 1 rfl) ?_
                                      refine lv_if_eq (tgt := 389) hx hb dX12_go_382 (by decide) (fun c_159 => ?_) (fun c_159 => ?_)
                                      · replace c_159 := (iz_eq (Int.le_trans (by decide) z98_a) (Int.le_trans z98_b (by decide))).mp c_159
                                        exfalso; omega
                                      · replace c_159 : ¬ z98 = 0 := fun h => c_159 ((iz_eq (Int.le_trans (by decide) z98_a) (Int.le_trans z98_b (by decide))).mpr h)
                                        refine lv_iconst (v := iI 2) hx hb dX12_go_385 (by decide +kernel) ?_
                                        refine lv_goto (tgt := 390) hx hb dX12_go_386 (by decide) ?_
                                        refine r_put (ws' := [(a0, .inr (11, [.int r0, .ref a1, .int (iI x0), .int (iI x1), .int (iI x2), .int (iI z102), .int (iI z1), .int (iI 2), .int fr103, .int (iI x6), .int (iI x7), .int (iI x8), .long fy101, .int (iI x9), .ref a2, .ref a3, .ref a4, .ref a5, .ref a6, .ref a7, .ref a8, .ref a9, .ref a10, .ref a11, .int (iI x10), .ref a12, .ref a13, .ref a14, .ref a15, .int (iI x11), .int r2, .int r3, .ref a16, .int (iI x12), .int (iI x13), .ref a17, .ref a18, .int (iI x14), .ref a19, .int (iI x15), .int r4, .ref a20, .ref a21, .int (iI x16), .int r5, .ref a22, .int (iI x17), .int (iI x18), .int (iI x19), .int (iI x20)])), (a1, .inl (T 0, 940, .inl (cI f0)))]) M w 0 7 clX12 rfl (by decide) G1470 rfl rfl rfl rfl (Nat.le_of_ble_eq_true rfl) rfl dX12_go_390 (fun H locs w => ?_)
                                        exact ret (z102, z1, 2, fr103, x6, fy101) _ _ _ _ _ [0, 1] dX12_go_393 ⟨z102_a, z102_b, z1_a, z1_b, (show (0 : Int) ≤ 2 from by decide), (show (2 : Int) ≤ 4 from by decide), x6_a, x6_b, (show 0 ≤ (z102 - x3) from by omega), (show 0 ≤ (((z102 - x3) - 2) + 3) from by omega), (show gT (tkAt f0 x1 x2 x3) 2 z1 z102 fy101 fr103 x6 from (by rw [tk_run (lq1_s.trans (sk_e (by omega))) (by omega) (by omega) (Or.inr (lq_1 pq96 (by omega))) (lq2_r.trans (rn_e (ta_E pq106 pq129 (by omega) pq147 pq152 (by omega))))]; exact ⟨rfl, rfl, go_fin lq2_a lq2_g pq100 (lq2_r.trans (rn_e (ta_E pq106 pq129 (by omega) pq147 pq152 (by omega)))) (by omega) (Or.inr (lq_1 pq96 (by omega))) lq2_w (by omega)⟩))⟩ w (by decide) rfl
                                    · replace c_158 : 7 < (z102 - z1) := Int.not_le.mp (fun h => c_158 ((iI_le (by omega) (by omega) (by decide) (by decide)).mpr h))
                                      refine lv_iconst (v := iI 1) hx hb dX12_go_377 (by decide +kernel) ?_
                                      refine lv_goto (tgt := 390) hx hb dX12_go_378 (by decide) ?_
                                      refine r_put (ws' := [(a0, .inr (11, [.int r0, .ref a1, .int (iI x0), .int (iI x1), .int (iI x2), .int (iI z102), .int (iI z1), .int (iI 1), .int fr103, .int (iI x6), .int (iI x7), .int (iI x8), .long fy101, .int (iI x9), .ref a2, .ref a3, .ref a4, .ref a5, .ref a6, .ref a7, .ref a8, .ref a9, .ref a10, .ref a11, .int (iI x10), .ref a12, .ref a13, .ref a14, .ref a15, .int (iI x11), .int r2, .int r3, .ref a16, .int (iI x12), .int (iI x13), .ref a17, .ref a18, .int (iI x14), .ref a19, .int (iI x15), .int r4, .ref a20, .ref a21, .int (iI x16), .int r5, .ref a22, .int (iI x17), .int (iI x18), .int (iI x19), .int (iI x20)])), (a1, .inl (T 0, 940, .inl (cI f0)))]) M w 0 7 clX12 rfl (by decide) G1470 rfl rfl rfl rfl (Nat.le_of_ble_eq_true rfl) rfl dX12_go_390 (fun H locs w => ?_)
                                      exact ret (z102, z1, 1, fr103, x6, fy101) _ _ _ _ _ [0, 1] dX12_go_393 ⟨z102_a, z102_b, z1_a, z1_b, (show (0 : Int) ≤ 1 from by decide), (show (1 : Int) ≤ 4 from by decide), x6_a, x6_b, (show 0 ≤ (z102 - x3) from by omega), (show 0 ≤ (((z102 - x3) - 1) + 3) from by omega), (show gT (tkAt f0 x1 x2 x3) 1 z1 z102 fy101 fr103 x6 from (by rw [tk_run (lq1_s.trans (sk_e (by omega))) (by omega) (by omega) (Or.inr (lq_1 pq96 (by omega))) (lq2_r.trans (rn_e (ta_E pq106 pq129 (by omega) pq147 pq152 (by omega))))]; exact ⟨rfl, rfl, go_fin lq2_a lq2_g pq100 (lq2_r.trans (rn_e (ta_E pq106 pq129 (by omega) pq147 pq152 (by omega)))) (by omega) (Or.inr (lq_1 pq96 (by omega))) lq2_w (by omega)⟩))⟩ w (by decide) rfl
                              · replace c_153 : ¬ z150 = 0 := fun h => c_153 ((iz_eq (Int.le_trans (by decide) z150_a) (Int.le_trans z150_b (by decide))).mpr h)
                                refine lv_aload_n hx hb dX12_go_243 rfl (lv_at hl 3 rfl) ?_
                                refine r_get (v := .ref a1) M w 0 1 clX12 rfl (by decide) G1464 rfl rfl dX12_go_244 ?_
                                refine lv_aload_n hx hb dX12_go_247 rfl (lv_at hl 3 rfl) ?_
                                refine r_get (v := .int (iI z102)) M w 0 5 clX12 rfl (by decide) G1468 rfl rfl dX12_go_248 ?_
                                refine r_iald (v := iI (f0 z102)) M w 1 rfl (iI_in (by omega) (by omega) (by decide)) (cI_at (by omega) (by omega)) dX12_go_251 ?_
                                have hh160 : 0 ≤ (f0 z102) ∧ (f0 z102) ≤ 255 := f0_h z102
                                refine lv_istore (lv' := [(4, .int (iI (f0 z102))), (3, .int (iI z104)), (2, .int (iI z98)), (1, .int (iI (f0 z1))), (0, .ref a0)]) hx hb dX12_go_252 hl (by decide) rfl (fun ls hl => ?_)
                                refine lv_iload_n hx hb dX12_go_254 rfl (lv_at hl 1 rfl) ?_
                                refine lv_if_eq (tgt := 271) hx hb dX12_go_255 (by decide) (fun c_161 => ?_) (fun c_161 => ?_)
                                · replace c_161 := (iz_eq (Int.le_trans (by decide) z104_a) (Int.le_trans z104_b (by decide))).mp c_161
                                  refine lv_iconst (v := iI 0) hx hb dX12_go_271 (by decide +kernel) ?_
                                  refine lv_istore_n (lv' := [(3, .int (iI 0)), (4, .int (iI (f0 z102))), (2, .int (iI z98)), (1, .int (iI (f0 z1))), (0, .ref a0)]) hx hb dX12_go_272 rfl hl (by decide) rfl (fun ls hl => ?_)
                                  refine lv_aload_n hx hb dX12_go_273 rfl (lv_at hl 4 rfl) ?_
                                  refine r_get (v := .int (iI z102)) M w 0 5 clX12 rfl (by decide) G1468 rfl rfl dX12_go_274 ?_
                                  refine lv_aload_n hx hb dX12_go_277 rfl (lv_at hl 4 rfl) ?_
                                  refine r_get (v := .int (iI z1)) M w 0 6 clX12 rfl (by decide) G1469 rfl rfl dX12_go_278 ?_
                                  refine r_isub (v := iI (z102 - z1)) M (iI_sub _ _) dX12_go_281 ?_
                                  refine lv_bipush (v := iI 7) hx hb dX12_go_282 (by decide +kernel) ?_
                                  refine lv_icmp_ge (tgt := 307) hx hb dX12_go_284 (by decide) (fun c_162 => ?_) (fun c_162 => ?_)
                                  · replace c_162 := (iI_le (by decide) (by decide) (by omega) (by omega)).mp c_162
                                    refine lv_aload_n hx hb dX12_go_307 rfl (lv_at hl 4 rfl) ?_
                                    refine r_get (v := .int (iI z102)) M w 0 5 clX12 rfl (by decide) G1468 rfl rfl dX12_go_308 ?_
                                    refine lv_aload_n hx hb dX12_go_311 rfl (lv_at hl 4 rfl) ?_
                                    refine r_get (v := .int (iI z1)) M w 0 6 clX12 rfl (by decide) G1469 rfl rfl dX12_go_312 ?_
                                    refine r_isub (v := iI (z102 - z1)) M (iI_sub _ _) dX12_go_315 ?_
                                    refine lv_iconst (v := iI 3) hx hb dX12_go_316 (by decide +kernel) ?_
                                    refine lv_icmp_ge (tgt := 337) hx hb dX12_go_317 (by decide) (fun c_163 => ?_) (fun c_163 => ?_)
                                    · replace c_163 := (iI_le (by decide) (by decide) (by omega) (by omega)).mp c_163
                                      refine lv_aload_n hx hb dX12_go_337 rfl (lv_at hl 4 rfl) ?_
                                      refine lv_dup hx hb dX12_go_338 rfl ?_
                                      refine r_get (v := .int (iI z102)) M w 0 5 clX12 rfl (by decide) G1468 rfl rfl dX12_go_339 ?_
                                      refine lv_iconst (v := iI 1) hx hb dX12_go_342 (by decide +kernel) ?_
                                      refine r_iadd (v := iI (z102 + 1)) M (iI_add _ _) dX12_go_343 ?_
                                      refine r_put (ws' := [(a0, .inr (11, [.int r0, .ref a1, .int (iI x0), .int (iI x1), .int (iI x2), .int (iI (z102 + 1)), .int (iI z1), .int (iI x5), .int fr103, .int (iI x6), .int (iI x7), .int (iI x8), .long fy101, .int (iI x9), .ref a2, .ref a3, .ref a4, .ref a5, .ref a6, .ref a7, .ref a8, .ref a9, .ref a10, .ref a11, .int (iI x10), .ref a12, .ref a13, .ref a14, .ref a15, .int (iI x11), .int r2, .int r3, .ref a16, .int (iI x12), .int (iI x13), .ref a17, .ref a18, .int (iI x14), .ref a19, .int (iI x15), .int r4, .ref a20, .ref a21, .int (iI x16), .int r5, .ref a22, .int (iI x17), .int (iI x18), .int (iI x19), .int (iI x20)])), (a1, .inl (T 0, 940, .inl (cI f0)))]) M w 0 5 clX12 rfl (by decide) G1468 rfl rfl rfl rfl (Nat.le_of_ble_eq_true rfl) rfl dX12_go_344 (fun H locs w => ?_)
                                      refine lv_goto (tgt := 215) hx hb dX12_go_347 (by decide) ?_
                                      exact ih2 fy101 (z102 + 1) fr103 0 _ _ _ (by omega) (by omega) (by decide) (by decide) (by omega) (by omega) (lq2_r.trans (rn_t (ta_D pq147 pq152 (by omega)).1 (Or.inr (ta_D pq147 pq152 (by omega)).2))) (aR_s lq2_a (Or.inr (ta_D pq147 pq152 (by omega)).2)) (gd_z lq2_g (by omega)) (wI_s lq2_w (by omega) (f0_h _) (by first | exact Or.inl ⟨by omega, rfl⟩ | exact Or.inr ⟨by omega, rfl⟩) (by first | exact Or.inl ⟨by omega, rfl⟩ | exact Or.inr ⟨by omega, rfl⟩)) (by omega) w (lv_sub hl [0, 2, 3, 4] rfl)
                                    · replace c_163 : (z102 - z1) < 3 := Int.not_le.mp (fun h => c_163 ((iI_le (by decide) (by decide) (by omega) (by omega)).mpr h))
                                      exfalso; omega
                                  · replace c_162 : (z102 - z1) < 7 := Int.not_le.mp (fun h => c_162 ((iI_le (by decide) (by decide) (by omega) (by omega)).mpr h))
                                    refine lv_aload_n hx hb dX12_go_287 rfl (lv_at hl 4 rfl) ?_
                                    refine lv_ldc2 (v := 27) hx hb M.1.2.2.2.1 (M.1.2.2.2.2 _ G1641) dX12_go_288 ?_
                                    refine lv_aload_n hx hb dX12_go_291 rfl (lv_at hl 4 rfl) ?_
                                    refine r_get (v := .long fy101) M w 0 12 clX12 rfl (by decide) G1475 rfl rfl dX12_go_292 ?_
                                    refine r_lmul (v := (27 * fy101)) M rfl dX12_go_295 ?_
                                    refine lv_iload hx hb dX12_go_296 (lv_at hl 1 rfl) ?_
                                    refine lv_i2l (v := (Int32.toInt64 (iI (f0 z102)))) hx hb dX12_go_298 rfl ?_
                                    refine r_ladd (v := ((27 * fy101) + (Int32.toInt64 (iI (f0 z102))))) M rfl dX12_go_299 ?_
                                    refine lv_ldc2 (v := 96) hx hb M.1.2.2.2.1 (M.1.2.2.2.2 _ G1642) dX12_go_300 ?_
                                    refine r_lsub (v := (((27 * fy101) + (Int32.toInt64 (iI (f0 z102)))) - 96)) M rfl dX12_go_303 ?_
                                    refine r_put (ws' := [(a0, .inr (11, [.int r0, .ref a1, .int (iI x0), .int (iI x1), .int (iI x2), .int (iI z102), .int (iI z1), .int (iI x5), .int fr103, .int (iI x6), .int (iI x7), .int (iI x8), .long (((27 * fy101) + (Int32.toInt64 (iI (f0 z102)))) - 96), .int (iI x9), .ref a2, .ref a3, .ref a4, .ref a5, .ref a6, .ref a7, .ref a8, .ref a9, .ref a10, .ref a11, .int (iI x10), .ref a12, .ref a13, .ref a14, .ref a15, .int (iI x11), .int r2, .int r3, .ref a16, .int (iI x12), .int (iI x13), .ref a17, .ref a18, .int (iI x14), .ref a19, .int (iI x15), .int r4, .ref a20, .ref a21, .int (iI x16), .int r5, .ref a22, .int (iI x17), .int (iI x18), .int (iI x19), .int (iI x20)])), (a1, .inl (T 0, 940, .inl (cI f0)))]) M w 0 12 clX12 rfl (by decide) G1475 rfl rfl rfl rfl (Nat.le_of_ble_eq_true rfl) rfl dX12_go_304 (fun H locs w => ?_)
                                    refine lv_aload_n hx hb dX12_go_307 rfl (lv_at hl 4 rfl) ?_
                                    refine r_get (v := .int (iI z102)) M w 0 5 clX12 rfl (by decide) G1468 rfl rfl dX12_go_308 ?_
                                    refine lv_aload_n hx hb dX12_go_311 rfl (lv_at hl 4 rfl) ?_
                                    refine r_get (v := .int (iI z1)) M w 0 6 clX12 rfl (by decide) G1469 rfl rfl dX12_go_312 ?_
                                    refine r_isub (v := iI (z102 - z1)) M (iI_sub _ _) dX12_go_315 ?_
                                    refine lv_iconst (v := iI 3) hx hb dX12_go_316 (by decide +kernel) ?_
                                    refine lv_icmp_ge (tgt := 337) hx hb dX12_go_317 (by decide) (fun c_164 => ?_) (fun c_164 => ?_)
                                    · replace c_164 := (iI_le (by decide) (by decide) (by omega) (by omega)).mp c_164
                                      refine lv_aload_n hx hb dX12_go_337 rfl (lv_at hl 4 rfl) ?_
                                      refine lv_dup hx hb dX12_go_338 rfl ?_
                                      refine r_get (v := .int (iI z102)) M w 0 5 clX12 rfl (by decide) G1468 rfl rfl dX12_go_339 ?_
                                      refine lv_iconst (v := iI 1) hx hb dX12_go_342 (by decide +kernel) ?_
                                      refine r_iadd (v := iI (z102 + 1)) M (iI_add _ _) dX12_go_343 ?_
                                      refine r_put (ws' := [(a0, .inr (11, [.int r0, .ref a1, .int (iI x0), .int (iI x1), .int (iI x2), .int (iI (z102 + 1)), .int (iI z1), .int (iI x5), .int fr103, .int (iI x6), .int (iI x7), .int (iI x8), .long (((27 * fy101) + (Int32.toInt64 (iI (f0 z102)))) - 96), .int (iI x9), .ref a2, .ref a3, .ref a4, .ref a5, .ref a6, .ref a7, .ref a8, .ref a9, .ref a10, .ref a11, .int (iI x10), .ref a12, .ref a13, .ref a14, .ref a15, .int (iI x11), .int r2, .int r3, .ref a16, .int (iI x12), .int (iI x13), .ref a17, .ref a18, .int (iI x14), .ref a19, .int (iI x15), .int r4, .ref a20, .ref a21, .int (iI x16), .int r5, .ref a22, .int (iI x17), .int (iI x18), .int (iI x19), .int (iI x20)])), (a1, .inl (T 0, 940, .inl (cI f0)))]) M w 0 5 clX12 rfl (by decide) G1468 rfl rfl rfl rfl (Nat.le_of_ble_eq_true rfl) rfl dX12_go_344 (fun H locs w => ?_)
                                      refine lv_goto (tgt := 215) hx hb dX12_go_347 (by decide) ?_
                                      exact ih2 (((27 * fy101) + (Int32.toInt64 (iI (f0 z102)))) - 96) (z102 + 1) fr103 0 _ _ _ (by omega) (by omega) (by decide) (by decide) (by omega) (by omega) (lq2_r.trans (rn_t (ta_D pq147 pq152 (by omega)).1 (Or.inr (ta_D pq147 pq152 (by omega)).2))) (aR_s lq2_a (Or.inr (ta_D pq147 pq152 (by omega)).2)) (gd_z lq2_g (by omega)) (wI_s lq2_w (by omega) (f0_h _) (by first | exact Or.inl ⟨by omega, rfl⟩ | exact Or.inr ⟨by omega, rfl⟩) (by first | exact Or.inl ⟨by omega, rfl⟩ | exact Or.inr ⟨by omega, rfl⟩)) (by omega) w (lv_sub hl [0, 2, 3, 4] rfl)
                                    · replace c_164 : (z102 - z1) < 3 := Int.not_le.mp (fun h => c_164 ((iI_le (by decide) (by decide) (by omega) (by omega)).mpr h))
                                      refine lv_aload_n hx hb dX12_go_320 rfl (lv_at hl 4 rfl) ?_
                                      refine lv_bipush (v := iI 10) hx hb dX12_go_321 (by decide +kernel) ?_
                                      refine lv_aload_n hx hb dX12_go_323 rfl (lv_at hl 4 rfl) ?_
                                      refine r_get (v := .int fr103) M w 0 8 clX12 rfl (by decide) G1471 rfl rfl dX12_go_324 ?_
                                      refine r_imul (v := ((iI 10) * fr103)) M rfl dX12_go_327 ?_
                                      refine lv_iload hx hb dX12_go_328 (lv_at hl 1 rfl) ?_
                                      refine r_iadd (v := (((iI 10) * fr103) + (iI (f0 z102)))) M rfl dX12_go_330 ?_
                                      refine lv_bipush (v := iI 48) hx hb dX12_go_331 (by decide +kernel) ?_
                                      refine r_isub (v := ((((iI 10) * fr103) + (iI (f0 z102))) - (iI 48))) M rfl dX12_go_333 ?_
                                      refine r_put (ws' := [(a0, .inr (11, [.int r0, .ref a1, .int (iI x0), .int (iI x1), .int (iI x2), .int (iI z102), .int (iI z1), .int (iI x5), .int ((((iI 10) * fr103) + (iI (f0 z102))) - (iI 48)), .int (iI x6), .int (iI x7), .int (iI x8), .long (((27 * fy101) + (Int32.toInt64 (iI (f0 z102)))) - 96), .int (iI x9), .ref a2, .ref a3, .ref a4, .ref a5, .ref a6, .ref a7, .ref a8, .ref a9, .ref a10, .ref a11, .int (iI x10), .ref a12, .ref a13, .ref a14, .ref a15, .int (iI x11), .int r2, .int r3, .ref a16, .int (iI x12), .int (iI x13), .ref a17, .ref a18, .int (iI x14), .ref a19, .int (iI x15), .int r4, .ref a20, .ref a21, .int (iI x16), .int r5, .ref a22, .int (iI x17), .int (iI x18), .int (iI x19), .int (iI x20)])), (a1, .inl (T 0, 940, .inl (cI f0)))]) M w 0 8 clX12 rfl (by decide) G1471 rfl rfl rfl rfl (Nat.le_of_ble_eq_true rfl) rfl dX12_go_334 (fun H locs w => ?_)
                                      refine lv_aload_n hx hb dX12_go_337 rfl (lv_at hl 4 rfl) ?_
                                      refine lv_dup hx hb dX12_go_338 rfl ?_
                                      refine r_get (v := .int (iI z102)) M w 0 5 clX12 rfl (by decide) G1468 rfl rfl dX12_go_339 ?_
                                      refine lv_iconst (v := iI 1) hx hb dX12_go_342 (by decide +kernel) ?_
                                      refine r_iadd (v := iI (z102 + 1)) M (iI_add _ _) dX12_go_343 ?_
                                      refine r_put (ws' := [(a0, .inr (11, [.int r0, .ref a1, .int (iI x0), .int (iI x1), .int (iI x2), .int (iI (z102 + 1)), .int (iI z1), .int (iI x5), .int ((((iI 10) * fr103) + (iI (f0 z102))) - (iI 48)), .int (iI x6), .int (iI x7), .int (iI x8), .long (((27 * fy101) + (Int32.toInt64 (iI (f0 z102)))) - 96), .int (iI x9), .ref a2, .ref a3, .ref a4, .ref a5, .ref a6, .ref a7, .ref a8, .ref a9, .ref a10, .ref a11, .int (iI x10), .ref a12, .ref a13, .ref a14, .ref a15, .int (iI x11), .int r2, .int r3, .ref a16, .int (iI x12), .int (iI x13), .ref a17, .ref a18, .int (iI x14), .ref a19, .int (iI x15), .int r4, .ref a20, .ref a21, .int (iI x16), .int r5, .ref a22, .int (iI x17), .int (iI x18), .int (iI x19), .int (iI x20)])), (a1, .inl (T 0, 940, .inl (cI f0)))]) M w 0 5 clX12 rfl (by decide) G1468 rfl rfl rfl rfl (Nat.le_of_ble_eq_true rfl) rfl dX12_go_344 (fun H locs w => ?_)
                                      refine lv_goto (tgt := 215) hx hb dX12_go_347 (by decide) ?_
                                      exact ih2 (((27 * fy101) + (Int32.toInt64 (iI (f0 z102)))) - 96) (z102 + 1) ((((iI 10) * fr103) + (iI (f0 z102))) - (iI 48)) 0 _ _ _ (by omega) (by omega) (by decide) (by decide) (by omega) (by omega) (lq2_r.trans (rn_t (ta_D pq147 pq152 (by omega)).1 (Or.inr (ta_D pq147 pq152 (by omega)).2))) (aR_s lq2_a (Or.inr (ta_D pq147 pq152 (by omega)).2)) (gd_z lq2_g (by omega)) (wI_s lq2_w (by omega) (f0_h _) (by first | exact Or.inl ⟨by omega, rfl⟩ | exact Or.inr ⟨by omega, rfl⟩) (by first | exact Or.inl ⟨by omega, rfl⟩ | exact Or.inr ⟨by omega, rfl⟩)) (by omega) w (lv_sub hl [0, 2, 3, 4] rfl)
                                · replace c_161 : ¬ z104 = 0 := fun h => c_161 ((iz_eq (Int.le_trans (by decide) z104_a) (Int.le_trans z104_b (by decide))).mpr h)
                                  refine lv_iload hx hb dX12_go_258 (lv_at hl 0 rfl) ?_
                                  refine k_I (ce := 0) (sl := 0) (rest := []) (wr := [(a0, .inr (11, [.int r0, .ref a1, .int (iI x0), .int (iI x1), .int (iI x2), .int (iI z102), .int (iI z1), .int (iI x5), .int fr103, .int (iI x6), .int (iI x7), .int (iI x8), .long fy101, .int (iI x9), .ref a2, .ref a3, .ref a4, .ref a5, .ref a6, .ref a7, .ref a8, .ref a9, .ref a10, .ref a11, .int (iI x10), .ref a12, .ref a13, .ref a14, .ref a15, .int (iI x11), .int r2, .int r3, .ref a16, .int (iI x12), .int (iI x13), .ref a17, .ref a18, .int (iI x14), .ref a19, .int (iI x15), .int r4, .ref a20, .ref a21, .int (iI x16), .int r5, .ref a22, .int (iI x17), .int (iI x18), .int (iI x19), .int (iI x20)])), (a1, .inl (T 0, 940, .inl (cI f0)))]) (r_S (f := 0) [] M w V_HookedCityModel_33 G1632 (c11_X12_isLetter l D T _ (f0 z102) (by omega) (by omega)) rfl (by decide) rfl hl.1 rfl (Nat.le_of_ble_eq_true rfl) dX12_go_260 (by decide) (by decide) (by decide) (by decide)) w [] [0, 1] rfl rfl (by decide) (by decide) rfl rfl (fun v z165 H locs hp w => ?_)
                                  have hv : iI z165 = v := hp.1
                                  subst hv
                                  have z165_a : 0 ≤ z165 := hp.2.1
                                  have z165_b : z165 ≤ 1 := hp.2.2.1
                                  have ee166 : 0 ≤ (((f0 z102) + 4294967296) - (z165 * 4294967393)) := hp.2.2.2.1
                                  have pq167 : lq z165 (f0 z102) 97 122 := hp.2.2.2.2
                                  have w : WD D A s.heap [(a0, .inr (11, [.int r0, .ref a1, .int (iI x0), .int (iI x1), .int (iI x2), .int (iI z102), .int (iI z1), .int (iI x5), .int fr103, .int (iI x6), .int (iI x7), .int (iI x8), .long fy101, .int (iI x9), .ref a2, .ref a3, .ref a4, .ref a5, .ref a6, .ref a7, .ref a8, .ref a9, .ref a10, .ref a11, .int (iI x10), .ref a12, .ref a13, .ref a14, .ref a15, .int (iI x11), .int r2, .int r3, .ref a16, .int (iI x12), .int (iI x13), .ref a17, .ref a18, .int (iI x14), .ref a19, .int (iI x15), .int r4, .ref a20, .ref a21, .int (iI x16), .int r5, .ref a22, .int (iI x17), .int (iI x18), .int (iI x19), .int (iI x20)])), (a1, .inl (T 0, 940, .inl (cI f0)))] H locs := w
                                  refine lv_iload_n hx hb dX12_go_263 rfl (lv_at hl 2 rfl) ?_
                                  refine lv_icmp_ne (tgt := 271) hx hb dX12_go_264 (by decide) (fun c_168 => ?_) (fun c_168 => ?_)
                                  · replace c_168 : ¬ z165 = z98 := fun h => c_168 ((iI_eq (Int.le_trans (by decide) z165_a) (Int.le_trans z165_b (by decide)) (Int.le_trans (by decide) z98_a) (Int.le_trans z98_b (by decide))).mpr h)
                                    refine lv_iconst (v := iI 0) hx hb dX12_go_271 (by decide +kernel) ?_
                                    refine lv_istore_n (lv' := [(3, .int (iI 0)), (4, .int (iI (f0 z102))), (2, .int (iI z98)), (1, .int (iI (f0 z1))), (0, .ref a0)]) hx hb dX12_go_272 rfl hl (by decide) rfl (fun ls hl => ?_)
                                    refine lv_aload_n hx hb dX12_go_273 rfl (lv_at hl 4 rfl) ?_
                                    refine r_get (v := .int (iI z102)) M w 0 5 clX12 rfl (by decide) G1468 rfl rfl dX12_go_274 ?_
                                    refine lv_aload_n hx hb dX12_go_277 rfl (lv_at hl 4 rfl) ?_
                                    refine r_get (v := .int (iI z1)) M w 0 6 clX12 rfl (by decide) G1469 rfl rfl dX12_go_278 ?_
                                    refine r_isub (v := iI (z102 - z1)) M (iI_sub _ _) dX12_go_281 ?_
                                    refine lv_bipush (v := iI 7) hx hb dX12_go_282 (by decide +kernel) ?_
                                    refine lv_icmp_ge (tgt := 307) hx hb dX12_go_284 (by decide) (fun c_169 => ?_) (fun c_169 => ?_)
                                    · replace c_169 := (iI_le (by decide) (by decide) (by omega) (by omega)).mp c_169
                                      refine lv_aload_n hx hb dX12_go_307 rfl (lv_at hl 4 rfl) ?_
                                      refine r_get (v := .int (iI z102)) M w 0 5 clX12 rfl (by decide) G1468 rfl rfl dX12_go_308 ?_
                                      refine lv_aload_n hx hb dX12_go_311 rfl (lv_at hl 4 rfl) ?_
                                      refine r_get (v := .int (iI z1)) M w 0 6 clX12 rfl (by decide) G1469 rfl rfl dX12_go_312 ?_
                                      refine r_isub (v := iI (z102 - z1)) M (iI_sub _ _) dX12_go_315 ?_
                                      refine lv_iconst (v := iI 3) hx hb dX12_go_316 (by decide +kernel) ?_
                                      refine lv_icmp_ge (tgt := 337) hx hb dX12_go_317 (by decide) (fun c_170 => ?_) (fun c_170 => ?_)
                                      · replace c_170 := (iI_le (by decide) (by decide) (by omega) (by omega)).mp c_170
                                        refine lv_aload_n hx hb dX12_go_337 rfl (lv_at hl 4 rfl) ?_
                                        refine lv_dup hx hb dX12_go_338 rfl ?_
                                        refine r_get (v := .int (iI z102)) M w 0 5 clX12 rfl (by decide) G1468 rfl rfl dX12_go_339 ?_
                                        refine lv_iconst (v := iI 1) hx hb dX12_go_342 (by decide +kernel) ?_
                                        refine r_iadd (v := iI (z102 + 1)) M (iI_add _ _) dX12_go_343 ?_
                                        refine r_put (ws' := [(a0, .inr (11, [.int r0, .ref a1, .int (iI x0), .int (iI x1), .int (iI x2), .int (iI (z102 + 1)), .int (iI z1), .int (iI x5), .int fr103, .int (iI x6), .int (iI x7), .int (iI x8), .long fy101, .int (iI x9), .ref a2, .ref a3, .ref a4, .ref a5, .ref a6, .ref a7, .ref a8, .ref a9, .ref a10, .ref a11, .int (iI x10), .ref a12, .ref a13, .ref a14, .ref a15, .int (iI x11), .int r2, .int r3, .ref a16, .int (iI x12), .int (iI x13), .ref a17, .ref a18, .int (iI x14), .ref a19, .int (iI x15), .int r4, .ref a20, .ref a21, .int (iI x16), .int r5, .ref a22, .int (iI x17), .int (iI x18), .int (iI x19), .int (iI x20)])), (a1, .inl (T 0, 940, .inl (cI f0)))]) M w 0 5 clX12 rfl (by decide) G1468 rfl rfl rfl rfl (Nat.le_of_ble_eq_true rfl) rfl dX12_go_344 (fun H locs w => ?_)
                                        refine lv_goto (tgt := 215) hx hb dX12_go_347 (by decide) ?_
                                        exact ih2 fy101 (z102 + 1) fr103 0 _ _ _ (by omega) (by omega) (by decide) (by decide) (by omega) (by omega) (lq2_r.trans (rn_t (ta_D pq147 pq152 (by omega)).1 (Or.inr (ta_D pq147 pq152 (by omega)).2))) (aR_s lq2_a (Or.inr (ta_D pq147 pq152 (by omega)).2)) (gd_q lq2_g (by omega) pq167 (by omega) (by omega) (by omega) (by omega) (by omega) (by omega)) (wI_s lq2_w (by omega) (f0_h _) (by first | exact Or.inl ⟨by omega, rfl⟩ | exact Or.inr ⟨by omega, rfl⟩) (by first | exact Or.inl ⟨by omega, rfl⟩ | exact Or.inr ⟨by omega, rfl⟩)) (by omega) w (lv_sub hl [0, 2, 3, 4] rfl)
                                      · replace c_170 : (z102 - z1) < 3 := Int.not_le.mp (fun h => c_170 ((iI_le (by decide) (by decide) (by omega) (by omega)).mpr h))
                                        exfalso; omega
                                    · replace c_169 : (z102 - z1) < 7 := Int.not_le.mp (fun h => c_169 ((iI_le (by decide) (by decide) (by omega) (by omega)).mpr h))
                                      refine lv_aload_n hx hb dX12_go_287 rfl (lv_at hl 4 rfl) ?_
                                      refine lv_ldc2 (v := 27) hx hb M.1.2.2.2.1 (M.1.2.2.2.2 _ G1641) dX12_go_288 ?_
                                      refine lv_aload_n hx hb dX12_go_291 rfl (lv_at hl 4 rfl) ?_
                                      refine r_get (v := .long fy101) M w 0 12 clX12 rfl (by decide) G1475 rfl rfl dX12_go_292 ?_
                                      refine r_lmul (v := (27 * fy101)) M rfl dX12_go_295 ?_
                                      refine lv_iload hx hb dX12_go_296 (lv_at hl 1 rfl) ?_
                                      refine lv_i2l (v := (Int32.toInt64 (iI (f0 z102)))) hx hb dX12_go_298 rfl ?_
                                      refine r_ladd (v := ((27 * fy101) + (Int32.toInt64 (iI (f0 z102))))) M rfl dX12_go_299 ?_
                                      refine lv_ldc2 (v := 96) hx hb M.1.2.2.2.1 (M.1.2.2.2.2 _ G1642) dX12_go_300 ?_
                                      refine r_lsub (v := (((27 * fy101) + (Int32.toInt64 (iI (f0 z102)))) - 96)) M rfl dX12_go_303 ?_
                                      refine r_put (ws' := [(a0, .inr (11, [.int r0, .ref a1, .int (iI x0), .int (iI x1), .int (iI x2), .int (iI z102), .int (iI z1), .int (iI x5), .int fr103, .int (iI x6), .int (iI x7), .int (iI x8), .long (((27 * fy101) + (Int32.toInt64 (iI (f0 z102)))) - 96), .int (iI x9), .ref a2, .ref a3, .ref a4, .ref a5, .ref a6, .ref a7, .ref a8, .ref a9, .ref a10, .ref a11, .int (iI x10), .ref a12, .ref a13, .ref a14, .ref a15, .int (iI x11), .int r2, .int r3, .ref a16, .int (iI x12), .int (iI x13), .ref a17, .ref a18, .int (iI x14), .ref a19, .int (iI x15), .int r4, .ref a20, .ref a21, .int (iI x16), .int r5, .ref a22, .int (iI x17), .int (iI x18), .int (iI x19), .int (iI x20)])), (a1, .inl (T 0, 940, .inl (cI f0)))]) M w 0 12 clX12 rfl (by decide) G1475 rfl rfl rfl rfl (Nat.le_of_ble_eq_true rfl) rfl dX12_go_304 (fun H locs w => ?_)
                                      refine lv_aload_n hx hb dX12_go_307 rfl (lv_at hl 4 rfl) ?_
                                      refine r_get (v := .int (iI z102)) M w 0 5 clX12 rfl (by decide) G1468 rfl rfl dX12_go_308 ?_
                                      refine lv_aload_n hx hb dX12_go_311 rfl (lv_at hl 4 rfl) ?_
                                      refine r_get (v := .int (iI z1)) M w 0 6 clX12 rfl (by decide) G1469 rfl rfl dX12_go_312 ?_
                                      refine r_isub (v := iI (z102 - z1)) M (iI_sub _ _) dX12_go_315 ?_
                                      refine lv_iconst (v := iI 3) hx hb dX12_go_316 (by decide +kernel) ?_
                                      refine lv_icmp_ge (tgt := 337) hx hb dX12_go_317 (by decide) (fun c_171 => ?_) (fun c_171 => ?_)
                                      · replace c_171 := (iI_le (by decide) (by decide) (by omega) (by omega)).mp c_171
                                        refine lv_aload_n hx hb dX12_go_337 rfl (lv_at hl 4 rfl) ?_
                                        refine lv_dup hx hb dX12_go_338 rfl ?_
                                        refine r_get (v := .int (iI z102)) M w 0 5 clX12 rfl (by decide) G1468 rfl rfl dX12_go_339 ?_
                                        refine lv_iconst (v := iI 1) hx hb dX12_go_342 (by decide +kernel) ?_
                                        refine r_iadd (v := iI (z102 + 1)) M (iI_add _ _) dX12_go_343 ?_
                                        refine r_put (ws' := [(a0, .inr (11, [.int r0, .ref a1, .int (iI x0), .int (iI x1), .int (iI x2), .int (iI (z102 + 1)), .int (iI z1), .int (iI x5), .int fr103, .int (iI x6), .int (iI x7), .int (iI x8), .long (((27 * fy101) + (Int32.toInt64 (iI (f0 z102)))) - 96), .int (iI x9), .ref a2, .ref a3, .ref a4, .ref a5, .ref a6, .ref a7, .ref a8, .ref a9, .ref a10, .ref a11, .int (iI x10), .ref a12, .ref a13, .ref a14, .ref a15, .int (iI x11), .int r2, .int r3, .ref a16, .int (iI x12), .int (iI x13), .ref a17, .ref a18, .int (iI x14), .ref a19, .int (iI x15), .int r4, .ref a20, .ref a21, .int (iI x16), .int r5, .ref a22, .int (iI x17), .int (iI x18), .int (iI x19), .int (iI x20)])), (a1, .inl (T 0, 940, .inl (cI f0)))]) M w 0 5 clX12 rfl (by decide) G1468 rfl rfl rfl rfl (Nat.le_of_ble_eq_true rfl) rfl dX12_go_344 (fun H locs w => ?_)
                                        refine lv_goto (tgt := 215) hx hb dX12_go_347 (by decide) ?_
                                        exact ih2 (((27 * fy101) + (Int32.toInt64 (iI (f0 z102)))) - 96) (z102 + 1) fr103 0 _ _ _ (by omega) (by omega) (by decide) (by decide) (by omega) (by omega) (lq2_r.trans (rn_t (ta_D pq147 pq152 (by omega)).1 (Or.inr (ta_D pq147 pq152 (by omega)).2))) (aR_s lq2_a (Or.inr (ta_D pq147 pq152 (by omega)).2)) (gd_q lq2_g (by omega) pq167 (by omega) (by omega) (by omega) (by omega) (by omega) (by omega)) (wI_s lq2_w (by omega) (f0_h _) (by first | exact Or.inl ⟨by omega, rfl⟩ | exact Or.inr ⟨by omega, rfl⟩) (by first | exact Or.inl ⟨by omega, rfl⟩ | exact Or.inr ⟨by omega, rfl⟩)) (by omega) w (lv_sub hl [0, 2, 3, 4] rfl)
                                      · replace c_171 : (z102 - z1) < 3 := Int.not_le.mp (fun h => c_171 ((iI_le (by decide) (by decide) (by omega) (by omega)).mpr h))
                                        refine lv_aload_n hx hb dX12_go_320 rfl (lv_at hl 4 rfl) ?_
                                        refine lv_bipush (v := iI 10) hx hb dX12_go_321 (by decide +kernel) ?_
                                        refine lv_aload_n hx hb dX12_go_323 rfl (lv_at hl 4 rfl) ?_
                                        refine r_get (v := .int fr103) M w 0 8 clX12 rfl (by decide) G1471 rfl rfl dX12_go_324 ?_
                                        refine r_imul (v := ((iI 10) * fr103)) M rfl dX12_go_327 ?_
                                        refine lv_iload hx hb dX12_go_328 (lv_at hl 1 rfl) ?_
                                        refine r_iadd (v := (((iI 10) * fr103) + (iI (f0 z102)))) M rfl dX12_go_330 ?_
                                        refine lv_bipush (v := iI 48) hx hb dX12_go_331 (by decide +kernel) ?_
                                        refine r_isub (v := ((((iI 10) * fr103) + (iI (f0 z102))) - (iI 48))) M rfl dX12_go_333 ?_
                                        refine r_put (ws' := [(a0, .inr (11, [.int r0, .ref a1, .int (iI x0), .int (iI x1), .int (iI x2), .int (iI z102), .int (iI z1), .int (iI x5), .int ((((iI 10) * fr103) + (iI (f0 z102))) - (iI 48)), .int (iI x6), .int (iI x7), .int (iI x8), .long (((27 * fy101) + (Int32.toInt64 (iI (f0 z102)))) - 96), .int (iI x9), .ref a2, .ref a3, .ref a4, .ref a5, .ref a6, .ref a7, .ref a8, .ref a9, .ref a10, .ref a11, .int (iI x10), .ref a12, .ref a13, .ref a14, .ref a15, .int (iI x11), .int r2, .int r3, .ref a16, .int (iI x12), .int (iI x13), .ref a17, .ref a18, .int (iI x14), .ref a19, .int (iI x15), .int r4, .ref a20, .ref a21, .int (iI x16), .int r5, .ref a22, .int (iI x17), .int (iI x18), .int (iI x19), .int (iI x20)])), (a1, .inl (T 0, 940, .inl (cI f0)))]) M w 0 8 clX12 rfl (by decide) G1471 rfl rfl rfl rfl (Nat.le_of_ble_eq_true rfl) rfl dX12_go_334 (fun H locs w => ?_)
                                        refine lv_aload_n hx hb dX12_go_337 rfl (lv_at hl 4 rfl) ?_
                                        refine lv_dup hx hb dX12_go_338 rfl ?_
                                        refine r_get (v := .int (iI z102)) M w 0 5 clX12 rfl (by decide) G1468 rfl rfl dX12_go_339 ?_
                                        refine lv_iconst (v := iI 1) hx hb dX12_go_342 (by decide +kernel) ?_
                                        refine r_iadd (v := iI (z102 + 1)) M (iI_add _ _) dX12_go_343 ?_
                                        refine r_put (ws' := [(a0, .inr (11, [.int r0, .ref a1, .int (iI x0), .int (iI x1), .int (iI x2), .int (iI (z102 + 1)), .int (iI z1), .int (iI x5), .int ((((iI 10) * fr103) + (iI (f0 z102))) - (iI 48)), .int (iI x6), .int (iI x7), .int (iI x8), .long (((27 * fy101) + (Int32.toInt64 (iI (f0 z102)))) - 96), .int (iI x9), .ref a2, .ref a3, .ref a4, .ref a5, .ref a6, .ref a7, .ref a8, .ref a9, .ref a10, .ref a11, .int (iI x10), .ref a12, .ref a13, .ref a14, .ref a15, .int (iI x11), .int r2, .int r3, .ref a16, .int (iI x12), .int (iI x13), .ref a17, .ref a18, .int (iI x14), .ref a19, .int (iI x15), .int r4, .ref a20, .ref a21, .int (iI x16), .int r5, .ref a22, .int (iI x17), .int (iI x18), .int (iI x19), .int (iI x20)])), (a1, .inl (T 0, 940, .inl (cI f0)))]) M w 0 5 clX12 rfl (by decide) G1468 rfl rfl rfl rfl (Nat.le_of_ble_eq_true rfl) rfl dX12_go_344 (fun H locs w => ?_)
                                        refine lv_goto (tgt := 215) hx hb dX12_go_347 (by decide) ?_
                                        exact ih2 (((27 * fy101) + (Int32.toInt64 (iI (f0 z102)))) - 96) (z102 + 1) ((((iI 10) * fr103) + (iI (f0 z102))) - (iI 48)) 0 _ _ _ (by omega) (by omega) (by decide) (by decide) (by omega) (by omega) (lq2_r.trans (rn_t (ta_D pq147 pq152 (by omega)).1 (Or.inr (ta_D pq147 pq152 (by omega)).2))) (aR_s lq2_a (Or.inr (ta_D pq147 pq152 (by omega)).2)) (gd_q lq2_g (by omega) pq167 (by omega) (by omega) (by omega) (by omega) (by omega) (by omega)) (wI_s lq2_w (by omega) (f0_h _) (by first | exact Or.inl ⟨by omega, rfl⟩ | exact Or.inr ⟨by omega, rfl⟩) (by first | exact Or.inl ⟨by omega, rfl⟩ | exact Or.inr ⟨by omega, rfl⟩)) (by omega) w (lv_sub hl [0, 2, 3, 4] rfl)
                                  · replace c_168 := (iI_eq (Int.le_trans (by decide) z165_a) (Int.le_trans z165_b (by decide)) (Int.le_trans (by decide) z98_a) (Int.le_trans z98_b (by decide))).mp c_168
                                    refine lv_iconst (v := iI 1) hx hb dX12_go_267 (by decide +kernel) ?_
                                    refine lv_goto (tgt := 272) hx hb dX12_go_268 (by decide) ?_
                                    refine lv_istore_n (lv' := [(3, .int (iI 1)), (4, .int (iI (f0 z102))), (2, .int (iI z98)), (1, .int (iI (f0 z1))), (0, .ref a0)]) hx hb dX12_go_272 rfl hl (by decide) rfl (fun ls hl => ?_)
                                    refine lv_aload_n hx hb dX12_go_273 rfl (lv_at hl 4 rfl) ?_
                                    refine r_get (v := .int (iI z102)) M w 0 5 clX12 rfl (by decide) G1468 rfl rfl dX12_go_274 ?_
                                    refine lv_aload_n hx hb dX12_go_277 rfl (lv_at hl 4 rfl) ?_
                                    refine r_get (v := .int (iI z1)) M w 0 6 clX12 rfl (by decide) G1469 rfl rfl dX12_go_278 ?_
                                    refine r_isub (v := iI (z102 - z1)) M (iI_sub _ _) dX12_go_281 ?_
                                    refine lv_bipush (v := iI 7) hx hb dX12_go_282 (by decide +kernel) ?_
                                    refine lv_icmp_ge (tgt := 307) hx hb dX12_go_284 (by decide) (fun c_172 => ?_) (fun c_172 => ?_)
                                    · replace c_172 := (iI_le (by decide) (by decide) (by omega) (by omega)).mp c_172
                                      refine lv_aload_n hx hb dX12_go_307 rfl (lv_at hl 4 rfl) ?_
                                      refine r_get (v := .int (iI z102)) M w 0 5 clX12 rfl (by decide) G1468 rfl rfl dX12_go_308 ?_
                                      refine lv_aload_n hx hb dX12_go_311 rfl (lv_at hl 4 rfl) ?_
                                      refine r_get (v := .int (iI z1)) M w 0 6 clX12 rfl (by decide) G1469 rfl rfl dX12_go_312 ?_
                                      refine r_isub (v := iI (z102 - z1)) M (iI_sub _ _) dX12_go_315 ?_
                                      refine lv_iconst (v := iI 3) hx hb dX12_go_316 (by decide +kernel) ?_
                                      refine lv_icmp_ge (tgt := 337) hx hb dX12_go_317 (by decide) (fun c_173 => ?_) (fun c_173 => ?_)
                                      · replace c_173 := (iI_le (by decide) (by decide) (by omega) (by omega)).mp c_173
                                        refine lv_aload_n hx hb dX12_go_337 rfl (lv_at hl 4 rfl) ?_
                                        refine lv_dup hx hb dX12_go_338 rfl ?_
                                        refine r_get (v := .int (iI z102)) M w 0 5 clX12 rfl (by decide) G1468 rfl rfl dX12_go_339 ?_
                                        refine lv_iconst (v := iI 1) hx hb dX12_go_342 (by decide +kernel) ?_
                                        refine r_iadd (v := iI (z102 + 1)) M (iI_add _ _) dX12_go_343 ?_
                                        refine r_put (ws' := [(a0, .inr (11, [.int r0, .ref a1, .int (iI x0), .int (iI x1), .int (iI x2), .int (iI (z102 + 1)), .int (iI z1), .int (iI x5), .int fr103, .int (iI x6), .int (iI x7), .int (iI x8), .long fy101, .int (iI x9), .ref a2, .ref a3, .ref a4, .ref a5, .ref a6, .ref a7, .ref a8, .ref a9, .ref a10, .ref a11, .int (iI x10), .ref a12, .ref a13, .ref a14, .ref a15, .int (iI x11), .int r2, .int r3, .ref a16, .int (iI x12), .int (iI x13), .ref a17, .ref a18, .int (iI x14), .ref a19, .int (iI x15), .int r4, .ref a20, .ref a21, .int (iI x16), .int r5, .ref a22, .int (iI x17), .int (iI x18), .int (iI x19), .int (iI x20)])), (a1, .inl (T 0, 940, .inl (cI f0)))]) M w 0 5 clX12 rfl (by decide) G1468 rfl rfl rfl rfl (Nat.le_of_ble_eq_true rfl) rfl dX12_go_344 (fun H locs w => ?_)
                                        refine lv_goto (tgt := 215) hx hb dX12_go_347 (by decide) ?_
                                        exact ih2 fy101 (z102 + 1) fr103 1 _ _ _ (by omega) (by omega) (by decide) (by decide) (by omega) (by omega) (lq2_r.trans (rn_t (ta_D pq147 pq152 (by omega)).1 (Or.inr (ta_D pq147 pq152 (by omega)).2))) (aR_s lq2_a (Or.inr (ta_D pq147 pq152 (by omega)).2)) (gd_q lq2_g (by omega) pq167 (by omega) (by omega) (by omega) (by omega) (by omega) (by omega)) (wI_s lq2_w (by omega) (f0_h _) (by first | exact Or.inl ⟨by omega, rfl⟩ | exact Or.inr ⟨by omega, rfl⟩) (by first | exact Or.inl ⟨by omega, rfl⟩ | exact Or.inr ⟨by omega, rfl⟩)) (by omega) w (lv_sub hl [0, 2, 3, 4] rfl)
                                      · replace c_173 : (z102 - z1) < 3 := Int.not_le.mp (fun h => c_173 ((iI_le (by decide) (by decide) (by omega) (by omega)).mpr h))
                                        exfalso; omega
                                    · replace c_172 : (z102 - z1) < 7 := Int.not_le.mp (fun h => c_172 ((iI_le (by decide) (by decide) (by omega) (by omega)).mpr h))
                                      refine lv_aload_n hx hb dX12_go_287 rfl (lv_at hl 4 rfl) ?_
                                      refine lv_ldc2 (v := 27) hx hb M.1.2.2.2.1 (M.1.2.2.2.2 _ G1641) dX12_go_288 ?_
                                      refine lv_aload_n hx hb dX12_go_291 rfl (lv_at hl 4 rfl) ?_
                                      refine r_get (v := .long fy101) M w 0 12 clX12 rfl (by decide) G1475 rfl rfl dX12_go_292 ?_
                                      refine r_lmul (v := (27 * fy101)) M rfl dX12_go_295 ?_
                                      refine lv_iload hx hb dX12_go_296 (lv_at hl 1 rfl) ?_
                                      refine lv_i2l (v := (Int32.toInt64 (iI (f0 z102)))) hx hb dX12_go_298 rfl ?_
                                      refine r_ladd (v := ((27 * fy101) + (Int32.toInt64 (iI (f0 z102))))) M rfl dX12_go_299 ?_
                                      refine lv_ldc2 (v := 96) hx hb M.1.2.2.2.1 (M.1.2.2.2.2 _ G1642) dX12_go_300 ?_
                                      refine r_lsub (v := (((27 * fy101) + (Int32.toInt64 (iI (f0 z102)))) - 96)) M rfl dX12_go_303 ?_
                                      refine r_put (ws' := [(a0, .inr (11, [.int r0, .ref a1, .int (iI x0), .int (iI x1), .int (iI x2), .int (iI z102), .int (iI z1), .int (iI x5), .int fr103, .int (iI x6), .int (iI x7), .int (iI x8), .long (((27 * fy101) + (Int32.toInt64 (iI (f0 z102)))) - 96), .int (iI x9), .ref a2, .ref a3, .ref a4, .ref a5, .ref a6, .ref a7, .ref a8, .ref a9, .ref a10, .ref a11, .int (iI x10), .ref a12, .ref a13, .ref a14, .ref a15, .int (iI x11), .int r2, .int r3, .ref a16, .int (iI x12), .int (iI x13), .ref a17, .ref a18, .int (iI x14), .ref a19, .int (iI x15), .int r4, .ref a20, .ref a21, .int (iI x16), .int r5, .ref a22, .int (iI x17), .int (iI x18), .int (iI x19), .int (iI x20)])), (a1, .inl (T 0, 940, .inl (cI f0)))]) M w 0 12 clX12 rfl (by decide) G1475 rfl rfl rfl rfl (Nat.le_of_ble_eq_true rfl) rfl dX12_go_304 (fun H locs w => ?_)
                                      refine lv_aload_n hx hb dX12_go_307 rfl (lv_at hl 4 rfl) ?_
                                      refine r_get (v := .int (iI z102)) M w 0 5 clX12 rfl (by decide) G1468 rfl rfl dX12_go_308 ?_
                                      refine lv_aload_n hx hb dX12_go_311 rfl (lv_at hl 4 rfl) ?_
                                      refine r_get (v := .int (iI z1)) M w 0 6 clX12 rfl (by decide) G1469 rfl rfl dX12_go_312 ?_
                                      refine r_isub (v := iI (z102 - z1)) M (iI_sub _ _) dX12_go_315 ?_
                                      refine lv_iconst (v := iI 3) hx hb dX12_go_316 (by decide +kernel) ?_
                                      refine lv_icmp_ge (tgt := 337) hx hb dX12_go_317 (by decide) (fun c_174 => ?_) (fun c_174 => ?_)
                                      · replace c_174 := (iI_le (by decide) (by decide) (by omega) (by omega)).mp c_174
                                        refine lv_aload_n hx hb dX12_go_337 rfl (lv_at hl 4 rfl) ?_
                                        refine lv_dup hx hb dX12_go_338 rfl ?_
                                        refine r_get (v := .int (iI z102)) M w 0 5 clX12 rfl (by decide) G1468 rfl rfl dX12_go_339 ?_
                                        refine lv_iconst (v := iI 1) hx hb dX12_go_342 (by decide +kernel) ?_
                                        refine r_iadd (v := iI (z102 + 1)) M (iI_add _ _) dX12_go_343 ?_
                                        refine r_put (ws' := [(a0, .inr (11, [.int r0, .ref a1, .int (iI x0), .int (iI x1), .int (iI x2), .int (iI (z102 + 1)), .int (iI z1), .int (iI x5), .int fr103, .int (iI x6), .int (iI x7), .int (iI x8), .long (((27 * fy101) + (Int32.toInt64 (iI (f0 z102)))) - 96), .int (iI x9), .ref a2, .ref a3, .ref a4, .ref a5, .ref a6, .ref a7, .ref a8, .ref a9, .ref a10, .ref a11, .int (iI x10), .ref a12, .ref a13, .ref a14, .ref a15, .int (iI x11), .int r2, .int r3, .ref a16, .int (iI x12), .int (iI x13), .ref a17, .ref a18, .int (iI x14), .ref a19, .int (iI x15), .int r4, .ref a20, .ref a21, .int (iI x16), .int r5, .ref a22, .int (iI x17), .int (iI x18), .int (iI x19), .int (iI x20)])), (a1, .inl (T 0, 940, .inl (cI f0)))]) M w 0 5 clX12 rfl (by decide) G1468 rfl rfl rfl rfl (Nat.le_of_ble_eq_true rfl) rfl dX12_go_344 (fun H locs w => ?_)
                                        refine lv_goto (tgt := 215) hx hb dX12_go_347 (by decide) ?_
                                        exact ih2 (((27 * fy101) + (Int32.toInt64 (iI (f0 z102)))) - 96) (z102 + 1) fr103 1 _ _ _ (by omega) (by omega) (by decide) (by decide) (by omega) (by omega) (lq2_r.trans (rn_t (ta_D pq147 pq152 (by omega)).1 (Or.inr (ta_D pq147 pq152 (by omega)).2))) (aR_s lq2_a (Or.inr (ta_D pq147 pq152 (by omega)).2)) (gd_q lq2_g (by omega) pq167 (by omega) (by omega) (by omega) (by omega) (by omega) (by omega)) (wI_s lq2_w (by omega) (f0_h _) (by first | exact Or.inl ⟨by omega, rfl⟩ | exact Or.inr ⟨by omega, rfl⟩) (by first | exact Or.inl ⟨by omega, rfl⟩ | exact Or.inr ⟨by omega, rfl⟩)) (by omega) w (lv_sub hl [0, 2, 3, 4] rfl)
                                      · replace c_174 : (z102 - z1) < 3 := Int.not_le.mp (fun h => c_174 ((iI_le (by decide) (by decide) (by omega) (by omega)).mpr h))
                                        refine lv_aload_n hx hb dX12_go_320 rfl (lv_at hl 4 rfl) ?_
                                        refine lv_bipush (v := iI 10) hx hb dX12_go_321 (by decide +kernel) ?_
                                        refine lv_aload_n hx hb dX12_go_323 rfl (lv_at hl 4 rfl) ?_
                                        refine r_get (v := .int fr103) M w 0 8 clX12 rfl (by decide) G1471 rfl rfl dX12_go_324 ?_
                                        refine r_imul (v := ((iI 10) * fr103)) M rfl dX12_go_327 ?_
                                        refine lv_iload hx hb dX12_go_328 (lv_at hl 1 rfl) ?_
                                        refine r_iadd (v := (((iI 10) * fr103) + (iI (f0 z102)))) M rfl dX12_go_330 ?_
                                        refine lv_bipush (v := iI 48) hx hb dX12_go_331 (by decide +kernel) ?_
                                        refine r_isub (v := ((((iI 10) * fr103) + (iI (f0 z102))) - (iI 48))) M rfl dX12_go_333 ?_
                                        refine r_put (ws' := [(a0, .inr (11, [.int r0, .ref a1, .int (iI x0), .int (iI x1), .int (iI x2), .int (iI z102), .int (iI z1), .int (iI x5), .int ((((iI 10) * fr103) + (iI (f0 z102))) - (iI 48)), .int (iI x6), .int (iI x7), .int (iI x8), .long (((27 * fy101) + (Int32.toInt64 (iI (f0 z102)))) - 96), .int (iI x9), .ref a2, .ref a3, .ref a4, .ref a5, .ref a6, .ref a7, .ref a8, .ref a9, .ref a10, .ref a11, .int (iI x10), .ref a12, .ref a13, .ref a14, .ref a15, .int (iI x11), .int r2, .int r3, .ref a16, .int (iI x12), .int (iI x13), .ref a17, .ref a18, .int (iI x14), .ref a19, .int (iI x15), .int r4, .ref a20, .ref a21, .int (iI x16), .int r5, .ref a22, .int (iI x17), .int (iI x18), .int (iI x19), .int (iI x20)])), (a1, .inl (T 0, 940, .inl (cI f0)))]) M w 0 8 clX12 rfl (by decide) G1471 rfl rfl rfl rfl (Nat.le_of_ble_eq_true rfl) rfl dX12_go_334 (fun H locs w => ?_)
                                        refine lv_aload_n hx hb dX12_go_337 rfl (lv_at hl 4 rfl) ?_
                                        refine lv_dup hx hb dX12_go_338 rfl ?_
                                        refine r_get (v := .int (iI z102)) M w 0 5 clX12 rfl (by decide) G1468 rfl rfl dX12_go_339 ?_
                                        refine lv_iconst (v := iI 1) hx hb dX12_go_342 (by decide +kernel) ?_
                                        refine r_iadd (v := iI (z102 + 1)) M (iI_add _ _) dX12_go_343 ?_
                                        refine r_put (ws' := [(a0, .inr (11, [.int r0, .ref a1, .int (iI x0), .int (iI x1), .int (iI x2), .int (iI (z102 + 1)), .int (iI z1), .int (iI x5), .int ((((iI 10) * fr103) + (iI (f0 z102))) - (iI 48)), .int (iI x6), .int (iI x7), .int (iI x8), .long (((27 * fy101) + (Int32.toInt64 (iI (f0 z102)))) - 96), .int (iI x9), .ref a2, .ref a3, .ref a4, .ref a5, .ref a6, .ref a7, .ref a8, .ref a9, .ref a10, .ref a11, .int (iI x10), .ref a12, .ref a13, .ref a14, .ref a15, .int (iI x11), .int r2, .int r3, .ref a16, .int (iI x12), .int (iI x13), .ref a17, .ref a18, .int (iI x14), .ref a19, .int (iI x15), .int r4, .ref a20, .ref a21, .int (iI x16), .int r5, .ref a22, .int (iI x17), .int (iI x18), .int (iI x19), .int (iI x20)])), (a1, .inl (T 0, 940, .inl (cI f0)))]) M w 0 5 clX12 rfl (by decide) G1468 rfl rfl rfl rfl (Nat.le_of_ble_eq_true rfl) rfl dX12_go_344 (fun H locs w => ?_)
                                        refine lv_goto (tgt := 215) hx hb dX12_go_347 (by decide) ?_
                                        exact ih2 (((27 * fy101) + (Int32.toInt64 (iI (f0 z102)))) - 96) (z102 + 1) ((((iI 10) * fr103) + (iI (f0 z102))) - (iI 48)) 1 _ _ _ (by omega) (by omega) (by decide) (by decide) (by omega) (by omega) (lq2_r.trans (rn_t (ta_D pq147 pq152 (by omega)).1 (Or.inr (ta_D pq147 pq152 (by omega)).2))) (aR_s lq2_a (Or.inr (ta_D pq147 pq152 (by omega)).2)) (gd_q lq2_g (by omega) pq167 (by omega) (by omega) (by omega) (by omega) (by omega) (by omega)) (wI_s lq2_w (by omega) (f0_h _) (by first | exact Or.inl ⟨by omega, rfl⟩ | exact Or.inr ⟨by omega, rfl⟩) (by first | exact Or.inl ⟨by omega, rfl⟩ | exact Or.inr ⟨by omega, rfl⟩)) (by omega) w (lv_sub hl [0, 2, 3, 4] rfl)
                    exact loop2 (((x1 - z1) : Int).toNat + 1) 0 z1 (iI 0) 1 _ _ _ z1_a z1_b (by decide) (by decide) (by omega) (by omega) rfl aR_0 gd_0 (wI_0 rfl rfl) (Nat.lt_succ_self _) w (lv_sub hl [0, 1, 2, 3] rfl)
                  · replace c_97 := (iz_eq (Int.le_trans (by decide) z94_a) (Int.le_trans z94_b (by decide))).mp c_97
                    refine lv_aload_n hx hb dX12_go_137 rfl (lv_at hl 1 rfl) ?_
                    refine lv_iload_n hx hb dX12_go_138 rfl (lv_at hl 0 rfl) ?_
                    refine lv_bipush (v := iI 59) hx hb dX12_go_139 (by decide +kernel) ?_
                    refine lv_icmp_eq (tgt := 174) hx hb dX12_go_141 (by decide) (fun c_175 => ?_) (fun c_175 => ?_)
                    · replace c_175 := (iI_eq (by omega) (by omega) (by decide) (by decide)).mp c_175
                      refine lv_iconst (v := iI 4) hx hb dX12_go_174 (by decide +kernel) ?_
                      refine lv_goto (tgt := 179) hx hb dX12_go_175 (by decide) ?_
                      refine r_put (ws' := [(a0, .inr (11, [.int r0, .ref a1, .int (iI x0), .int (iI x1), .int (iI x2), .int (iI z1), .int (iI z1), .int (iI 4), .int r1, .int (iI x6), .int (iI x7), .int (iI x8), .long y0, .int (iI x9), .ref a2, .ref a3, .ref a4, .ref a5, .ref a6, .ref a7, .ref a8, .ref a9, .ref a10, .ref a11, .int (iI x10), .ref a12, .ref a13, .ref a14, .ref a15, .int (iI x11), .int r2, .int r3, .ref a16, .int (iI x12), .int (iI x13), .ref a17, .ref a18, .int (iI x14), .ref a19, .int (iI x15), .int r4, .ref a20, .ref a21, .int (iI x16), .int r5, .ref a22, .int (iI x17), .int (iI x18), .int (iI x19), .int (iI x20)])), (a1, .inl (T 0, 940, .inl (cI f0)))]) M w 0 7 clX12 rfl (by decide) G1470 rfl rfl rfl rfl (Nat.le_of_ble_eq_true rfl) rfl dX12_go_179 (fun H locs w => ?_)
                      refine lv_aload_n hx hb dX12_go_182 rfl (lv_at hl 1 rfl) ?_
                      refine lv_iload_n hx hb dX12_go_183 rfl (lv_at hl 0 rfl) ?_
                      refine r_put (ws' := [(a0, .inr (11, [.int r0, .ref a1, .int (iI x0), .int (iI x1), .int (iI x2), .int (iI z1), .int (iI z1), .int (iI 4), .int r1, .int (iI (f0 z1)), .int (iI x7), .int (iI x8), .long y0, .int (iI x9), .ref a2, .ref a3, .ref a4, .ref a5, .ref a6, .ref a7, .ref a8, .ref a9, .ref a10, .ref a11, .int (iI x10), .ref a12, .ref a13, .ref a14, .ref a15, .int (iI x11), .int r2, .int r3, .ref a16, .int (iI x12), .int (iI x13), .ref a17, .ref a18, .int (iI x14), .ref a19, .int (iI x15), .int r4, .ref a20, .ref a21, .int (iI x16), .int r5, .ref a22, .int (iI x17), .int (iI x18), .int (iI x19), .int (iI x20)])), (a1, .inl (T 0, 940, .inl (cI f0)))]) M w 0 9 clX12 rfl (by decide) G1472 rfl rfl rfl rfl (Nat.le_of_ble_eq_true rfl) rfl dX12_go_184 (fun H locs w => ?_)
                      refine lv_aload_n hx hb dX12_go_187 rfl (lv_at hl 1 rfl) ?_
                      refine lv_dup hx hb dX12_go_188 rfl ?_
                      refine r_get (v := .int (iI z1)) M w 0 5 clX12 rfl (by decide) G1468 rfl rfl dX12_go_189 ?_
                      refine lv_iconst (v := iI 1) hx hb dX12_go_192 (by decide +kernel) ?_
                      refine r_iadd (v := iI (z1 + 1)) M (iI_add _ _) dX12_go_193 ?_
                      refine r_put (ws' := [(a0, .inr (11, [.int r0, .ref a1, .int (iI x0), .int (iI x1), .int (iI x2), .int (iI (z1 + 1)), .int (iI z1), .int (iI 4), .int r1, .int (iI (f0 z1)), .int (iI x7), .int (iI x8), .long y0, .int (iI x9), .ref a2, .ref a3, .ref a4, .ref a5, .ref a6, .ref a7, .ref a8, .ref a9, .ref a10, .ref a11, .int (iI x10), .ref a12, .ref a13, .ref a14, .ref a15, .int (iI x11), .int r2, .int r3, .ref a16, .int (iI x12), .int (iI x13), .ref a17, .ref a18, .int (iI x14), .ref a19, .int (iI x15), .int r4, .ref a20, .ref a21, .int (iI x16), .int r5, .ref a22, .int (iI x17), .int (iI x18), .int (iI x19), .int (iI x20)])), (a1, .inl (T 0, 940, .inl (cI f0)))]) M w 0 5 clX12 rfl (by decide) G1468 rfl rfl rfl rfl (Nat.le_of_ble_eq_true rfl) rfl dX12_go_194 (fun H locs w => ?_)
                      exact ret ((z1 + 1), z1, 4, r1, (f0 z1), y0) _ _ _ _ _ [0, 1] dX12_go_197 ⟨(show 0 ≤ (z1 + 1) from by omega), (show (z1 + 1) ≤ 940 from by omega), z1_a, z1_b, (show (0 : Int) ≤ 4 from by decide), (show (4 : Int) ≤ 4 from by decide), (show (-2147483648) ≤ (f0 z1) from by omega), (show (f0 z1) ≤ 2147483647 from by omega), (show 0 ≤ ((z1 + 1) - x3) from by omega), (show 0 ≤ ((((z1 + 1) - x3) - 4) + 3) from by omega), (show gT (tkAt f0 x1 x2 x3) 4 z1 (z1 + 1) y0 r1 (f0 z1) from (by rw [tk_sg (lq1_s.trans (sk_e (by omega))) (by omega) (by omega) (nld pq15 (by omega) pq96 (by omega)) (by omega)]; exact ⟨rfl, rfl, rfl, rfl⟩))⟩ w (by decide) rfl
                    · replace c_175 : ¬ (f0 z1) = 59 := fun h => c_175 ((iI_eq (by omega) (by omega) (by decide) (by decide)).mpr h)
                      refine lv_iload_n hx hb dX12_go_144 rfl (lv_at hl 0 rfl) ?_
                      refine lv_bipush (v := iI 60) hx hb dX12_go_145 (by decide +kernel) ?_
                      refine lv_icmp_eq (tgt := 174) hx hb dX12_go_147 (by decide) (fun c_176 => ?_) (fun c_176 => ?_)
                      · replace c_176 := (iI_eq (by omega) (by omega) (by decide) (by decide)).mp c_176
                        refine lv_iconst (v := iI 4) hx hb dX12_go_174 (by decide +kernel) ?_
                        refine lv_goto (tgt := 179) hx hb dX12_go_175 (by decide) ?_
                        refine r_put (ws' := [(a0, .inr (11, [.int r0, .ref a1, .int (iI x0), .int (iI x1), .int (iI x2), .int (iI z1), .int (iI z1), .int (iI 4), .int r1, .int (iI x6), .int (iI x7), .int (iI x8), .long y0, .int (iI x9), .ref a2, .ref a3, .ref a4, .ref a5, .ref a6, .ref a7, .ref a8, .ref a9, .ref a10, .ref a11, .int (iI x10), .ref a12, .ref a13, .ref a14, .ref a15, .int (iI x11), .int r2, .int r3, .ref a16, .int (iI x12), .int (iI x13), .ref a17, .ref a18, .int (iI x14), .ref a19, .int (iI x15), .int r4, .ref a20, .ref a21, .int (iI x16), .int r5, .ref a22, .int (iI x17), .int (iI x18), .int (iI x19), .int (iI x20)])), (a1, .inl (T 0, 940, .inl (cI f0)))]) M w 0 7 clX12 rfl (by decide) G1470 rfl rfl rfl rfl (Nat.le_of_ble_eq_true rfl) rfl dX12_go_179 (fun H locs w => ?_)
                        refine lv_aload_n hx hb dX12_go_182 rfl (lv_at hl 1 rfl) ?_
                        refine lv_iload_n hx hb dX12_go_183 rfl (lv_at hl 0 rfl) ?_
                        refine r_put (ws' := [(a0, .inr (11, [.int r0, .ref a1, .int (iI x0), .int (iI x1), .int (iI x2), .int (iI z1), .int (iI z1), .int (iI 4), .int r1, .int (iI (f0 z1)), .int (iI x7), .int (iI x8), .long y0, .int (iI x9), .ref a2, .ref a3, .ref a4, .ref a5, .ref a6, .ref a7, .ref a8, .ref a9, .ref a10, .ref a11, .int (iI x10), .ref a12, .ref a13, .ref a14, .ref a15, .int (iI x11), .int r2, .int r3, .ref a16, .int (iI x12), .int (iI x13), .ref a17, .ref a18, .int (iI x14), .ref a19, .int (iI x15), .int r4, .ref a20, .ref a21, .int (iI x16), .int r5, .ref a22, .int (iI x17), .int (iI x18), .int (iI x19), .int (iI x20)])), (a1, .inl (T 0, 940, .inl (cI f0)))]) M w 0 9 clX12 rfl (by decide) G1472 rfl rfl rfl rfl (Nat.le_of_ble_eq_true rfl) rfl dX12_go_184 (fun H locs w => ?_)
                        refine lv_aload_n hx hb dX12_go_187 rfl (lv_at hl 1 rfl) ?_
                        refine lv_dup hx hb dX12_go_188 rfl ?_
                        refine r_get (v := .int (iI z1)) M w 0 5 clX12 rfl (by decide) G1468 rfl rfl dX12_go_189 ?_
                        refine lv_iconst (v := iI 1) hx hb dX12_go_192 (by decide +kernel) ?_
                        refine r_iadd (v := iI (z1 + 1)) M (iI_add _ _) dX12_go_193 ?_
                        refine r_put (ws' := [(a0, .inr (11, [.int r0, .ref a1, .int (iI x0), .int (iI x1), .int (iI x2), .int (iI (z1 + 1)), .int (iI z1), .int (iI 4), .int r1, .int (iI (f0 z1)), .int (iI x7), .int (iI x8), .long y0, .int (iI x9), .ref a2, .ref a3, .ref a4, .ref a5, .ref a6, .ref a7, .ref a8, .ref a9, .ref a10, .ref a11, .int (iI x10), .ref a12, .ref a13, .ref a14, .ref a15, .int (iI x11), .int r2, .int r3, .ref a16, .int (iI x12), .int (iI x13), .ref a17, .ref a18, .int (iI x14), .ref a19, .int (iI x15), .int r4, .ref a20, .ref a21, .int (iI x16), .int r5, .ref a22, .int (iI x17), .int (iI x18), .int (iI x19), .int (iI x20)])), (a1, .inl (T 0, 940, .inl (cI f0)))]) M w 0 5 clX12 rfl (by decide) G1468 rfl rfl rfl rfl (Nat.le_of_ble_eq_true rfl) rfl dX12_go_194 (fun H locs w => ?_)
                        exact ret ((z1 + 1), z1, 4, r1, (f0 z1), y0) _ _ _ _ _ [0, 1] dX12_go_197 ⟨(show 0 ≤ (z1 + 1) from by omega), (show (z1 + 1) ≤ 940 from by omega), z1_a, z1_b, (show (0 : Int) ≤ 4 from by decide), (show (4 : Int) ≤ 4 from by decide), (show (-2147483648) ≤ (f0 z1) from by omega), (show (f0 z1) ≤ 2147483647 from by omega), (show 0 ≤ ((z1 + 1) - x3) from by omega), (show 0 ≤ ((((z1 + 1) - x3) - 4) + 3) from by omega), (show gT (tkAt f0 x1 x2 x3) 4 z1 (z1 + 1) y0 r1 (f0 z1) from (by rw [tk_sg (lq1_s.trans (sk_e (by omega))) (by omega) (by omega) (nld pq15 (by omega) pq96 (by omega)) (by omega)]; exact ⟨rfl, rfl, rfl, rfl⟩))⟩ w (by decide) rfl
                      · replace c_176 : ¬ (f0 z1) = 60 := fun h => c_176 ((iI_eq (by omega) (by omega) (by decide) (by decide)).mpr h)
                        refine lv_iload_n hx hb dX12_go_150 rfl (lv_at hl 0 rfl) ?_
                        refine lv_bipush (v := iI 61) hx hb dX12_go_151 (by decide +kernel) ?_
                        refine lv_icmp_eq (tgt := 174) hx hb dX12_go_153 (by decide) (fun c_177 => ?_) (fun c_177 => ?_)
                        · replace c_177 := (iI_eq (by omega) (by omega) (by decide) (by decide)).mp c_177
                          refine lv_iconst (v := iI 4) hx hb dX12_go_174 (by decide +kernel) ?_
                          refine lv_goto (tgt := 179) hx hb dX12_go_175 (by decide) ?_
                          refine r_put (ws' := [(a0, .inr (11, [.int r0, .ref a1, .int (iI x0), .int (iI x1), .int (iI x2), .int (iI z1), .int (iI z1), .int (iI 4), .int r1, .int (iI x6), .int (iI x7), .int (iI x8), .long y0, .int (iI x9), .ref a2, .ref a3, .ref a4, .ref a5, .ref a6, .ref a7, .ref a8, .ref a9, .ref a10, .ref a11, .int (iI x10), .ref a12, .ref a13, .ref a14, .ref a15, .int (iI x11), .int r2, .int r3, .ref a16, .int (iI x12), .int (iI x13), .ref a17, .ref a18, .int (iI x14), .ref a19, .int (iI x15), .int r4, .ref a20, .ref a21, .int (iI x16), .int r5, .ref a22, .int (iI x17), .int (iI x18), .int (iI x19), .int (iI x20)])), (a1, .inl (T 0, 940, .inl (cI f0)))]) M w 0 7 clX12 rfl (by decide) G1470 rfl rfl rfl rfl (Nat.le_of_ble_eq_true rfl) rfl dX12_go_179 (fun H locs w => ?_)
                          refine lv_aload_n hx hb dX12_go_182 rfl (lv_at hl 1 rfl) ?_
                          refine lv_iload_n hx hb dX12_go_183 rfl (lv_at hl 0 rfl) ?_
                          refine r_put (ws' := [(a0, .inr (11, [.int r0, .ref a1, .int (iI x0), .int (iI x1), .int (iI x2), .int (iI z1), .int (iI z1), .int (iI 4), .int r1, .int (iI (f0 z1)), .int (iI x7), .int (iI x8), .long y0, .int (iI x9), .ref a2, .ref a3, .ref a4, .ref a5, .ref a6, .ref a7, .ref a8, .ref a9, .ref a10, .ref a11, .int (iI x10), .ref a12, .ref a13, .ref a14, .ref a15, .int (iI x11), .int r2, .int r3, .ref a16, .int (iI x12), .int (iI x13), .ref a17, .ref a18, .int (iI x14), .ref a19, .int (iI x15), .int r4, .ref a20, .ref a21, .int (iI x16), .int r5, .ref a22, .int (iI x17), .int (iI x18), .int (iI x19), .int (iI x20)])), (a1, .inl (T 0, 940, .inl (cI f0)))]) M w 0 9 clX12 rfl (by decide) G1472 rfl rfl rfl rfl (Nat.le_of_ble_eq_true rfl) rfl dX12_go_184 (fun H locs w => ?_)
                          refine lv_aload_n hx hb dX12_go_187 rfl (lv_at hl 1 rfl) ?_
                          refine lv_dup hx hb dX12_go_188 rfl ?_
                          refine r_get (v := .int (iI z1)) M w 0 5 clX12 rfl (by decide) G1468 rfl rfl dX12_go_189 ?_
                          refine lv_iconst (v := iI 1) hx hb dX12_go_192 (by decide +kernel) ?_
                          refine r_iadd (v := iI (z1 + 1)) M (iI_add _ _) dX12_go_193 ?_
                          refine r_put (ws' := [(a0, .inr (11, [.int r0, .ref a1, .int (iI x0), .int (iI x1), .int (iI x2), .int (iI (z1 + 1)), .int (iI z1), .int (iI 4), .int r1, .int (iI (f0 z1)), .int (iI x7), .int (iI x8), .long y0, .int (iI x9), .ref a2, .ref a3, .ref a4, .ref a5, .ref a6, .ref a7, .ref a8, .ref a9, .ref a10, .ref a11, .int (iI x10), .ref a12, .ref a13, .ref a14, .ref a15, .int (iI x11), .int r2, .int r3, .ref a16, .int (iI x12), .int (iI x13), .ref a17, .ref a18, .int (iI x14), .ref a19, .int (iI x15), .int r4, .ref a20, .ref a21, .int (iI x16), .int r5, .ref a22, .int (iI x17), .int (iI x18), .int (iI x19), .int (iI x20)])), (a1, .inl (T 0, 940, .inl (cI f0)))]) M w 0 5 clX12 rfl (by decide) G1468 rfl rfl rfl rfl (Nat.le_of_ble_eq_true rfl) rfl dX12_go_194 (fun H locs w => ?_)
                          exact ret ((z1 + 1), z1, 4, r1, (f0 z1), y0) _ _ _ _ _ [0, 1] dX12_go_197 ⟨(show 0 ≤ (z1 + 1) from by omega), (show (z1 + 1) ≤ 940 from by omega), z1_a, z1_b, (show (0 : Int) ≤ 4 from by decide), (show (4 : Int) ≤ 4 from by decide), (show (-2147483648) ≤ (f0 z1) from by omega), (show (f0 z1) ≤ 2147483647 from by omega), (show 0 ≤ ((z1 + 1) - x3) from by omega), (show 0 ≤ ((((z1 + 1) - x3) - 4) + 3) from by omega), (show gT (tkAt f0 x1 x2 x3) 4 z1 (z1 + 1) y0 r1 (f0 z1) from (by rw [tk_sg (lq1_s.trans (sk_e (by omega))) (by omega) (by omega) (nld pq15 (by omega) pq96 (by omega)) (by omega)]; exact ⟨rfl, rfl, rfl, rfl⟩))⟩ w (by decide) rfl
                        · replace c_177 : ¬ (f0 z1) = 61 := fun h => c_177 ((iI_eq (by omega) (by omega) (by decide) (by decide)).mpr h)
                          refine lv_iload_n hx hb dX12_go_156 rfl (lv_at hl 0 rfl) ?_
                          refine lv_bipush (v := iI 62) hx hb dX12_go_157 (by decide +kernel) ?_
                          refine lv_icmp_eq (tgt := 174) hx hb dX12_go_159 (by decide) (fun c_178 => ?_) (fun c_178 => ?_)
                          · replace c_178 := (iI_eq (by omega) (by omega) (by decide) (by decide)).mp c_178
                            refine lv_iconst (v := iI 4) hx hb dX12_go_174 (by decide +kernel) ?_
                            refine lv_goto (tgt := 179) hx hb dX12_go_175 (by decide) ?_
                            refine r_put (ws' := [(a0, .inr (11, [.int r0, .ref a1, .int (iI x0), .int (iI x1), .int (iI x2), .int (iI z1), .int (iI z1), .int (iI 4), .int r1, .int (iI x6), .int (iI x7), .int (iI x8), .long y0, .int (iI x9), .ref a2, .ref a3, .ref a4, .ref a5, .ref a6, .ref a7, .ref a8, .ref a9, .ref a10, .ref a11, .int (iI x10), .ref a12, .ref a13, .ref a14, .ref a15, .int (iI x11), .int r2, .int r3, .ref a16, .int (iI x12), .int (iI x13), .ref a17, .ref a18, .int (iI x14), .ref a19, .int (iI x15), .int r4, .ref a20, .ref a21, .int (iI x16), .int r5, .ref a22, .int (iI x17), .int (iI x18), .int (iI x19), .int (iI x20)])), (a1, .inl (T 0, 940, .inl (cI f0)))]) M w 0 7 clX12 rfl (by decide) G1470 rfl rfl rfl rfl (Nat.le_of_ble_eq_true rfl) rfl dX12_go_179 (fun H locs w => ?_)
                            refine lv_aload_n hx hb dX12_go_182 rfl (lv_at hl 1 rfl) ?_
                            refine lv_iload_n hx hb dX12_go_183 rfl (lv_at hl 0 rfl) ?_
                            refine r_put (ws' := [(a0, .inr (11, [.int r0, .ref a1, .int (iI x0), .int (iI x1), .int (iI x2), .int (iI z1), .int (iI z1), .int (iI 4), .int r1, .int (iI (f0 z1)), .int (iI x7), .int (iI x8), .long y0, .int (iI x9), .ref a2, .ref a3, .ref a4, .ref a5, .ref a6, .ref a7, .ref a8, .ref a9, .ref a10, .ref a11, .int (iI x10), .ref a12, .ref a13, .ref a14, .ref a15, .int (iI x11), .int r2, .int r3, .ref a16, .int (iI x12), .int (iI x13), .ref a17, .ref a18, .int (iI x14), .ref a19, .int (iI x15), .int r4, .ref a20, .ref a21, .int (iI x16), .int r5, .ref a22, .int (iI x17), .int (iI x18), .int (iI x19), .int (iI x20)])), (a1, .inl (T 0, 940, .inl (cI f0)))]) M w 0 9 clX12 rfl (by decide) G1472 rfl rfl rfl rfl (Nat.le_of_ble_eq_true rfl) rfl dX12_go_184 (fun H locs w => ?_)
                            refine lv_aload_n hx hb dX12_go_187 rfl (lv_at hl 1 rfl) ?_
                            refine lv_dup hx hb dX12_go_188 rfl ?_
                            refine r_get (v := .int (iI z1)) M w 0 5 clX12 rfl (by decide) G1468 rfl rfl dX12_go_189 ?_
                            refine lv_iconst (v := iI 1) hx hb dX12_go_192 (by decide +kernel) ?_
                            refine r_iadd (v := iI (z1 + 1)) M (iI_add _ _) dX12_go_193 ?_
                            refine r_put (ws' := [(a0, .inr (11, [.int r0, .ref a1, .int (iI x0), .int (iI x1), .int (iI x2), .int (iI (z1 + 1)), .int (iI z1), .int (iI 4), .int r1, .int (iI (f0 z1)), .int (iI x7), .int (iI x8), .long y0, .int (iI x9), .ref a2, .ref a3, .ref a4, .ref a5, .ref a6, .ref a7, .ref a8, .ref a9, .ref a10, .ref a11, .int (iI x10), .ref a12, .ref a13, .ref a14, .ref a15, .int (iI x11), .int r2, .int r3, .ref a16, .int (iI x12), .int (iI x13), .ref a17, .ref a18, .int (iI x14), .ref a19, .int (iI x15), .int r4, .ref a20, .ref a21, .int (iI x16), .int r5, .ref a22, .int (iI x17), .int (iI x18), .int (iI x19), .int (iI x20)])), (a1, .inl (T 0, 940, .inl (cI f0)))]) M w 0 5 clX12 rfl (by decide) G1468 rfl rfl rfl rfl (Nat.le_of_ble_eq_true rfl) rfl dX12_go_194 (fun H locs w => ?_)
                            exact ret ((z1 + 1), z1, 4, r1, (f0 z1), y0) _ _ _ _ _ [0, 1] dX12_go_197 ⟨(show 0 ≤ (z1 + 1) from by omega), (show (z1 + 1) ≤ 940 from by omega), z1_a, z1_b, (show (0 : Int) ≤ 4 from by decide), (show (4 : Int) ≤ 4 from by decide), (show (-2147483648) ≤ (f0 z1) from by omega), (show (f0 z1) ≤ 2147483647 from by omega), (show 0 ≤ ((z1 + 1) - x3) from by omega), (show 0 ≤ ((((z1 + 1) - x3) - 4) + 3) from by omega), (show gT (tkAt f0 x1 x2 x3) 4 z1 (z1 + 1) y0 r1 (f0 z1) from (by rw [tk_sg (lq1_s.trans (sk_e (by omega))) (by omega) (by omega) (nld pq15 (by omega) pq96 (by omega)) (by omega)]; exact ⟨rfl, rfl, rfl, rfl⟩))⟩ w (by decide) rfl
                          · replace c_178 : ¬ (f0 z1) = 62 := fun h => c_178 ((iI_eq (by omega) (by omega) (by decide) (by decide)).mpr h)
                            refine lv_iload_n hx hb dX12_go_162 rfl (lv_at hl 0 rfl) ?_
                            refine lv_bipush (v := iI 40) hx hb dX12_go_163 (by decide +kernel) ?_
                            refine lv_icmp_eq (tgt := 174) hx hb dX12_go_165 (by decide) (fun c_179 => ?_) (fun c_179 => ?_)
                            · replace c_179 := (iI_eq (by omega) (by omega) (by decide) (by decide)).mp c_179
                              refine lv_iconst (v := iI 4) hx hb dX12_go_174 (by decide +kernel) ?_
                              refine lv_goto (tgt := 179) hx hb dX12_go_175 (by decide) ?_
                              refine r_put (ws' := [(a0, .inr (11, [.int r0, .ref a1, .int (iI x0), .int (iI x1), .int (iI x2), .int (iI z1), .int (iI z1), .int (iI 4), .int r1, .int (iI x6), .int (iI x7), .int (iI x8), .long y0, .int (iI x9), .ref a2, .ref a3, .ref a4, .ref a5, .ref a6, .ref a7, .ref a8, .ref a9, .ref a10, .ref a11, .int (iI x10), .ref a12, .ref a13, .ref a14, .ref a15, .int (iI x11), .int r2, .int r3, .ref a16, .int (iI x12), .int (iI x13), .ref a17, .ref a18, .int (iI x14), .ref a19, .int (iI x15), .int r4, .ref a20, .ref a21, .int (iI x16), .int r5, .ref a22, .int (iI x17), .int (iI x18), .int (iI x19), .int (iI x20)])), (a1, .inl (T 0, 940, .inl (cI f0)))]) M w 0 7 clX12 rfl (by decide) G1470 rfl rfl rfl rfl (Nat.le_of_ble_eq_true rfl) rfl dX12_go_179 (fun H locs w => ?_)
                              refine lv_aload_n hx hb dX12_go_182 rfl (lv_at hl 1 rfl) ?_
                              refine lv_iload_n hx hb dX12_go_183 rfl (lv_at hl 0 rfl) ?_
                              refine r_put (ws' := [(a0, .inr (11, [.int r0, .ref a1, .int (iI x0), .int (iI x1), .int (iI x2), .int (iI z1), .int (iI z1), .int (iI 4), .int r1, .int (iI (f0 z1)), .int (iI x7), .int (iI x8), .long y0, .int (iI x9), .ref a2, .ref a3, .ref a4, .ref a5, .ref a6, .ref a7, .ref a8, .ref a9, .ref a10, .ref a11, .int (iI x10), .ref a12, .ref a13, .ref a14, .ref a15, .int (iI x11), .int r2, .int r3, .ref a16, .int (iI x12), .int (iI x13), .ref a17, .ref a18, .int (iI x14), .ref a19, .int (iI x15), .int r4, .ref a20, .ref a21, .int (iI x16), .int r5, .ref a22, .int (iI x17), .int (iI x18), .int (iI x19), .int (iI x20)])), (a1, .inl (T 0, 940, .inl (cI f0)))]) M w 0 9 clX12 rfl (by decide) G1472 rfl rfl rfl rfl (Nat.le_of_ble_eq_true rfl) rfl dX12_go_184 (fun H locs w => ?_)
                              refine lv_aload_n hx hb dX12_go_187 rfl (lv_at hl 1 rfl) ?_
                              refine lv_dup hx hb dX12_go_188 rfl ?_
                              refine r_get (v := .int (iI z1)) M w 0 5 clX12 rfl (by decide) G1468 rfl rfl dX12_go_189 ?_
                              refine lv_iconst (v := iI 1) hx hb dX12_go_192 (by decide +kernel) ?_
                              refine r_iadd (v := iI (z1 + 1)) M (iI_add _ _) dX12_go_193 ?_
                              refine r_put (ws' := [(a0, .inr (11, [.int r0, .ref a1, .int (iI x0), .int (iI x1), .int (iI x2), .int (iI (z1 + 1)), .int (iI z1), .int (iI 4), .int r1, .int (iI (f0 z1)), .int (iI x7), .int (iI x8), .long y0, .int (iI x9), .ref a2, .ref a3, .ref a4, .ref a5, .ref a6, .ref a7, .ref a8, .ref a9, .ref a10, .ref a11, .int (iI x10), .ref a12, .ref a13, .ref a14, .ref a15, .int (iI x11), .int r2, .int r3, .ref a16, .int (iI x12), .int (iI x13), .ref a17, .ref a18, .int (iI x14), .ref a19, .int (iI x15), .int r4, .ref a20, .ref a21, .int (iI x16), .int r5, .ref a22, .int (iI x17), .int (iI x18), .int (iI x19), .int (iI x20)])), (a1, .inl (T 0, 940, .inl (cI f0)))]) M w 0 5 clX12 rfl (by decide) G1468 rfl rfl rfl rfl (Nat.le_of_ble_eq_true rfl) rfl dX12_go_194 (fun H locs w => ?_)
                              exact ret ((z1 + 1), z1, 4, r1, (f0 z1), y0) _ _ _ _ _ [0, 1] dX12_go_197 ⟨(show 0 ≤ (z1 + 1) from by omega), (show (z1 + 1) ≤ 940 from by omega), z1_a, z1_b, (show (0 : Int) ≤ 4 from by decide), (show (4 : Int) ≤ 4 from by decide), (show (-2147483648) ≤ (f0 z1) from by omega), (show (f0 z1) ≤ 2147483647 from by omega), (show 0 ≤ ((z1 + 1) - x3) from by omega), (show 0 ≤ ((((z1 + 1) - x3) - 4) + 3) from by omega), (show gT (tkAt f0 x1 x2 x3) 4 z1 (z1 + 1) y0 r1 (f0 z1) from (by rw [tk_sg (lq1_s.trans (sk_e (by omega))) (by omega) (by omega) (nld pq15 (by omega) pq96 (by omega)) (by omega)]; exact ⟨rfl, rfl, rfl, rfl⟩))⟩ w (by decide) rfl
                            · replace c_179 : ¬ (f0 z1) = 40 := fun h => c_179 ((iI_eq (by omega) (by omega) (by decide) (by decide)).mpr h)
                              refine lv_iload_n hx hb dX12_go_168 rfl (lv_at hl 0 rfl) ?_
                              refine lv_bipush (v := iI 41) hx hb dX12_go_169 (by decide +kernel) ?_
                              refine lv_icmp_ne (tgt := 178) hx hb dX12_go_171 (by decide) (fun c_180 => ?_) (fun c_180 => ?_)
                              · replace c_180 : ¬ (f0 z1) = 41 := fun h => c_180 ((iI_eq (by omega) (by omega) (by decide) (by decide)).mpr h)
                                refine lv_iconst (v := iI 1) hx hb dX12_go_178 (by decide +kernel) ?_
                                refine r_put (ws' := [(a0, .inr (11, [.int r0, .ref a1, .int (iI x0), .int (iI x1), .int (iI x2), .int (iI z1), .int (iI z1), .int (iI 1), .int r1, .int (iI x6), .int (iI x7), .int (iI x8), .long y0, .int (iI x9), .ref a2, .ref a3, .ref a4, .ref a5, .ref a6, .ref a7, .ref a8, .ref a9, .ref a10, .ref a11, .int (iI x10), .ref a12, .ref a13, .ref a14, .ref a15, .int (iI x11), .int r2, .int r3, .ref a16, .int (iI x12), .int (iI x13), .ref a17, .ref a18, .int (iI x14), .ref a19, .int (iI x15), .int r4, .ref a20, .ref a21, .int (iI x16), .int r5, .ref a22, .int (iI x17), .int (iI x18), .int (iI x19), .int (iI x20)])), (a1, .inl (T 0, 940, .inl (cI f0)))]) M w 0 7 clX12 rfl (by decide) G1470 rfl rfl rfl rfl (Nat.le_of_ble_eq_true rfl) rfl dX12_go_179 (fun H locs w => ?_)
                                refine lv_aload_n hx hb dX12_go_182 rfl (lv_at hl 1 rfl) ?_
                                refine lv_iload_n hx hb dX12_go_183 rfl (lv_at hl 0 rfl) ?_
                                refine r_put (ws' := [(a0, .inr (11, [.int r0, .ref a1, .int (iI x0), .int (iI x1), .int (iI x2), .int (iI z1), .int (iI z1), .int (iI 1), .int r1, .int (iI (f0 z1)), .int (iI x7), .int (iI x8), .long y0, .int (iI x9), .ref a2, .ref a3, .ref a4, .ref a5, .ref a6, .ref a7, .ref a8, .ref a9, .ref a10, .ref a11, .int (iI x10), .ref a12, .ref a13, .ref a14, .ref a15, .int (iI x11), .int r2, .int r3, .ref a16, .int (iI x12), .int (iI x13), .ref a17, .ref a18, .int (iI x14), .ref a19, .int (iI x15), .int r4, .ref a20, .ref a21, .int (iI x16), .int r5, .ref a22, .int (iI x17), .int (iI x18), .int (iI x19), .int (iI x20)])), (a1, .inl (T 0, 940, .inl (cI f0)))]) M w 0 9 clX12 rfl (by decide) G1472 rfl rfl rfl rfl (Nat.le_of_ble_eq_true rfl) rfl dX12_go_184 (fun H locs w => ?_)
                                refine lv_aload_n hx hb dX12_go_187 rfl (lv_at hl 1 rfl) ?_
                                refine lv_dup hx hb dX12_go_188 rfl ?_
                                refine r_get (v := .int (iI z1)) M w 0 5 clX12 rfl (by decide) G1468 rfl rfl dX12_go_189 ?_
                                refine lv_iconst (v := iI 1) hx hb dX12_go_192 (by decide +kernel) ?_
                                refine r_iadd (v := iI (z1 + 1)) M (iI_add _ _) dX12_go_193 ?_
                                refine r_put (ws' := [(a0, .inr (11, [.int r0, .ref a1, .int (iI x0), .int (iI x1), .int (iI x2), .int (iI (z1 + 1)), .int (iI z1), .int (iI 1), .int r1, .int (iI (f0 z1)), .int (iI x7), .int (iI x8), .long y0, .int (iI x9), .ref a2, .ref a3, .ref a4, .ref a5, .ref a6, .ref a7, .ref a8, .ref a9, .ref a10, .ref a11, .int (iI x10), .ref a12, .ref a13, .ref a14, .ref a15, .int (iI x11), .int r2, .int r3, .ref a16, .int (iI x12), .int (iI x13), .ref a17, .ref a18, .int (iI x14), .ref a19, .int (iI x15), .int r4, .ref a20, .ref a21, .int (iI x16), .int r5, .ref a22, .int (iI x17), .int (iI x18), .int (iI x19), .int (iI x20)])), (a1, .inl (T 0, 940, .inl (cI f0)))]) M w 0 5 clX12 rfl (by decide) G1468 rfl rfl rfl rfl (Nat.le_of_ble_eq_true rfl) rfl dX12_go_194 (fun H locs w => ?_)
                                exact ret ((z1 + 1), z1, 1, r1, (f0 z1), y0) _ _ _ _ _ [0, 1] dX12_go_197 ⟨(show 0 ≤ (z1 + 1) from by omega), (show (z1 + 1) ≤ 940 from by omega), z1_a, z1_b, (show (0 : Int) ≤ 1 from by decide), (show (1 : Int) ≤ 4 from by decide), (show (-2147483648) ≤ (f0 z1) from by omega), (show (f0 z1) ≤ 2147483647 from by omega), (show 0 ≤ ((z1 + 1) - x3) from by omega), (show 0 ≤ ((((z1 + 1) - x3) - 1) + 3) from by omega), (show gT (tkAt f0 x1 x2 x3) 1 z1 (z1 + 1) y0 r1 (f0 z1) from (by rw [tk_no (lq1_s.trans (sk_e (by omega))) (by omega) (by omega) (nld pq15 (by omega) pq96 (by omega)) (by omega)]; exact ⟨rfl, rfl, rfl⟩))⟩ w (by decide) rfl
                              · replace c_180 := (iI_eq (by omega) (by omega) (by decide) (by decide)).mp c_180
                                refine lv_iconst (v := iI 4) hx hb dX12_go_174 (by decide +kernel) ?_
                                refine lv_goto (tgt := 179) hx hb dX12_go_175 (by decide) ?_
                                refine r_put (ws' := [(a0, .inr (11, [.int r0, .ref a1, .int (iI x0), .int (iI x1), .int (iI x2), .int (iI z1), .int (iI z1), .int (iI 4), .int r1, .int (iI x6), .int (iI x7), .int (iI x8), .long y0, .int (iI x9), .ref a2, .ref a3, .ref a4, .ref a5, .ref a6, .ref a7, .ref a8, .ref a9, .ref a10, .ref a11, .int (iI x10), .ref a12, .ref a13, .ref a14, .ref a15, .int (iI x11), .int r2, .int r3, .ref a16, .int (iI x12), .int (iI x13), .ref a17, .ref a18, .int (iI x14), .ref a19, .int (iI x15), .int r4, .ref a20, .ref a21, .int (iI x16), .int r5, .ref a22, .int (iI x17), .int (iI x18), .int (iI x19), .int (iI x20)])), (a1, .inl (T 0, 940, .inl (cI f0)))]) M w 0 7 clX12 rfl (by decide) G1470 rfl rfl rfl rfl (Nat.le_of_ble_eq_true rfl) rfl dX12_go_179 (fun H locs w => ?_)
                                refine lv_aload_n hx hb dX12_go_182 rfl (lv_at hl 1 rfl) ?_
                                refine lv_iload_n hx hb dX12_go_183 rfl (lv_at hl 0 rfl) ?_
                                refine r_put (ws' := [(a0, .inr (11, [.int r0, .ref a1, .int (iI x0), .int (iI x1), .int (iI x2), .int (iI z1), .int (iI z1), .int (iI 4), .int r1, .int (iI (f0 z1)), .int (iI x7), .int (iI x8), .long y0, .int (iI x9), .ref a2, .ref a3, .ref a4, .ref a5, .ref a6, .ref a7, .ref a8, .ref a9, .ref a10, .ref a11, .int (iI x10), .ref a12, .ref a13, .ref a14, .ref a15, .int (iI x11), .int r2, .int r3, .ref a16, .int (iI x12), .int (iI x13), .ref a17, .ref a18, .int (iI x14), .ref a19, .int (iI x15), .int r4, .ref a20, .ref a21, .int (iI x16), .int r5, .ref a22, .int (iI x17), .int (iI x18), .int (iI x19), .int (iI x20)])), (a1, .inl (T 0, 940, .inl (cI f0)))]) M w 0 9 clX12 rfl (by decide) G1472 rfl rfl rfl rfl (Nat.le_of_ble_eq_true rfl) rfl dX12_go_184 (fun H locs w => ?_)
                                refine lv_aload_n hx hb dX12_go_187 rfl (lv_at hl 1 rfl) ?_
                                refine lv_dup hx hb dX12_go_188 rfl ?_
                                refine r_get (v := .int (iI z1)) M w 0 5 clX12 rfl (by decide) G1468 rfl rfl dX12_go_189 ?_
                                refine lv_iconst (v := iI 1) hx hb dX12_go_192 (by decide +kernel) ?_
                                refine r_iadd (v := iI (z1 + 1)) M (iI_add _ _) dX12_go_193 ?_
                                refine r_put (ws' := [(a0, .inr (11, [.int r0, .ref a1, .int (iI x0), .int (iI x1), .int (iI x2), .int (iI (z1 + 1)), .int (iI z1), .int (iI 4), .int r1, .int (iI (f0 z1)), .int (iI x7), .int (iI x8), .long y0, .int (iI x9), .ref a2, .ref a3, .ref a4, .ref a5, .ref a6, .ref a7, .ref a8, .ref a9, .ref a10, .ref a11, .int (iI x10), .ref a12, .ref a13, .ref a14, .ref a15, .int (iI x11), .int r2, .int r3, .ref a16, .int (iI x12), .int (iI x13), .ref a17, .ref a18, .int (iI x14), .ref a19, .int (iI x15), .int r4, .ref a20, .ref a21, .int (iI x16), .int r5, .ref a22, .int (iI x17), .int (iI x18), .int (iI x19), .int (iI x20)])), (a1, .inl (T 0, 940, .inl (cI f0)))]) M w 0 5 clX12 rfl (by decide) G1468 rfl rfl rfl rfl (Nat.le_of_ble_eq_true rfl) rfl dX12_go_194 (fun H locs w => ?_)
                                exact ret ((z1 + 1), z1, 4, r1, (f0 z1), y0) _ _ _ _ _ [0, 1] dX12_go_197 ⟨(show 0 ≤ (z1 + 1) from by omega), (show (z1 + 1) ≤ 940 from by omega), z1_a, z1_b, (show (0 : Int) ≤ 4 from by decide), (show (4 : Int) ≤ 4 from by decide), (show (-2147483648) ≤ (f0 z1) from by omega), (show (f0 z1) ≤ 2147483647 from by omega), (show 0 ≤ ((z1 + 1) - x3) from by omega), (show 0 ≤ ((((z1 + 1) - x3) - 4) + 3) from by omega), (show gT (tkAt f0 x1 x2 x3) 4 z1 (z1 + 1) y0 r1 (f0 z1) from (by rw [tk_sg (lq1_s.trans (sk_e (by omega))) (by omega) (by omega) (nld pq15 (by omega) pq96 (by omega)) (by omega)]; exact ⟨rfl, rfl, rfl, rfl⟩))⟩ w (by decide) rfl
              · replace c_11 : x1 ≤ z1 := Int.not_lt.mp (fun h => c_11 ((iI_lt (Int.le_trans (by decide) z1_a) (Int.le_trans z1_b (by decide)) (Int.le_trans (by decide) x1_a) (Int.le_trans x1_b (by decide))).mpr h))
                exfalso; omega
            · replace c_10 : x2 < x1 := Int.not_le.mp (fun h => c_10 ((iI_le (Int.le_trans (by decide) x1_a) (Int.le_trans x1_b (by decide)) (Int.le_trans (by decide) x2_a) (Int.le_trans x2_b (by decide))).mpr h))
              refine lv_aload_n hx hb dX12_go_71 rfl (lv_at hl 0 rfl) ?_
              refine r_get (v := .int (iI z1)) M w 0 6 clX12 rfl (by decide) G1469 rfl rfl dX12_go_72 ?_
              refine lv_aload_n hx hb dX12_go_75 rfl (lv_at hl 0 rfl) ?_
              refine r_get (v := .int (iI x2)) M w 0 4 clX12 rfl (by decide) G1467 rfl rfl dX12_go_76 ?_
              refine lv_icmp_lt (tgt := 96) hx hb dX12_go_79 (by decide) (fun c_181 => ?_) (fun c_181 => ?_)
              · replace c_181 := (iI_lt (Int.le_trans (by decide) z1_a) (Int.le_trans z1_b (by decide)) (Int.le_trans (by decide) x2_a) (Int.le_trans x2_b (by decide))).mp c_181
                refine lv_aload_n hx hb dX12_go_96 rfl (lv_at hl 0 rfl) ?_
                refine r_get (v := .int (iI z1)) M w 0 5 clX12 rfl (by decide) G1468 rfl rfl dX12_go_97 ?_
                refine lv_aload_n hx hb dX12_go_100 rfl (lv_at hl 0 rfl) ?_
                refine r_get (v := .int (iI x1)) M w 0 3 clX12 rfl (by decide) G1466 rfl rfl dX12_go_101 ?_
                refine lv_icmp_lt (tgt := 113) hx hb dX12_go_104 (by decide) (fun c_182 => ?_) (fun c_182 => ?_)
                · replace c_182 := (iI_lt (Int.le_trans (by decide) z1_a) (Int.le_trans z1_b (by decide)) (Int.le_trans (by decide) x1_a) (Int.le_trans x1_b (by decide))).mp c_182
                  refine lv_aload_n hx hb dX12_go_113 rfl (lv_at hl 0 rfl) ?_
                  refine r_get (v := .ref a1) M w 0 1 clX12 rfl (by decide) G1464 rfl rfl dX12_go_114 ?_
                  refine lv_aload_n hx hb dX12_go_117 rfl (lv_at hl 0 rfl) ?_
                  refine r_get (v := .int (iI z1)) M w 0 5 clX12 rfl (by decide) G1468 rfl rfl dX12_go_118 ?_
                  refine r_iald (v := iI (f0 z1)) M w 1 rfl (iI_in (by omega) (by omega) (by decide)) (cI_at (by omega) (by omega)) dX12_go_121 ?_
                  have hh183 : 0 ≤ (f0 z1) ∧ (f0 z1) ≤ 255 := f0_h z1
                  refine lv_istore_n (lv' := [(1, .int (iI (f0 z1))), (0, .ref a0)]) hx hb dX12_go_122 rfl hl (by decide) rfl (fun ls hl => ?_)
                  refine lv_iload_n hx hb dX12_go_123 rfl (lv_at hl 0 rfl) ?_
                  refine k_I (ce := 0) (sl := 0) (rest := []) (wr := [(a0, .inr (11, [.int r0, .ref a1, .int (iI x0), .int (iI x1), .int (iI x2), .int (iI z1), .int (iI z1), .int (iI x5), .int r1, .int (iI x6), .int (iI x7), .int (iI x8), .long y0, .int (iI x9), .ref a2, .ref a3, .ref a4, .ref a5, .ref a6, .ref a7, .ref a8, .ref a9, .ref a10, .ref a11, .int (iI x10), .ref a12, .ref a13, .ref a14, .ref a15, .int (iI x11), .int r2, .int r3, .ref a16, .int (iI x12), .int (iI x13), .ref a17, .ref a18, .int (iI x14), .ref a19, .int (iI x15), .int r4, .ref a20, .ref a21, .int (iI x16), .int r5, .ref a22, .int (iI x17), .int (iI x18), .int (iI x19), .int (iI x20)])), (a1, .inl (T 0, 940, .inl (cI f0)))]) (r_S (f := 0) [] M w V_HookedCityModel_33 G1632 (c11_X12_isLetter l D T _ (f0 z1) (by omega) (by omega)) rfl (by decide) rfl hl.1 rfl (Nat.le_of_ble_eq_true rfl) dX12_go_124 (by decide) (by decide) (by decide) (by decide)) w [] [0, 1] rfl rfl (by decide) (by decide) rfl rfl (fun v z184 H locs hp w => ?_)
                  have hv : iI z184 = v := hp.1
                  subst hv
                  have z184_a : 0 ≤ z184 := hp.2.1
                  have z184_b : z184 ≤ 1 := hp.2.2.1
                  have ee185 : 0 ≤ (((f0 z1) + 4294967296) - (z184 * 4294967393)) := hp.2.2.2.1
                  have pq186 : lq z184 (f0 z1) 97 122 := hp.2.2.2.2
                  have w : WD D A s.heap [(a0, .inr (11, [.int r0, .ref a1, .int (iI x0), .int (iI x1), .int (iI x2), .int (iI z1), .int (iI z1), .int (iI x5), .int r1, .int (iI x6), .int (iI x7), .int (iI x8), .long y0, .int (iI x9), .ref a2, .ref a3, .ref a4, .ref a5, .ref a6, .ref a7, .ref a8, .ref a9, .ref a10, .ref a11, .int (iI x10), .ref a12, .ref a13, .ref a14, .ref a15, .int (iI x11), .int r2, .int r3, .ref a16, .int (iI x12), .int (iI x13), .ref a17, .ref a18, .int (iI x14), .ref a19, .int (iI x15), .int r4, .ref a20, .ref a21, .int (iI x16), .int r5, .ref a22, .int (iI x17), .int (iI x18), .int (iI x19), .int (iI x20)])), (a1, .inl (T 0, 940, .inl (cI f0)))] H locs := w
                  refine lv_if_ne (tgt := 198) hx hb dX12_go_127 (by decide) (fun c_187 => ?_) (fun c_187 => ?_)
                  · replace c_187 : ¬ z184 = 0 := fun h => c_187 ((iz_eq (Int.le_trans (by decide) z184_a) (Int.le_trans z184_b (by decide))).mpr h)
                    refine lv_iload_n hx hb dX12_go_198 rfl (lv_at hl 0 rfl) ?_
                    refine k_I (ce := 0) (sl := 0) (rest := []) (wr := [(a0, .inr (11, [.int r0, .ref a1, .int (iI x0), .int (iI x1), .int (iI x2), .int (iI z1), .int (iI z1), .int (iI x5), .int r1, .int (iI x6), .int (iI x7), .int (iI x8), .long y0, .int (iI x9), .ref a2, .ref a3, .ref a4, .ref a5, .ref a6, .ref a7, .ref a8, .ref a9, .ref a10, .ref a11, .int (iI x10), .ref a12, .ref a13, .ref a14, .ref a15, .int (iI x11), .int r2, .int r3, .ref a16, .int (iI x12), .int (iI x13), .ref a17, .ref a18, .int (iI x14), .ref a19, .int (iI x15), .int r4, .ref a20, .ref a21, .int (iI x16), .int r5, .ref a22, .int (iI x17), .int (iI x18), .int (iI x19), .int (iI x20)])), (a1, .inl (T 0, 940, .inl (cI f0)))]) (r_S (f := 0) [] M w V_HookedCityModel_33 G1632 (c11_X12_isLetter l D T _ (f0 z1) (by omega) (by omega)) rfl (by decide) rfl hl.1 rfl (Nat.le_of_ble_eq_true rfl) dX12_go_199 (by decide) (by decide) (by decide) (by decide)) w [] [0, 1] rfl rfl (by decide) (by decide) rfl rfl (fun v z188 H locs hp w => ?_)
                    have hv : iI z188 = v := hp.1
                    subst hv
                    have z188_a : 0 ≤ z188 := hp.2.1
                    have z188_b : z188 ≤ 1 := hp.2.2.1
                    have ee189 : 0 ≤ (((f0 z1) + 4294967296) - (z188 * 4294967393)) := hp.2.2.2.1
                    have pq190 : lq z188 (f0 z1) 97 122 := hp.2.2.2.2
                    have w : WD D A s.heap [(a0, .inr (11, [.int r0, .ref a1, .int (iI x0), .int (iI x1), .int (iI x2), .int (iI z1), .int (iI z1), .int (iI x5), .int r1, .int (iI x6), .int (iI x7), .int (iI x8), .long y0, .int (iI x9), .ref a2, .ref a3, .ref a4, .ref a5, .ref a6, .ref a7, .ref a8, .ref a9, .ref a10, .ref a11, .int (iI x10), .ref a12, .ref a13, .ref a14, .ref a15, .int (iI x11), .int r2, .int r3, .ref a16, .int (iI x12), .int (iI x13), .ref a17, .ref a18, .int (iI x14), .ref a19, .int (iI x15), .int r4, .ref a20, .ref a21, .int (iI x16), .int r5, .ref a22, .int (iI x17), .int (iI x18), .int (iI x19), .int (iI x20)])), (a1, .inl (T 0, 940, .inl (cI f0)))] H locs := w
                    refine lv_istore_n (lv' := [(2, .int (iI z188)), (1, .int (iI (f0 z1))), (0, .ref a0)]) hx hb dX12_go_202 rfl hl (by decide) rfl (fun ls hl => ?_)
                    refine lv_iconst (v := iI 1) hx hb dX12_go_203 (by decide +kernel) ?_
                    refine lv_istore_n (lv' := [(3, .int (iI 1)), (2, .int (iI z188)), (1, .int (iI (f0 z1))), (0, .ref a0)]) hx hb dX12_go_204 rfl hl (by decide) rfl (fun ls hl => ?_)
                    refine lv_aload_n hx hb dX12_go_205 rfl (lv_at hl 3 rfl) ?_
                    refine lv_lconst (v := 0) hx hb dX12_go_206 (by decide) ?_
                    refine r_put (ws' := [(a0, .inr (11, [.int r0, .ref a1, .int (iI x0), .int (iI x1), .int (iI x2), .int (iI z1), .int (iI z1), .int (iI x5), .int r1, .int (iI x6), .int (iI x7), .int (iI x8), .long 0, .int (iI x9), .ref a2, .ref a3, .ref a4, .ref a5, .ref a6, .ref a7, .ref a8, .ref a9, .ref a10, .ref a11, .int (iI x10), .ref a12, .ref a13, .ref a14, .ref a15, .int (iI x11), .int r2, .int r3, .ref a16, .int (iI x12), .int (iI x13), .ref a17, .ref a18, .int (iI x14), .ref a19, .int (iI x15), .int r4, .ref a20, .ref a21, .int (iI x16), .int r5, .ref a22, .int (iI x17), .int (iI x18), .int (iI x19), .int (iI x20)])), (a1, .inl (T 0, 940, .inl (cI f0)))]) M w 0 12 clX12 rfl (by decide) G1475 rfl rfl rfl rfl (Nat.le_of_ble_eq_true rfl) rfl dX12_go_207 (fun H locs w => ?_)
                    refine lv_aload_n hx hb dX12_go_210 rfl (lv_at hl 3 rfl) ?_
                    refine lv_iconst (v := iI 0) hx hb dX12_go_211 (by decide +kernel) ?_
                    refine r_put (ws' := [(a0, .inr (11, [.int r0, .ref a1, .int (iI x0), .int (iI x1), .int (iI x2), .int (iI z1), .int (iI z1), .int (iI x5), .int (iI 0), .int (iI x6), .int (iI x7), .int (iI x8), .long 0, .int (iI x9), .ref a2, .ref a3, .ref a4, .ref a5, .ref a6, .ref a7, .ref a8, .ref a9, .ref a10, .ref a11, .int (iI x10), .ref a12, .ref a13, .ref a14, .ref a15, .int (iI x11), .int r2, .int r3, .ref a16, .int (iI x12), .int (iI x13), .ref a17, .ref a18, .int (iI x14), .ref a19, .int (iI x15), .int r4, .ref a20, .ref a21, .int (iI x16), .int r5, .ref a22, .int (iI x17), .int (iI x18), .int (iI x19), .int (iI x20)])), (a1, .inl (T 0, 940, .inl (cI f0)))]) M w 0 8 clX12 rfl (by decide) G1471 rfl rfl rfl rfl (Nat.le_of_ble_eq_true rfl) rfl dX12_go_212 (fun H locs w => ?_)
                    have loop2 : ∀ (k2 : Nat) (fy191 : Int64) (z192 : Int) (fr193 : Int32) (z194 : Int) (H : Heap) (locs : List Loc) (ls : Array Slot), 0 ≤ z192 → z192 ≤ 940 → 0 ≤ z194 → z194 ≤ 1 → 0 ≤ (z192 - x3) → 0 ≤ (z192 - z1) → rn f0 x1 z1 = rn f0 x1 z192 → aR f0 z1 z192 → gdI f0 z1 z192 z188 z194 → wI f0 z1 z192 fy191 fr193 → ((x1 - z192) : Int).toNat < k2 → WD D A s.heap [(a0, .inr (11, [.int r0, .ref a1, .int (iI x0), .int (iI x1), .int (iI x2), .int (iI z192), .int (iI z1), .int (iI x5), .int fr193, .int (iI x6), .int (iI x7), .int (iI x8), .long fy191, .int (iI x9), .ref a2, .ref a3, .ref a4, .ref a5, .ref a6, .ref a7, .ref a8, .ref a9, .ref a10, .ref a11, .int (iI x10), .ref a12, .ref a13, .ref a14, .ref a15, .int (iI x11), .int r2, .int r3, .ref a16, .int (iI x12), .int (iI x13), .ref a17, .ref a18, .int (iI x14), .ref a19, .int (iI x15), .int r4, .ref a20, .ref a21, .int (iI x16), .int r5, .ref a22, .int (iI x17), .int (iI x18), .int (iI x19), .int (iI x20)])), (a1, .inl (T 0, 940, .inl (cI f0)))] H locs → lv_has ls 5 [(3, .int (iI z194)), (2, .int (iI z188)), (1, .int (iI (f0 z1))), (0, .ref a0)] → W p l e (Rm 1 0 0) s m args below meth c H locs 0 0 Q (F0 m 215 ls []) := by
                      intro k2
                      induction k2 with
                      | zero => intro fy191 z192 fr193 z194 H locs ls z192_a z192_b z194_a z194_b q2_0 q2_1 lq2_r lq2_a lq2_g lq2_w hm; exact absurd hm (Nat.not_lt_zero _)
                      | succ k2 ih2 =>
                        intro fy191 z192 fr193 z194 H locs ls z192_a z192_b z194_a z194_b q2_0 q2_1 lq2_r lq2_a lq2_g lq2_w hm2 w hl
                        refine lv_aload_n hx hb dX12_go_215 rfl (lv_at hl 3 rfl) ?_
                        refine lv_aload_n hx hb dX12_go_216 rfl (lv_at hl 3 rfl) ?_
                        refine r_get (v := .int (iI z192)) M w 0 5 clX12 rfl (by decide) G1468 rfl rfl dX12_go_217 ?_
                        refine k_I (ce := 0) (sl := 0) (rest := []) (wr := []) (r_V (f := 0) [0, 1] M w V_HookedCityModel_50 G1639 G50 (c9_X12_tapeAt l D T _ a0 z192 r0 a1 x0 x1 x2 z192 z1 x5 fr193 x6 x7 x8 fy191 x9 a2 a3 a4 a5 a6 a7 a8 a9 a10 a11 x10 a12 a13 a14 a15 x11 r2 r3 a16 x12 x13 a17 a18 x14 a19 x15 r4 a20 a21 x16 r5 a22 x17 x18 x19 x20 f0 z192_a z192_b x0_a x0_b x1_a x1_b x2_a x2_b z192_a z192_b z1_a z1_b x5_a x5_b x6_a x6_b x7_a x7_b x8_a x8_b x9_a x9_b x10_a x10_b x11_a x11_b x12_a x12_b x13_a x13_b x14_a x14_b x15_a x15_b x16_a x16_b x17_a x17_b x18_a x18_b x19_a x19_b x20_a x20_b f0_h) 0 clX12 rfl rfl (by decide) rfl hl.1 rfl (Nat.le_of_ble_eq_true rfl) dX12_go_220 (by decide) (by decide) (by decide) (by decide)) w [0, 1] [] rfl rfl (by decide) (by decide) rfl rfl (fun v z195 H locs hp w => ?_)
                        have hv : iI z195 = v := hp.1
                        subst hv
                        have z195_a : (-2147483648) ≤ z195 := hp.2.1
                        have z195_b : z195 ≤ 2147483647 := hp.2.2.1
                        have pq196 : taQ z192 x1 z195 (f0 z192) := hp.2.2.2.1
                        have w : WD D A s.heap [(a0, .inr (11, [.int r0, .ref a1, .int (iI x0), .int (iI x1), .int (iI x2), .int (iI z192), .int (iI z1), .int (iI x5), .int fr193, .int (iI x6), .int (iI x7), .int (iI x8), .long fy191, .int (iI x9), .ref a2, .ref a3, .ref a4, .ref a5, .ref a6, .ref a7, .ref a8, .ref a9, .ref a10, .ref a11, .int (iI x10), .ref a12, .ref a13, .ref a14, .ref a15, .int (iI x11), .int r2, .int r3, .ref a16, .int (iI x12), .int (iI x13), .ref a17, .ref a18, .int (iI x14), .ref a19, .int (iI x15), .int r4, .ref a20, .ref a21, .int (iI x16), .int r5, .ref a22, .int (iI x17), .int (iI x18), .int (iI x19), .int (iI x20)])), (a1, .inl (T 0, 940, .inl (cI f0)))] H locs := w
                        rcases hp.2.2.2.2 with ⟨c_197, hr⟩ | c_198
                        · subst hr
                          refine k_I (ce := 0) (sl := 0) (rest := []) (wr := [(a0, .inr (11, [.int r0, .ref a1, .int (iI x0), .int (iI x1), .int (iI x2), .int (iI z192), .int (iI z1), .int (iI x5), .int fr193, .int (iI x6), .int (iI x7), .int (iI x8), .long fy191, .int (iI x9), .ref a2, .ref a3, .ref a4, .ref a5, .ref a6, .ref a7, .ref a8, .ref a9, .ref a10, .ref a11, .int (iI x10), .ref a12, .ref a13, .ref a14, .ref a15, .int (iI x11), .int r2, .int r3, .ref a16, .int (iI x12), .int (iI x13), .ref a17, .ref a18, .int (iI x14), .ref a19, .int (iI x15), .int r4, .ref a20, .ref a21, .int (iI x16), .int r5, .ref a22, .int (iI x17), .int (iI x18), .int (iI x19), .int (iI x20)])), (a1, .inl (T 0, 940, .inl (cI f0)))]) (r_S (f := 0) [] M w V_HookedCityModel_33 G1632 (c11_X12_isLetter l D T _ 0 (by decide) (by decide)) rfl (by decide) rfl hl.1 rfl (Nat.le_of_ble_eq_true rfl) dX12_go_223 (by decide) (by decide) (by decide) (by decide)) w [] [0, 1] rfl rfl (by decide) (by decide) rfl rfl (fun v z199 H locs hp w => ?_)
                          have hv : iI z199 = v := hp.1
                          subst hv
                          have z199_a : 0 ≤ z199 := hp.2.1
                          have z199_b : z199 ≤ 1 := hp.2.2.1
                          have ee200 : 0 ≤ ((0 + 4294967296) - (z199 * 4294967393)) := hp.2.2.2.1
                          have pq201 : lq z199 0 97 122 := hp.2.2.2.2
                          have w : WD D A s.heap [(a0, .inr (11, [.int r0, .ref a1, .int (iI x0), .int (iI x1), .int (iI x2), .int (iI z192), .int (iI z1), .int (iI x5), .int fr193, .int (iI x6), .int (iI x7), .int (iI x8), .long fy191, .int (iI x9), .ref a2, .ref a3, .ref a4, .ref a5, .ref a6, .ref a7, .ref a8, .ref a9, .ref a10, .ref a11, .int (iI x10), .ref a12, .ref a13, .ref a14, .ref a15, .int (iI x11), .int r2, .int r3, .ref a16, .int (iI x12), .int (iI x13), .ref a17, .ref a18, .int (iI x14), .ref a19, .int (iI x15), .int r4, .ref a20, .ref a21, .int (iI x16), .int r5, .ref a22, .int (iI x17), .int (iI x18), .int (iI x19), .int (iI x20)])), (a1, .inl (T 0, 940, .inl (cI f0)))] H locs := w
                          refine lv_if_ne (tgt := 243) hx hb dX12_go_226 (by decide) (fun c_202 => ?_) (fun c_202 => ?_)
                          · replace c_202 : ¬ z199 = 0 := fun h => c_202 ((iz_eq (Int.le_trans (by decide) z199_a) (Int.le_trans z199_b (by decide))).mpr h)
                            exfalso; omega
                          · replace c_202 := (iz_eq (Int.le_trans (by decide) z199_a) (Int.le_trans z199_b (by decide))).mp c_202
                            refine lv_aload_n hx hb dX12_go_229 rfl (lv_at hl 3 rfl) ?_
                            refine lv_aload_n hx hb dX12_go_230 rfl (lv_at hl 3 rfl) ?_
                            refine r_get (v := .int (iI z192)) M w 0 5 clX12 rfl (by decide) G1468 rfl rfl dX12_go_231 ?_
                            refine k_I (ce := 0) (sl := 0) (rest := []) (wr := []) (r_V (f := 0) [0, 1] M w V_HookedCityModel_50 G1639 G50 (c9_X12_tapeAt l D T _ a0 z192 r0 a1 x0 x1 x2 z192 z1 x5 fr193 x6 x7 x8 fy191 x9 a2 a3 a4 a5 a6 a7 a8 a9 a10 a11 x10 a12 a13 a14 a15 x11 r2 r3 a16 x12 x13 a17 a18 x14 a19 x15 r4 a20 a21 x16 r5 a22 x17 x18 x19 x20 f0 z192_a z192_b x0_a x0_b x1_a x1_b x2_a x2_b z192_a z192_b z1_a z1_b x5_a x5_b x6_a x6_b x7_a x7_b x8_a x8_b x9_a x9_b x10_a x10_b x11_a x11_b x12_a x12_b x13_a x13_b x14_a x14_b x15_a x15_b x16_a x16_b x17_a x17_b x18_a x18_b x19_a x19_b x20_a x20_b f0_h) 0 clX12 rfl rfl (by decide) rfl hl.1 rfl (Nat.le_of_ble_eq_true rfl) dX12_go_234 (by decide) (by decide) (by decide) (by decide)) w [0, 1] [] rfl rfl (by decide) (by decide) rfl rfl (fun v z203 H locs hp w => ?_)
                            have hv : iI z203 = v := hp.1
                            subst hv
                            have z203_a : (-2147483648) ≤ z203 := hp.2.1
                            have z203_b : z203 ≤ 2147483647 := hp.2.2.1
                            have pq204 : taQ z192 x1 z203 (f0 z192) := hp.2.2.2.1
                            have w : WD D A s.heap [(a0, .inr (11, [.int r0, .ref a1, .int (iI x0), .int (iI x1), .int (iI x2), .int (iI z192), .int (iI z1), .int (iI x5), .int fr193, .int (iI x6), .int (iI x7), .int (iI x8), .long fy191, .int (iI x9), .ref a2, .ref a3, .ref a4, .ref a5, .ref a6, .ref a7, .ref a8, .ref a9, .ref a10, .ref a11, .int (iI x10), .ref a12, .ref a13, .ref a14, .ref a15, .int (iI x11), .int r2, .int r3, .ref a16, .int (iI x12), .int (iI x13), .ref a17, .ref a18, .int (iI x14), .ref a19, .int (iI x15), .int r4, .ref a20, .ref a21, .int (iI x16), .int r5, .ref a22, .int (iI x17), .int (iI x18), .int (iI x19), .int (iI x20)])), (a1, .inl (T 0, 940, .inl (cI f0)))] H locs := w
                            rcases hp.2.2.2.2 with ⟨c_205, hr⟩ | c_206
                            · subst hr
                              refine k_I (ce := 0) (sl := 0) (rest := []) (wr := [(a0, .inr (11, [.int r0, .ref a1, .int (iI x0), .int (iI x1), .int (iI x2), .int (iI z192), .int (iI z1), .int (iI x5), .int fr193, .int (iI x6), .int (iI x7), .int (iI x8), .long fy191, .int (iI x9), .ref a2, .ref a3, .ref a4, .ref a5, .ref a6, .ref a7, .ref a8, .ref a9, .ref a10, .ref a11, .int (iI x10), .ref a12, .ref a13, .ref a14, .ref a15, .int (iI x11), .int r2, .int r3, .ref a16, .int (iI x12), .int (iI x13), .ref a17, .ref a18, .int (iI x14), .ref a19, .int (iI x15), .int r4, .ref a20, .ref a21, .int (iI x16), .int r5, .ref a22, .int (iI x17), .int (iI x18), .int (iI x19), .int (iI x20)])), (a1, .inl (T 0, 940, .inl (cI f0)))]) (r_S (f := 0) [] M w V_HookedCityModel_37 G1635 (c10_X12_isDigit l D T _ 0 (by decide) (by decide)) rfl (by decide) rfl hl.1 rfl (Nat.le_of_ble_eq_true rfl) dX12_go_237 (by decide) (by decide) (by decide) (by decide)) w [] [0, 1] rfl rfl (by decide) (by decide) rfl rfl (fun v z207 H locs hp w => ?_)
                              have hv : iI z207 = v := hp.1
                              subst hv
                              have z207_a : 0 ≤ z207 := hp.2.1
                              have z207_b : z207 ≤ 1 := hp.2.2.1
                              have ee208 : 0 ≤ ((0 + 4294967296) - (z207 * 4294967344)) := hp.2.2.2.1
                              have pq209 : lq z207 0 48 57 := hp.2.2.2.2
                              have w : WD D A s.heap [(a0, .inr (11, [.int r0, .ref a1, .int (iI x0), .int (iI x1), .int (iI x2), .int (iI z192), .int (iI z1), .int (iI x5), .int fr193, .int (iI x6), .int (iI x7), .int (iI x8), .long fy191, .int (iI x9), .ref a2, .ref a3, .ref a4, .ref a5, .ref a6, .ref a7, .ref a8, .ref a9, .ref a10, .ref a11, .int (iI x10), .ref a12, .ref a13, .ref a14, .ref a15, .int (iI x11), .int r2, .int r3, .ref a16, .int (iI x12), .int (iI x13), .ref a17, .ref a18, .int (iI x14), .ref a19, .int (iI x15), .int r4, .ref a20, .ref a21, .int (iI x16), .int r5, .ref a22, .int (iI x17), .int (iI x18), .int (iI x19), .int (iI x20)])), (a1, .inl (T 0, 940, .inl (cI f0)))] H locs := w
                              refine lv_if_eq (tgt := 350) hx hb dX12_go_240 (by decide) (fun c_210 => ?_) (fun c_210 => ?_)
                              · replace c_210 := (iz_eq (Int.le_trans (by decide) z207_a) (Int.le_trans z207_b (by decide))).mp c_210
                                refine lv_aload_n hx hb dX12_go_350 rfl (lv_at hl 3 rfl) ?_
                                refine lv_iload_n hx hb dX12_go_351 rfl (lv_at hl 0 rfl) ?_
                                refine lv_if_eq (tgt := 377) hx hb dX12_go_352 (by decide) (fun c_211 => ?_) (fun c_211 => ?_)
                                · replace c_211 := (iz_eq (Int.le_trans (by decide) z194_a) (Int.le_trans z194_b (by decide))).mp c_211
                                  refine lv_iconst (v := iI 1) hx hb dX12_go_377 (by decide +kernel) ?_
                                  refine lv_goto (tgt := 390) hx hb dX12_go_378 (by decide) ?_
                                  refine r_put (ws' := [(a0, .inr (11, [.int r0, .ref a1, .int (iI x0), .int (iI x1), .int (iI x2), .int (iI z192), .int (iI z1), .int (iI 1), .int fr193, .int (iI x6), .int (iI x7), .int (iI x8), .long fy191, .int (iI x9), .ref a2, .ref a3, .ref a4, .ref a5, .ref a6, .ref a7, .ref a8, .ref a9, .ref a10, .ref a11, .int (iI x10), .ref a12, .ref a13, .ref a14, .ref a15, .int (iI x11), .int r2, .int r3, .ref a16, .int (iI x12), .int (iI x13), .ref a17, .ref a18, .int (iI x14), .ref a19, .int (iI x15), .int r4, .ref a20, .ref a21, .int (iI x16), .int r5, .ref a22, .int (iI x17), .int (iI x18), .int (iI x19), .int (iI x20)])), (a1, .inl (T 0, 940, .inl (cI f0)))]) M w 0 7 clX12 rfl (by decide) G1470 rfl rfl rfl rfl (Nat.le_of_ble_eq_true rfl) rfl dX12_go_390 (fun H locs w => ?_)
                                  exact ret (z192, z1, 1, fr193, x6, fy191) _ _ _ _ _ [0, 1] dX12_go_393 ⟨z192_a, z192_b, z1_a, z1_b, (show (0 : Int) ≤ 1 from by decide), (show (1 : Int) ≤ 4 from by decide), x6_a, x6_b, (show 0 ≤ (z192 - x3) from by omega), (show 0 ≤ (((z192 - x3) - 1) + 3) from by omega), (show gT (tkAt f0 x1 x2 x3) 1 z1 z192 fy191 fr193 x6 from (by rw [tk_run (lq1_s.trans (sk_e (by omega))) (by omega) (by omega) (Or.inl (lq_1 pq186 (by omega))) (lq2_r.trans (rn_e (ta_E pq196 pq201 (by omega) pq204 pq209 (by omega))))]; exact ⟨rfl, rfl, go_fin lq2_a lq2_g pq190 (lq2_r.trans (rn_e (ta_E pq196 pq201 (by omega) pq204 pq209 (by omega)))) (by omega) (Or.inl (lq_1 pq186 (by omega))) lq2_w (by omega)⟩))⟩ w (by decide) rfl
                                · replace c_211 : ¬ z194 = 0 := fun h => c_211 ((iz_eq (Int.le_trans (by decide) z194_a) (Int.le_trans z194_b (by decide))).mpr h)
                                  refine lv_aload_n hx hb dX12_go_355 rfl (lv_at hl 3 rfl) ?_
                                  refine r_get (v := .int (iI z192)) M w 0 5 clX12 rfl (by decide) G1468 rfl rfl dX12_go_356 ?_
                                  refine lv_aload_n hx hb dX12_go_359 rfl (lv_at hl 3 rfl) ?_
                                  refine r_get (v := .int (iI z1)) M w 0 6 clX12 rfl (by decide) G1469 rfl rfl dX12_go_360 ?_
                                  refine r_isub (v := iI (z192 - z1)) M (iI_sub _ _) dX12_go_363 ?_
                                  refine lv_iload_n hx hb dX12_go_364 rfl (lv_at hl 1 rfl) ?_
                                  refine lv_if_eq (tgt := 373) hx hb dX12_go_365 (by decide) (fun c_212 => ?_) (fun c_212 => ?_)
                                  · replace c_212 := (iz_eq (Int.le_trans (by decide) z188_a) (Int.le_trans z188_b (by decide))).mp c_212
                                    refine lv_iconst (v := iI 3) hx hb dX12_go_373 (by decide +kernel) ?_
                                    refine lv_icmp_le (tgt := 381) hx hb dX12_go_374 (by decide) (fun c_213 => ?_) (fun c_213 => ?_)
                                    · replace c_213 := (iI_le (by omega) (by omega) (by decide) (by decide)).mp c_213
                                      refine lv_iload_n hx hb dX12_go_381 rfl (lv_at hl 1 rfl) ?_
                                      refine lv_if_eq (tgt := 389) hx hb dX12_go_382 (by decide) (fun c_214 => ?_) (fun c_214 => ?_)
                                      · replace c_214 := (iz_eq (Int.le_trans (by decide) z188_a) (Int.le_trans z188_b (by decide))).mp c_214
                                        refine lv_iconst (v := iI 3) hx hb dX12_go_389 (by decide +kernel) ?_
                                        refine r_put (ws' := [(a0, .inr (11, [.int r0, .ref a1, .int (iI x0), .int (iI x1), .int (iI x2), .int (iI z192), .int (iI z1), .int (iI 3), .int fr193, .int (iI x6), .int (iI x7), .int (iI x8), .long fy191, .int (iI x9), .ref a2, .ref a3, .ref a4, .ref a5, .ref a6, .ref a7, .ref a8, .ref a9, .ref a10, .ref a11, .int (iI x10), .ref a12, .ref a13, .ref a14, .ref a15, .int (iI x11), .int r2, .int r3, .ref a16, .int (iI x12), .int (iI x13), .ref a17, .ref a18, .int (iI x14), .ref a19, .int (iI x15), .int r4, .ref a20, .ref a21, .int (iI x16), .int r5, .ref a22, .int (iI x17), .int (iI x18), .int (iI x19), .int (iI x20)])), (a1, .inl (T 0, 940, .inl (cI f0)))]) M w 0 7 clX12 rfl (by decide) G1470 rfl rfl rfl rfl (Nat.le_of_ble_eq_true rfl) rfl dX12_go_390 (fun H locs w => ?_)
                                        exact ret (z192, z1, 3, fr193, x6, fy191) _ _ _ _ _ [0, 1] dX12_go_393 ⟨z192_a, z192_b, z1_a, z1_b, (show (0 : Int) ≤ 3 from by decide), (show (3 : Int) ≤ 4 from by decide), x6_a, x6_b, (show 0 ≤ (z192 - x3) from by omega), (show 0 ≤ (((z192 - x3) - 3) + 3) from by omega), (show gT (tkAt f0 x1 x2 x3) 3 z1 z192 fy191 fr193 x6 from (by rw [tk_run (lq1_s.trans (sk_e (by omega))) (by omega) (by omega) (Or.inl (lq_1 pq186 (by omega))) (lq2_r.trans (rn_e (ta_E pq196 pq201 (by omega) pq204 pq209 (by omega))))]; exact ⟨rfl, rfl, go_fin lq2_a lq2_g pq190 (lq2_r.trans (rn_e (ta_E pq196 pq201 (by omega) pq204 pq209 (by omega)))) (by omega) (Or.inl (lq_1 pq186 (by omega))) lq2_w (by omega)⟩))⟩ w (by decide) rfl
                                      · replace c_214 : ¬ z188 = 0 := fun h => c_214 ((iz_eq (Int.le_trans (by decide) z188_a) (Int.le_trans z188_b (by decide))).mpr h)
                                        exfalso; omega
                                    · replace c_213 : 3 < (z192 - z1) := Int.not_le.mp (fun h => c_213 ((iI_le (by omega) (by omega) (by decide) (by decide)).mpr h))
                                      refine lv_iconst (v := iI 1) hx hb dX12_go_377 (by decide +kernel) ?_
                                      refine lv_goto (tgt := 390) hx hb dX12_go_378 (by decide) ?_
                                      refine r_put (ws' := [(a0, .inr (11, [.int r0, .ref a1, .int (iI x0), .int (iI x1), .int (iI x2), .int (iI z192), .int (iI z1), .int (iI 1), .int fr193, .int (iI x6), .int (iI x7), .int (iI x8), .long fy191, .int (iI x9), .ref a2, .ref a3, .ref a4, .ref a5, .ref a6, .ref a7, .ref a8, .ref a9, .ref a10, .ref a11, .int (iI x10), .ref a12, .ref a13, .ref a14, .ref a15, .int (iI x11), .int r2, .int r3, .ref a16, .int (iI x12), .int (iI x13), .ref a17, .ref a18, .int (iI x14), .ref a19, .int (iI x15), .int r4, .ref a20, .ref a21, .int (iI x16), .int r5, .ref a22, .int (iI x17), .int (iI x18), .int (iI x19), .int (iI x20)])), (a1, .inl (T 0, 940, .inl (cI f0)))]) M w 0 7 clX12 rfl (by decide) G1470 rfl rfl rfl rfl (Nat.le_of_ble_eq_true rfl) rfl dX12_go_390 (fun H locs w => ?_)
                                      exact ret (z192, z1, 1, fr193, x6, fy191) _ _ _ _ _ [0, 1] dX12_go_393 ⟨z192_a, z192_b, z1_a, z1_b, (show (0 : Int) ≤ 1 from by decide), (show (1 : Int) ≤ 4 from by decide), x6_a, x6_b, (show 0 ≤ (z192 - x3) from by omega), (show 0 ≤ (((z192 - x3) - 1) + 3) from by omega), (show gT (tkAt f0 x1 x2 x3) 1 z1 z192 fy191 fr193 x6 from (by rw [tk_run (lq1_s.trans (sk_e (by omega))) (by omega) (by omega) (Or.inl (lq_1 pq186 (by omega))) (lq2_r.trans (rn_e (ta_E pq196 pq201 (by omega) pq204 pq209 (by omega))))]; exact ⟨rfl, rfl, go_fin lq2_a lq2_g pq190 (lq2_r.trans (rn_e (ta_E pq196 pq201 (by omega) pq204 pq209 (by omega)))) (by omega) (Or.inl (lq_1 pq186 (by omega))) lq2_w (by omega)⟩))⟩ w (by decide) rfl
                                  · replace c_212 : ¬ z188 = 0 := fun h => c_212 ((iz_eq (Int.le_trans (by decide) z188_a) (Int.le_trans z188_b (by decide))).mpr h)
                                    refine lv_bipush (v := iI 7) hx hb dX12_go_368 (by decide +kernel) ?_
                                    refine lv_goto (tgt := 374) hx hb dX12_go_370 (by decide) ?_
                                    refine lv_icmp_le (tgt := 381) hx hb dX12_go_374 (by decide) (fun c_215 => ?_) (fun c_215 => ?_)
                                    · replace c_215 := (iI_le (by omega) (by omega) (by decide) (by decide)).mp c_215
                                      refine lv_iload_n hx hb dX12_go_381 rfl (lv_at hl 1 rfl) ?_
                                      refine lv_if_eq (tgt := 389) hx hb dX12_go_382 (by decide) (fun c_216 => ?_) (fun c_216 => ?_)
                                      · replace c_216 := (iz_eq (Int.le_trans (by decide) z188_a) (Int.le_trans z188_b (by decide))).mp c_216
                                        exfalso; omega
                                      · replace c_216 : ¬ z188 = 0 := fun h => c_216 ((iz_eq (Int.le_trans (by decide) z188_a) (Int.le_trans z188_b (by decide))).mpr h)
                                        refine lv_iconst (v := iI 2) hx hb dX12_go_385 (by decide +kernel) ?_
                                        refine lv_goto (tgt := 390) hx hb dX12_go_386 (by decide) ?_
                                        refine r_put (ws' := [(a0, .inr (11, [.int r0, .ref a1, .int (iI x0), .int (iI x1), .int (iI x2), .int (iI z192), .int (iI z1), .int (iI 2), .int fr193, .int (iI x6), .int (iI x7), .int (iI x8), .long fy191, .int (iI x9), .ref a2, .ref a3, .ref a4, .ref a5, .ref a6, .ref a7, .ref a8, .ref a9, .ref a10, .ref a11, .int (iI x10), .ref a12, .ref a13, .ref a14, .ref a15, .int (iI x11), .int r2, .int r3, .ref a16, .int (iI x12), .int (iI x13), .ref a17, .ref a18, .int (iI x14), .ref a19, .int (iI x15), .int r4, .ref a20, .ref a21, .int (iI x16), .int r5, .ref a22, .int (iI x17), .int (iI x18), .int (iI x19), .int (iI x20)])), (a1, .inl (T 0, 940, .inl (cI f0)))]) M w 0 7 clX12 rfl (by decide) G1470 rfl rfl rfl rfl (Nat.le_of_ble_eq_true rfl) rfl dX12_go_390 (fun H locs w => ?_)
                                        exact ret (z192, z1, 2, fr193, x6, fy191) _ _ _ _ _ [0, 1] dX12_go_393 ⟨z192_a, z192_b, z1_a, z1_b, (show (0 : Int) ≤ 2 from by decide), (show (2 : Int) ≤ 4 from by decide), x6_a, x6_b, (show 0 ≤ (z192 - x3) from by omega), (show 0 ≤ (((z192 - x3) - 2) + 3) from by omega), (show gT (tkAt f0 x1 x2 x3) 2 z1 z192 fy191 fr193 x6 from (by rw [tk_run (lq1_s.trans (sk_e (by omega))) (by omega) (by omega) (Or.inl (lq_1 pq186 (by omega))) (lq2_r.trans (rn_e (ta_E pq196 pq201 (by omega) pq204 pq209 (by omega))))]; exact ⟨rfl, rfl, go_fin lq2_a lq2_g pq190 (lq2_r.trans (rn_e (ta_E pq196 pq201 (by omega) pq204 pq209 (by omega)))) (by omega) (Or.inl (lq_1 pq186 (by omega))) lq2_w (by omega)⟩))⟩ w (by decide) rfl
                                    · replace c_215 : 7 < (z192 - z1) := Int.not_le.mp (fun h => c_215 ((iI_le (by omega) (by omega) (by decide) (by decide)).mpr h))
                                      refine lv_iconst (v := iI 1) hx hb dX12_go_377 (by decide +kernel) ?_
                                      refine lv_goto (tgt := 390) hx hb dX12_go_378 (by decide) ?_
                                      refine r_put (ws' := [(a0, .inr (11, [.int r0, .ref a1, .int (iI x0), .int (iI x1), .int (iI x2), .int (iI z192), .int (iI z1), .int (iI 1), .int fr193, .int (iI x6), .int (iI x7), .int (iI x8), .long fy191, .int (iI x9), .ref a2, .ref a3, .ref a4, .ref a5, .ref a6, .ref a7, .ref a8, .ref a9, .ref a10, .ref a11, .int (iI x10), .ref a12, .ref a13, .ref a14, .ref a15, .int (iI x11), .int r2, .int r3, .ref a16, .int (iI x12), .int (iI x13), .ref a17, .ref a18, .int (iI x14), .ref a19, .int (iI x15), .int r4, .ref a20, .ref a21, .int (iI x16), .int r5, .ref a22, .int (iI x17), .int (iI x18), .int (iI x19), .int (iI x20)])), (a1, .inl (T 0, 940, .inl (cI f0)))]) M w 0 7 clX12 rfl (by decide) G1470 rfl rfl rfl rfl (Nat.le_of_ble_eq_true rfl) rfl dX12_go_390 (fun H locs w => ?_)
                                      exact ret (z192, z1, 1, fr193, x6, fy191) _ _ _ _ _ [0, 1] dX12_go_393 ⟨z192_a, z192_b, z1_a, z1_b, (show (0 : Int) ≤ 1 from by decide), (show (1 : Int) ≤ 4 from by decide), x6_a, x6_b, (show 0 ≤ (z192 - x3) from by omega), (show 0 ≤ (((z192 - x3) - 1) + 3) from by omega), (show gT (tkAt f0 x1 x2 x3) 1 z1 z192 fy191 fr193 x6 from (by rw [tk_run (lq1_s.trans (sk_e (by omega))) (by omega) (by omega) (Or.inl (lq_1 pq186 (by omega))) (lq2_r.trans (rn_e (ta_E pq196 pq201 (by omega) pq204 pq209 (by omega))))]; exact ⟨rfl, rfl, go_fin lq2_a lq2_g pq190 (lq2_r.trans (rn_e (ta_E pq196 pq201 (by omega) pq204 pq209 (by omega)))) (by omega) (Or.inl (lq_1 pq186 (by omega))) lq2_w (by omega)⟩))⟩ w (by decide) rfl
                              · replace c_210 : ¬ z207 = 0 := fun h => c_210 ((iz_eq (Int.le_trans (by decide) z207_a) (Int.le_trans z207_b (by decide))).mpr h)
                                exfalso; omega
                            · exfalso; omega
                        · refine k_I (ce := 0) (sl := 0) (rest := []) (wr := [(a0, .inr (11, [.int r0, .ref a1, .int (iI x0), .int (iI x1), .int (iI x2), .int (iI z192), .int (iI z1), .int (iI x5), .int fr193, .int (iI x6), .int (iI x7), .int (iI x8), .long fy191, .int (iI x9), .ref a2, .ref a3, .ref a4, .ref a5, .ref a6, .ref a7, .ref a8, .ref a9, .ref a10, .ref a11, .int (iI x10), .ref a12, .ref a13, .ref a14, .ref a15, .int (iI x11), .int r2, .int r3, .ref a16, .int (iI x12), .int (iI x13), .ref a17, .ref a18, .int (iI x14), .ref a19, .int (iI x15), .int r4, .ref a20, .ref a21, .int (iI x16), .int r5, .ref a22, .int (iI x17), .int (iI x18), .int (iI x19), .int (iI x20)])), (a1, .inl (T 0, 940, .inl (cI f0)))]) (r_S (f := 0) [] M w V_HookedCityModel_33 G1632 (c11_X12_isLetter l D T _ z195 z195_a z195_b) rfl (by decide) rfl hl.1 rfl (Nat.le_of_ble_eq_true rfl) dX12_go_223 (by decide) (by decide) (by decide) (by decide)) w [] [0, 1] rfl rfl (by decide) (by decide) rfl rfl (fun v z217 H locs hp w => ?_)
                          have hv : iI z217 = v := hp.1
                          subst hv
                          have z217_a : 0 ≤ z217 := hp.2.1
                          have z217_b : z217 ≤ 1 := hp.2.2.1
                          have ee218 : 0 ≤ ((z195 + 4294967296) - (z217 * 4294967393)) := hp.2.2.2.1
                          have pq219 : lq z217 z195 97 122 := hp.2.2.2.2
                          have w : WD D A s.heap [(a0, .inr (11, [.int r0, .ref a1, .int (iI x0), .int (iI x1), .int (iI x2), .int (iI z192), .int (iI z1), .int (iI x5), .int fr193, .int (iI x6), .int (iI x7), .int (iI x8), .long fy191, .int (iI x9), .ref a2, .ref a3, .ref a4, .ref a5, .ref a6, .ref a7, .ref a8, .ref a9, .ref a10, .ref a11, .int (iI x10), .ref a12, .ref a13, .ref a14, .ref a15, .int (iI x11), .int r2, .int r3, .ref a16, .int (iI x12), .int (iI x13), .ref a17, .ref a18, .int (iI x14), .ref a19, .int (iI x15), .int r4, .ref a20, .ref a21, .int (iI x16), .int r5, .ref a22, .int (iI x17), .int (iI x18), .int (iI x19), .int (iI x20)])), (a1, .inl (T 0, 940, .inl (cI f0)))] H locs := w
                          refine lv_if_ne (tgt := 243) hx hb dX12_go_226 (by decide) (fun c_220 => ?_) (fun c_220 => ?_)
                          · replace c_220 : ¬ z217 = 0 := fun h => c_220 ((iz_eq (Int.le_trans (by decide) z217_a) (Int.le_trans z217_b (by decide))).mpr h)
                            refine lv_aload_n hx hb dX12_go_243 rfl (lv_at hl 3 rfl) ?_
                            refine r_get (v := .ref a1) M w 0 1 clX12 rfl (by decide) G1464 rfl rfl dX12_go_244 ?_
                            refine lv_aload_n hx hb dX12_go_247 rfl (lv_at hl 3 rfl) ?_
                            refine r_get (v := .int (iI z192)) M w 0 5 clX12 rfl (by decide) G1468 rfl rfl dX12_go_248 ?_
                            refine r_iald (v := iI (f0 z192)) M w 1 rfl (iI_in (by omega) (by omega) (by decide)) (cI_at (by omega) (by omega)) dX12_go_251 ?_
                            have hh221 : 0 ≤ (f0 z192) ∧ (f0 z192) ≤ 255 := f0_h z192
                            refine lv_istore (lv' := [(4, .int (iI (f0 z192))), (3, .int (iI z194)), (2, .int (iI z188)), (1, .int (iI (f0 z1))), (0, .ref a0)]) hx hb dX12_go_252 hl (by decide) rfl (fun ls hl => ?_)
                            refine lv_iload_n hx hb dX12_go_254 rfl (lv_at hl 1 rfl) ?_
                            refine lv_if_eq (tgt := 271) hx hb dX12_go_255 (by decide) (fun c_222 => ?_) (fun c_222 => ?_)
                            · replace c_222 := (iz_eq (Int.le_trans (by decide) z194_a) (Int.le_trans z194_b (by decide))).mp c_222
                              refine lv_iconst (v := iI 0) hx hb dX12_go_271 (by decide +kernel) ?_
                              refine lv_istore_n (lv' := [(3, .int (iI 0)), (4, .int (iI (f0 z192))), (2, .int (iI z188)), (1, .int (iI (f0 z1))), (0, .ref a0)]) hx hb dX12_go_272 rfl hl (by decide) rfl (fun ls hl => ?_)
                              refine lv_aload_n hx hb dX12_go_273 rfl (lv_at hl 4 rfl) ?_
                              refine r_get (v := .int (iI z192)) M w 0 5 clX12 rfl (by decide) G1468 rfl rfl dX12_go_274 ?_
                              refine lv_aload_n hx hb dX12_go_277 rfl (lv_at hl 4 rfl) ?_
                              refine r_get (v := .int (iI z1)) M w 0 6 clX12 rfl (by decide) G1469 rfl rfl dX12_go_278 ?_
                              refine r_isub (v := iI (z192 - z1)) M (iI_sub _ _) dX12_go_281 ?_
                              refine lv_bipush (v := iI 7) hx hb dX12_go_282 (by decide +kernel) ?_
                              refine lv_icmp_ge (tgt := 307) hx hb dX12_go_284 (by decide) (fun c_223 => ?_) (fun c_223 => ?_)
                              · replace c_223 := (iI_le (by decide) (by decide) (by omega) (by omega)).mp c_223
                                refine lv_aload_n hx hb dX12_go_307 rfl (lv_at hl 4 rfl) ?_
                                refine r_get (v := .int (iI z192)) M w 0 5 clX12 rfl (by decide) G1468 rfl rfl dX12_go_308 ?_
                                refine lv_aload_n hx hb dX12_go_311 rfl (lv_at hl 4 rfl) ?_
                                refine r_get (v := .int (iI z1)) M w 0 6 clX12 rfl (by decide) G1469 rfl rfl dX12_go_312 ?_
                                refine r_isub (v := iI (z192 - z1)) M (iI_sub _ _) dX12_go_315 ?_
                                refine lv_iconst (v := iI 3) hx hb dX12_go_316 (by decide +kernel) ?_
                                refine lv_icmp_ge (tgt := 337) hx hb dX12_go_317 (by decide) (fun c_224 => ?_) (fun c_224 => ?_)
                                · replace c_224 := (iI_le (by decide) (by decide) (by omega) (by omega)).mp c_224
                                  refine lv_aload_n hx hb dX12_go_337 rfl (lv_at hl 4 rfl) ?_
                                  refine lv_dup hx hb dX12_go_338 rfl ?_
                                  refine r_get (v := .int (iI z192)) M w 0 5 clX12 rfl (by decide) G1468 rfl rfl dX12_go_339 ?_
                                  refine lv_iconst (v := iI 1) hx hb dX12_go_342 (by decide +kernel) ?_
                                  refine r_iadd (v := iI (z192 + 1)) M (iI_add _ _) dX12_go_343 ?_
                                  refine r_put (ws' := [(a0, .inr (11, [.int r0, .ref a1, .int (iI x0), .int (iI x1), .int (iI x2), .int (iI (z192 + 1)), .int (iI z1), .int (iI x5), .int fr193, .int (iI x6), .int (iI x7), .int (iI x8), .long fy191, .int (iI x9), .ref a2, .ref a3, .ref a4, .ref a5, .ref a6, .ref a7, .ref a8, .ref a9, .ref a10, .ref a11, .int (iI x10), .ref a12, .ref a13, .ref a14, .ref a15, .int (iI x11), .int r2, .int r3, .ref a16, .int (iI x12), .int (iI x13), .ref a17, .ref a18, .int (iI x14), .ref a19, .int (iI x15), .int r4, .ref a20, .ref a21, .int (iI x16), .int r5, .ref a22, .int (iI x17), .int (iI x18), .int (iI x19), .int (iI x20)])), (a1, .inl (T 0, 940, .inl (cI f0)))]) M w 0 5 clX12 rfl (by decide) G1468 rfl rfl rfl rfl (Nat.le_of_ble_eq_true rfl) rfl dX12_go_344 (fun H locs w => ?_)
                                  refine lv_goto (tgt := 215) hx hb dX12_go_347 (by decide) ?_
                                  exact ih2 fy191 (z192 + 1) fr193 0 _ _ _ (by omega) (by omega) (by decide) (by decide) (by omega) (by omega) (lq2_r.trans (rn_t (ta_L pq196 pq219 (by omega)).1 (Or.inl (ta_L pq196 pq219 (by omega)).2))) (aR_s lq2_a (Or.inl (ta_L pq196 pq219 (by omega)).2)) (gd_z lq2_g (by omega)) (wI_s lq2_w (by omega) (f0_h _) (by first | exact Or.inl ⟨by omega, rfl⟩ | exact Or.inr ⟨by omega, rfl⟩) (by first | exact Or.inl ⟨by omega, rfl⟩ | exact Or.inr ⟨by omega, rfl⟩)) (by omega) w (lv_sub hl [0, 2, 3, 4] rfl)
                                · replace c_224 : (z192 - z1) < 3 := Int.not_le.mp (fun h => c_224 ((iI_le (by decide) (by decide) (by omega) (by omega)).mpr h))
                                  exfalso; omega
                              · replace c_223 : (z192 - z1) < 7 := Int.not_le.mp (fun h => c_223 ((iI_le (by decide) (by decide) (by omega) (by omega)).mpr h))
                                refine lv_aload_n hx hb dX12_go_287 rfl (lv_at hl 4 rfl) ?_
                                refine lv_ldc2 (v := 27) hx hb M.1.2.2.2.1 (M.1.2.2.2.2 _ G1641) dX12_go_288 ?_
                                refine lv_aload_n hx hb dX12_go_291 rfl (lv_at hl 4 rfl) ?_
                                refine r_get (v := .long fy191) M w 0 12 clX12 rfl (by decide) G1475 rfl rfl dX12_go_292 ?_
                                refine r_lmul (v := (27 * fy191)) M rfl dX12_go_295 ?_
                                refine lv_iload hx hb dX12_go_296 (lv_at hl 1 rfl) ?_
                                refine lv_i2l (v := (Int32.toInt64 (iI (f0 z192)))) hx hb dX12_go_298 rfl ?_
                                refine r_ladd (v := ((27 * fy191) + (Int32.toInt64 (iI (f0 z192))))) M rfl dX12_go_299 ?_
                                refine lv_ldc2 (v := 96) hx hb M.1.2.2.2.1 (M.1.2.2.2.2 _ G1642) dX12_go_300 ?_
                                refine r_lsub (v := (((27 * fy191) + (Int32.toInt64 (iI (f0 z192)))) - 96)) M rfl dX12_go_303 ?_
                                refine r_put (ws' := [(a0, .inr (11, [.int r0, .ref a1, .int (iI x0), .int (iI x1), .int (iI x2), .int (iI z192), .int (iI z1), .int (iI x5), .int fr193, .int (iI x6), .int (iI x7), .int (iI x8), .long (((27 * fy191) + (Int32.toInt64 (iI (f0 z192)))) - 96), .int (iI x9), .ref a2, .ref a3, .ref a4, .ref a5, .ref a6, .ref a7, .ref a8, .ref a9, .ref a10, .ref a11, .int (iI x10), .ref a12, .ref a13, .ref a14, .ref a15, .int (iI x11), .int r2, .int r3, .ref a16, .int (iI x12), .int (iI x13), .ref a17, .ref a18, .int (iI x14), .ref a19, .int (iI x15), .int r4, .ref a20, .ref a21, .int (iI x16), .int r5, .ref a22, .int (iI x17), .int (iI x18), .int (iI x19), .int (iI x20)])), (a1, .inl (T 0, 940, .inl (cI f0)))]) M w 0 12 clX12 rfl (by decide) G1475 rfl rfl rfl rfl (Nat.le_of_ble_eq_true rfl) rfl dX12_go_304 (fun H locs w => ?_)
                                refine lv_aload_n hx hb dX12_go_307 rfl (lv_at hl 4 rfl) ?_
                                refine r_get (v := .int (iI z192)) M w 0 5 clX12 rfl (by decide) G1468 rfl rfl dX12_go_308 ?_
                                refine lv_aload_n hx hb dX12_go_311 rfl (lv_at hl 4 rfl) ?_
                                refine r_get (v := .int (iI z1)) M w 0 6 clX12 rfl (by decide) G1469 rfl rfl dX12_go_312 ?_
                                refine r_isub (v := iI (z192 - z1)) M (iI_sub _ _) dX12_go_315 ?_
                                refine lv_iconst (v := iI 3) hx hb dX12_go_316 (by decide +kernel) ?_
                                refine lv_icmp_ge (tgt := 337) hx hb dX12_go_317 (by decide) (fun c_225 => ?_) (fun c_225 => ?_)
                                · replace c_225 := (iI_le (by decide) (by decide) (by omega) (by omega)).mp c_225
                                  refine lv_aload_n hx hb dX12_go_337 rfl (lv_at hl 4 rfl) ?_
                                  refine lv_dup hx hb dX12_go_338 rfl ?_
                                  refine r_get (v := .int (iI z192)) M w 0 5 clX12 rfl (by decide) G1468 rfl rfl dX12_go_339 ?_
                                  refine lv_iconst (v := iI 1) hx hb dX12_go_342 (by decide +kernel) ?_
                                  refine r_iadd (v := iI (z192 + 1)) M (iI_add _ _) dX12_go_343 ?_
                                  refine r_put (ws' := [(a0, .inr (11, [.int r0, .ref a1, .int (iI x0), .int (iI x1), .int (iI x2), .int (iI (z192 + 1)), .int (iI z1), .int (iI x5), .int fr193, .int (iI x6), .int (iI x7), .int (iI x8), .long (((27 * fy191) + (Int32.toInt64 (iI (f0 z192)))) - 96), .int (iI x9), .ref a2, .ref a3, .ref a4, .ref a5, .ref a6, .ref a7, .ref a8, .ref a9, .ref a10, .ref a11, .int (iI x10), .ref a12, .ref a13, .ref a14, .ref a15, .int (iI x11), .int r2, .int r3, .ref a16, .int (iI x12), .int (iI x13), .ref a17, .ref a18, .int (iI x14), .ref a19, .int (iI x15), .int r4, .ref a20, .ref a21, .int (iI x16), .int r5, .ref a22, .int (iI x17), .int (iI x18), .int (iI x19), .int (iI x20)])), (a1, .inl (T 0, 940, .inl (cI f0)))]) M w 0 5 clX12 rfl (by decide) G1468 rfl rfl rfl rfl (Nat.le_of_ble_eq_true rfl) rfl dX12_go_344 (fun H locs w => ?_)
                                  refine lv_goto (tgt := 215) hx hb dX12_go_347 (by decide) ?_
                                  exact ih2 (((27 * fy191) + (Int32.toInt64 (iI (f0 z192)))) - 96) (z192 + 1) fr193 0 _ _ _ (by omega) (by omega) (by decide) (by decide) (by omega) (by omega) (lq2_r.trans (rn_t (ta_L pq196 pq219 (by omega)).1 (Or.inl (ta_L pq196 pq219 (by omega)).2))) (aR_s lq2_a (Or.inl (ta_L pq196 pq219 (by omega)).2)) (gd_z lq2_g (by omega)) (wI_s lq2_w (by omega) (f0_h _) (by first | exact Or.inl ⟨by omega, rfl⟩ | exact Or.inr ⟨by omega, rfl⟩) (by first | exact Or.inl ⟨by omega, rfl⟩ | exact Or.inr ⟨by omega, rfl⟩)) (by omega) w (lv_sub hl [0, 2, 3, 4] rfl)
                                · replace c_225 : (z192 - z1) < 3 := Int.not_le.mp (fun h => c_225 ((iI_le (by decide) (by decide) (by omega) (by omega)).mpr h))
                                  refine lv_aload_n hx hb dX12_go_320 rfl (lv_at hl 4 rfl) ?_
                                  refine lv_bipush (v := iI 10) hx hb dX12_go_321 (by decide +kernel) ?_
                                  refine lv_aload_n hx hb dX12_go_323 rfl (lv_at hl 4 rfl) ?_
                                  refine r_get (v := .int fr193) M w 0 8 clX12 rfl (by decide) G1471 rfl rfl dX12_go_324 ?_
                                  refine r_imul (v := ((iI 10) * fr193)) M rfl dX12_go_327 ?_
                                  refine lv_iload hx hb dX12_go_328 (lv_at hl 1 rfl) ?_
                                  refine r_iadd (v := (((iI 10) * fr193) + (iI (f0 z192)))) M rfl dX12_go_330 ?_
                                  refine lv_bipush (v := iI 48) hx hb dX12_go_331 (by decide +kernel) ?_
                                  refine r_isub (v := ((((iI 10) * fr193) + (iI (f0 z192))) - (iI 48))) M rfl dX12_go_333 ?_
                                  refine r_put (ws' := [(a0, .inr (11, [.int r0, .ref a1, .int (iI x0), .int (iI x1), .int (iI x2), .int (iI z192), .int (iI z1), .int (iI x5), .int ((((iI 10) * fr193) + (iI (f0 z192))) - (iI 48)), .int (iI x6), .int (iI x7), .int (iI x8), .long (((27 * fy191) + (Int32.toInt64 (iI (f0 z192)))) - 96), .int (iI x9), .ref a2, .ref a3, .ref a4, .ref a5, .ref a6, .ref a7, .ref a8, .ref a9, .ref a10, .ref a11, .int (iI x10), .ref a12, .ref a13, .ref a14, .ref a15, .int (iI x11), .int r2, .int r3, .ref a16, .int (iI x12), .int (iI x13), .ref a17, .ref a18, .int (iI x14), .ref a19, .int (iI x15), .int r4, .ref a20, .ref a21, .int (iI x16), .int r5, .ref a22, .int (iI x17), .int (iI x18), .int (iI x19), .int (iI x20)])), (a1, .inl (T 0, 940, .inl (cI f0)))]) M w 0 8 clX12 rfl (by decide) G1471 rfl rfl rfl rfl (Nat.le_of_ble_eq_true rfl) rfl dX12_go_334 (fun H locs w => ?_)
                                  refine lv_aload_n hx hb dX12_go_337 rfl (lv_at hl 4 rfl) ?_
                                  refine lv_dup hx hb dX12_go_338 rfl ?_
                                  refine r_get (v := .int (iI z192)) M w 0 5 clX12 rfl (by decide) G1468 rfl rfl dX12_go_339 ?_
                                  refine lv_iconst (v := iI 1) hx hb dX12_go_342 (by decide +kernel) ?_
                                  refine r_iadd (v := iI (z192 + 1)) M (iI_add _ _) dX12_go_343 ?_
                                  refine r_put (ws' := [(a0, .inr (11, [.int r0, .ref a1, .int (iI x0), .int (iI x1), .int (iI x2), .int (iI (z192 + 1)), .int (iI z1), .int (iI x5), .int ((((iI 10) * fr193) + (iI (f0 z192))) - (iI 48)), .int (iI x6), .int (iI x7), .int (iI x8), .long (((27 * fy191) + (Int32.toInt64 (iI (f0 z192)))) - 96), .int (iI x9), .ref a2, .ref a3, .ref a4, .ref a5, .ref a6, .ref a7, .ref a8, .ref a9, .ref a10, .ref a11, .int (iI x10), .ref a12, .ref a13, .ref a14, .ref a15, .int (iI x11), .int r2, .int r3, .ref a16, .int (iI x12), .int (iI x13), .ref a17, .ref a18, .int (iI x14), .ref a19, .int (iI x15), .int r4, .ref a20, .ref a21, .int (iI x16), .int r5, .ref a22, .int (iI x17), .int (iI x18), .int (iI x19), .int (iI x20)])), (a1, .inl (T 0, 940, .inl (cI f0)))]) M w 0 5 clX12 rfl (by decide) G1468 rfl rfl rfl rfl (Nat.le_of_ble_eq_true rfl) rfl dX12_go_344 (fun H locs w => ?_)
                                  refine lv_goto (tgt := 215) hx hb dX12_go_347 (by decide) ?_
                                  exact ih2 (((27 * fy191) + (Int32.toInt64 (iI (f0 z192)))) - 96) (z192 + 1) ((((iI 10) * fr193) + (iI (f0 z192))) - (iI 48)) 0 _ _ _ (by omega) (by omega) (by decide) (by decide) (by omega) (by omega) (lq2_r.trans (rn_t (ta_L pq196 pq219 (by omega)).1 (Or.inl (ta_L pq196 pq219 (by omega)).2))) (aR_s lq2_a (Or.inl (ta_L pq196 pq219 (by omega)).2)) (gd_z lq2_g (by omega)) (wI_s lq2_w (by omega) (f0_h _) (by first | exact Or.inl ⟨by omega, rfl⟩ | exact Or.inr ⟨by omega, rfl⟩) (by first | exact Or.inl ⟨by omega, rfl⟩ | exact Or.inr ⟨by omega, rfl⟩)) (by omega) w (lv_sub hl [0, 2, 3, 4] rfl)
                            · replace c_222 : ¬ z194 = 0 := fun h => c_222 ((iz_eq (Int.le_trans (by decide) z194_a) (Int.le_trans z194_b (by decide))).mpr h)
                              refine lv_iload hx hb dX12_go_258 (lv_at hl 0 rfl) ?_
                              refine k_I (ce := 0) (sl := 0) (rest := []) (wr := [(a0, .inr (11, [.int r0, .ref a1, .int (iI x0), .int (iI x1), .int (iI x2), .int (iI z192), .int (iI z1), .int (iI x5), .int fr193, .int (iI x6), .int (iI x7), .int (iI x8), .long fy191, .int (iI x9), .ref a2, .ref a3, .ref a4, .ref a5, .ref a6, .ref a7, .ref a8, .ref a9, .ref a10, .ref a11, .int (iI x10), .ref a12, .ref a13, .ref a14, .ref a15, .int (iI x11), .int r2, .int r3, .ref a16, .int (iI x12), .int (iI x13), .ref a17, .ref a18, .int (iI x14), .ref a19, .int (iI x15), .int r4, .ref a20, .ref a21, .int (iI x16), .int r5, .ref a22, .int (iI x17), .int (iI x18), .int (iI x19), .int (iI x20)])), (a1, .inl (T 0, 940, .inl (cI f0)))]) (r_S (f := 0) [] M w V_HookedCityModel_33 G1632 (c11_X12_isLetter l D T _ (f0 z192) (by omega) (by omega)) rfl (by decide) rfl hl.1 rfl (Nat.le_of_ble_eq_true rfl) dX12_go_260 (by decide) (by decide) (by decide) (by decide)) w [] [0, 1] rfl rfl (by decide) (by decide) rfl rfl (fun v z226 H locs hp w => ?_)
                              have hv : iI z226 = v := hp.1
                              subst hv
                              have z226_a : 0 ≤ z226 := hp.2.1
                              have z226_b : z226 ≤ 1 := hp.2.2.1
                              have ee227 : 0 ≤ (((f0 z192) + 4294967296) - (z226 * 4294967393)) := hp.2.2.2.1
                              have pq228 : lq z226 (f0 z192) 97 122 := hp.2.2.2.2
                              have w : WD D A s.heap [(a0, .inr (11, [.int r0, .ref a1, .int (iI x0), .int (iI x1), .int (iI x2), .int (iI z192), .int (iI z1), .int (iI x5), .int fr193, .int (iI x6), .int (iI x7), .int (iI x8), .long fy191, .int (iI x9), .ref a2, .ref a3, .ref a4, .ref a5, .ref a6, .ref a7, .ref a8, .ref a9, .ref a10, .ref a11, .int (iI x10), .ref a12, .ref a13, .ref a14, .ref a15, .int (iI x11), .int r2, .int r3, .ref a16, .int (iI x12), .int (iI x13), .ref a17, .ref a18, .int (iI x14), .ref a19, .int (iI x15), .int r4, .ref a20, .ref a21, .int (iI x16), .int r5, .ref a22, .int (iI x17), .int (iI x18), .int (iI x19), .int (iI x20)])), (a1, .inl (T 0, 940, .inl (cI f0)))] H locs := w
                              refine lv_iload_n hx hb dX12_go_263 rfl (lv_at hl 2 rfl) ?_
                              refine lv_icmp_ne (tgt := 271) hx hb dX12_go_264 (by decide) (fun c_229 => ?_) (fun c_229 => ?_)
                              · replace c_229 : ¬ z226 = z188 := fun h => c_229 ((iI_eq (Int.le_trans (by decide) z226_a) (Int.le_trans z226_b (by decide)) (Int.le_trans (by decide) z188_a) (Int.le_trans z188_b (by decide))).mpr h)
                                refine lv_iconst (v := iI 0) hx hb dX12_go_271 (by decide +kernel) ?_
                                refine lv_istore_n (lv' := [(3, .int (iI 0)), (4, .int (iI (f0 z192))), (2, .int (iI z188)), (1, .int (iI (f0 z1))), (0, .ref a0)]) hx hb dX12_go_272 rfl hl (by decide) rfl (fun ls hl => ?_)
                                refine lv_aload_n hx hb dX12_go_273 rfl (lv_at hl 4 rfl) ?_
                                refine r_get (v := .int (iI z192)) M w 0 5 clX12 rfl (by decide) G1468 rfl rfl dX12_go_274 ?_
                                refine lv_aload_n hx hb dX12_go_277 rfl (lv_at hl 4 rfl) ?_
                                refine r_get (v := .int (iI z1)) M w 0 6 clX12 rfl (by decide) G1469 rfl rfl dX12_go_278 ?_
                                refine r_isub (v := iI (z192 - z1)) M (iI_sub _ _) dX12_go_281 ?_
                                refine lv_bipush (v := iI 7) hx hb dX12_go_282 (by decide +kernel) ?_
                                refine lv_icmp_ge (tgt := 307) hx hb dX12_go_284 (by decide) (fun c_230 => ?_) (fun c_230 => ?_)
                                · replace c_230 := (iI_le (by decide) (by decide) (by omega) (by omega)).mp c_230
                                  refine lv_aload_n hx hb dX12_go_307 rfl (lv_at hl 4 rfl) ?_
                                  refine r_get (v := .int (iI z192)) M w 0 5 clX12 rfl (by decide) G1468 rfl rfl dX12_go_308 ?_
                                  refine lv_aload_n hx hb dX12_go_311 rfl (lv_at hl 4 rfl) ?_
                                  refine r_get (v := .int (iI z1)) M w 0 6 clX12 rfl (by decide) G1469 rfl rfl dX12_go_312 ?_
                                  refine r_isub (v := iI (z192 - z1)) M (iI_sub _ _) dX12_go_315 ?_
                                  refine lv_iconst (v := iI 3) hx hb dX12_go_316 (by decide +kernel) ?_
                                  refine lv_icmp_ge (tgt := 337) hx hb dX12_go_317 (by decide) (fun c_231 => ?_) (fun c_231 => ?_)
                                  · replace c_231 := (iI_le (by decide) (by decide) (by omega) (by omega)).mp c_231
                                    refine lv_aload_n hx hb dX12_go_337 rfl (lv_at hl 4 rfl) ?_
                                    refine lv_dup hx hb dX12_go_338 rfl ?_
                                    refine r_get (v := .int (iI z192)) M w 0 5 clX12 rfl (by decide) G1468 rfl rfl dX12_go_339 ?_
                                    refine lv_iconst (v := iI 1) hx hb dX12_go_342 (by decide +kernel) ?_
                                    refine r_iadd (v := iI (z192 + 1)) M (iI_add _ _) dX12_go_343 ?_
                                    refine r_put (ws' := [(a0, .inr (11, [.int r0, .ref a1, .int (iI x0), .int (iI x1), .int (iI x2), .int (iI (z192 + 1)), .int (iI z1), .int (iI x5), .int fr193, .int (iI x6), .int (iI x7), .int (iI x8), .long fy191, .int (iI x9), .ref a2, .ref a3, .ref a4, .ref a5, .ref a6, .ref a7, .ref a8, .ref a9, .ref a10, .ref a11, .int (iI x10), .ref a12, .ref a13, .ref a14, .ref a15, .int (iI x11), .int r2, .int r3, .ref a16, .int (iI x12), .int (iI x13), .ref a17, .ref a18, .int (iI x14), .ref a19, .int (iI x15), .int r4, .ref a20, .ref a21, .int (iI x16), .int r5, .ref a22, .int (iI x17), .int (iI x18), .int (iI x19), .int (iI x20)])), (a1, .inl (T 0, 940, .inl (cI f0)))]) M w 0 5 clX12 rfl (by decide) G1468 rfl rfl rfl rfl (Nat.le_of_ble_eq_true rfl) rfl dX12_go_344 (fun H locs w => ?_)
                                    refine lv_goto (tgt := 215) hx hb dX12_go_347 (by decide) ?_
                                    exact ih2 fy191 (z192 + 1) fr193 0 _ _ _ (by omega) (by omega) (by decide) (by decide) (by omega) (by omega) (lq2_r.trans (rn_t (ta_L pq196 pq219 (by omega)).1 (Or.inl (ta_L pq196 pq219 (by omega)).2))) (aR_s lq2_a (Or.inl (ta_L pq196 pq219 (by omega)).2)) (gd_q lq2_g (by omega) pq228 (by omega) (by omega) (by omega) (by omega) (by omega) (by omega)) (wI_s lq2_w (by omega) (f0_h _) (by first | exact Or.inl ⟨by omega, rfl⟩ | exact Or.inr ⟨by omega, rfl⟩) (by first | exact Or.inl ⟨by omega, rfl⟩ | exact Or.inr ⟨by omega, rfl⟩)) (by omega) w (lv_sub hl [0, 2, 3, 4] rfl)
                                  · replace c_231 : (z192 - z1) < 3 := Int.not_le.mp (fun h => c_231 ((iI_le (by decide) (by decide) (by omega) (by omega)).mpr h))
                                    exfalso; omega
                                · replace c_230 : (z192 - z1) < 7 := Int.not_le.mp (fun h => c_230 ((iI_le (by decide) (by decide) (by omega) (by omega)).mpr h))
                                  refine lv_aload_n hx hb dX12_go_287 rfl (lv_at hl 4 rfl) ?_
                                  refine lv_ldc2 (v := 27) hx hb M.1.2.2.2.1 (M.1.2.2.2.2 _ G1641) dX12_go_288 ?_
                                  refine lv_aload_n hx hb dX12_go_291 rfl (lv_at hl 4 rfl) ?_
                                  refine r_get (v := .long fy191) M w 0 12 clX12 rfl (by decide) G1475 rfl rfl dX12_go_292 ?_
                                  refine r_lmul (v := (27 * fy191)) M rfl dX12_go_295 ?_
                                  refine lv_iload hx hb dX12_go_296 (lv_at hl 1 rfl) ?_
                                  refine lv_i2l (v := (Int32.toInt64 (iI (f0 z192)))) hx hb dX12_go_298 rfl ?_
                                  refine r_ladd (v := ((27 * fy191) + (Int32.toInt64 (iI (f0 z192))))) M rfl dX12_go_299 ?_
                                  refine lv_ldc2 (v := 96) hx hb M.1.2.2.2.1 (M.1.2.2.2.2 _ G1642) dX12_go_300 ?_
                                  refine r_lsub (v := (((27 * fy191) + (Int32.toInt64 (iI (f0 z192)))) - 96)) M rfl dX12_go_303 ?_
                                  refine r_put (ws' := [(a0, .inr (11, [.int r0, .ref a1, .int (iI x0), .int (iI x1), .int (iI x2), .int (iI z192), .int (iI z1), .int (iI x5), .int fr193, .int (iI x6), .int (iI x7), .int (iI x8), .long (((27 * fy191) + (Int32.toInt64 (iI (f0 z192)))) - 96), .int (iI x9), .ref a2, .ref a3, .ref a4, .ref a5, .ref a6, .ref a7, .ref a8, .ref a9, .ref a10, .ref a11, .int (iI x10), .ref a12, .ref a13, .ref a14, .ref a15, .int (iI x11), .int r2, .int r3, .ref a16, .int (iI x12), .int (iI x13), .ref a17, .ref a18, .int (iI x14), .ref a19, .int (iI x15), .int r4, .ref a20, .ref a21, .int (iI x16), .int r5, .ref a22, .int (iI x17), .int (iI x18), .int (iI x19), .int (iI x20)])), (a1, .inl (T 0, 940, .inl (cI f0)))]) M w 0 12 clX12 rfl (by decide) G1475 rfl rfl rfl rfl (Nat.le_of_ble_eq_true rfl) rfl dX12_go_304 (fun H locs w => ?_)
                                  refine lv_aload_n hx hb dX12_go_307 rfl (lv_at hl 4 rfl) ?_
                                  refine r_get (v := .int (iI z192)) M w 0 5 clX12 rfl (by decide) G1468 rfl rfl dX12_go_308 ?_
                                  refine lv_aload_n hx hb dX12_go_311 rfl (lv_at hl 4 rfl) ?_
                                  refine r_get (v := .int (iI z1)) M w 0 6 clX12 rfl (by decide) G1469 rfl rfl dX12_go_312 ?_
                                  refine r_isub (v := iI (z192 - z1)) M (iI_sub _ _) dX12_go_315 ?_
                                  refine lv_iconst (v := iI 3) hx hb dX12_go_316 (by decide +kernel) ?_
                                  refine lv_icmp_ge (tgt := 337) hx hb dX12_go_317 (by decide) (fun c_232 => ?_) (fun c_232 => ?_)
                                  · replace c_232 := (iI_le (by decide) (by decide) (by omega) (by omega)).mp c_232
                                    refine lv_aload_n hx hb dX12_go_337 rfl (lv_at hl 4 rfl) ?_
                                    refine lv_dup hx hb dX12_go_338 rfl ?_
                                    refine r_get (v := .int (iI z192)) M w 0 5 clX12 rfl (by decide) G1468 rfl rfl dX12_go_339 ?_
                                    refine lv_iconst (v := iI 1) hx hb dX12_go_342 (by decide +kernel) ?_
                                    refine r_iadd (v := iI (z192 + 1)) M (iI_add _ _) dX12_go_343 ?_
                                    refine r_put (ws' := [(a0, .inr (11, [.int r0, .ref a1, .int (iI x0), .int (iI x1), .int (iI x2), .int (iI (z192 + 1)), .int (iI z1), .int (iI x5), .int fr193, .int (iI x6), .int (iI x7), .int (iI x8), .long (((27 * fy191) + (Int32.toInt64 (iI (f0 z192)))) - 96), .int (iI x9), .ref a2, .ref a3, .ref a4, .ref a5, .ref a6, .ref a7, .ref a8, .ref a9, .ref a10, .ref a11, .int (iI x10), .ref a12, .ref a13, .ref a14, .ref a15, .int (iI x11), .int r2, .int r3, .ref a16, .int (iI x12), .int (iI x13), .ref a17, .ref a18, .int (iI x14), .ref a19, .int (iI x15), .int r4, .ref a20, .ref a21, .int (iI x16), .int r5, .ref a22, .int (iI x17), .int (iI x18), .int (iI x19), .int (iI x20)])), (a1, .inl (T 0, 940, .inl (cI f0)))]) M w 0 5 clX12 rfl (by decide) G1468 rfl rfl rfl rfl (Nat.le_of_ble_eq_true rfl) rfl dX12_go_344 (fun H locs w => ?_)
                                    refine lv_goto (tgt := 215) hx hb dX12_go_347 (by decide) ?_
                                    exact ih2 (((27 * fy191) + (Int32.toInt64 (iI (f0 z192)))) - 96) (z192 + 1) fr193 0 _ _ _ (by omega) (by omega) (by decide) (by decide) (by omega) (by omega) (lq2_r.trans (rn_t (ta_L pq196 pq219 (by omega)).1 (Or.inl (ta_L pq196 pq219 (by omega)).2))) (aR_s lq2_a (Or.inl (ta_L pq196 pq219 (by omega)).2)) (gd_q lq2_g (by omega) pq228 (by omega) (by omega) (by omega) (by omega) (by omega) (by omega)) (wI_s lq2_w (by omega) (f0_h _) (by first | exact Or.inl ⟨by omega, rfl⟩ | exact Or.inr ⟨by omega, rfl⟩) (by first | exact Or.inl ⟨by omega, rfl⟩ | exact Or.inr ⟨by omega, rfl⟩)) (by omega) w (lv_sub hl [0, 2, 3, 4] rfl)
                                  · replace c_232 : (z192 - z1) < 3 := Int.not_le.mp (fun h => c_232 ((iI_le (by decide) (by decide) (by omega) (by omega)).mpr h))
                                    refine lv_aload_n hx hb dX12_go_320 rfl (lv_at hl 4 rfl) ?_
                                    refine lv_bipush (v := iI 10) hx hb dX12_go_321 (by decide +kernel) ?_
                                    refine lv_aload_n hx hb dX12_go_323 rfl (lv_at hl 4 rfl) ?_
                                    refine r_get (v := .int fr193) M w 0 8 clX12 rfl (by decide) G1471 rfl rfl dX12_go_324 ?_
                                    refine r_imul (v := ((iI 10) * fr193)) M rfl dX12_go_327 ?_
                                    refine lv_iload hx hb dX12_go_328 (lv_at hl 1 rfl) ?_
                                    refine r_iadd (v := (((iI 10) * fr193) + (iI (f0 z192)))) M rfl dX12_go_330 ?_
                                    refine lv_bipush (v := iI 48) hx hb dX12_go_331 (by decide +kernel) ?_
                                    refine r_isub (v := ((((iI 10) * fr193) + (iI (f0 z192))) - (iI 48))) M rfl dX12_go_333 ?_
                                    refine r_put (ws' := [(a0, .inr (11, [.int r0, .ref a1, .int (iI x0), .int (iI x1), .int (iI x2), .int (iI z192), .int (iI z1), .int (iI x5), .int ((((iI 10) * fr193) + (iI (f0 z192))) - (iI 48)), .int (iI x6), .int (iI x7), .int (iI x8), .long (((27 * fy191) + (Int32.toInt64 (iI (f0 z192)))) - 96), .int (iI x9), .ref a2, .ref a3, .ref a4, .ref a5, .ref a6, .ref a7, .ref a8, .ref a9, .ref a10, .ref a11, .int (iI x10), .ref a12, .ref a13, .ref a14, .ref a15, .int (iI x11), .int r2, .int r3, .ref a16, .int (iI x12), .int (iI x13), .ref a17, .ref a18, .int (iI x14), .ref a19, .int (iI x15), .int r4, .ref a20, .ref a21, .int (iI x16), .int r5, .ref a22, .int (iI x17), .int (iI x18), .int (iI x19), .int (iI x20)])), (a1, .inl (T 0, 940, .inl (cI f0)))]) M w 0 8 clX12 rfl (by decide) G1471 rfl rfl rfl rfl (Nat.le_of_ble_eq_true rfl) rfl dX12_go_334 (fun H locs w => ?_)
                                    refine lv_aload_n hx hb dX12_go_337 rfl (lv_at hl 4 rfl) ?_
                                    refine lv_dup hx hb dX12_go_338 rfl ?_
                                    refine r_get (v := .int (iI z192)) M w 0 5 clX12 rfl (by decide) G1468 rfl rfl dX12_go_339 ?_
                                    refine lv_iconst (v := iI 1) hx hb dX12_go_342 (by decide +kernel) ?_
                                    refine r_iadd (v := iI (z192 + 1)) M (iI_add _ _) dX12_go_343 ?_
                                    refine r_put (ws' := [(a0, .inr (11, [.int r0, .ref a1, .int (iI x0), .int (iI x1), .int (iI x2), .int (iI (z192 + 1)), .int (iI z1), .int (iI x5), .int ((((iI 10) * fr193) + (iI (f0 z192))) - (iI 48)), .int (iI x6), .int (iI x7), .int (iI x8), .long (((27 * fy191) + (Int32.toInt64 (iI (f0 z192)))) - 96), .int (iI x9), .ref a2, .ref a3, .ref a4, .ref a5, .ref a6, .ref a7, .ref a8, .ref a9, .ref a10, .ref a11, .int (iI x10), .ref a12, .ref a13, .ref a14, .ref a15, .int (iI x11), .int r2, .int r3, .ref a16, .int (iI x12), .int (iI x13), .ref a17, .ref a18, .int (iI x14), .ref a19, .int (iI x15), .int r4, .ref a20, .ref a21, .int (iI x16), .int r5, .ref a22, .int (iI x17), .int (iI x18), .int (iI x19), .int (iI x20)])), (a1, .inl (T 0, 940, .inl (cI f0)))]) M w 0 5 clX12 rfl (by decide) G1468 rfl rfl rfl rfl (Nat.le_of_ble_eq_true rfl) rfl dX12_go_344 (fun H locs w => ?_)
                                    refine lv_goto (tgt := 215) hx hb dX12_go_347 (by decide) ?_
                                    exact ih2 (((27 * fy191) + (Int32.toInt64 (iI (f0 z192)))) - 96) (z192 + 1) ((((iI 10) * fr193) + (iI (f0 z192))) - (iI 48)) 0 _ _ _ (by omega) (by omega) (by decide) (by decide) (by omega) (by omega) (lq2_r.trans (rn_t (ta_L pq196 pq219 (by omega)).1 (Or.inl (ta_L pq196 pq219 (by omega)).2))) (aR_s lq2_a (Or.inl (ta_L pq196 pq219 (by omega)).2)) (gd_q lq2_g (by omega) pq228 (by omega) (by omega) (by omega) (by omega) (by omega) (by omega)) (wI_s lq2_w (by omega) (f0_h _) (by first | exact Or.inl ⟨by omega, rfl⟩ | exact Or.inr ⟨by omega, rfl⟩) (by first | exact Or.inl ⟨by omega, rfl⟩ | exact Or.inr ⟨by omega, rfl⟩)) (by omega) w (lv_sub hl [0, 2, 3, 4] rfl)
                              · replace c_229 := (iI_eq (Int.le_trans (by decide) z226_a) (Int.le_trans z226_b (by decide)) (Int.le_trans (by decide) z188_a) (Int.le_trans z188_b (by decide))).mp c_229
                                refine lv_iconst (v := iI 1) hx hb dX12_go_267 (by decide +kernel) ?_
                                refine lv_goto (tgt := 272) hx hb dX12_go_268 (by decide) ?_
                                refine lv_istore_n (lv' := [(3, .int (iI 1)), (4, .int (iI (f0 z192))), (2, .int (iI z188)), (1, .int (iI (f0 z1))), (0, .ref a0)]) hx hb dX12_go_272 rfl hl (by decide) rfl (fun ls hl => ?_)
                                refine lv_aload_n hx hb dX12_go_273 rfl (lv_at hl 4 rfl) ?_
                                refine r_get (v := .int (iI z192)) M w 0 5 clX12 rfl (by decide) G1468 rfl rfl dX12_go_274 ?_
                                refine lv_aload_n hx hb dX12_go_277 rfl (lv_at hl 4 rfl) ?_
                                refine r_get (v := .int (iI z1)) M w 0 6 clX12 rfl (by decide) G1469 rfl rfl dX12_go_278 ?_
                                refine r_isub (v := iI (z192 - z1)) M (iI_sub _ _) dX12_go_281 ?_
                                refine lv_bipush (v := iI 7) hx hb dX12_go_282 (by decide +kernel) ?_
                                refine lv_icmp_ge (tgt := 307) hx hb dX12_go_284 (by decide) (fun c_233 => ?_) (fun c_233 => ?_)
                                · replace c_233 := (iI_le (by decide) (by decide) (by omega) (by omega)).mp c_233
                                  refine lv_aload_n hx hb dX12_go_307 rfl (lv_at hl 4 rfl) ?_
                                  refine r_get (v := .int (iI z192)) M w 0 5 clX12 rfl (by decide) G1468 rfl rfl dX12_go_308 ?_
                                  refine lv_aload_n hx hb dX12_go_311 rfl (lv_at hl 4 rfl) ?_
                                  refine r_get (v := .int (iI z1)) M w 0 6 clX12 rfl (by decide) G1469 rfl rfl dX12_go_312 ?_
                                  refine r_isub (v := iI (z192 - z1)) M (iI_sub _ _) dX12_go_315 ?_
                                  refine lv_iconst (v := iI 3) hx hb dX12_go_316 (by decide +kernel) ?_
                                  refine lv_icmp_ge (tgt := 337) hx hb dX12_go_317 (by decide) (fun c_234 => ?_) (fun c_234 => ?_)
                                  · replace c_234 := (iI_le (by decide) (by decide) (by omega) (by omega)).mp c_234
                                    refine lv_aload_n hx hb dX12_go_337 rfl (lv_at hl 4 rfl) ?_
                                    refine lv_dup hx hb dX12_go_338 rfl ?_
                                    refine r_get (v := .int (iI z192)) M w 0 5 clX12 rfl (by decide) G1468 rfl rfl dX12_go_339 ?_
                                    refine lv_iconst (v := iI 1) hx hb dX12_go_342 (by decide +kernel) ?_
                                    refine r_iadd (v := iI (z192 + 1)) M (iI_add _ _) dX12_go_343 ?_
                                    refine r_put (ws' := [(a0, .inr (11, [.int r0, .ref a1, .int (iI x0), .int (iI x1), .int (iI x2), .int (iI (z192 + 1)), .int (iI z1), .int (iI x5), .int fr193, .int (iI x6), .int (iI x7), .int (iI x8), .long fy191, .int (iI x9), .ref a2, .ref a3, .ref a4, .ref a5, .ref a6, .ref a7, .ref a8, .ref a9, .ref a10, .ref a11, .int (iI x10), .ref a12, .ref a13, .ref a14, .ref a15, .int (iI x11), .int r2, .int r3, .ref a16, .int (iI x12), .int (iI x13), .ref a17, .ref a18, .int (iI x14), .ref a19, .int (iI x15), .int r4, .ref a20, .ref a21, .int (iI x16), .int r5, .ref a22, .int (iI x17), .int (iI x18), .int (iI x19), .int (iI x20)])), (a1, .inl (T 0, 940, .inl (cI f0)))]) M w 0 5 clX12 rfl (by decide) G1468 rfl rfl rfl rfl (Nat.le_of_ble_eq_true rfl) rfl dX12_go_344 (fun H locs w => ?_)
                                    refine lv_goto (tgt := 215) hx hb dX12_go_347 (by decide) ?_
                                    exact ih2 fy191 (z192 + 1) fr193 1 _ _ _ (by omega) (by omega) (by decide) (by decide) (by omega) (by omega) (lq2_r.trans (rn_t (ta_L pq196 pq219 (by omega)).1 (Or.inl (ta_L pq196 pq219 (by omega)).2))) (aR_s lq2_a (Or.inl (ta_L pq196 pq219 (by omega)).2)) (gd_q lq2_g (by omega) pq228 (by omega) (by omega) (by omega) (by omega) (by omega) (by omega)) (wI_s lq2_w (by omega) (f0_h _) (by first | exact Or.inl ⟨by omega, rfl⟩ | exact Or.inr ⟨by omega, rfl⟩) (by first | exact Or.inl ⟨by omega, rfl⟩ | exact Or.inr ⟨by omega, rfl⟩)) (by omega) w (lv_sub hl [0, 2, 3, 4] rfl)
                                  · replace c_234 : (z192 - z1) < 3 := Int.not_le.mp (fun h => c_234 ((iI_le (by decide) (by decide) (by omega) (by omega)).mpr h))
                                    exfalso; omega
                                · replace c_233 : (z192 - z1) < 7 := Int.not_le.mp (fun h => c_233 ((iI_le (by decide) (by decide) (by omega) (by omega)).mpr h))
                                  refine lv_aload_n hx hb dX12_go_287 rfl (lv_at hl 4 rfl) ?_
                                  refine lv_ldc2 (v := 27) hx hb M.1.2.2.2.1 (M.1.2.2.2.2 _ G1641) dX12_go_288 ?_
                                  refine lv_aload_n hx hb dX12_go_291 rfl (lv_at hl 4 rfl) ?_
                                  refine r_get (v := .long fy191) M w 0 12 clX12 rfl (by decide) G1475 rfl rfl dX12_go_292 ?_
                                  refine r_lmul (v := (27 * fy191)) M rfl dX12_go_295 ?_
                                  refine lv_iload hx hb dX12_go_296 (lv_at hl 1 rfl) ?_
                                  refine lv_i2l (v := (Int32.toInt64 (iI (f0 z192)))) hx hb dX12_go_298 rfl ?_
                                  refine r_ladd (v := ((27 * fy191) + (Int32.toInt64 (iI (f0 z192))))) M rfl dX12_go_299 ?_
                                  refine lv_ldc2 (v := 96) hx hb M.1.2.2.2.1 (M.1.2.2.2.2 _ G1642) dX12_go_300 ?_
                                  refine r_lsub (v := (((27 * fy191) + (Int32.toInt64 (iI (f0 z192)))) - 96)) M rfl dX12_go_303 ?_
                                  refine r_put (ws' := [(a0, .inr (11, [.int r0, .ref a1, .int (iI x0), .int (iI x1), .int (iI x2), .int (iI z192), .int (iI z1), .int (iI x5), .int fr193, .int (iI x6), .int (iI x7), .int (iI x8), .long (((27 * fy191) + (Int32.toInt64 (iI (f0 z192)))) - 96), .int (iI x9), .ref a2, .ref a3, .ref a4, .ref a5, .ref a6, .ref a7, .ref a8, .ref a9, .ref a10, .ref a11, .int (iI x10), .ref a12, .ref a13, .ref a14, .ref a15, .int (iI x11), .int r2, .int r3, .ref a16, .int (iI x12), .int (iI x13), .ref a17, .ref a18, .int (iI x14), .ref a19, .int (iI x15), .int r4, .ref a20, .ref a21, .int (iI x16), .int r5, .ref a22, .int (iI x17), .int (iI x18), .int (iI x19), .int (iI x20)])), (a1, .inl (T 0, 940, .inl (cI f0)))]) M w 0 12 clX12 rfl (by decide) G1475 rfl rfl rfl rfl (Nat.le_of_ble_eq_true rfl) rfl dX12_go_304 (fun H locs w => ?_)
                                  refine lv_aload_n hx hb dX12_go_307 rfl (lv_at hl 4 rfl) ?_
                                  refine r_get (v := .int (iI z192)) M w 0 5 clX12 rfl (by decide) G1468 rfl rfl dX12_go_308 ?_
                                  refine lv_aload_n hx hb dX12_go_311 rfl (lv_at hl 4 rfl) ?_
                                  refine r_get (v := .int (iI z1)) M w 0 6 clX12 rfl (by decide) G1469 rfl rfl dX12_go_312 ?_
                                  refine r_isub (v := iI (z192 - z1)) M (iI_sub _ _) dX12_go_315 ?_
                                  refine lv_iconst (v := iI 3) hx hb dX12_go_316 (by decide +kernel) ?_
                                  refine lv_icmp_ge (tgt := 337) hx hb dX12_go_317 (by decide) (fun c_235 => ?_) (fun c_235 => ?_)
                                  · replace c_235 := (iI_le (by decide) (by decide) (by omega) (by omega)).mp c_235
                                    refine lv_aload_n hx hb dX12_go_337 rfl (lv_at hl 4 rfl) ?_
                                    refine lv_dup hx hb dX12_go_338 rfl ?_
                                    refine r_get (v := .int (iI z192)) M w 0 5 clX12 rfl (by decide) G1468 rfl rfl dX12_go_339 ?_
                                    refine lv_iconst (v := iI 1) hx hb dX12_go_342 (by decide +kernel) ?_
                                    refine r_iadd (v := iI (z192 + 1)) M (iI_add _ _) dX12_go_343 ?_
                                    refine r_put (ws' := [(a0, .inr (11, [.int r0, .ref a1, .int (iI x0), .int (iI x1), .int (iI x2), .int (iI (z192 + 1)), .int (iI z1), .int (iI x5), .int fr193, .int (iI x6), .int (iI x7), .int (iI x8), .long (((27 * fy191) + (Int32.toInt64 (iI (f0 z192)))) - 96), .int (iI x9), .ref a2, .ref a3, .ref a4, .ref a5, .ref a6, .ref a7, .ref a8, .ref a9, .ref a10, .ref a11, .int (iI x10), .ref a12, .ref a13, .ref a14, .ref a15, .int (iI x11), .int r2, .int r3, .ref a16, .int (iI x12), .int (iI x13), .ref a17, .ref a18, .int (iI x14), .ref a19, .int (iI x15), .int r4, .ref a20, .ref a21, .int (iI x16), .int r5, .ref a22, .int (iI x17), .int (iI x18), .int (iI x19), .int (iI x20)])), (a1, .inl (T 0, 940, .inl (cI f0)))]) M w 0 5 clX12 rfl (by decide) G1468 rfl rfl rfl rfl (Nat.le_of_ble_eq_true rfl) rfl dX12_go_344 (fun H locs w => ?_)
                                    refine lv_goto (tgt := 215) hx hb dX12_go_347 (by decide) ?_
                                    exact ih2 (((27 * fy191) + (Int32.toInt64 (iI (f0 z192)))) - 96) (z192 + 1) fr193 1 _ _ _ (by omega) (by omega) (by decide) (by decide) (by omega) (by omega) (lq2_r.trans (rn_t (ta_L pq196 pq219 (by omega)).1 (Or.inl (ta_L pq196 pq219 (by omega)).2))) (aR_s lq2_a (Or.inl (ta_L pq196 pq219 (by omega)).2)) (gd_q lq2_g (by omega) pq228 (by omega) (by omega) (by omega) (by omega) (by omega) (by omega)) (wI_s lq2_w (by omega) (f0_h _) (by first | exact Or.inl ⟨by omega, rfl⟩ | exact Or.inr ⟨by omega, rfl⟩) (by first | exact Or.inl ⟨by omega, rfl⟩ | exact Or.inr ⟨by omega, rfl⟩)) (by omega) w (lv_sub hl [0, 2, 3, 4] rfl)
                                  · replace c_235 : (z192 - z1) < 3 := Int.not_le.mp (fun h => c_235 ((iI_le (by decide) (by decide) (by omega) (by omega)).mpr h))
                                    refine lv_aload_n hx hb dX12_go_320 rfl (lv_at hl 4 rfl) ?_
                                    refine lv_bipush (v := iI 10) hx hb dX12_go_321 (by decide +kernel) ?_
                                    refine lv_aload_n hx hb dX12_go_323 rfl (lv_at hl 4 rfl) ?_
                                    refine r_get (v := .int fr193) M w 0 8 clX12 rfl (by decide) G1471 rfl rfl dX12_go_324 ?_
                                    refine r_imul (v := ((iI 10) * fr193)) M rfl dX12_go_327 ?_
                                    refine lv_iload hx hb dX12_go_328 (lv_at hl 1 rfl) ?_
                                    refine r_iadd (v := (((iI 10) * fr193) + (iI (f0 z192)))) M rfl dX12_go_330 ?_
                                    refine lv_bipush (v := iI 48) hx hb dX12_go_331 (by decide +kernel) ?_
                                    refine r_isub (v := ((((iI 10) * fr193) + (iI (f0 z192))) - (iI 48))) M rfl dX12_go_333 ?_
                                    refine r_put (ws' := [(a0, .inr (11, [.int r0, .ref a1, .int (iI x0), .int (iI x1), .int (iI x2), .int (iI z192), .int (iI z1), .int (iI x5), .int ((((iI 10) * fr193) + (iI (f0 z192))) - (iI 48)), .int (iI x6), .int (iI x7), .int (iI x8), .long (((27 * fy191) + (Int32.toInt64 (iI (f0 z192)))) - 96), .int (iI x9), .ref a2, .ref a3, .ref a4, .ref a5, .ref a6, .ref a7, .ref a8, .ref a9, .ref a10, .ref a11, .int (iI x10), .ref a12, .ref a13, .ref a14, .ref a15, .int (iI x11), .int r2, .int r3, .ref a16, .int (iI x12), .int (iI x13), .ref a17, .ref a18, .int (iI x14), .ref a19, .int (iI x15), .int r4, .ref a20, .ref a21, .int (iI x16), .int r5, .ref a22, .int (iI x17), .int (iI x18), .int (iI x19), .int (iI x20)])), (a1, .inl (T 0, 940, .inl (cI f0)))]) M w 0 8 clX12 rfl (by decide) G1471 rfl rfl rfl rfl (Nat.le_of_ble_eq_true rfl) rfl dX12_go_334 (fun H locs w => ?_)
                                    refine lv_aload_n hx hb dX12_go_337 rfl (lv_at hl 4 rfl) ?_
                                    refine lv_dup hx hb dX12_go_338 rfl ?_
                                    refine r_get (v := .int (iI z192)) M w 0 5 clX12 rfl (by decide) G1468 rfl rfl dX12_go_339 ?_
                                    refine lv_iconst (v := iI 1) hx hb dX12_go_342 (by decide +kernel) ?_
                                    refine r_iadd (v := iI (z192 + 1)) M (iI_add _ _) dX12_go_343 ?_
                                    refine r_put (ws' := [(a0, .inr (11, [.int r0, .ref a1, .int (iI x0), .int (iI x1), .int (iI x2), .int (iI (z192 + 1)), .int (iI z1), .int (iI x5), .int ((((iI 10) * fr193) + (iI (f0 z192))) - (iI 48)), .int (iI x6), .int (iI x7), .int (iI x8), .long (((27 * fy191) + (Int32.toInt64 (iI (f0 z192)))) - 96), .int (iI x9), .ref a2, .ref a3, .ref a4, .ref a5, .ref a6, .ref a7, .ref a8, .ref a9, .ref a10, .ref a11, .int (iI x10), .ref a12, .ref a13, .ref a14, .ref a15, .int (iI x11), .int r2, .int r3, .ref a16, .int (iI x12), .int (iI x13), .ref a17, .ref a18, .int (iI x14), .ref a19, .int (iI x15), .int r4, .ref a20, .ref a21, .int (iI x16), .int r5, .ref a22, .int (iI x17), .int (iI x18), .int (iI x19), .int (iI x20)])), (a1, .inl (T 0, 940, .inl (cI f0)))]) M w 0 5 clX12 rfl (by decide) G1468 rfl rfl rfl rfl (Nat.le_of_ble_eq_true rfl) rfl dX12_go_344 (fun H locs w => ?_)
                                    refine lv_goto (tgt := 215) hx hb dX12_go_347 (by decide) ?_
                                    exact ih2 (((27 * fy191) + (Int32.toInt64 (iI (f0 z192)))) - 96) (z192 + 1) ((((iI 10) * fr193) + (iI (f0 z192))) - (iI 48)) 1 _ _ _ (by omega) (by omega) (by decide) (by decide) (by omega) (by omega) (lq2_r.trans (rn_t (ta_L pq196 pq219 (by omega)).1 (Or.inl (ta_L pq196 pq219 (by omega)).2))) (aR_s lq2_a (Or.inl (ta_L pq196 pq219 (by omega)).2)) (gd_q lq2_g (by omega) pq228 (by omega) (by omega) (by omega) (by omega) (by omega) (by omega)) (wI_s lq2_w (by omega) (f0_h _) (by first | exact Or.inl ⟨by omega, rfl⟩ | exact Or.inr ⟨by omega, rfl⟩) (by first | exact Or.inl ⟨by omega, rfl⟩ | exact Or.inr ⟨by omega, rfl⟩)) (by omega) w (lv_sub hl [0, 2, 3, 4] rfl)
                          · replace c_220 := (iz_eq (Int.le_trans (by decide) z217_a) (Int.le_trans z217_b (by decide))).mp c_220
                            refine lv_aload_n hx hb dX12_go_229 rfl (lv_at hl 3 rfl) ?_
                            refine lv_aload_n hx hb dX12_go_230 rfl (lv_at hl 3 rfl) ?_
                            refine r_get (v := .int (iI z192)) M w 0 5 clX12 rfl (by decide) G1468 rfl rfl dX12_go_231 ?_
                            refine k_I (ce := 0) (sl := 0) (rest := []) (wr := []) (r_V (f := 0) [0, 1] M w V_HookedCityModel_50 G1639 G50 (c9_X12_tapeAt l D T _ a0 z192 r0 a1 x0 x1 x2 z192 z1 x5 fr193 x6 x7 x8 fy191 x9 a2 a3 a4 a5 a6 a7 a8 a9 a10 a11 x10 a12 a13 a14 a15 x11 r2 r3 a16 x12 x13 a17 a18 x14 a19 x15 r4 a20 a21 x16 r5 a22 x17 x18 x19 x20 f0 z192_a z192_b x0_a x0_b x1_a x1_b x2_a x2_b z192_a z192_b z1_a z1_b x5_a x5_b x6_a x6_b x7_a x7_b x8_a x8_b x9_a x9_b x10_a x10_b x11_a x11_b x12_a x12_b x13_a x13_b x14_a x14_b x15_a x15_b x16_a x16_b x17_a x17_b x18_a x18_b x19_a x19_b x20_a x20_b f0_h) 0 clX12 rfl rfl (by decide) rfl hl.1 rfl (Nat.le_of_ble_eq_true rfl) dX12_go_234 (by decide) (by decide) (by decide) (by decide)) w [0, 1] [] rfl rfl (by decide) (by decide) rfl rfl (fun v z236 H locs hp w => ?_)
                            have hv : iI z236 = v := hp.1
                            subst hv
                            have z236_a : (-2147483648) ≤ z236 := hp.2.1
                            have z236_b : z236 ≤ 2147483647 := hp.2.2.1
                            have pq237 : taQ z192 x1 z236 (f0 z192) := hp.2.2.2.1
                            have w : WD D A s.heap [(a0, .inr (11, [.int r0, .ref a1, .int (iI x0), .int (iI x1), .int (iI x2), .int (iI z192), .int (iI z1), .int (iI x5), .int fr193, .int (iI x6), .int (iI x7), .int (iI x8), .long fy191, .int (iI x9), .ref a2, .ref a3, .ref a4, .ref a5, .ref a6, .ref a7, .ref a8, .ref a9, .ref a10, .ref a11, .int (iI x10), .ref a12, .ref a13, .ref a14, .ref a15, .int (iI x11), .int r2, .int r3, .ref a16, .int (iI x12), .int (iI x13), .ref a17, .ref a18, .int (iI x14), .ref a19, .int (iI x15), .int r4, .ref a20, .ref a21, .int (iI x16), .int r5, .ref a22, .int (iI x17), .int (iI x18), .int (iI x19), .int (iI x20)])), (a1, .inl (T 0, 940, .inl (cI f0)))] H locs := w
                            rcases hp.2.2.2.2 with ⟨c_238, hr⟩ | c_239
                            · exfalso; omega
                            · refine k_I (ce := 0) (sl := 0) (rest := []) (wr := [(a0, .inr (11, [.int r0, .ref a1, .int (iI x0), .int (iI x1), .int (iI x2), .int (iI z192), .int (iI z1), .int (iI x5), .int fr193, .int (iI x6), .int (iI x7), .int (iI x8), .long fy191, .int (iI x9), .ref a2, .ref a3, .ref a4, .ref a5, .ref a6, .ref a7, .ref a8, .ref a9, .ref a10, .ref a11, .int (iI x10), .ref a12, .ref a13, .ref a14, .ref a15, .int (iI x11), .int r2, .int r3, .ref a16, .int (iI x12), .int (iI x13), .ref a17, .ref a18, .int (iI x14), .ref a19, .int (iI x15), .int r4, .ref a20, .ref a21, .int (iI x16), .int r5, .ref a22, .int (iI x17), .int (iI x18), .int (iI x19), .int (iI x20)])), (a1, .inl (T 0, 940, .inl (cI f0)))]) (r_S (f := 0) [] M w V_HookedCityModel_37 G1635 (c10_X12_isDigit l D T _ z236 z236_a z236_b) rfl (by decide) rfl hl.1 rfl (Nat.le_of_ble_eq_true rfl) dX12_go_237 (by decide) (by decide) (by decide) (by decide)) w [] [0, 1] rfl rfl (by decide) (by decide) rfl rfl (fun v z240 H locs hp w => ?_)
                              have hv : iI z240 = v := hp.1
                              subst hv
                              have z240_a : 0 ≤ z240 := hp.2.1
                              have z240_b : z240 ≤ 1 := hp.2.2.1
                              have ee241 : 0 ≤ ((z236 + 4294967296) - (z240 * 4294967344)) := hp.2.2.2.1
                              have pq242 : lq z240 z236 48 57 := hp.2.2.2.2
                              have w : WD D A s.heap [(a0, .inr (11, [.int r0, .ref a1, .int (iI x0), .int (iI x1), .int (iI x2), .int (iI z192), .int (iI z1), .int (iI x5), .int fr193, .int (iI x6), .int (iI x7), .int (iI x8), .long fy191, .int (iI x9), .ref a2, .ref a3, .ref a4, .ref a5, .ref a6, .ref a7, .ref a8, .ref a9, .ref a10, .ref a11, .int (iI x10), .ref a12, .ref a13, .ref a14, .ref a15, .int (iI x11), .int r2, .int r3, .ref a16, .int (iI x12), .int (iI x13), .ref a17, .ref a18, .int (iI x14), .ref a19, .int (iI x15), .int r4, .ref a20, .ref a21, .int (iI x16), .int r5, .ref a22, .int (iI x17), .int (iI x18), .int (iI x19), .int (iI x20)])), (a1, .inl (T 0, 940, .inl (cI f0)))] H locs := w
                              refine lv_if_eq (tgt := 350) hx hb dX12_go_240 (by decide) (fun c_243 => ?_) (fun c_243 => ?_)
                              · replace c_243 := (iz_eq (Int.le_trans (by decide) z240_a) (Int.le_trans z240_b (by decide))).mp c_243
                                refine lv_aload_n hx hb dX12_go_350 rfl (lv_at hl 3 rfl) ?_
                                refine lv_iload_n hx hb dX12_go_351 rfl (lv_at hl 0 rfl) ?_
                                refine lv_if_eq (tgt := 377) hx hb dX12_go_352 (by decide) (fun c_244 => ?_) (fun c_244 => ?_)
                                · replace c_244 := (iz_eq (Int.le_trans (by decide) z194_a) (Int.le_trans z194_b (by decide))).mp c_244
                                  refine lv_iconst (v := iI 1) hx hb dX12_go_377 (by decide +kernel) ?_
                                  refine lv_goto (tgt := 390) hx hb dX12_go_378 (by decide) ?_
                                  refine r_put (ws' := [(a0, .inr (11, [.int r0, .ref a1, .int (iI x0), .int (iI x1), .int (iI x2), .int (iI z192), .int (iI z1), .int (iI 1), .int fr193, .int (iI x6), .int (iI x7), .int (iI x8), .long fy191, .int (iI x9), .ref a2, .ref a3, .ref a4, .ref a5, .ref a6, .ref a7, .ref a8, .ref a9, .ref a10, .ref a11, .int (iI x10), .ref a12, .ref a13, .ref a14, .ref a15, .int (iI x11), .int r2, .int r3, .ref a16, .int (iI x12), .int (iI x13), .ref a17, .ref a18, .int (iI x14), .ref a19, .int (iI x15), .int r4, .ref a20, .ref a21, .int (iI x16), .int r5, .ref a22, .int (iI x17), .int (iI x18), .int (iI x19), .int (iI x20)])), (a1, .inl (T 0, 940, .inl (cI f0)))]) M w 0 7 clX12 rfl (by decide) G1470 rfl rfl rfl rfl (Nat.le_of_ble_eq_true rfl) rfl dX12_go_390 (fun H locs w => ?_)
                                  exact ret (z192, z1, 1, fr193, x6, fy191) _ _ _ _ _ [0, 1] dX12_go_393 ⟨z192_a, z192_b, z1_a, z1_b, (show (0 : Int) ≤ 1 from by decide), (show (1 : Int) ≤ 4 from by decide), x6_a, x6_b, (show 0 ≤ (z192 - x3) from by omega), (show 0 ≤ (((z192 - x3) - 1) + 3) from by omega), (show gT (tkAt f0 x1 x2 x3) 1 z1 z192 fy191 fr193 x6 from (by rw [tk_run (lq1_s.trans (sk_e (by omega))) (by omega) (by omega) (Or.inl (lq_1 pq186 (by omega))) (lq2_r.trans (rn_e (ta_E pq196 pq219 (by omega) pq237 pq242 (by omega))))]; exact ⟨rfl, rfl, go_fin lq2_a lq2_g pq190 (lq2_r.trans (rn_e (ta_E pq196 pq219 (by omega) pq237 pq242 (by omega)))) (by omega) (Or.inl (lq_1 pq186 (by omega))) lq2_w (by omega)⟩))⟩ w (by decide) rfl
                                · replace c_244 : ¬ z194 = 0 := fun h => c_244 ((iz_eq (Int.le_trans (by decide) z194_a) (Int.le_trans z194_b (by decide))).mpr h)
                                  refine lv_aload_n hx hb dX12_go_355 rfl (lv_at hl 3 rfl) ?_
                                  refine r_get (v := .int (iI z192)) M w 0 5 clX12 rfl (by decide) G1468 rfl rfl dX12_go_356 ?_
                                  refine lv_aload_n hx hb dX12_go_359 rfl (lv_at hl 3 rfl) ?_
                                  refine r_get (v := .int (iI z1)) M w 0 6 clX12 rfl (by decide) G1469 rfl rfl dX12_go_360 ?_
                                  refine r_isub (v := iI (z192 - z1)) M (iI_sub _ _) dX12_go_363 ?_
                                  refine lv_iload_n hx hb dX12_go_364 rfl (lv_at hl 1 rfl) ?_
                                  refine lv_if_eq (tgt := 373) hx hb dX12_go_365 (by decide) (fun c_245 => ?_) (fun c_245 => ?_)
                                  · replace c_245 := (iz_eq (Int.le_trans (by decide) z188_a) (Int.le_trans z188_b (by decide))).mp c_245
                                    refine lv_iconst (v := iI 3) hx hb dX12_go_373 (by decide +kernel) ?_
                                    refine lv_icmp_le (tgt := 381) hx hb dX12_go_374 (by decide) (fun c_246 => ?_) (fun c_246 => ?_)
                                    · replace c_246 := (iI_le (by omega) (by omega) (by decide) (by decide)).mp c_246
                                      refine lv_iload_n hx hb dX12_go_381 rfl (lv_at hl 1 rfl) ?_
                                      refine lv_if_eq (tgt := 389) hx hb dX12_go_382 (by decide) (fun c_247 => ?_) (fun c_247 => ?_)
                                      · replace c_247 := (iz_eq (Int.le_trans (by decide) z188_a) (Int.le_trans z188_b (by decide))).mp c_247
                                        refine lv_iconst (v := iI 3) hx hb dX12_go_389 (by decide +kernel) ?_
                                        refine r_put (ws' := [(a0, .inr (11, [.int r0, .ref a1, .int (iI x0), .int (iI x1), .int (iI x2), .int (iI z192), .int (iI z1), .int (iI 3), .int fr193, .int (iI x6), .int (iI x7), .int (iI x8), .long fy191, .int (iI x9), .ref a2, .ref a3, .ref a4, .ref a5, .ref a6, .ref a7, .ref a8, .ref a9, .ref a10, .ref a11, .int (iI x10), .ref a12, .ref a13, .ref a14, .ref a15, .int (iI x11), .int r2, .int r3, .ref a16, .int (iI x12), .int (iI x13), .ref a17, .ref a18, .int (iI x14), .ref a19, .int (iI x15), .int r4, .ref a20, .ref a21, .int (iI x16), .int r5, .ref a22, .int (iI x17), .int (iI x18), .int (iI x19), .int (iI x20)])), (a1, .inl (T 0, 940, .inl (cI f0)))]) M w 0 7 clX12 rfl (by decide) G1470 rfl rfl rfl rfl (Nat.le_of_ble_eq_true rfl) rfl dX12_go_390 (fun H locs w => ?_)
                                        exact ret (z192, z1, 3, fr193, x6, fy191) _ _ _ _ _ [0, 1] dX12_go_393 ⟨z192_a, z192_b, z1_a, z1_b, (show (0 : Int) ≤ 3 from by decide), (show (3 : Int) ≤ 4 from by decide), x6_a, x6_b, (show 0 ≤ (z192 - x3) from by omega), (show 0 ≤ (((z192 - x3) - 3) + 3) from by omega), (show gT (tkAt f0 x1 x2 x3) 3 z1 z192 fy191 fr193 x6 from (by rw [tk_run (lq1_s.trans (sk_e (by omega))) (by omega) (by omega) (Or.inl (lq_1 pq186 (by omega))) (lq2_r.trans (rn_e (ta_E pq196 pq219 (by omega) pq237 pq242 (by omega))))]; exact ⟨rfl, rfl, go_fin lq2_a lq2_g pq190 (lq2_r.trans (rn_e (ta_E pq196 pq219 (by omega) pq237 pq242 (by omega)))) (by omega) (Or.inl (lq_1 pq186 (by omega))) lq2_w (by omega)⟩))⟩ w (by decide) rfl
                                      · replace c_247 : ¬ z188 = 0 := fun h => c_247 ((iz_eq (Int.le_trans (by decide) z188_a) (Int.le_trans z188_b (by decide))).mpr h)
                                        exfalso; omega
                                    · replace c_246 : 3 < (z192 - z1) := Int.not_le.mp (fun h => c_246 ((iI_le (by omega) (by omega) (by decide) (by decide)).mpr h))
                                      refine lv_iconst (v := iI 1) hx hb dX12_go_377 (by decide +kernel) ?_
                                      refine lv_goto (tgt := 390) hx hb dX12_go_378 (by decide) ?_
                                      refine r_put (ws' := [(a0, .inr (11, [.int r0, .ref a1, .int (iI x0), .int (iI x1), .int (iI x2), .int (iI z192), .int (iI z1), .int (iI 1), .int fr193, .int (iI x6), .int (iI x7), .int (iI x8), .long fy191, .int (iI x9), .ref a2, .ref a3, .ref a4, .ref a5, .ref a6, .ref a7, .ref a8, .ref a9, .ref a10, .ref a11, .int (iI x10), .ref a12, .ref a13, .ref a14, .ref a15, .int (iI x11), .int r2, .int r3, .ref a16, .int (iI x12), .int (iI x13), .ref a17, .ref a18, .int (iI x14), .ref a19, .int (iI x15), .int r4, .ref a20, .ref a21, .int (iI x16), .int r5, .ref a22, .int (iI x17), .int (iI x18), .int (iI x19), .int (iI x20)])), (a1, .inl (T 0, 940, .inl (cI f0)))]) M w 0 7 clX12 rfl (by decide) G1470 rfl rfl rfl rfl (Nat.le_of_ble_eq_true rfl) rfl dX12_go_390 (fun H locs w => ?_)
                                      exact ret (z192, z1, 1, fr193, x6, fy191) _ _ _ _ _ [0, 1] dX12_go_393 ⟨z192_a, z192_b, z1_a, z1_b, (show (0 : Int) ≤ 1 from by decide), (show (1 : Int) ≤ 4 from by decide), x6_a, x6_b, (show 0 ≤ (z192 - x3) from by omega), (show 0 ≤ (((z192 - x3) - 1) + 3) from by omega), (show gT (tkAt f0 x1 x2 x3) 1 z1 z192 fy191 fr193 x6 from (by rw [tk_run (lq1_s.trans (sk_e (by omega))) (by omega) (by omega) (Or.inl (lq_1 pq186 (by omega))) (lq2_r.trans (rn_e (ta_E pq196 pq219 (by omega) pq237 pq242 (by omega))))]; exact ⟨rfl, rfl, go_fin lq2_a lq2_g pq190 (lq2_r.trans (rn_e (ta_E pq196 pq219 (by omega) pq237 pq242 (by omega)))) (by omega) (Or.inl (lq_1 pq186 (by omega))) lq2_w (by omega)⟩))⟩ w (by decide) rfl
                                  · replace c_245 : ¬ z188 = 0 := fun h => c_245 ((iz_eq (Int.le_trans (by decide) z188_a) (Int.le_trans z188_b (by decide))).mpr h)
                                    refine lv_bipush (v := iI 7) hx hb dX12_go_368 (by decide +kernel) ?_
                                    refine lv_goto (tgt := 374) hx hb dX12_go_370 (by decide) ?_
                                    refine lv_icmp_le (tgt := 381) hx hb dX12_go_374 (by decide) (fun c_248 => ?_) (fun c_248 => ?_)
                                    · replace c_248 := (iI_le (by omega) (by omega) (by decide) (by decide)).mp c_248
                                      refine lv_iload_n hx hb dX12_go_381 rfl (lv_at hl 1 rfl) ?_
                                      refine lv_if_eq (tgt := 389) hx hb dX12_go_382 (by decide) (fun c_249 => ?_) (fun c_249 => ?_)
                                      · replace c_249 := (iz_eq (Int.le_trans (by decide) z188_a) (Int.le_trans z188_b (by decide))).mp c_249
                                        exfalso; omega
                                      · replace c_249 : ¬ z188 = 0 := fun h => c_249 ((iz_eq (Int.le_trans (by decide) z188_a) (Int.le_trans z188_b (by decide))).mpr h)
                                        refine lv_iconst (v := iI 2) hx hb dX12_go_385 (by decide +kernel) ?_
                                        refine lv_goto (tgt := 390) hx hb dX12_go_386 (by decide) ?_
                                        refine r_put (ws' := [(a0, .inr (11, [.int r0, .ref a1, .int (iI x0), .int (iI x1), .int (iI x2), .int (iI z192), .int (iI z1), .int (iI 2), .int fr193, .int (iI x6), .int (iI x7), .int (iI x8), .long fy191, .int (iI x9), .ref a2, .ref a3, .ref a4, .ref a5, .ref a6, .ref a7, .ref a8, .ref a9, .ref a10, .ref a11, .int (iI x10), .ref a12, .ref a13, .ref a14, .ref a15, .int (iI x11), .int r2, .int r3, .ref a16, .int (iI x12), .int (iI x13), .ref a17, .ref a18, .int (iI x14), .ref a19, .int (iI x15), .int r4, .ref a20, .ref a21, .int (iI x16), .int r5, .ref a22, .int (iI x17), .int (iI x18), .int (iI x19), .int (iI x20)])), (a1, .inl (T 0, 940, .inl (cI f0)))]) M w 0 7 clX12 rfl (by decide) G1470 rfl rfl rfl rfl (Nat.le_of_ble_eq_true rfl) rfl dX12_go_390 (fun H locs w => ?_)
                                        exact ret (z192, z1, 2, fr193, x6, fy191) _ _ _ _ _ [0, 1] dX12_go_393 ⟨z192_a, z192_b, z1_a, z1_b, (show (0 : Int) ≤ 2 from by decide), (show (2 : Int) ≤ 4 from by decide), x6_a, x6_b, (show 0 ≤ (z192 - x3) from by omega), (show 0 ≤ (((z192 - x3) - 2) + 3) from by omega), (show gT (tkAt f0 x1 x2 x3) 2 z1 z192 fy191 fr193 x6 from (by rw [tk_run (lq1_s.trans (sk_e (by omega))) (by omega) (by omega) (Or.inl (lq_1 pq186 (by omega))) (lq2_r.trans (rn_e (ta_E pq196 pq219 (by omega) pq237 pq242 (by omega))))]; exact ⟨rfl, rfl, go_fin lq2_a lq2_g pq190 (lq2_r.trans (rn_e (ta_E pq196 pq219 (by omega) pq237 pq242 (by omega)))) (by omega) (Or.inl (lq_1 pq186 (by omega))) lq2_w (by omega)⟩))⟩ w (by decide) rfl
                                    · replace c_248 : 7 < (z192 - z1) := Int.not_le.mp (fun h => c_248 ((iI_le (by omega) (by omega) (by decide) (by decide)).mpr h))
                                      refine lv_iconst (v := iI 1) hx hb dX12_go_377 (by decide +kernel) ?_
                                      refine lv_goto (tgt := 390) hx hb dX12_go_378 (by decide) ?_
                                      refine r_put (ws' := [(a0, .inr (11, [.int r0, .ref a1, .int (iI x0), .int (iI x1), .int (iI x2), .int (iI z192), .int (iI z1), .int (iI 1), .int fr193, .int (iI x6), .int (iI x7), .int (iI x8), .long fy191, .int (iI x9), .ref a2, .ref a3, .ref a4, .ref a5, .ref a6, .ref a7, .ref a8, .ref a9, .ref a10, .ref a11, .int (iI x10), .ref a12, .ref a13, .ref a14, .ref a15, .int (iI x11), .int r2, .int r3, .ref a16, .int (iI x12), .int (iI x13), .ref a17, .ref a18, .int (iI x14), .ref a19, .int (iI x15), .int r4, .ref a20, .ref a21, .int (iI x16), .int r5, .ref a22, .int (iI x17), .int (iI x18), .int (iI x19), .int (iI x20)])), (a1, .inl (T 0, 940, .inl (cI f0)))]) M w 0 7 clX12 rfl (by decide) G1470 rfl rfl rfl rfl (Nat.le_of_ble_eq_true rfl) rfl dX12_go_390 (fun H locs w => ?_)
                                      exact ret (z192, z1, 1, fr193, x6, fy191) _ _ _ _ _ [0, 1] dX12_go_393 ⟨z192_a, z192_b, z1_a, z1_b, (show (0 : Int) ≤ 1 from by decide), (show (1 : Int) ≤ 4 from by decide), x6_a, x6_b, (show 0 ≤ (z192 - x3) from by omega), (show 0 ≤ (((z192 - x3) - 1) + 3) from by omega), (show gT (tkAt f0 x1 x2 x3) 1 z1 z192 fy191 fr193 x6 from (by rw [tk_run (lq1_s.trans (sk_e (by omega))) (by omega) (by omega) (Or.inl (lq_1 pq186 (by omega))) (lq2_r.trans (rn_e (ta_E pq196 pq219 (by omega) pq237 pq242 (by omega))))]; exact ⟨rfl, rfl, go_fin lq2_a lq2_g pq190 (lq2_r.trans (rn_e (ta_E pq196 pq219 (by omega) pq237 pq242 (by omega)))) (by omega) (Or.inl (lq_1 pq186 (by omega))) lq2_w (by omega)⟩))⟩ w (by decide) rfl
                              · replace c_243 : ¬ z240 = 0 := fun h => c_243 ((iz_eq (Int.le_trans (by decide) z240_a) (Int.le_trans z240_b (by decide))).mpr h)
                                refine lv_aload_n hx hb dX12_go_243 rfl (lv_at hl 3 rfl) ?_
                                refine r_get (v := .ref a1) M w 0 1 clX12 rfl (by decide) G1464 rfl rfl dX12_go_244 ?_
                                refine lv_aload_n hx hb dX12_go_247 rfl (lv_at hl 3 rfl) ?_
                                refine r_get (v := .int (iI z192)) M w 0 5 clX12 rfl (by decide) G1468 rfl rfl dX12_go_248 ?_
                                refine r_iald (v := iI (f0 z192)) M w 1 rfl (iI_in (by omega) (by omega) (by decide)) (cI_at (by omega) (by omega)) dX12_go_251 ?_
                                have hh250 : 0 ≤ (f0 z192) ∧ (f0 z192) ≤ 255 := f0_h z192
                                refine lv_istore (lv' := [(4, .int (iI (f0 z192))), (3, .int (iI z194)), (2, .int (iI z188)), (1, .int (iI (f0 z1))), (0, .ref a0)]) hx hb dX12_go_252 hl (by decide) rfl (fun ls hl => ?_)
                                refine lv_iload_n hx hb dX12_go_254 rfl (lv_at hl 1 rfl) ?_
                                refine lv_if_eq (tgt := 271) hx hb dX12_go_255 (by decide) (fun c_251 => ?_) (fun c_251 => ?_)
                                · replace c_251 := (iz_eq (Int.le_trans (by decide) z194_a) (Int.le_trans z194_b (by decide))).mp c_251
                                  refine lv_iconst (v := iI 0) hx hb dX12_go_271 (by decide +kernel) ?_
                                  refine lv_istore_n (lv' := [(3, .int (iI 0)), (4, .int (iI (f0 z192))), (2, .int (iI z188)), (1, .int (iI (f0 z1))), (0, .ref a0)]) hx hb dX12_go_272 rfl hl (by decide) rfl (fun ls hl => ?_)
                                  refine lv_aload_n hx hb dX12_go_273 rfl (lv_at hl 4 rfl) ?_
                                  refine r_get (v := .int (iI z192)) M w 0 5 clX12 rfl (by decide) G1468 rfl rfl dX12_go_274 ?_
                                  refine lv_aload_n hx hb dX12_go_277 rfl (lv_at hl 4 rfl) ?_
                                  refine r_get (v := .int (iI z1)) M w 0 6 clX12 rfl (by decide) G1469 rfl rfl dX12_go_278 ?_
                                  refine r_isub (v := iI (z192 - z1)) M (iI_sub _ _) dX12_go_281 ?_
                                  refine lv_bipush (v := iI 7) hx hb dX12_go_282 (by decide +kernel) ?_
                                  refine lv_icmp_ge (tgt := 307) hx hb dX12_go_284 (by decide) (fun c_252 => ?_) (fun c_252 => ?_)
                                  · replace c_252 := (iI_le (by decide) (by decide) (by omega) (by omega)).mp c_252
                                    refine lv_aload_n hx hb dX12_go_307 rfl (lv_at hl 4 rfl) ?_
                                    refine r_get (v := .int (iI z192)) M w 0 5 clX12 rfl (by decide) G1468 rfl rfl dX12_go_308 ?_
                                    refine lv_aload_n hx hb dX12_go_311 rfl (lv_at hl 4 rfl) ?_
                                    refine r_get (v := .int (iI z1)) M w 0 6 clX12 rfl (by decide) G1469 rfl rfl dX12_go_312 ?_
                                    refine r_isub (v := iI (z192 - z1)) M (iI_sub _ _) dX12_go_315 ?_
                                    refine lv_iconst (v := iI 3) hx hb dX12_go_316 (by decide +kernel) ?_
                                    refine lv_icmp_ge (tgt := 337) hx hb dX12_go_317 (by decide) (fun c_253 => ?_) (fun c_253 => ?_)
                                    · replace c_253 := (iI_le (by decide) (by decide) (by omega) (by omega)).mp c_253
                                      refine lv_aload_n hx hb dX12_go_337 rfl (lv_at hl 4 rfl) ?_
                                      refine lv_dup hx hb dX12_go_338 rfl ?_
                                      refine r_get (v := .int (iI z192)) M w 0 5 clX12 rfl (by decide) G1468 rfl rfl dX12_go_339 ?_
                                      refine lv_iconst (v := iI 1) hx hb dX12_go_342 (by decide +kernel) ?_
                                      refine r_iadd (v := iI (z192 + 1)) M (iI_add _ _) dX12_go_343 ?_
                                      refine r_put (ws' := [(a0, .inr (11, [.int r0, .ref a1, .int (iI x0), .int (iI x1), .int (iI x2), .int (iI (z192 + 1)), .int (iI z1), .int (iI x5), .int fr193, .int (iI x6), .int (iI x7), .int (iI x8), .long fy191, .int (iI x9), .ref a2, .ref a3, .ref a4, .ref a5, .ref a6, .ref a7, .ref a8, .ref a9, .ref a10, .ref a11, .int (iI x10), .ref a12, .ref a13, .ref a14, .ref a15, .int (iI x11), .int r2, .int r3, .ref a16, .int (iI x12), .int (iI x13), .ref a17, .ref a18, .int (iI x14), .ref a19, .int (iI x15), .int r4, .ref a20, .ref a21, .int (iI x16), .int r5, .ref a22, .int (iI x17), .int (iI x18), .int (iI x19), .int (iI x20)])), (a1, .inl (T 0, 940, .inl (cI f0)))]) M w 0 5 clX12 rfl (by decide) G1468 rfl rfl rfl rfl (Nat.le_of_ble_eq_true rfl) rfl dX12_go_344 (fun H locs w => ?_)
                                      refine lv_goto (tgt := 215) hx hb dX12_go_347 (by decide) ?_
                                      exact ih2 fy191 (z192 + 1) fr193 0 _ _ _ (by omega) (by omega) (by decide) (by decide) (by omega) (by omega) (lq2_r.trans (rn_t (ta_D pq237 pq242 (by omega)).1 (Or.inr (ta_D pq237 pq242 (by omega)).2))) (aR_s lq2_a (Or.inr (ta_D pq237 pq242 (by omega)).2)) (gd_z lq2_g (by omega)) (wI_s lq2_w (by omega) (f0_h _) (by first | exact Or.inl ⟨by omega, rfl⟩ | exact Or.inr ⟨by omega, rfl⟩) (by first | exact Or.inl ⟨by omega, rfl⟩ | exact Or.inr ⟨by omega, rfl⟩)) (by omega) w (lv_sub hl [0, 2, 3, 4] rfl)
                                    · replace c_253 : (z192 - z1) < 3 := Int.not_le.mp (fun h => c_253 ((iI_le (by decide) (by decide) (by omega) (by omega)).mpr h))
                                      exfalso; omega
                                  · replace c_252 : (z192 - z1) < 7 := Int.not_le.mp (fun h => c_252 ((iI_le (by decide) (by decide) (by omega) (by omega)).mpr h))
                                    refine lv_aload_n hx hb dX12_go_287 rfl (lv_at hl 4 rfl) ?_
                                    refine lv_ldc2 (v := 27) hx hb M.1.2.2.2.1 (M.1.2.2.2.2 _ G1641) dX12_go_288 ?_
                                    refine lv_aload_n hx hb dX12_go_291 rfl (lv_at hl 4 rfl) ?_
                                    refine r_get (v := .long fy191) M w 0 12 clX12 rfl (by decide) G1475 rfl rfl dX12_go_292 ?_
                                    refine r_lmul (v := (27 * fy191)) M rfl dX12_go_295 ?_
                                    refine lv_iload hx hb dX12_go_296 (lv_at hl 1 rfl) ?_
                                    refine lv_i2l (v := (Int32.toInt64 (iI (f0 z192)))) hx hb dX12_go_298 rfl ?_
                                    refine r_ladd (v := ((27 * fy191) + (Int32.toInt64 (iI (f0 z192))))) M rfl dX12_go_299 ?_
                                    refine lv_ldc2 (v := 96) hx hb M.1.2.2.2.1 (M.1.2.2.2.2 _ G1642) dX12_go_300 ?_
                                    refine r_lsub (v := (((27 * fy191) + (Int32.toInt64 (iI (f0 z192)))) - 96)) M rfl dX12_go_303 ?_
                                    refine r_put (ws' := [(a0, .inr (11, [.int r0, .ref a1, .int (iI x0), .int (iI x1), .int (iI x2), .int (iI z192), .int (iI z1), .int (iI x5), .int fr193, .int (iI x6), .int (iI x7), .int (iI x8), .long (((27 * fy191) + (Int32.toInt64 (iI (f0 z192)))) - 96), .int (iI x9), .ref a2, .ref a3, .ref a4, .ref a5, .ref a6, .ref a7, .ref a8, .ref a9, .ref a10, .ref a11, .int (iI x10), .ref a12, .ref a13, .ref a14, .ref a15, .int (iI x11), .int r2, .int r3, .ref a16, .int (iI x12), .int (iI x13), .ref a17, .ref a18, .int (iI x14), .ref a19, .int (iI x15), .int r4, .ref a20, .ref a21, .int (iI x16), .int r5, .ref a22, .int (iI x17), .int (iI x18), .int (iI x19), .int (iI x20)])), (a1, .inl (T 0, 940, .inl (cI f0)))]) M w 0 12 clX12 rfl (by decide) G1475 rfl rfl rfl rfl (Nat.le_of_ble_eq_true rfl) rfl dX12_go_304 (fun H locs w => ?_)
                                    refine lv_aload_n hx hb dX12_go_307 rfl (lv_at hl 4 rfl) ?_
                                    refine r_get (v := .int (iI z192)) M w 0 5 clX12 rfl (by decide) G1468 rfl rfl dX12_go_308 ?_
                                    refine lv_aload_n hx hb dX12_go_311 rfl (lv_at hl 4 rfl) ?_
                                    refine r_get (v := .int (iI z1)) M w 0 6 clX12 rfl (by decide) G1469 rfl rfl dX12_go_312 ?_
                                    refine r_isub (v := iI (z192 - z1)) M (iI_sub _ _) dX12_go_315 ?_
                                    refine lv_iconst (v := iI 3) hx hb dX12_go_316 (by decide +kernel) ?_
                                    refine lv_icmp_ge (tgt := 337) hx hb dX12_go_317 (by decide) (fun c_254 => ?_) (fun c_254 => ?_)
                                    · replace c_254 := (iI_le (by decide) (by decide) (by omega) (by omega)).mp c_254
                                      refine lv_aload_n hx hb dX12_go_337 rfl (lv_at hl 4 rfl) ?_
                                      refine lv_dup hx hb dX12_go_338 rfl ?_
                                      refine r_get (v := .int (iI z192)) M w 0 5 clX12 rfl (by decide) G1468 rfl rfl dX12_go_339 ?_
                                      refine lv_iconst (v := iI 1) hx hb dX12_go_342 (by decide +kernel) ?_
                                      refine r_iadd (v := iI (z192 + 1)) M (iI_add _ _) dX12_go_343 ?_
                                      refine r_put (ws' := [(a0, .inr (11, [.int r0, .ref a1, .int (iI x0), .int (iI x1), .int (iI x2), .int (iI (z192 + 1)), .int (iI z1), .int (iI x5), .int fr193, .int (iI x6), .int (iI x7), .int (iI x8), .long (((27 * fy191) + (Int32.toInt64 (iI (f0 z192)))) - 96), .int (iI x9), .ref a2, .ref a3, .ref a4, .ref a5, .ref a6, .ref a7, .ref a8, .ref a9, .ref a10, .ref a11, .int (iI x10), .ref a12, .ref a13, .ref a14, .ref a15, .int (iI x11), .int r2, .int r3, .ref a16, .int (iI x12), .int (iI x13), .ref a17, .ref a18, .int (iI x14), .ref a19, .int (iI x15), .int r4, .ref a20, .ref a21, .int (iI x16), .int r5, .ref a22, .int (iI x17), .int (iI x18), .int (iI x19), .int (iI x20)])), (a1, .inl (T 0, 940, .inl (cI f0)))]) M w 0 5 clX12 rfl (by decide) G1468 rfl rfl rfl rfl (Nat.le_of_ble_eq_true rfl) rfl dX12_go_344 (fun H locs w => ?_)
                                      refine lv_goto (tgt := 215) hx hb dX12_go_347 (by decide) ?_
                                      exact ih2 (((27 * fy191) + (Int32.toInt64 (iI (f0 z192)))) - 96) (z192 + 1) fr193 0 _ _ _ (by omega) (by omega) (by decide) (by decide) (by omega) (by omega) (lq2_r.trans (rn_t (ta_D pq237 pq242 (by omega)).1 (Or.inr (ta_D pq237 pq242 (by omega)).2))) (aR_s lq2_a (Or.inr (ta_D pq237 pq242 (by omega)).2)) (gd_z lq2_g (by omega)) (wI_s lq2_w (by omega) (f0_h _) (by first | exact Or.inl ⟨by omega, rfl⟩ | exact Or.inr ⟨by omega, rfl⟩) (by first | exact Or.inl ⟨by omega, rfl⟩ | exact Or.inr ⟨by omega, rfl⟩)) (by omega) w (lv_sub hl [0, 2, 3, 4] rfl)
                                    · replace c_254 : (z192 - z1) < 3 := Int.not_le.mp (fun h => c_254 ((iI_le (by decide) (by decide) (by omega) (by omega)).mpr h))
                                      refine lv_aload_n hx hb dX12_go_320 rfl (lv_at hl 4 rfl) ?_
                                      refine lv_bipush (v := iI 10) hx hb dX12_go_321 (by decide +kernel) ?_
                                      refine lv_aload_n hx hb dX12_go_323 rfl (lv_at hl 4 rfl) ?_
                                      refine r_get (v := .int fr193) M w 0 8 clX12 rfl (by decide) G1471 rfl rfl dX12_go_324 ?_
                                      refine r_imul (v := ((iI 10) * fr193)) M rfl dX12_go_327 ?_
                                      refine lv_iload hx hb dX12_go_328 (lv_at hl 1 rfl) ?_
                                      refine r_iadd (v := (((iI 10) * fr193) + (iI (f0 z192)))) M rfl dX12_go_330 ?_
                                      refine lv_bipush (v := iI 48) hx hb dX12_go_331 (by decide +kernel) ?_
                                      refine r_isub (v := ((((iI 10) * fr193) + (iI (f0 z192))) - (iI 48))) M rfl dX12_go_333 ?_
                                      refine r_put (ws' := [(a0, .inr (11, [.int r0, .ref a1, .int (iI x0), .int (iI x1), .int (iI x2), .int (iI z192), .int (iI z1), .int (iI x5), .int ((((iI 10) * fr193) + (iI (f0 z192))) - (iI 48)), .int (iI x6), .int (iI x7), .int (iI x8), .long (((27 * fy191) + (Int32.toInt64 (iI (f0 z192)))) - 96), .int (iI x9), .ref a2, .ref a3, .ref a4, .ref a5, .ref a6, .ref a7, .ref a8, .ref a9, .ref a10, .ref a11, .int (iI x10), .ref a12, .ref a13, .ref a14, .ref a15, .int (iI x11), .int r2, .int r3, .ref a16, .int (iI x12), .int (iI x13), .ref a17, .ref a18, .int (iI x14), .ref a19, .int (iI x15), .int r4, .ref a20, .ref a21, .int (iI x16), .int r5, .ref a22, .int (iI x17), .int (iI x18), .int (iI x19), .int (iI x20)])), (a1, .inl (T 0, 940, .inl (cI f0)))]) M w 0 8 clX12 rfl (by decide) G1471 rfl rfl rfl rfl (Nat.le_of_ble_eq_true rfl) rfl dX12_go_334 (fun H locs w => ?_)
                                      refine lv_aload_n hx hb dX12_go_337 rfl (lv_at hl 4 rfl) ?_
                                      refine lv_dup hx hb dX12_go_338 rfl ?_
                                      refine r_get (v := .int (iI z192)) M w 0 5 clX12 rfl (by decide) G1468 rfl rfl dX12_go_339 ?_
                                      refine lv_iconst (v := iI 1) hx hb dX12_go_342 (by decide +kernel) ?_
                                      refine r_iadd (v := iI (z192 + 1)) M (iI_add _ _) dX12_go_343 ?_
                                      refine r_put (ws' := [(a0, .inr (11, [.int r0, .ref a1, .int (iI x0), .int (iI x1), .int (iI x2), .int (iI (z192 + 1)), .int (iI z1), .int (iI x5), .int ((((iI 10) * fr193) + (iI (f0 z192))) - (iI 48)), .int (iI x6), .int (iI x7), .int (iI x8), .long (((27 * fy191) + (Int32.toInt64 (iI (f0 z192)))) - 96), .int (iI x9), .ref a2, .ref a3, .ref a4, .ref a5, .ref a6, .ref a7, .ref a8, .ref a9, .ref a10, .ref a11, .int (iI x10), .ref a12, .ref a13, .ref a14, .ref a15, .int (iI x11), .int r2, .int r3, .ref a16, .int (iI x12), .int (iI x13), .ref a17, .ref a18, .int (iI x14), .ref a19, .int (iI x15), .int r4, .ref a20, .ref a21, .int (iI x16), .int r5, .ref a22, .int (iI x17), .int (iI x18), .int (iI x19), .int (iI x20)])), (a1, .inl (T 0, 940, .inl (cI f0)))]) M w 0 5 clX12 rfl (by decide) G1468 rfl rfl rfl rfl (Nat.le_of_ble_eq_true rfl) rfl dX12_go_344 (fun H locs w => ?_)
                                      refine lv_goto (tgt := 215) hx hb dX12_go_347 (by decide) ?_
                                      exact ih2 (((27 * fy191) + (Int32.toInt64 (iI (f0 z192)))) - 96) (z192 + 1) ((((iI 10) * fr193) + (iI (f0 z192))) - (iI 48)) 0 _ _ _ (by omega) (by omega) (by decide) (by decide) (by omega) (by omega) (lq2_r.trans (rn_t (ta_D pq237 pq242 (by omega)).1 (Or.inr (ta_D pq237 pq242 (by omega)).2))) (aR_s lq2_a (Or.inr (ta_D pq237 pq242 (by omega)).2)) (gd_z lq2_g (by omega)) (wI_s lq2_w (by omega) (f0_h _) (by first | exact Or.inl ⟨by omega, rfl⟩ | exact Or.inr ⟨by omega, rfl⟩) (by first | exact Or.inl ⟨by omega, rfl⟩ | exact Or.inr ⟨by omega, rfl⟩)) (by omega) w (lv_sub hl [0, 2, 3, 4] rfl)
                                · replace c_251 : ¬ z194 = 0 := fun h => c_251 ((iz_eq (Int.le_trans (by decide) z194_a) (Int.le_trans z194_b (by decide))).mpr h)
                                  refine lv_iload hx hb dX12_go_258 (lv_at hl 0 rfl) ?_
                                  refine k_I (ce := 0) (sl := 0) (rest := []) (wr := [(a0, .inr (11, [.int r0, .ref a1, .int (iI x0), .int (iI x1), .int (iI x2), .int (iI z192), .int (iI z1), .int (iI x5), .int fr193, .int (iI x6), .int (iI x7), .int (iI x8), .long fy191, .int (iI x9), .ref a2, .ref a3, .ref a4, .ref a5, .ref a6, .ref a7, .ref a8, .ref a9, .ref a10, .ref a11, .int (iI x10), .ref a12, .ref a13, .ref a14, .ref a15, .int (iI x11), .int r2, .int r3, .ref a16, .int (iI x12), .int (iI x13), .ref a17, .ref a18, .int (iI x14), .ref a19, .int (iI x15), .int r4, .ref a20, .ref a21, .int (iI x16), .int r5, .ref a22, .int (iI x17), .int (iI x18), .int (iI x19), .int (iI x20)])), (a1, .inl (T 0, 940, .inl (cI f0)))]) (r_S (f := 0) [] M w V_HookedCityModel_33 G1632 (c11_X12_isLetter l D T _ (f0 z192) (by omega) (by omega)) rfl (by decide) rfl hl.1 rfl (Nat.le_of_ble_eq_true rfl) dX12_go_260 (by decide) (by decide) (by decide) (by decide)) w [] [0, 1] rfl rfl (by decide) (by decide) rfl rfl (fun v z255 H locs hp w => ?_)
                                  have hv : iI z255 = v := hp.1
                                  subst hv
                                  have z255_a : 0 ≤ z255 := hp.2.1
                                  have z255_b : z255 ≤ 1 := hp.2.2.1
                                  have ee256 : 0 ≤ (((f0 z192) + 4294967296) - (z255 * 4294967393)) := hp.2.2.2.1
                                  have pq257 : lq z255 (f0 z192) 97 122 := hp.2.2.2.2
                                  have w : WD D A s.heap [(a0, .inr (11, [.int r0, .ref a1, .int (iI x0), .int (iI x1), .int (iI x2), .int (iI z192), .int (iI z1), .int (iI x5), .int fr193, .int (iI x6), .int (iI x7), .int (iI x8), .long fy191, .int (iI x9), .ref a2, .ref a3, .ref a4, .ref a5, .ref a6, .ref a7, .ref a8, .ref a9, .ref a10, .ref a11, .int (iI x10), .ref a12, .ref a13, .ref a14, .ref a15, .int (iI x11), .int r2, .int r3, .ref a16, .int (iI x12), .int (iI x13), .ref a17, .ref a18, .int (iI x14), .ref a19, .int (iI x15), .int r4, .ref a20, .ref a21, .int (iI x16), .int r5, .ref a22, .int (iI x17), .int (iI x18), .int (iI x19), .int (iI x20)])), (a1, .inl (T 0, 940, .inl (cI f0)))] H locs := w
                                  refine lv_iload_n hx hb dX12_go_263 rfl (lv_at hl 2 rfl) ?_
                                  refine lv_icmp_ne (tgt := 271) hx hb dX12_go_264 (by decide) (fun c_258 => ?_) (fun c_258 => ?_)
                                  · replace c_258 : ¬ z255 = z188 := fun h => c_258 ((iI_eq (Int.le_trans (by decide) z255_a) (Int.le_trans z255_b (by decide)) (Int.le_trans (by decide) z188_a) (Int.le_trans z188_b (by decide))).mpr h)
                                    refine lv_iconst (v := iI 0) hx hb dX12_go_271 (by decide +kernel) ?_
                                    refine lv_istore_n (lv' := [(3, .int (iI 0)), (4, .int (iI (f0 z192))), (2, .int (iI z188)), (1, .int (iI (f0 z1))), (0, .ref a0)]) hx hb dX12_go_272 rfl hl (by decide) rfl (fun ls hl => ?_)
                                    refine lv_aload_n hx hb dX12_go_273 rfl (lv_at hl 4 rfl) ?_
                                    refine r_get (v := .int (iI z192)) M w 0 5 clX12 rfl (by decide) G1468 rfl rfl dX12_go_274 ?_
                                    refine lv_aload_n hx hb dX12_go_277 rfl (lv_at hl 4 rfl) ?_
                                    refine r_get (v := .int (iI z1)) M w 0 6 clX12 rfl (by decide) G1469 rfl rfl dX12_go_278 ?_
                                    refine r_isub (v := iI (z192 - z1)) M (iI_sub _ _) dX12_go_281 ?_
                                    refine lv_bipush (v := iI 7) hx hb dX12_go_282 (by decide +kernel) ?_
                                    refine lv_icmp_ge (tgt := 307) hx hb dX12_go_284 (by decide) (fun c_259 => ?_) (fun c_259 => ?_)
                                    · replace c_259 := (iI_le (by decide) (by decide) (by omega) (by omega)).mp c_259
                                      refine lv_aload_n hx hb dX12_go_307 rfl (lv_at hl 4 rfl) ?_
                                      refine r_get (v := .int (iI z192)) M w 0 5 clX12 rfl (by decide) G1468 rfl rfl dX12_go_308 ?_
                                      refine lv_aload_n hx hb dX12_go_311 rfl (lv_at hl 4 rfl) ?_
                                      refine r_get (v := .int (iI z1)) M w 0 6 clX12 rfl (by decide) G1469 rfl rfl dX12_go_312 ?_
                                      refine r_isub (v := iI (z192 - z1)) M (iI_sub _ _) dX12_go_315 ?_
                                      refine lv_iconst (v := iI 3) hx hb dX12_go_316 (by decide +kernel) ?_
                                      refine lv_icmp_ge (tgt := 337) hx hb dX12_go_317 (by decide) (fun c_260 => ?_) (fun c_260 => ?_)
                                      · replace c_260 := (iI_le (by decide) (by decide) (by omega) (by omega)).mp c_260
                                        refine lv_aload_n hx hb dX12_go_337 rfl (lv_at hl 4 rfl) ?_
                                        refine lv_dup hx hb dX12_go_338 rfl ?_
                                        refine r_get (v := .int (iI z192)) M w 0 5 clX12 rfl (by decide) G1468 rfl rfl dX12_go_339 ?_
                                        refine lv_iconst (v := iI 1) hx hb dX12_go_342 (by decide +kernel) ?_
                                        refine r_iadd (v := iI (z192 + 1)) M (iI_add _ _) dX12_go_343 ?_
                                        refine r_put (ws' := [(a0, .inr (11, [.int r0, .ref a1, .int (iI x0), .int (iI x1), .int (iI x2), .int (iI (z192 + 1)), .int (iI z1), .int (iI x5), .int fr193, .int (iI x6), .int (iI x7), .int (iI x8), .long fy191, .int (iI x9), .ref a2, .ref a3, .ref a4, .ref a5, .ref a6, .ref a7, .ref a8, .ref a9, .ref a10, .ref a11, .int (iI x10), .ref a12, .ref a13, .ref a14, .ref a15, .int (iI x11), .int r2, .int r3, .ref a16, .int (iI x12), .int (iI x13), .ref a17, .ref a18, .int (iI x14), .ref a19, .int (iI x15), .int r4, .ref a20, .ref a21, .int (iI x16), .int r5, .ref a22, .int (iI x17), .int (iI x18), .int (iI x19), .int (iI x20)])), (a1, .inl (T 0, 940, .inl (cI f0)))]) M w 0 5 clX12 rfl (by decide) G1468 rfl rfl rfl rfl (Nat.le_of_ble_eq_true rfl) rfl dX12_go_344 (fun H locs w => ?_)
                                        refine lv_goto (tgt := 215) hx hb dX12_go_347 (by decide) ?_
                                        exact ih2 fy191 (z192 + 1) fr193 0 _ _ _ (by omega) (by omega) (by decide) (by decide) (by omega) (by omega) (lq2_r.trans (rn_t (ta_D pq237 pq242 (by omega)).1 (Or.inr (ta_D pq237 pq242 (by omega)).2))) (aR_s lq2_a (Or.inr (ta_D pq237 pq242 (by omega)).2)) (gd_q lq2_g (by omega) pq257 (by omega) (by omega) (by omega) (by omega) (by omega) (by omega)) (wI_s lq2_w (by omega) (f0_h _) (by first | exact Or.inl ⟨by omega, rfl⟩ | exact Or.inr ⟨by omega, rfl⟩) (by first | exact Or.inl ⟨by omega, rfl⟩ | exact Or.inr ⟨by omega, rfl⟩)) (by omega) w (lv_sub hl [0, 2, 3, 4] rfl)
                                      · replace c_260 : (z192 - z1) < 3 := Int.not_le.mp (fun h => c_260 ((iI_le (by decide) (by decide) (by omega) (by omega)).mpr h))
                                        exfalso; omega
                                    · replace c_259 : (z192 - z1) < 7 := Int.not_le.mp (fun h => c_259 ((iI_le (by decide) (by decide) (by omega) (by omega)).mpr h))
                                      refine lv_aload_n hx hb dX12_go_287 rfl (lv_at hl 4 rfl) ?_
                                      refine lv_ldc2 (v := 27) hx hb M.1.2.2.2.1 (M.1.2.2.2.2 _ G1641) dX12_go_288 ?_
                                      refine lv_aload_n hx hb dX12_go_291 rfl (lv_at hl 4 rfl) ?_
                                      refine r_get (v := .long fy191) M w 0 12 clX12 rfl (by decide) G1475 rfl rfl dX12_go_292 ?_
                                      refine r_lmul (v := (27 * fy191)) M rfl dX12_go_295 ?_
                                      refine lv_iload hx hb dX12_go_296 (lv_at hl 1 rfl) ?_
                                      refine lv_i2l (v := (Int32.toInt64 (iI (f0 z192)))) hx hb dX12_go_298 rfl ?_
                                      refine r_ladd (v := ((27 * fy191) + (Int32.toInt64 (iI (f0 z192))))) M rfl dX12_go_299 ?_
                                      refine lv_ldc2 (v := 96) hx hb M.1.2.2.2.1 (M.1.2.2.2.2 _ G1642) dX12_go_300 ?_
                                      refine r_lsub (v := (((27 * fy191) + (Int32.toInt64 (iI (f0 z192)))) - 96)) M rfl dX12_go_303 ?_
                                      refine r_put (ws' := [(a0, .inr (11, [.int r0, .ref a1, .int (iI x0), .int (iI x1), .int (iI x2), .int (iI z192), .int (iI z1), .int (iI x5), .int fr193, .int (iI x6), .int (iI x7), .int (iI x8), .long (((27 * fy191) + (Int32.toInt64 (iI (f0 z192)))) - 96), .int (iI x9), .ref a2, .ref a3, .ref a4, .ref a5, .ref a6, .ref a7, .ref a8, .ref a9, .ref a10, .ref a11, .int (iI x10), .ref a12, .ref a13, .ref a14, .ref a15, .int (iI x11), .int r2, .int r3, .ref a16, .int (iI x12), .int (iI x13), .ref a17, .ref a18, .int (iI x14), .ref a19, .int (iI x15), .int r4, .ref a20, .ref a21, .int (iI x16), .int r5, .ref a22, .int (iI x17), .int (iI x18), .int (iI x19), .int (iI x20)])), (a1, .inl (T 0, 940, .inl (cI f0)))]) M w 0 12 clX12 rfl (by decide) G1475 rfl rfl rfl rfl (Nat.le_of_ble_eq_true rfl) rfl dX12_go_304 (fun H locs w => ?_)
                                      refine lv_aload_n hx hb dX12_go_307 rfl (lv_at hl 4 rfl) ?_
                                      refine r_get (v := .int (iI z192)) M w 0 5 clX12 rfl (by decide) G1468 rfl rfl dX12_go_308 ?_
                                      refine lv_aload_n hx hb dX12_go_311 rfl (lv_at hl 4 rfl) ?_
                                      refine r_get (v := .int (iI z1)) M w 0 6 clX12 rfl (by decide) G1469 rfl rfl dX12_go_312 ?_
                                      refine r_isub (v := iI (z192 - z1)) M (iI_sub _ _) dX12_go_315 ?_
                                      refine lv_iconst (v := iI 3) hx hb dX12_go_316 (by decide +kernel) ?_
                                      refine lv_icmp_ge (tgt := 337) hx hb dX12_go_317 (by decide) (fun c_261 => ?_) (fun c_261 => ?_)
                                      · replace c_261 := (iI_le (by decide) (by decide) (by omega) (by omega)).mp c_261
                                        refine lv_aload_n hx hb dX12_go_337 rfl (lv_at hl 4 rfl) ?_
                                        refine lv_dup hx hb dX12_go_338 rfl ?_
                                        refine r_get (v := .int (iI z192)) M w 0 5 clX12 rfl (by decide) G1468 rfl rfl dX12_go_339 ?_
                                        refine lv_iconst (v := iI 1) hx hb dX12_go_342 (by decide +kernel) ?_
                                        refine r_iadd (v := iI (z192 + 1)) M (iI_add _ _) dX12_go_343 ?_
                                        refine r_put (ws' := [(a0, .inr (11, [.int r0, .ref a1, .int (iI x0), .int (iI x1), .int (iI x2), .int (iI (z192 + 1)), .int (iI z1), .int (iI x5), .int fr193, .int (iI x6), .int (iI x7), .int (iI x8), .long (((27 * fy191) + (Int32.toInt64 (iI (f0 z192)))) - 96), .int (iI x9), .ref a2, .ref a3, .ref a4, .ref a5, .ref a6, .ref a7, .ref a8, .ref a9, .ref a10, .ref a11, .int (iI x10), .ref a12, .ref a13, .ref a14, .ref a15, .int (iI x11), .int r2, .int r3, .ref a16, .int (iI x12), .int (iI x13), .ref a17, .ref a18, .int (iI x14), .ref a19, .int (iI x15), .int r4, .ref a20, .ref a21, .int (iI x16), .int r5, .ref a22, .int (iI x17), .int (iI x18), .int (iI x19), .int (iI x20)])), (a1, .inl (T 0, 940, .inl (cI f0)))]) M w 0 5 clX12 rfl (by decide) G1468 rfl rfl rfl rfl (Nat.le_of_ble_eq_true rfl) rfl dX12_go_344 (fun H locs w => ?_)
                                        refine lv_goto (tgt := 215) hx hb dX12_go_347 (by decide) ?_
                                        exact ih2 (((27 * fy191) + (Int32.toInt64 (iI (f0 z192)))) - 96) (z192 + 1) fr193 0 _ _ _ (by omega) (by omega) (by decide) (by decide) (by omega) (by omega) (lq2_r.trans (rn_t (ta_D pq237 pq242 (by omega)).1 (Or.inr (ta_D pq237 pq242 (by omega)).2))) (aR_s lq2_a (Or.inr (ta_D pq237 pq242 (by omega)).2)) (gd_q lq2_g (by omega) pq257 (by omega) (by omega) (by omega) (by omega) (by omega) (by omega)) (wI_s lq2_w (by omega) (f0_h _) (by first | exact Or.inl ⟨by omega, rfl⟩ | exact Or.inr ⟨by omega, rfl⟩) (by first | exact Or.inl ⟨by omega, rfl⟩ | exact Or.inr ⟨by omega, rfl⟩)) (by omega) w (lv_sub hl [0, 2, 3, 4] rfl)
                                      · replace c_261 : (z192 - z1) < 3 := Int.not_le.mp (fun h => c_261 ((iI_le (by decide) (by decide) (by omega) (by omega)).mpr h))
                                        refine lv_aload_n hx hb dX12_go_320 rfl (lv_at hl 4 rfl) ?_
                                        refine lv_bipush (v := iI 10) hx hb dX12_go_321 (by decide +kernel) ?_
                                        refine lv_aload_n hx hb dX12_go_323 rfl (lv_at hl 4 rfl) ?_
                                        refine r_get (v := .int fr193) M w 0 8 clX12 rfl (by decide) G1471 rfl rfl dX12_go_324 ?_
                                        refine r_imul (v := ((iI 10) * fr193)) M rfl dX12_go_327 ?_
                                        refine lv_iload hx hb dX12_go_328 (lv_at hl 1 rfl) ?_
                                        refine r_iadd (v := (((iI 10) * fr193) + (iI (f0 z192)))) M rfl dX12_go_330 ?_
                                        refine lv_bipush (v := iI 48) hx hb dX12_go_331 (by decide +kernel) ?_
                                        refine r_isub (v := ((((iI 10) * fr193) + (iI (f0 z192))) - (iI 48))) M rfl dX12_go_333 ?_
                                        refine r_put (ws' := [(a0, .inr (11, [.int r0, .ref a1, .int (iI x0), .int (iI x1), .int (iI x2), .int (iI z192), .int (iI z1), .int (iI x5), .int ((((iI 10) * fr193) + (iI (f0 z192))) - (iI 48)), .int (iI x6), .int (iI x7), .int (iI x8), .long (((27 * fy191) + (Int32.toInt64 (iI (f0 z192)))) - 96), .int (iI x9), .ref a2, .ref a3, .ref a4, .ref a5, .ref a6, .ref a7, .ref a8, .ref a9, .ref a10, .ref a11, .int (iI x10), .ref a12, .ref a13, .ref a14, .ref a15, .int (iI x11), .int r2, .int r3, .ref a16, .int (iI x12), .int (iI x13), .ref a17, .ref a18, .int (iI x14), .ref a19, .int (iI x15), .int r4, .ref a20, .ref a21, .int (iI x16), .int r5, .ref a22, .int (iI x17), .int (iI x18), .int (iI x19), .int (iI x20)])), (a1, .inl (T 0, 940, .inl (cI f0)))]) M w 0 8 clX12 rfl (by decide) G1471 rfl rfl rfl rfl (Nat.le_of_ble_eq_true rfl) rfl dX12_go_334 (fun H locs w => ?_)
                                        refine lv_aload_n hx hb dX12_go_337 rfl (lv_at hl 4 rfl) ?_
                                        refine lv_dup hx hb dX12_go_338 rfl ?_
                                        refine r_get (v := .int (iI z192)) M w 0 5 clX12 rfl (by decide) G1468 rfl rfl dX12_go_339 ?_
                                        refine lv_iconst (v := iI 1) hx hb dX12_go_342 (by decide +kernel) ?_
                                        refine r_iadd (v := iI (z192 + 1)) M (iI_add _ _) dX12_go_343 ?_
                                        refine r_put (ws' := [(a0, .inr (11, [.int r0, .ref a1, .int (iI x0), .int (iI x1), .int (iI x2), .int (iI (z192 + 1)), .int (iI z1), .int (iI x5), .int ((((iI 10) * fr193) + (iI (f0 z192))) - (iI 48)), .int (iI x6), .int (iI x7), .int (iI x8), .long (((27 * fy191) + (Int32.toInt64 (iI (f0 z192)))) - 96), .int (iI x9), .ref a2, .ref a3, .ref a4, .ref a5, .ref a6, .ref a7, .ref a8, .ref a9, .ref a10, .ref a11, .int (iI x10), .ref a12, .ref a13, .ref a14, .ref a15, .int (iI x11), .int r2, .int r3, .ref a16, .int (iI x12), .int (iI x13), .ref a17, .ref a18, .int (iI x14), .ref a19, .int (iI x15), .int r4, .ref a20, .ref a21, .int (iI x16), .int r5, .ref a22, .int (iI x17), .int (iI x18), .int (iI x19), .int (iI x20)])), (a1, .inl (T 0, 940, .inl (cI f0)))]) M w 0 5 clX12 rfl (by decide) G1468 rfl rfl rfl rfl (Nat.le_of_ble_eq_true rfl) rfl dX12_go_344 (fun H locs w => ?_)
                                        refine lv_goto (tgt := 215) hx hb dX12_go_347 (by decide) ?_
                                        exact ih2 (((27 * fy191) + (Int32.toInt64 (iI (f0 z192)))) - 96) (z192 + 1) ((((iI 10) * fr193) + (iI (f0 z192))) - (iI 48)) 0 _ _ _ (by omega) (by omega) (by decide) (by decide) (by omega) (by omega) (lq2_r.trans (rn_t (ta_D pq237 pq242 (by omega)).1 (Or.inr (ta_D pq237 pq242 (by omega)).2))) (aR_s lq2_a (Or.inr (ta_D pq237 pq242 (by omega)).2)) (gd_q lq2_g (by omega) pq257 (by omega) (by omega) (by omega) (by omega) (by omega) (by omega)) (wI_s lq2_w (by omega) (f0_h _) (by first | exact Or.inl ⟨by omega, rfl⟩ | exact Or.inr ⟨by omega, rfl⟩) (by first | exact Or.inl ⟨by omega, rfl⟩ | exact Or.inr ⟨by omega, rfl⟩)) (by omega) w (lv_sub hl [0, 2, 3, 4] rfl)
                                  · replace c_258 := (iI_eq (Int.le_trans (by decide) z255_a) (Int.le_trans z255_b (by decide)) (Int.le_trans (by decide) z188_a) (Int.le_trans z188_b (by decide))).mp c_258
                                    refine lv_iconst (v := iI 1) hx hb dX12_go_267 (by decide +kernel) ?_
                                    refine lv_goto (tgt := 272) hx hb dX12_go_268 (by decide) ?_
                                    refine lv_istore_n (lv' := [(3, .int (iI 1)), (4, .int (iI (f0 z192))), (2, .int (iI z188)), (1, .int (iI (f0 z1))), (0, .ref a0)]) hx hb dX12_go_272 rfl hl (by decide) rfl (fun ls hl => ?_)
                                    refine lv_aload_n hx hb dX12_go_273 rfl (lv_at hl 4 rfl) ?_
                                    refine r_get (v := .int (iI z192)) M w 0 5 clX12 rfl (by decide) G1468 rfl rfl dX12_go_274 ?_
                                    refine lv_aload_n hx hb dX12_go_277 rfl (lv_at hl 4 rfl) ?_
                                    refine r_get (v := .int (iI z1)) M w 0 6 clX12 rfl (by decide) G1469 rfl rfl dX12_go_278 ?_
                                    refine r_isub (v := iI (z192 - z1)) M (iI_sub _ _) dX12_go_281 ?_
                                    refine lv_bipush (v := iI 7) hx hb dX12_go_282 (by decide +kernel) ?_
                                    refine lv_icmp_ge (tgt := 307) hx hb dX12_go_284 (by decide) (fun c_262 => ?_) (fun c_262 => ?_)
                                    · replace c_262 := (iI_le (by decide) (by decide) (by omega) (by omega)).mp c_262
                                      refine lv_aload_n hx hb dX12_go_307 rfl (lv_at hl 4 rfl) ?_
                                      refine r_get (v := .int (iI z192)) M w 0 5 clX12 rfl (by decide) G1468 rfl rfl dX12_go_308 ?_
                                      refine lv_aload_n hx hb dX12_go_311 rfl (lv_at hl 4 rfl) ?_
                                      refine r_get (v := .int (iI z1)) M w 0 6 clX12 rfl (by decide) G1469 rfl rfl dX12_go_312 ?_
                                      refine r_isub (v := iI (z192 - z1)) M (iI_sub _ _) dX12_go_315 ?_
                                      refine lv_iconst (v := iI 3) hx hb dX12_go_316 (by decide +kernel) ?_
                                      refine lv_icmp_ge (tgt := 337) hx hb dX12_go_317 (by decide) (fun c_263 => ?_) (fun c_263 => ?_)
                                      · replace c_263 := (iI_le (by decide) (by decide) (by omega) (by omega)).mp c_263
                                        refine lv_aload_n hx hb dX12_go_337 rfl (lv_at hl 4 rfl) ?_
                                        refine lv_dup hx hb dX12_go_338 rfl ?_
                                        refine r_get (v := .int (iI z192)) M w 0 5 clX12 rfl (by decide) G1468 rfl rfl dX12_go_339 ?_
                                        refine lv_iconst (v := iI 1) hx hb dX12_go_342 (by decide +kernel) ?_
                                        refine r_iadd (v := iI (z192 + 1)) M (iI_add _ _) dX12_go_343 ?_
                                        refine r_put (ws' := [(a0, .inr (11, [.int r0, .ref a1, .int (iI x0), .int (iI x1), .int (iI x2), .int (iI (z192 + 1)), .int (iI z1), .int (iI x5), .int fr193, .int (iI x6), .int (iI x7), .int (iI x8), .long fy191, .int (iI x9), .ref a2, .ref a3, .ref a4, .ref a5, .ref a6, .ref a7, .ref a8, .ref a9, .ref a10, .ref a11, .int (iI x10), .ref a12, .ref a13, .ref a14, .ref a15, .int (iI x11), .int r2, .int r3, .ref a16, .int (iI x12), .int (iI x13), .ref a17, .ref a18, .int (iI x14), .ref a19, .int (iI x15), .int r4, .ref a20, .ref a21, .int (iI x16), .int r5, .ref a22, .int (iI x17), .int (iI x18), .int (iI x19), .int (iI x20)])), (a1, .inl (T 0, 940, .inl (cI f0)))]) M w 0 5 clX12 rfl (by decide) G1468 rfl rfl rfl rfl (Nat.le_of_ble_eq_true rfl) rfl dX12_go_344 (fun H locs w => ?_)
                                        refine lv_goto (tgt := 215) hx hb dX12_go_347 (by decide) ?_
                                        exact ih2 fy191 (z192 + 1) fr193 1 _ _ _ (by omega) (by omega) (by decide) (by decide) (by omega) (by omega) (lq2_r.trans (rn_t (ta_D pq237 pq242 (by omega)).1 (Or.inr (ta_D pq237 pq242 (by omega)).2))) (aR_s lq2_a (Or.inr (ta_D pq237 pq242 (by omega)).2)) (gd_q lq2_g (by omega) pq257 (by omega) (by omega) (by omega) (by omega) (by omega) (by omega)) (wI_s lq2_w (by omega) (f0_h _) (by first | exact Or.inl ⟨by omega, rfl⟩ | exact Or.inr ⟨by omega, rfl⟩) (by first | exact Or.inl ⟨by omega, rfl⟩ | exact Or.inr ⟨by omega, rfl⟩)) (by omega) w (lv_sub hl [0, 2, 3, 4] rfl)
                                      · replace c_263 : (z192 - z1) < 3 := Int.not_le.mp (fun h => c_263 ((iI_le (by decide) (by decide) (by omega) (by omega)).mpr h))
                                        exfalso; omega
                                    · replace c_262 : (z192 - z1) < 7 := Int.not_le.mp (fun h => c_262 ((iI_le (by decide) (by decide) (by omega) (by omega)).mpr h))
                                      refine lv_aload_n hx hb dX12_go_287 rfl (lv_at hl 4 rfl) ?_
                                      refine lv_ldc2 (v := 27) hx hb M.1.2.2.2.1 (M.1.2.2.2.2 _ G1641) dX12_go_288 ?_
                                      refine lv_aload_n hx hb dX12_go_291 rfl (lv_at hl 4 rfl) ?_
                                      refine r_get (v := .long fy191) M w 0 12 clX12 rfl (by decide) G1475 rfl rfl dX12_go_292 ?_
                                      refine r_lmul (v := (27 * fy191)) M rfl dX12_go_295 ?_
                                      refine lv_iload hx hb dX12_go_296 (lv_at hl 1 rfl) ?_
                                      refine lv_i2l (v := (Int32.toInt64 (iI (f0 z192)))) hx hb dX12_go_298 rfl ?_
                                      refine r_ladd (v := ((27 * fy191) + (Int32.toInt64 (iI (f0 z192))))) M rfl dX12_go_299 ?_
                                      refine lv_ldc2 (v := 96) hx hb M.1.2.2.2.1 (M.1.2.2.2.2 _ G1642) dX12_go_300 ?_
                                      refine r_lsub (v := (((27 * fy191) + (Int32.toInt64 (iI (f0 z192)))) - 96)) M rfl dX12_go_303 ?_
                                      refine r_put (ws' := [(a0, .inr (11, [.int r0, .ref a1, .int (iI x0), .int (iI x1), .int (iI x2), .int (iI z192), .int (iI z1), .int (iI x5), .int fr193, .int (iI x6), .int (iI x7), .int (iI x8), .long (((27 * fy191) + (Int32.toInt64 (iI (f0 z192)))) - 96), .int (iI x9), .ref a2, .ref a3, .ref a4, .ref a5, .ref a6, .ref a7, .ref a8, .ref a9, .ref a10, .ref a11, .int (iI x10), .ref a12, .ref a13, .ref a14, .ref a15, .int (iI x11), .int r2, .int r3, .ref a16, .int (iI x12), .int (iI x13), .ref a17, .ref a18, .int (iI x14), .ref a19, .int (iI x15), .int r4, .ref a20, .ref a21, .int (iI x16), .int r5, .ref a22, .int (iI x17), .int (iI x18), .int (iI x19), .int (iI x20)])), (a1, .inl (T 0, 940, .inl (cI f0)))]) M w 0 12 clX12 rfl (by decide) G1475 rfl rfl rfl rfl (Nat.le_of_ble_eq_true rfl) rfl dX12_go_304 (fun H locs w => ?_)
                                      refine lv_aload_n hx hb dX12_go_307 rfl (lv_at hl 4 rfl) ?_
                                      refine r_get (v := .int (iI z192)) M w 0 5 clX12 rfl (by decide) G1468 rfl rfl dX12_go_308 ?_
                                      refine lv_aload_n hx hb dX12_go_311 rfl (lv_at hl 4 rfl) ?_
                                      refine r_get (v := .int (iI z1)) M w 0 6 clX12 rfl (by decide) G1469 rfl rfl dX12_go_312 ?_
                                      refine r_isub (v := iI (z192 - z1)) M (iI_sub _ _) dX12_go_315 ?_
                                      refine lv_iconst (v := iI 3) hx hb dX12_go_316 (by decide +kernel) ?_
                                      refine lv_icmp_ge (tgt := 337) hx hb dX12_go_317 (by decide) (fun c_264 => ?_) (fun c_264 => ?_)
                                      · replace c_264 := (iI_le (by decide) (by decide) (by omega) (by omega)).mp c_264
                                        refine lv_aload_n hx hb dX12_go_337 rfl (lv_at hl 4 rfl) ?_
                                        refine lv_dup hx hb dX12_go_338 rfl ?_
                                        refine r_get (v := .int (iI z192)) M w 0 5 clX12 rfl (by decide) G1468 rfl rfl dX12_go_339 ?_
                                        refine lv_iconst (v := iI 1) hx hb dX12_go_342 (by decide +kernel) ?_
                                        refine r_iadd (v := iI (z192 + 1)) M (iI_add _ _) dX12_go_343 ?_
                                        refine r_put (ws' := [(a0, .inr (11, [.int r0, .ref a1, .int (iI x0), .int (iI x1), .int (iI x2), .int (iI (z192 + 1)), .int (iI z1), .int (iI x5), .int fr193, .int (iI x6), .int (iI x7), .int (iI x8), .long (((27 * fy191) + (Int32.toInt64 (iI (f0 z192)))) - 96), .int (iI x9), .ref a2, .ref a3, .ref a4, .ref a5, .ref a6, .ref a7, .ref a8, .ref a9, .ref a10, .ref a11, .int (iI x10), .ref a12, .ref a13, .ref a14, .ref a15, .int (iI x11), .int r2, .int r3, .ref a16, .int (iI x12), .int (iI x13), .ref a17, .ref a18, .int (iI x14), .ref a19, .int (iI x15), .int r4, .ref a20, .ref a21, .int (iI x16), .int r5, .ref a22, .int (iI x17), .int (iI x18), .int (iI x19), .int (iI x20)])), (a1, .inl (T 0, 940, .inl (cI f0)))]) M w 0 5 clX12 rfl (by decide) G1468 rfl rfl rfl rfl (Nat.le_of_ble_eq_true rfl) rfl dX12_go_344 (fun H locs w => ?_)
                                        refine lv_goto (tgt := 215) hx hb dX12_go_347 (by decide) ?_
                                        exact ih2 (((27 * fy191) + (Int32.toInt64 (iI (f0 z192)))) - 96) (z192 + 1) fr193 1 _ _ _ (by omega) (by omega) (by decide) (by decide) (by omega) (by omega) (lq2_r.trans (rn_t (ta_D pq237 pq242 (by omega)).1 (Or.inr (ta_D pq237 pq242 (by omega)).2))) (aR_s lq2_a (Or.inr (ta_D pq237 pq242 (by omega)).2)) (gd_q lq2_g (by omega) pq257 (by omega) (by omega) (by omega) (by omega) (by omega) (by omega)) (wI_s lq2_w (by omega) (f0_h _) (by first | exact Or.inl ⟨by omega, rfl⟩ | exact Or.inr ⟨by omega, rfl⟩) (by first | exact Or.inl ⟨by omega, rfl⟩ | exact Or.inr ⟨by omega, rfl⟩)) (by omega) w (lv_sub hl [0, 2, 3, 4] rfl)
                                      · replace c_264 : (z192 - z1) < 3 := Int.not_le.mp (fun h => c_264 ((iI_le (by decide) (by decide) (by omega) (by omega)).mpr h))
                                        refine lv_aload_n hx hb dX12_go_320 rfl (lv_at hl 4 rfl) ?_
                                        refine lv_bipush (v := iI 10) hx hb dX12_go_321 (by decide +kernel) ?_
                                        refine lv_aload_n hx hb dX12_go_323 rfl (lv_at hl 4 rfl) ?_
                                        refine r_get (v := .int fr193) M w 0 8 clX12 rfl (by decide) G1471 rfl rfl dX12_go_324 ?_
                                        refine r_imul (v := ((iI 10) * fr193)) M rfl dX12_go_327 ?_
                                        refine lv_iload hx hb dX12_go_328 (lv_at hl 1 rfl) ?_
                                        refine r_iadd (v := (((iI 10) * fr193) + (iI (f0 z192)))) M rfl dX12_go_330 ?_
                                        refine lv_bipush (v := iI 48) hx hb dX12_go_331 (by decide +kernel) ?_
                                        refine r_isub (v := ((((iI 10) * fr193) + (iI (f0 z192))) - (iI 48))) M rfl dX12_go_333 ?_
                                        refine r_put (ws' := [(a0, .inr (11, [.int r0, .ref a1, .int (iI x0), .int (iI x1), .int (iI x2), .int (iI z192), .int (iI z1), .int (iI x5), .int ((((iI 10) * fr193) + (iI (f0 z192))) - (iI 48)), .int (iI x6), .int (iI x7), .int (iI x8), .long (((27 * fy191) + (Int32.toInt64 (iI (f0 z192)))) - 96), .int (iI x9), .ref a2, .ref a3, .ref a4, .ref a5, .ref a6, .ref a7, .ref a8, .ref a9, .ref a10, .ref a11, .int (iI x10), .ref a12, .ref a13, .ref a14, .ref a15, .int (iI x11), .int r2, .int r3, .ref a16, .int (iI x12), .int (iI x13), .ref a17, .ref a18, .int (iI x14), .ref a19, .int (iI x15), .int r4, .ref a20, .ref a21, .int (iI x16), .int r5, .ref a22, .int (iI x17), .int (iI x18), .int (iI x19), .int (iI x20)])), (a1, .inl (T 0, 940, .inl (cI f0)))]) M w 0 8 clX12 rfl (by decide) G1471 rfl rfl rfl rfl (Nat.le_of_ble_eq_true rfl) rfl dX12_go_334 (fun H locs w => ?_)
                                        refine lv_aload_n hx hb dX12_go_337 rfl (lv_at hl 4 rfl) ?_
                                        refine lv_dup hx hb dX12_go_338 rfl ?_
                                        refine r_get (v := .int (iI z192)) M w 0 5 clX12 rfl (by decide) G1468 rfl rfl dX12_go_339 ?_
                                        refine lv_iconst (v := iI 1) hx hb dX12_go_342 (by decide +kernel) ?_
                                        refine r_iadd (v := iI (z192 + 1)) M (iI_add _ _) dX12_go_343 ?_
                                        refine r_put (ws' := [(a0, .inr (11, [.int r0, .ref a1, .int (iI x0), .int (iI x1), .int (iI x2), .int (iI (z192 + 1)), .int (iI z1), .int (iI x5), .int ((((iI 10) * fr193) + (iI (f0 z192))) - (iI 48)), .int (iI x6), .int (iI x7), .int (iI x8), .long (((27 * fy191) + (Int32.toInt64 (iI (f0 z192)))) - 96), .int (iI x9), .ref a2, .ref a3, .ref a4, .ref a5, .ref a6, .ref a7, .ref a8, .ref a9, .ref a10, .ref a11, .int (iI x10), .ref a12, .ref a13, .ref a14, .ref a15, .int (iI x11), .int r2, .int r3, .ref a16, .int (iI x12), .int (iI x13), .ref a17, .ref a18, .int (iI x14), .ref a19, .int (iI x15), .int r4, .ref a20, .ref a21, .int (iI x16), .int r5, .ref a22, .int (iI x17), .int (iI x18), .int (iI x19), .int (iI x20)])), (a1, .inl (T 0, 940, .inl (cI f0)))]) M w 0 5 clX12 rfl (by decide) G1468 rfl rfl rfl rfl (Nat.le_of_ble_eq_true rfl) rfl dX12_go_344 (fun H locs w => ?_)
                                        refine lv_goto (tgt := 215) hx hb dX12_go_347 (by decide) ?_
                                        exact ih2 (((27 * fy191) + (Int32.toInt64 (iI (f0 z192)))) - 96) (z192 + 1) ((((iI 10) * fr193) + (iI (f0 z192))) - (iI 48)) 1 _ _ _ (by omega) (by omega) (by decide) (by decide) (by omega) (by omega) (lq2_r.trans (rn_t (ta_D pq237 pq242 (by omega)).1 (Or.inr (ta_D pq237 pq242 (by omega)).2))) (aR_s lq2_a (Or.inr (ta_D pq237 pq242 (by omega)).2)) (gd_q lq2_g (by omega) pq257 (by omega) (by omega) (by omega) (by omega) (by omega) (by omega)) (wI_s lq2_w (by omega) (f0_h _) (by first | exact Or.inl ⟨by omega, rfl⟩ | exact Or.inr ⟨by omega, rfl⟩) (by first | exact Or.inl ⟨by omega, rfl⟩ | exact Or.inr ⟨by omega, rfl⟩)) (by omega) w (lv_sub hl [0, 2, 3, 4] rfl)
                    exact loop2 (((x1 - z1) : Int).toNat + 1) 0 z1 (iI 0) 1 _ _ _ z1_a z1_b (by decide) (by decide) (by omega) (by omega) rfl aR_0 gd_0 (wI_0 rfl rfl) (Nat.lt_succ_self _) w (lv_sub hl [0, 1, 2, 3] rfl)
                  · replace c_187 := (iz_eq (Int.le_trans (by decide) z184_a) (Int.le_trans z184_b (by decide))).mp c_187
                    refine lv_iload_n hx hb dX12_go_130 rfl (lv_at hl 0 rfl) ?_
                    refine k_I (ce := 0) (sl := 0) (rest := []) (wr := [(a0, .inr (11, [.int r0, .ref a1, .int (iI x0), .int (iI x1), .int (iI x2), .int (iI z1), .int (iI z1), .int (iI x5), .int r1, .int (iI x6), .int (iI x7), .int (iI x8), .long y0, .int (iI x9), .ref a2, .ref a3, .ref a4, .ref a5, .ref a6, .ref a7, .ref a8, .ref a9, .ref a10, .ref a11, .int (iI x10), .ref a12, .ref a13, .ref a14, .ref a15, .int (iI x11), .int r2, .int r3, .ref a16, .int (iI x12), .int (iI x13), .ref a17, .ref a18, .int (iI x14), .ref a19, .int (iI x15), .int r4, .ref a20, .ref a21, .int (iI x16), .int r5, .ref a22, .int (iI x17), .int (iI x18), .int (iI x19), .int (iI x20)])), (a1, .inl (T 0, 940, .inl (cI f0)))]) (r_S (f := 0) [] M w V_HookedCityModel_37 G1635 (c10_X12_isDigit l D T _ (f0 z1) (by omega) (by omega)) rfl (by decide) rfl hl.1 rfl (Nat.le_of_ble_eq_true rfl) dX12_go_131 (by decide) (by decide) (by decide) (by decide)) w [] [0, 1] rfl rfl (by decide) (by decide) rfl rfl (fun v z265 H locs hp w => ?_)
                    have hv : iI z265 = v := hp.1
                    subst hv
                    have z265_a : 0 ≤ z265 := hp.2.1
                    have z265_b : z265 ≤ 1 := hp.2.2.1
                    have ee266 : 0 ≤ (((f0 z1) + 4294967296) - (z265 * 4294967344)) := hp.2.2.2.1
                    have pq267 : lq z265 (f0 z1) 48 57 := hp.2.2.2.2
                    have w : WD D A s.heap [(a0, .inr (11, [.int r0, .ref a1, .int (iI x0), .int (iI x1), .int (iI x2), .int (iI z1), .int (iI z1), .int (iI x5), .int r1, .int (iI x6), .int (iI x7), .int (iI x8), .long y0, .int (iI x9), .ref a2, .ref a3, .ref a4, .ref a5, .ref a6, .ref a7, .ref a8, .ref a9, .ref a10, .ref a11, .int (iI x10), .ref a12, .ref a13, .ref a14, .ref a15, .int (iI x11), .int r2, .int r3, .ref a16, .int (iI x12), .int (iI x13), .ref a17, .ref a18, .int (iI x14), .ref a19, .int (iI x15), .int r4, .ref a20, .ref a21, .int (iI x16), .int r5, .ref a22, .int (iI x17), .int (iI x18), .int (iI x19), .int (iI x20)])), (a1, .inl (T 0, 940, .inl (cI f0)))] H locs := w
                    refine lv_if_ne (tgt := 198) hx hb dX12_go_134 (by decide) (fun c_268 => ?_) (fun c_268 => ?_)
                    · replace c_268 : ¬ z265 = 0 := fun h => c_268 ((iz_eq (Int.le_trans (by decide) z265_a) (Int.le_trans z265_b (by decide))).mpr h)
                      refine lv_iload_n hx hb dX12_go_198 rfl (lv_at hl 0 rfl) ?_
                      refine k_I (ce := 0) (sl := 0) (rest := []) (wr := [(a0, .inr (11, [.int r0, .ref a1, .int (iI x0), .int (iI x1), .int (iI x2), .int (iI z1), .int (iI z1), .int (iI x5), .int r1, .int (iI x6), .int (iI x7), .int (iI x8), .long y0, .int (iI x9), .ref a2, .ref a3, .ref a4, .ref a5, .ref a6, .ref a7, .ref a8, .ref a9, .ref a10, .ref a11, .int (iI x10), .ref a12, .ref a13, .ref a14, .ref a15, .int (iI x11), .int r2, .int r3, .ref a16, .int (iI x12), .int (iI x13), .ref a17, .ref a18, .int (iI x14), .ref a19, .int (iI x15), .int r4, .ref a20, .ref a21, .int (iI x16), .int r5, .ref a22, .int (iI x17), .int (iI x18), .int (iI x19), .int (iI x20)])), (a1, .inl (T 0, 940, .inl (cI f0)))]) (r_S (f := 0) [] M w V_HookedCityModel_33 G1632 (c11_X12_isLetter l D T _ (f0 z1) (by omega) (by omega)) rfl (by decide) rfl hl.1 rfl (Nat.le_of_ble_eq_true rfl) dX12_go_199 (by decide) (by decide) (by decide) (by decide)) w [] [0, 1] rfl rfl (by decide) (by decide) rfl rfl (fun v z269 H locs hp w => ?_)
                      have hv : iI z269 = v := hp.1
                      subst hv
                      have z269_a : 0 ≤ z269 := hp.2.1
                      have z269_b : z269 ≤ 1 := hp.2.2.1
                      have ee270 : 0 ≤ (((f0 z1) + 4294967296) - (z269 * 4294967393)) := hp.2.2.2.1
                      have pq271 : lq z269 (f0 z1) 97 122 := hp.2.2.2.2
                      have w : WD D A s.heap [(a0, .inr (11, [.int r0, .ref a1, .int (iI x0), .int (iI x1), .int (iI x2), .int (iI z1), .int (iI z1), .int (iI x5), .int r1, .int (iI x6), .int (iI x7), .int (iI x8), .long y0, .int (iI x9), .ref a2, .ref a3, .ref a4, .ref a5, .ref a6, .ref a7, .ref a8, .ref a9, .ref a10, .ref a11, .int (iI x10), .ref a12, .ref a13, .ref a14, .ref a15, .int (iI x11), .int r2, .int r3, .ref a16, .int (iI x12), .int (iI x13), .ref a17, .ref a18, .int (iI x14), .ref a19, .int (iI x15), .int r4, .ref a20, .ref a21, .int (iI x16), .int r5, .ref a22, .int (iI x17), .int (iI x18), .int (iI x19), .int (iI x20)])), (a1, .inl (T 0, 940, .inl (cI f0)))] H locs := w
                      refine lv_istore_n (lv' := [(2, .int (iI z269)), (1, .int (iI (f0 z1))), (0, .ref a0)]) hx hb dX12_go_202 rfl hl (by decide) rfl (fun ls hl => ?_)
                      refine lv_iconst (v := iI 1) hx hb dX12_go_203 (by decide +kernel) ?_
                      refine lv_istore_n (lv' := [(3, .int (iI 1)), (2, .int (iI z269)), (1, .int (iI (f0 z1))), (0, .ref a0)]) hx hb dX12_go_204 rfl hl (by decide) rfl (fun ls hl => ?_)
                      refine lv_aload_n hx hb dX12_go_205 rfl (lv_at hl 3 rfl) ?_
                      refine lv_lconst (v := 0) hx hb dX12_go_206 (by decide) ?_
                      refine r_put (ws' := [(a0, .inr (11, [.int r0, .ref a1, .int (iI x0), .int (iI x1), .int (iI x2), .int (iI z1), .int (iI z1), .int (iI x5), .int r1, .int (iI x6), .int (iI x7), .int (iI x8), .long 0, .int (iI x9), .ref a2, .ref a3, .ref a4, .ref a5, .ref a6, .ref a7, .ref a8, .ref a9, .ref a10, .ref a11, .int (iI x10), .ref a12, .ref a13, .ref a14, .ref a15, .int (iI x11), .int r2, .int r3, .ref a16, .int (iI x12), .int (iI x13), .ref a17, .ref a18, .int (iI x14), .ref a19, .int (iI x15), .int r4, .ref a20, .ref a21, .int (iI x16), .int r5, .ref a22, .int (iI x17), .int (iI x18), .int (iI x19), .int (iI x20)])), (a1, .inl (T 0, 940, .inl (cI f0)))]) M w 0 12 clX12 rfl (by decide) G1475 rfl rfl rfl rfl (Nat.le_of_ble_eq_true rfl) rfl dX12_go_207 (fun H locs w => ?_)
                      refine lv_aload_n hx hb dX12_go_210 rfl (lv_at hl 3 rfl) ?_
                      refine lv_iconst (v := iI 0) hx hb dX12_go_211 (by decide +kernel) ?_
                      refine r_put (ws' := [(a0, .inr (11, [.int r0, .ref a1, .int (iI x0), .int (iI x1), .int (iI x2), .int (iI z1), .int (iI z1), .int (iI x5), .int (iI 0), .int (iI x6), .int (iI x7), .int (iI x8), .long 0, .int (iI x9), .ref a2, .ref a3, .ref a4, .ref a5, .ref a6, .ref a7, .ref a8, .ref a9, .ref a10, .ref a11, .int (iI x10), .ref a12, .ref a13, .ref a14, .ref a15, .int (iI x11), .int r2, .int r3, .ref a16, .int (iI x12), .int (iI x13), .ref a17, .ref a18, .int (iI x14), .ref a19, .int (iI x15), .int r4, .ref a20, .ref a21, .int (iI x16), .int r5, .ref a22, .int (iI x17), .int (iI x18), .int (iI x19), .int (iI x20)])), (a1, .inl (T 0, 940, .inl (cI f0)))]) M w 0 8 clX12 rfl (by decide) G1471 rfl rfl rfl rfl (Nat.le_of_ble_eq_true rfl) rfl dX12_go_212 (fun H locs w => ?_)
                      have loop2 : ∀ (k2 : Nat) (fy272 : Int64) (z273 : Int) (fr274 : Int32) (z275 : Int) (H : Heap) (locs : List Loc) (ls : Array Slot), 0 ≤ z273 → z273 ≤ 940 → 0 ≤ z275 → z275 ≤ 1 → 0 ≤ (z273 - x3) → 0 ≤ (z273 - z1) → rn f0 x1 z1 = rn f0 x1 z273 → aR f0 z1 z273 → gdI f0 z1 z273 z269 z275 → wI f0 z1 z273 fy272 fr274 → ((x1 - z273) : Int).toNat < k2 → WD D A s.heap [(a0, .inr (11, [.int r0, .ref a1, .int (iI x0), .int (iI x1), .int (iI x2), .int (iI z273), .int (iI z1), .int (iI x5), .int fr274, .int (iI x6), .int (iI x7), .int (iI x8), .long fy272, .int (iI x9), .ref a2, .ref a3, .ref a4, .ref a5, .ref a6, .ref a7, .ref a8, .ref a9, .ref a10, .ref a11, .int (iI x10), .ref a12, .ref a13, .ref a14, .ref a15, .int (iI x11), .int r2, .int r3, .ref a16, .int (iI x12), .int (iI x13), .ref a17, .ref a18, .int (iI x14), .ref a19, .int (iI x15), .int r4, .ref a20, .ref a21, .int (iI x16), .int r5, .ref a22, .int (iI x17), .int (iI x18), .int (iI x19), .int (iI x20)])), (a1, .inl (T 0, 940, .inl (cI f0)))] H locs → lv_has ls 5 [(3, .int (iI z275)), (2, .int (iI z269)), (1, .int (iI (f0 z1))), (0, .ref a0)] → W p l e (Rm 1 0 0) s m args below meth c H locs 0 0 Q (F0 m 215 ls []) := by
                        intro k2
                        induction k2 with
                        | zero => intro fy272 z273 fr274 z275 H locs ls z273_a z273_b z275_a z275_b q2_0 q2_1 lq2_r lq2_a lq2_g lq2_w hm; exact absurd hm (Nat.not_lt_zero _)
                        | succ k2 ih2 =>
                          intro fy272 z273 fr274 z275 H locs ls z273_a z273_b z275_a z275_b q2_0 q2_1 lq2_r lq2_a lq2_g lq2_w hm2 w hl
                          refine lv_aload_n hx hb dX12_go_215 rfl (lv_at hl 3 rfl) ?_
                          refine lv_aload_n hx hb dX12_go_216 rfl (lv_at hl 3 rfl) ?_
                          refine r_get (v := .int (iI z273)) M w 0 5 clX12 rfl (by decide) G1468 rfl rfl dX12_go_217 ?_
                          refine k_I (ce := 0) (sl := 0) (rest := []) (wr := []) (r_V (f := 0) [0, 1] M w V_HookedCityModel_50 G1639 G50 (c9_X12_tapeAt l D T _ a0 z273 r0 a1 x0 x1 x2 z273 z1 x5 fr274 x6 x7 x8 fy272 x9 a2 a3 a4 a5 a6 a7 a8 a9 a10 a11 x10 a12 a13 a14 a15 x11 r2 r3 a16 x12 x13 a17 a18 x14 a19 x15 r4 a20 a21 x16 r5 a22 x17 x18 x19 x20 f0 z273_a z273_b x0_a x0_b x1_a x1_b x2_a x2_b z273_a z273_b z1_a z1_b x5_a x5_b x6_a x6_b x7_a x7_b x8_a x8_b x9_a x9_b x10_a x10_b x11_a x11_b x12_a x12_b x13_a x13_b x14_a x14_b x15_a x15_b x16_a x16_b x17_a x17_b x18_a x18_b x19_a x19_b x20_a x20_b f0_h) 0 clX12 rfl rfl (by decide) rfl hl.1 rfl (Nat.le_of_ble_eq_true rfl) dX12_go_220 (by decide) (by decide) (by decide) (by decide)) w [0, 1] [] rfl rfl (by decide) (by decide) rfl rfl (fun v z276 H locs hp w => ?_)
                          have hv : iI z276 = v := hp.1
                          subst hv
                          have z276_a : (-2147483648) ≤ z276 := hp.2.1
                          have z276_b : z276 ≤ 2147483647 := hp.2.2.1
                          have pq277 : taQ z273 x1 z276 (f0 z273) := hp.2.2.2.1
                          have w : WD D A s.heap [(a0, .inr (11, [.int r0, .ref a1, .int (iI x0), .int (iI x1), .int (iI x2), .int (iI z273), .int (iI z1), .int (iI x5), .int fr274, .int (iI x6), .int (iI x7), .int (iI x8), .long fy272, .int (iI x9), .ref a2, .ref a3, .ref a4, .ref a5, .ref a6, .ref a7, .ref a8, .ref a9, .ref a10, .ref a11, .int (iI x10), .ref a12, .ref a13, .ref a14, .ref a15, .int (iI x11), .int r2, .int r3, .ref a16, .int (iI x12), .int (iI x13), .ref a17, .ref a18, .int (iI x14), .ref a19, .int (iI x15), .int r4, .ref a20, .ref a21, .int (iI x16), .int r5, .ref a22, .int (iI x17), .int (iI x18), .int (iI x19), .int (iI x20)])), (a1, .inl (T 0, 940, .inl (cI f0)))] H locs := w
                          rcases hp.2.2.2.2 with ⟨c_278, hr⟩ | c_279
                          · subst hr
                            refine k_I (ce := 0) (sl := 0) (rest := []) (wr := [(a0, .inr (11, [.int r0, .ref a1, .int (iI x0), .int (iI x1), .int (iI x2), .int (iI z273), .int (iI z1), .int (iI x5), .int fr274, .int (iI x6), .int (iI x7), .int (iI x8), .long fy272, .int (iI x9), .ref a2, .ref a3, .ref a4, .ref a5, .ref a6, .ref a7, .ref a8, .ref a9, .ref a10, .ref a11, .int (iI x10), .ref a12, .ref a13, .ref a14, .ref a15, .int (iI x11), .int r2, .int r3, .ref a16, .int (iI x12), .int (iI x13), .ref a17, .ref a18, .int (iI x14), .ref a19, .int (iI x15), .int r4, .ref a20, .ref a21, .int (iI x16), .int r5, .ref a22, .int (iI x17), .int (iI x18), .int (iI x19), .int (iI x20)])), (a1, .inl (T 0, 940, .inl (cI f0)))]) (r_S (f := 0) [] M w V_HookedCityModel_33 G1632 (c11_X12_isLetter l D T _ 0 (by decide) (by decide)) rfl (by decide) rfl hl.1 rfl (Nat.le_of_ble_eq_true rfl) dX12_go_223 (by decide) (by decide) (by decide) (by decide)) w [] [0, 1] rfl rfl (by decide) (by decide) rfl rfl (fun v z280 H locs hp w => ?_)
                            have hv : iI z280 = v := hp.1
                            subst hv
                            have z280_a : 0 ≤ z280 := hp.2.1
                            have z280_b : z280 ≤ 1 := hp.2.2.1
                            have ee281 : 0 ≤ ((0 + 4294967296) - (z280 * 4294967393)) := hp.2.2.2.1
                            have pq282 : lq z280 0 97 122 := hp.2.2.2.2
                            have w : WD D A s.heap [(a0, .inr (11, [.int r0, .ref a1, .int (iI x0), .int (iI x1), .int (iI x2), .int (iI z273), .int (iI z1), .int (iI x5), .int fr274, .int (iI x6), .int (iI x7), .int (iI x8), .long fy272, .int (iI x9), .ref a2, .ref a3, .ref a4, .ref a5, .ref a6, .ref a7, .ref a8, .ref a9, .ref a10, .ref a11, .int (iI x10), .ref a12, .ref a13, .ref a14, .ref a15, .int (iI x11), .int r2, .int r3, .ref a16, .int (iI x12), .int (iI x13), .ref a17, .ref a18, .int (iI x14), .ref a19, .int (iI x15), .int r4, .ref a20, .ref a21, .int (iI x16), .int r5, .ref a22, .int (iI x17), .int (iI x18), .int (iI x19), .int (iI x20)])), (a1, .inl (T 0, 940, .inl (cI f0)))] H locs := w
                            refine lv_if_ne (tgt := 243) hx hb dX12_go_226 (by decide) (fun c_283 => ?_) (fun c_283 => ?_)
                            · replace c_283 : ¬ z280 = 0 := fun h => c_283 ((iz_eq (Int.le_trans (by decide) z280_a) (Int.le_trans z280_b (by decide))).mpr h)
                              exfalso; omega
                            · replace c_283 := (iz_eq (Int.le_trans (by decide) z280_a) (Int.le_trans z280_b (by decide))).mp c_283
                              refine lv_aload_n hx hb dX12_go_229 rfl (lv_at hl 3 rfl) ?_
                              refine lv_aload_n hx hb dX12_go_230 rfl (lv_at hl 3 rfl) ?_
                              refine r_get (v := .int (iI z273)) M w 0 5 clX12 rfl (by decide) G1468 rfl rfl dX12_go_231 ?_
                              refine k_I (ce := 0) (sl := 0) (rest := []) (wr := []) (r_V (f := 0) [0, 1] M w V_HookedCityModel_50 G1639 G50 (c9_X12_tapeAt l D T _ a0 z273 r0 a1 x0 x1 x2 z273 z1 x5 fr274 x6 x7 x8 fy272 x9 a2 a3 a4 a5 a6 a7 a8 a9 a10 a11 x10 a12 a13 a14 a15 x11 r2 r3 a16 x12 x13 a17 a18 x14 a19 x15 r4 a20 a21 x16 r5 a22 x17 x18 x19 x20 f0 z273_a z273_b x0_a x0_b x1_a x1_b x2_a x2_b z273_a z273_b z1_a z1_b x5_a x5_b x6_a x6_b x7_a x7_b x8_a x8_b x9_a x9_b x10_a x10_b x11_a x11_b x12_a x12_b x13_a x13_b x14_a x14_b x15_a x15_b x16_a x16_b x17_a x17_b x18_a x18_b x19_a x19_b x20_a x20_b f0_h) 0 clX12 rfl rfl (by decide) rfl hl.1 rfl (Nat.le_of_ble_eq_true rfl) dX12_go_234 (by decide) (by decide) (by decide) (by decide)) w [0, 1] [] rfl rfl (by decide) (by decide) rfl rfl (fun v z284 H locs hp w => ?_)
                              have hv : iI z284 = v := hp.1
                              subst hv
                              have z284_a : (-2147483648) ≤ z284 := hp.2.1
                              have z284_b : z284 ≤ 2147483647 := hp.2.2.1
                              have pq285 : taQ z273 x1 z284 (f0 z273) := hp.2.2.2.1
                              have w : WD D A s.heap [(a0, .inr (11, [.int r0, .ref a1, .int (iI x0), .int (iI x1), .int (iI x2), .int (iI z273), .int (iI z1), .int (iI x5), .int fr274, .int (iI x6), .int (iI x7), .int (iI x8), .long fy272, .int (iI x9), .ref a2, .ref a3, .ref a4, .ref a5, .ref a6, .ref a7, .ref a8, .ref a9, .ref a10, .ref a11, .int (iI x10), .ref a12, .ref a13, .ref a14, .ref a15, .int (iI x11), .int r2, .int r3, .ref a16, .int (iI x12), .int (iI x13), .ref a17, .ref a18, .int (iI x14), .ref a19, .int (iI x15), .int r4, .ref a20, .ref a21, .int (iI x16), .int r5, .ref a22, .int (iI x17), .int (iI x18), .int (iI x19), .int (iI x20)])), (a1, .inl (T 0, 940, .inl (cI f0)))] H locs := w
                              rcases hp.2.2.2.2 with ⟨c_286, hr⟩ | c_287
                              · subst hr
                                refine k_I (ce := 0) (sl := 0) (rest := []) (wr := [(a0, .inr (11, [.int r0, .ref a1, .int (iI x0), .int (iI x1), .int (iI x2), .int (iI z273), .int (iI z1), .int (iI x5), .int fr274, .int (iI x6), .int (iI x7), .int (iI x8), .long fy272, .int (iI x9), .ref a2, .ref a3, .ref a4, .ref a5, .ref a6, .ref a7, .ref a8, .ref a9, .ref a10, .ref a11, .int (iI x10), .ref a12, .ref a13, .ref a14, .ref a15, .int (iI x11), .int r2, .int r3, .ref a16, .int (iI x12), .int (iI x13), .ref a17, .ref a18, .int (iI x14), .ref a19, .int (iI x15), .int r4, .ref a20, .ref a21, .int (iI x16), .int r5, .ref a22, .int (iI x17), .int (iI x18), .int (iI x19), .int (iI x20)])), (a1, .inl (T 0, 940, .inl (cI f0)))]) (r_S (f := 0) [] M w V_HookedCityModel_37 G1635 (c10_X12_isDigit l D T _ 0 (by decide) (by decide)) rfl (by decide) rfl hl.1 rfl (Nat.le_of_ble_eq_true rfl) dX12_go_237 (by decide) (by decide) (by decide) (by decide)) w [] [0, 1] rfl rfl (by decide) (by decide) rfl rfl (fun v z288 H locs hp w => ?_)
                                have hv : iI z288 = v := hp.1
                                subst hv
                                have z288_a : 0 ≤ z288 := hp.2.1
                                have z288_b : z288 ≤ 1 := hp.2.2.1
                                have ee289 : 0 ≤ ((0 + 4294967296) - (z288 * 4294967344)) := hp.2.2.2.1
                                have pq290 : lq z288 0 48 57 := hp.2.2.2.2
                                have w : WD D A s.heap [(a0, .inr (11, [.int r0, .ref a1, .int (iI x0), .int (iI x1), .int (iI x2), .int (iI z273), .int (iI z1), .int (iI x5), .int fr274, .int (iI x6), .int (iI x7), .int (iI x8), .long fy272, .int (iI x9), .ref a2, .ref a3, .ref a4, .ref a5, .ref a6, .ref a7, .ref a8, .ref a9, .ref a10, .ref a11, .int (iI x10), .ref a12, .ref a13, .ref a14, .ref a15, .int (iI x11), .int r2, .int r3, .ref a16, .int (iI x12), .int (iI x13), .ref a17, .ref a18, .int (iI x14), .ref a19, .int (iI x15), .int r4, .ref a20, .ref a21, .int (iI x16), .int r5, .ref a22, .int (iI x17), .int (iI x18), .int (iI x19), .int (iI x20)])), (a1, .inl (T 0, 940, .inl (cI f0)))] H locs := w
                                refine lv_if_eq (tgt := 350) hx hb dX12_go_240 (by decide) (fun c_291 => ?_) (fun c_291 => ?_)
                                · replace c_291 := (iz_eq (Int.le_trans (by decide) z288_a) (Int.le_trans z288_b (by decide))).mp c_291
                                  refine lv_aload_n hx hb dX12_go_350 rfl (lv_at hl 3 rfl) ?_
                                  refine lv_iload_n hx hb dX12_go_351 rfl (lv_at hl 0 rfl) ?_
                                  refine lv_if_eq (tgt := 377) hx hb dX12_go_352 (by decide) (fun c_292 => ?_) (fun c_292 => ?_)
                                  · replace c_292 := (iz_eq (Int.le_trans (by decide) z275_a) (Int.le_trans z275_b (by decide))).mp c_292
                                    refine lv_iconst (v := iI 1) hx hb dX12_go_377 (by decide +kernel) ?_
                                    refine lv_goto (tgt := 390) hx hb dX12_go_378 (by decide) ?_
                                    refine r_put (ws' := [(a0, .inr (11, [.int r0, .ref a1, .int (iI x0), .int (iI x1), .int (iI x2), .int (iI z273), .int (iI z1), .int (iI 1), .int fr274, .int (iI x6), .int (iI x7), .int (iI x8), .long fy272, .int (iI x9), .ref a2, .ref a3, .ref a4, .ref a5, .ref a6, .ref a7, .ref a8, .ref a9, .ref a10, .ref a11, .int (iI x10), .ref a12, .ref a13, .ref a14, .ref a15, .int (iI x11), .int r2, .int r3, .ref a16, .int (iI x12), .int (iI x13), .ref a17, .ref a18, .int (iI x14), .ref a19, .int (iI x15), .int r4, .ref a20, .ref a21, .int (iI x16), .int r5, .ref a22, .int (iI x17), .int (iI x18), .int (iI x19), .int (iI x20)])), (a1, .inl (T 0, 940, .inl (cI f0)))]) M w 0 7 clX12 rfl (by decide) G1470 rfl rfl rfl rfl (Nat.le_of_ble_eq_true rfl) rfl dX12_go_390 (fun H locs w => ?_)
                                    exact ret (z273, z1, 1, fr274, x6, fy272) _ _ _ _ _ [0, 1] dX12_go_393 ⟨z273_a, z273_b, z1_a, z1_b, (show (0 : Int) ≤ 1 from by decide), (show (1 : Int) ≤ 4 from by decide), x6_a, x6_b, (show 0 ≤ (z273 - x3) from by omega), (show 0 ≤ (((z273 - x3) - 1) + 3) from by omega), (show gT (tkAt f0 x1 x2 x3) 1 z1 z273 fy272 fr274 x6 from (by rw [tk_run (lq1_s.trans (sk_e (by omega))) (by omega) (by omega) (Or.inr (lq_1 pq267 (by omega))) (lq2_r.trans (rn_e (ta_E pq277 pq282 (by omega) pq285 pq290 (by omega))))]; exact ⟨rfl, rfl, go_fin lq2_a lq2_g pq271 (lq2_r.trans (rn_e (ta_E pq277 pq282 (by omega) pq285 pq290 (by omega)))) (by omega) (Or.inr (lq_1 pq267 (by omega))) lq2_w (by omega)⟩))⟩ w (by decide) rfl
                                  · replace c_292 : ¬ z275 = 0 := fun h => c_292 ((iz_eq (Int.le_trans (by decide) z275_a) (Int.le_trans z275_b (by decide))).mpr h)
                                    refine lv_aload_n hx hb dX12_go_355 rfl (lv_at hl 3 rfl) ?_
                                    refine r_get (v := .int (iI z273)) M w 0 5 clX12 rfl (by decide) G1468 rfl rfl dX12_go_356 ?_
                                    refine lv_aload_n hx hb dX12_go_359 rfl (lv_at hl 3 rfl) ?_
                                    refine r_get (v := .int (iI z1)) M w 0 6 clX12 rfl (by decide) G1469 rfl rfl dX12_go_360 ?_
                                    refine r_isub (v := iI (z273 - z1)) M (iI_sub _ _) dX12_go_363 ?_
                                    refine lv_iload_n hx hb dX12_go_364 rfl (lv_at hl 1 rfl) ?_
                                    refine lv_if_eq (tgt := 373) hx hb dX12_go_365 (by decide) (fun c_293 => ?_) (fun c_293 => ?_)
                                    · replace c_293 := (iz_eq (Int.le_trans (by decide) z269_a) (Int.le_trans z269_b (by decide))).mp c_293
                                      refine lv_iconst (v := iI 3) hx hb dX12_go_373 (by decide +kernel) ?_
                                      refine lv_icmp_le (tgt := 381) hx hb dX12_go_374 (by decide) (fun c_294 => ?_) (fun c_294 => ?_)
                                      · replace c_294 := (iI_le (by omega) (by omega) (by decide) (by decide)).mp c_294
                                        refine lv_iload_n hx hb dX12_go_381 rfl (lv_at hl 1 rfl) ?_
                                        refine lv_if_eq (tgt := 389) hx hb dX12_go_382 (by decide) (fun c_295 => ?_) (fun c_295 => ?_)
                                        · replace c_295 := (iz_eq (Int.le_trans (by decide) z269_a) (Int.le_trans z269_b (by decide))).mp c_295
                                          refine lv_iconst (v := iI 3) hx hb dX12_go_389 (by decide +kernel) ?_
                                          refine r_put (ws' := [(a0, .inr (11, [.int r0, .ref a1, .int (iI x0), .int (iI x1), .int (iI x2), .int (iI z273), .int (iI z1), .int (iI 3), .int fr274, .int (iI x6), .int (iI x7), .int (iI x8), .long fy272, .int (iI x9), .ref a2, .ref a3, .ref a4, .ref a5, .ref a6, .ref a7, .ref a8, .ref a9, .ref a10, .ref a11, .int (iI x10), .ref a12, .ref a13, .ref a14, .ref a15, .int (iI x11), .int r2, .int r3, .ref a16, .int (iI x12), .int (iI x13), .ref a17, .ref a18, .int (iI x14), .ref a19, .int (iI x15), .int r4, .ref a20, .ref a21, .int (iI x16), .int r5, .ref a22, .int (iI x17), .int (iI x18), .int (iI x19), .int (iI x20)])), (a1, .inl (T 0, 940, .inl (cI f0)))]) M w 0 7 clX12 rfl (by decide) G1470 rfl rfl rfl rfl (Nat.le_of_ble_eq_true rfl) rfl dX12_go_390 (fun H locs w => ?_)
                                          exact ret (z273, z1, 3, fr274, x6, fy272) _ _ _ _ _ [0, 1] dX12_go_393 ⟨z273_a, z273_b, z1_a, z1_b, (show (0 : Int) ≤ 3 from by decide), (show (3 : Int) ≤ 4 from by decide), x6_a, x6_b, (show 0 ≤ (z273 - x3) from by omega), (show 0 ≤ (((z273 - x3) - 3) + 3) from by omega), (show gT (tkAt f0 x1 x2 x3) 3 z1 z273 fy272 fr274 x6 from (by rw [tk_run (lq1_s.trans (sk_e (by omega))) (by omega) (by omega) (Or.inr (lq_1 pq267 (by omega))) (lq2_r.trans (rn_e (ta_E pq277 pq282 (by omega) pq285 pq290 (by omega))))]; exact ⟨rfl, rfl, go_fin lq2_a lq2_g pq271 (lq2_r.trans (rn_e (ta_E pq277 pq282 (by omega) pq285 pq290 (by omega)))) (by omega) (Or.inr (lq_1 pq267 (by omega))) lq2_w (by omega)⟩))⟩ w (by decide) rfl
                                        · replace c_295 : ¬ z269 = 0 := fun h => c_295 ((iz_eq (Int.le_trans (by decide) z269_a) (Int.le_trans z269_b (by decide))).mpr h)
                                          exfalso; omega
                                      · replace c_294 : 3 < (z273 - z1) := Int.not_le.mp (fun h => c_294 ((iI_le (by omega) (by omega) (by decide) (by decide)).mpr h))
                                        refine lv_iconst (v := iI 1) hx hb dX12_go_377 (by decide +kernel) ?_
                                        refine lv_goto (tgt := 390) hx hb dX12_go_378 (by decide) ?_
                                        refine r_put (ws' := [(a0, .inr (11, [.int r0, .ref a1, .int (iI x0), .int (iI x1), .int (iI x2), .int (iI z273), .int (iI z1), .int (iI 1), .int fr274, .int (iI x6), .int (iI x7), .int (iI x8), .long fy272, .int (iI x9), .ref a2, .ref a3, .ref a4, .ref a5, .ref a6, .ref a7, .ref a8, .ref a9, .ref a10, .ref a11, .int (iI x10), .ref a12, .ref a13, .ref a14, .ref a15, .int (iI x11), .int r2, .int r3, .ref a16, .int (iI x12), .int (iI x13), .ref a17, .ref a18, .int (iI x14), .ref a19, .int (iI x15), .int r4, .ref a20, .ref a21, .int (iI x16), .int r5, .ref a22, .int (iI x17), .int (iI x18), .int (iI x19), .int (iI x20)])), (a1, .inl (T 0, 940, .inl (cI f0)))]) M w 0 7 clX12 rfl (by decide) G1470 rfl rfl rfl rfl (Nat.le_of_ble_eq_true rfl) rfl dX12_go_390 (fun H locs w => ?_)
                                        exact ret (z273, z1, 1, fr274, x6, fy272) _ _ _ _ _ [0, 1] dX12_go_393 ⟨z273_a, z273_b, z1_a, z1_b, (show (0 : Int) ≤ 1 from by decide), (show (1 : Int) ≤ 4 from by decide), x6_a, x6_b, (show 0 ≤ (z273 - x3) from by omega), (show 0 ≤ (((z273 - x3) - 1) + 3) from by omega), (show gT (tkAt f0 x1 x2 x3) 1 z1 z273 fy272 fr274 x6 from (by rw [tk_run (lq1_s.trans (sk_e (by omega))) (by omega) (by omega) (Or.inr (lq_1 pq267 (by omega))) (lq2_r.trans (rn_e (ta_E pq277 pq282 (by omega) pq285 pq290 (by omega))))]; exact ⟨rfl, rfl, go_fin lq2_a lq2_g pq271 (lq2_r.trans (rn_e (ta_E pq277 pq282 (by omega) pq285 pq290 (by omega)))) (by omega) (Or.inr (lq_1 pq267 (by omega))) lq2_w (by omega)⟩))⟩ w (by decide) rfl
                                    · replace c_293 : ¬ z269 = 0 := fun h => c_293 ((iz_eq (Int.le_trans (by decide) z269_a) (Int.le_trans z269_b (by decide))).mpr h)
                                      refine lv_bipush (v := iI 7) hx hb dX12_go_368 (by decide +kernel) ?_
                                      refine lv_goto (tgt := 374) hx hb dX12_go_370 (by decide) ?_
                                      refine lv_icmp_le (tgt := 381) hx hb dX12_go_374 (by decide) (fun c_296 => ?_) (fun c_296 => ?_)
                                      · replace c_296 := (iI_le (by omega) (by omega) (by decide) (by decide)).mp c_296
                                        refine lv_iload_n hx hb dX12_go_381 rfl (lv_at hl 1 rfl) ?_
                                        refine lv_if_eq (tgt := 389) hx hb dX12_go_382 (by decide) (fun c_297 => ?_) (fun c_297 => ?_)
                                        · replace c_297 := (iz_eq (Int.le_trans (by decide) z269_a) (Int.le_trans z269_b (by decide))).mp c_297
                                          exfalso; omega
                                        · replace c_297 : ¬ z269 = 0 := fun h => c_297 ((iz_eq (Int.le_trans (by decide) z269_a) (Int.le_trans z269_b (by decide))).mpr h)
                                          refine lv_iconst (v := iI 2) hx hb dX12_go_385 (by decide +kernel) ?_
                                          refine lv_goto (tgt := 390) hx hb dX12_go_386 (by decide) ?_
                                          refine r_put (ws' := [(a0, .inr (11, [.int r0, .ref a1, .int (iI x0), .int (iI x1), .int (iI x2), .int (iI z273), .int (iI z1), .int (iI 2), .int fr274, .int (iI x6), .int (iI x7), .int (iI x8), .long fy272, .int (iI x9), .ref a2, .ref a3, .ref a4, .ref a5, .ref a6, .ref a7, .ref a8, .ref a9, .ref a10, .ref a11, .int (iI x10), .ref a12, .ref a13, .ref a14, .ref a15, .int (iI x11), .int r2, .int r3, .ref a16, .int (iI x12), .int (iI x13), .ref a17, .ref a18, .int (iI x14), .ref a19, .int (iI x15), .int r4, .ref a20, .ref a21, .int (iI x16), .int r5, .ref a22, .int (iI x17), .int (iI x18), .int (iI x19), .int (iI x20)])), (a1, .inl (T 0, 940, .inl (cI f0)))]) M w 0 7 clX12 rfl (by decide) G1470 rfl rfl rfl rfl (Nat.le_of_ble_eq_true rfl) rfl dX12_go_390 (fun H locs w => ?_)
                                          exact ret (z273, z1, 2, fr274, x6, fy272) _ _ _ _ _ [0, 1] dX12_go_393 ⟨z273_a, z273_b, z1_a, z1_b, (show (0 : Int) ≤ 2 from by decide), (show (2 : Int) ≤ 4 from by decide), x6_a, x6_b, (show 0 ≤ (z273 - x3) from by omega), (show 0 ≤ (((z273 - x3) - 2) + 3) from by omega), (show gT (tkAt f0 x1 x2 x3) 2 z1 z273 fy272 fr274 x6 from (by rw [tk_run (lq1_s.trans (sk_e (by omega))) (by omega) (by omega) (Or.inr (lq_1 pq267 (by omega))) (lq2_r.trans (rn_e (ta_E pq277 pq282 (by omega) pq285 pq290 (by omega))))]; exact ⟨rfl, rfl, go_fin lq2_a lq2_g pq271 (lq2_r.trans (rn_e (ta_E pq277 pq282 (by omega) pq285 pq290 (by omega)))) (by omega) (Or.inr (lq_1 pq267 (by omega))) lq2_w (by omega)⟩))⟩ w (by decide) rfl
                                      · replace c_296 : 7 < (z273 - z1) := Int.not_le.mp (fun h => c_296 ((iI_le (by omega) (by omega) (by decide) (by decide)).mpr h))
                                        refine lv_iconst (v := iI 1) hx hb dX12_go_377 (by decide +kernel) ?_
                                        refine lv_goto (tgt := 390) hx hb dX12_go_378 (by decide) ?_
                                        refine r_put (ws' := [(a0, .inr (11, [.int r0, .ref a1, .int (iI x0), .int (iI x1), .int (iI x2), .int (iI z273), .int (iI z1), .int (iI 1), .int fr274, .int (iI x6), .int (iI x7), .int (iI x8), .long fy272, .int (iI x9), .ref a2, .ref a3, .ref a4, .ref a5, .ref a6, .ref a7, .ref a8, .ref a9, .ref a10, .ref a11, .int (iI x10), .ref a12, .ref a13, .ref a14, .ref a15, .int (iI x11), .int r2, .int r3, .ref a16, .int (iI x12), .int (iI x13), .ref a17, .ref a18, .int (iI x14), .ref a19, .int (iI x15), .int r4, .ref a20, .ref a21, .int (iI x16), .int r5, .ref a22, .int (iI x17), .int (iI x18), .int (iI x19), .int (iI x20)])), (a1, .inl (T 0, 940, .inl (cI f0)))]) M w 0 7 clX12 rfl (by decide) G1470 rfl rfl rfl rfl (Nat.le_of_ble_eq_true rfl) rfl dX12_go_390 (fun H locs w => ?_)
                                        exact ret (z273, z1, 1, fr274, x6, fy272) _ _ _ _ _ [0, 1] dX12_go_393 ⟨z273_a, z273_b, z1_a, z1_b, (show (0 : Int) ≤ 1 from by decide), (show (1 : Int) ≤ 4 from by decide), x6_a, x6_b, (show 0 ≤ (z273 - x3) from by omega), (show 0 ≤ (((z273 - x3) - 1) + 3) from by omega), (show gT (tkAt f0 x1 x2 x3) 1 z1 z273 fy272 fr274 x6 from (by rw [tk_run (lq1_s.trans (sk_e (by omega))) (by omega) (by omega) (Or.inr (lq_1 pq267 (by omega))) (lq2_r.trans (rn_e (ta_E pq277 pq282 (by omega) pq285 pq290 (by omega))))]; exact ⟨rfl, rfl, go_fin lq2_a lq2_g pq271 (lq2_r.trans (rn_e (ta_E pq277 pq282 (by omega) pq285 pq290 (by omega)))) (by omega) (Or.inr (lq_1 pq267 (by omega))) lq2_w (by omega)⟩))⟩ w (by decide) rfl
                                · replace c_291 : ¬ z288 = 0 := fun h => c_291 ((iz_eq (Int.le_trans (by decide) z288_a) (Int.le_trans z288_b (by decide))).mpr h)
                                  exfalso; omega
                              · exfalso; omega
                          · refine k_I (ce := 0) (sl := 0) (rest := []) (wr := [(a0, .inr (11, [.int r0, .ref a1, .int (iI x0), .int (iI x1), .int (iI x2), .int (iI z273), .int (iI z1), .int (iI x5), .int fr274, .int (iI x6), .int (iI x7), .int (iI x8), .long fy272, .int (iI x9), .ref a2, .ref a3, .ref a4, .ref a5, .ref a6, .ref a7, .ref a8, .ref a9, .ref a10, .ref a11, .int (iI x10), .ref a12, .ref a13, .ref a14, .ref a15, .int (iI x11), .int r2, .int r3, .ref a16, .int (iI x12), .int (iI x13), .ref a17, .ref a18, .int (iI x14), .ref a19, .int (iI x15), .int r4, .ref a20, .ref a21, .int (iI x16), .int r5, .ref a22, .int (iI x17), .int (iI x18), .int (iI x19), .int (iI x20)])), (a1, .inl (T 0, 940, .inl (cI f0)))]) (r_S (f := 0) [] M w V_HookedCityModel_33 G1632 (c11_X12_isLetter l D T _ z276 z276_a z276_b) rfl (by decide) rfl hl.1 rfl (Nat.le_of_ble_eq_true rfl) dX12_go_223 (by decide) (by decide) (by decide) (by decide)) w [] [0, 1] rfl rfl (by decide) (by decide) rfl rfl (fun v z298 H locs hp w => ?_)
                            have hv : iI z298 = v := hp.1
                            subst hv
                            have z298_a : 0 ≤ z298 := hp.2.1
                            have z298_b : z298 ≤ 1 := hp.2.2.1
                            have ee299 : 0 ≤ ((z276 + 4294967296) - (z298 * 4294967393)) := hp.2.2.2.1
                            have pq300 : lq z298 z276 97 122 := hp.2.2.2.2
                            have w : WD D A s.heap [(a0, .inr (11, [.int r0, .ref a1, .int (iI x0), .int (iI x1), .int (iI x2), .int (iI z273), .int (iI z1), .int (iI x5), .int fr274, .int (iI x6), .int (iI x7), .int (iI x8), .long fy272, .int (iI x9), .ref a2, .ref a3, .ref a4, .ref a5, .ref a6, .ref a7, .ref a8, .ref a9, .ref a10, .ref a11, .int (iI x10), .ref a12, .ref a13, .ref a14, .ref a15, .int (iI x11), .int r2, .int r3, .ref a16, .int (iI x12), .int (iI x13), .ref a17, .ref a18, .int (iI x14), .ref a19, .int (iI x15), .int r4, .ref a20, .ref a21, .int (iI x16), .int r5, .ref a22, .int (iI x17), .int (iI x18), .int (iI x19), .int (iI x20)])), (a1, .inl (T 0, 940, .inl (cI f0)))] H locs := w
                            refine lv_if_ne (tgt := 243) hx hb dX12_go_226 (by decide) (fun c_301 => ?_) (fun c_301 => ?_)
                            · replace c_301 : ¬ z298 = 0 := fun h => c_301 ((iz_eq (Int.le_trans (by decide) z298_a) (Int.le_trans z298_b (by decide))).mpr h)
                              refine lv_aload_n hx hb dX12_go_243 rfl (lv_at hl 3 rfl) ?_
                              refine r_get (v := .ref a1) M w 0 1 clX12 rfl (by decide) G1464 rfl rfl dX12_go_244 ?_
                              refine lv_aload_n hx hb dX12_go_247 rfl (lv_at hl 3 rfl) ?_
                              refine r_get (v := .int (iI z273)) M w 0 5 clX12 rfl (by decide) G1468 rfl rfl dX12_go_248 ?_
                              refine r_iald (v := iI (f0 z273)) M w 1 rfl (iI_in (by omega) (by omega) (by decide)) (cI_at (by omega) (by omega)) dX12_go_251 ?_
                              have hh302 : 0 ≤ (f0 z273) ∧ (f0 z273) ≤ 255 := f0_h z273
                              refine lv_istore (lv' := [(4, .int (iI (f0 z273))), (3, .int (iI z275)), (2, .int (iI z269)), (1, .int (iI (f0 z1))), (0, .ref a0)]) hx hb dX12_go_252 hl (by decide) rfl (fun ls hl => ?_)
                              refine lv_iload_n hx hb dX12_go_254 rfl (lv_at hl 1 rfl) ?_
                              refine lv_if_eq (tgt := 271) hx hb dX12_go_255 (by decide) (fun c_303 => ?_) (fun c_303 => ?_)
                              · replace c_303 := (iz_eq (Int.le_trans (by decide) z275_a) (Int.le_trans z275_b (by decide))).mp c_303
                                refine lv_iconst (v := iI 0) hx hb dX12_go_271 (by decide +kernel) ?_
                                refine lv_istore_n (lv' := [(3, .int (iI 0)), (4, .int (iI (f0 z273))), (2, .int (iI z269)), (1, .int (iI (f0 z1))), (0, .ref a0)]) hx hb dX12_go_272 rfl hl (by decide) rfl (fun ls hl => ?_)
                                refine lv_aload_n hx hb dX12_go_273 rfl (lv_at hl 4 rfl) ?_
                                refine r_get (v := .int (iI z273)) M w 0 5 clX12 rfl (by decide) G1468 rfl rfl dX12_go_274 ?_
                                refine lv_aload_n hx hb dX12_go_277 rfl (lv_at hl 4 rfl) ?_
                                refine r_get (v := .int (iI z1)) M w 0 6 clX12 rfl (by decide) G1469 rfl rfl dX12_go_278 ?_
                                refine r_isub (v := iI (z273 - z1)) M (iI_sub _ _) dX12_go_281 ?_
                                refine lv_bipush (v := iI 7) hx hb dX12_go_282 (by decide +kernel) ?_
                                refine lv_icmp_ge (tgt := 307) hx hb dX12_go_284 (by decide) (fun c_304 => ?_) (fun c_304 => ?_)
                                · replace c_304 := (iI_le (by decide) (by decide) (by omega) (by omega)).mp c_304
                                  refine lv_aload_n hx hb dX12_go_307 rfl (lv_at hl 4 rfl) ?_
                                  refine r_get (v := .int (iI z273)) M w 0 5 clX12 rfl (by decide) G1468 rfl rfl dX12_go_308 ?_
                                  refine lv_aload_n hx hb dX12_go_311 rfl (lv_at hl 4 rfl) ?_
                                  refine r_get (v := .int (iI z1)) M w 0 6 clX12 rfl (by decide) G1469 rfl rfl dX12_go_312 ?_
                                  refine r_isub (v := iI (z273 - z1)) M (iI_sub _ _) dX12_go_315 ?_
                                  refine lv_iconst (v := iI 3) hx hb dX12_go_316 (by decide +kernel) ?_
                                  refine lv_icmp_ge (tgt := 337) hx hb dX12_go_317 (by decide) (fun c_305 => ?_) (fun c_305 => ?_)
                                  · replace c_305 := (iI_le (by decide) (by decide) (by omega) (by omega)).mp c_305
                                    refine lv_aload_n hx hb dX12_go_337 rfl (lv_at hl 4 rfl) ?_
                                    refine lv_dup hx hb dX12_go_338 rfl ?_
                                    refine r_get (v := .int (iI z273)) M w 0 5 clX12 rfl (by decide) G1468 rfl rfl dX12_go_339 ?_
                                    refine lv_iconst (v := iI 1) hx hb dX12_go_342 (by decide +kernel) ?_
                                    refine r_iadd (v := iI (z273 + 1)) M (iI_add _ _) dX12_go_343 ?_
                                    refine r_put (ws' := [(a0, .inr (11, [.int r0, .ref a1, .int (iI x0), .int (iI x1), .int (iI x2), .int (iI (z273 + 1)), .int (iI z1), .int (iI x5), .int fr274, .int (iI x6), .int (iI x7), .int (iI x8), .long fy272, .int (iI x9), .ref a2, .ref a3, .ref a4, .ref a5, .ref a6, .ref a7, .ref a8, .ref a9, .ref a10, .ref a11, .int (iI x10), .ref a12, .ref a13, .ref a14, .ref a15, .int (iI x11), .int r2, .int r3, .ref a16, .int (iI x12), .int (iI x13), .ref a17, .ref a18, .int (iI x14), .ref a19, .int (iI x15), .int r4, .ref a20, .ref a21, .int (iI x16), .int r5, .ref a22, .int (iI x17), .int (iI x18), .int (iI x19), .int (iI x20)])), (a1, .inl (T 0, 940, .inl (cI f0)))]) M w 0 5 clX12 rfl (by decide) G1468 rfl rfl rfl rfl (Nat.le_of_ble_eq_true rfl) rfl dX12_go_344 (fun H locs w => ?_)
                                    refine lv_goto (tgt := 215) hx hb dX12_go_347 (by decide) ?_
                                    exact ih2 fy272 (z273 + 1) fr274 0 _ _ _ (by omega) (by omega) (by decide) (by decide) (by omega) (by omega) (lq2_r.trans (rn_t (ta_L pq277 pq300 (by omega)).1 (Or.inl (ta_L pq277 pq300 (by omega)).2))) (aR_s lq2_a (Or.inl (ta_L pq277 pq300 (by omega)).2)) (gd_z lq2_g (by omega)) (wI_s lq2_w (by omega) (f0_h _) (by first | exact Or.inl ⟨by omega, rfl⟩ | exact Or.inr ⟨by omega, rfl⟩) (by first | exact Or.inl ⟨by omega, rfl⟩ | exact Or.inr ⟨by omega, rfl⟩)) (by omega) w (lv_sub hl [0, 2, 3, 4] rfl)
                                  · replace c_305 : (z273 - z1) < 3 := Int.not_le.mp (fun h => c_305 ((iI_le (by decide) (by decide) (by omega) (by omega)).mpr h))
                                    exfalso; omega
                                · replace c_304 : (z273 - z1) < 7 := Int.not_le.mp (fun h => c_304 ((iI_le (by decide) (by decide) (by omega) (by omega)).mpr h))
                                  refine lv_aload_n hx hb dX12_go_287 rfl (lv_at hl 4 rfl) ?_
                                  refine lv_ldc2 (v := 27) hx hb M.1.2.2.2.1 (M.1.2.2.2.2 _ G1641) dX12_go_288 ?_
                                  refine lv_aload_n hx hb dX12_go_291 rfl (lv_at hl 4 rfl) ?_
                                  refine r_get (v := .long fy272) M w 0 12 clX12 rfl (by decide) G1475 rfl rfl dX12_go_292 ?_
                                  refine r_lmul (v := (27 * fy272)) M rfl dX12_go_295 ?_
                                  refine lv_iload hx hb dX12_go_296 (lv_at hl 1 rfl) ?_
                                  refine lv_i2l (v := (Int32.toInt64 (iI (f0 z273)))) hx hb dX12_go_298 rfl ?_
                                  refine r_ladd (v := ((27 * fy272) + (Int32.toInt64 (iI (f0 z273))))) M rfl dX12_go_299 ?_
                                  refine lv_ldc2 (v := 96) hx hb M.1.2.2.2.1 (M.1.2.2.2.2 _ G1642) dX12_go_300 ?_
                                  refine r_lsub (v := (((27 * fy272) + (Int32.toInt64 (iI (f0 z273)))) - 96)) M rfl dX12_go_303 ?_
                                  refine r_put (ws' := [(a0, .inr (11, [.int r0, .ref a1, .int (iI x0), .int (iI x1), .int (iI x2), .int (iI z273), .int (iI z1), .int (iI x5), .int fr274, .int (iI x6), .int (iI x7), .int (iI x8), .long (((27 * fy272) + (Int32.toInt64 (iI (f0 z273)))) - 96), .int (iI x9), .ref a2, .ref a3, .ref a4, .ref a5, .ref a6, .ref a7, .ref a8, .ref a9, .ref a10, .ref a11, .int (iI x10), .ref a12, .ref a13, .ref a14, .ref a15, .int (iI x11), .int r2, .int r3, .ref a16, .int (iI x12), .int (iI x13), .ref a17, .ref a18, .int (iI x14), .ref a19, .int (iI x15), .int r4, .ref a20, .ref a21, .int (iI x16), .int r5, .ref a22, .int (iI x17), .int (iI x18), .int (iI x19), .int (iI x20)])), (a1, .inl (T 0, 940, .inl (cI f0)))]) M w 0 12 clX12 rfl (by decide) G1475 rfl rfl rfl rfl (Nat.le_of_ble_eq_true rfl) rfl dX12_go_304 (fun H locs w => ?_)
                                  refine lv_aload_n hx hb dX12_go_307 rfl (lv_at hl 4 rfl) ?_
                                  refine r_get (v := .int (iI z273)) M w 0 5 clX12 rfl (by decide) G1468 rfl rfl dX12_go_308 ?_
                                  refine lv_aload_n hx hb dX12_go_311 rfl (lv_at hl 4 rfl) ?_
                                  refine r_get (v := .int (iI z1)) M w 0 6 clX12 rfl (by decide) G1469 rfl rfl dX12_go_312 ?_
                                  refine r_isub (v := iI (z273 - z1)) M (iI_sub _ _) dX12_go_315 ?_
                                  refine lv_iconst (v := iI 3) hx hb dX12_go_316 (by decide +kernel) ?_
                                  refine lv_icmp_ge (tgt := 337) hx hb dX12_go_317 (by decide) (fun c_306 => ?_) (fun c_306 => ?_)
                                  · replace c_306 := (iI_le (by decide) (by decide) (by omega) (by omega)).mp c_306
                                    refine lv_aload_n hx hb dX12_go_337 rfl (lv_at hl 4 rfl) ?_
                                    refine lv_dup hx hb dX12_go_338 rfl ?_
                                    refine r_get (v := .int (iI z273)) M w 0 5 clX12 rfl (by decide) G1468 rfl rfl dX12_go_339 ?_
                                    refine lv_iconst (v := iI 1) hx hb dX12_go_342 (by decide +kernel) ?_
                                    refine r_iadd (v := iI (z273 + 1)) M (iI_add _ _) dX12_go_343 ?_
                                    refine r_put (ws' := [(a0, .inr (11, [.int r0, .ref a1, .int (iI x0), .int (iI x1), .int (iI x2), .int (iI (z273 + 1)), .int (iI z1), .int (iI x5), .int fr274, .int (iI x6), .int (iI x7), .int (iI x8), .long (((27 * fy272) + (Int32.toInt64 (iI (f0 z273)))) - 96), .int (iI x9), .ref a2, .ref a3, .ref a4, .ref a5, .ref a6, .ref a7, .ref a8, .ref a9, .ref a10, .ref a11, .int (iI x10), .ref a12, .ref a13, .ref a14, .ref a15, .int (iI x11), .int r2, .int r3, .ref a16, .int (iI x12), .int (iI x13), .ref a17, .ref a18, .int (iI x14), .ref a19, .int (iI x15), .int r4, .ref a20, .ref a21, .int (iI x16), .int r5, .ref a22, .int (iI x17), .int (iI x18), .int (iI x19), .int (iI x20)])), (a1, .inl (T 0, 940, .inl (cI f0)))]) M w 0 5 clX12 rfl (by decide) G1468 rfl rfl rfl rfl (Nat.le_of_ble_eq_true rfl) rfl dX12_go_344 (fun H locs w => ?_)
                                    refine lv_goto (tgt := 215) hx hb dX12_go_347 (by decide) ?_
                                    exact ih2 (((27 * fy272) + (Int32.toInt64 (iI (f0 z273)))) - 96) (z273 + 1) fr274 0 _ _ _ (by omega) (by omega) (by decide) (by decide) (by omega) (by omega) (lq2_r.trans (rn_t (ta_L pq277 pq300 (by omega)).1 (Or.inl (ta_L pq277 pq300 (by omega)).2))) (aR_s lq2_a (Or.inl (ta_L pq277 pq300 (by omega)).2)) (gd_z lq2_g (by omega)) (wI_s lq2_w (by omega) (f0_h _) (by first | exact Or.inl ⟨by omega, rfl⟩ | exact Or.inr ⟨by omega, rfl⟩) (by first | exact Or.inl ⟨by omega, rfl⟩ | exact Or.inr ⟨by omega, rfl⟩)) (by omega) w (lv_sub hl [0, 2, 3, 4] rfl)
                                  · replace c_306 : (z273 - z1) < 3 := Int.not_le.mp (fun h => c_306 ((iI_le (by decide) (by decide) (by omega) (by omega)).mpr h))
                                    refine lv_aload_n hx hb dX12_go_320 rfl (lv_at hl 4 rfl) ?_
                                    refine lv_bipush (v := iI 10) hx hb dX12_go_321 (by decide +kernel) ?_
                                    refine lv_aload_n hx hb dX12_go_323 rfl (lv_at hl 4 rfl) ?_
                                    refine r_get (v := .int fr274) M w 0 8 clX12 rfl (by decide) G1471 rfl rfl dX12_go_324 ?_
                                    refine r_imul (v := ((iI 10) * fr274)) M rfl dX12_go_327 ?_
                                    refine lv_iload hx hb dX12_go_328 (lv_at hl 1 rfl) ?_
                                    refine r_iadd (v := (((iI 10) * fr274) + (iI (f0 z273)))) M rfl dX12_go_330 ?_
                                    refine lv_bipush (v := iI 48) hx hb dX12_go_331 (by decide +kernel) ?_
                                    refine r_isub (v := ((((iI 10) * fr274) + (iI (f0 z273))) - (iI 48))) M rfl dX12_go_333 ?_
                                    refine r_put (ws' := [(a0, .inr (11, [.int r0, .ref a1, .int (iI x0), .int (iI x1), .int (iI x2), .int (iI z273), .int (iI z1), .int (iI x5), .int ((((iI 10) * fr274) + (iI (f0 z273))) - (iI 48)), .int (iI x6), .int (iI x7), .int (iI x8), .long (((27 * fy272) + (Int32.toInt64 (iI (f0 z273)))) - 96), .int (iI x9), .ref a2, .ref a3, .ref a4, .ref a5, .ref a6, .ref a7, .ref a8, .ref a9, .ref a10, .ref a11, .int (iI x10), .ref a12, .ref a13, .ref a14, .ref a15, .int (iI x11), .int r2, .int r3, .ref a16, .int (iI x12), .int (iI x13), .ref a17, .ref a18, .int (iI x14), .ref a19, .int (iI x15), .int r4, .ref a20, .ref a21, .int (iI x16), .int r5, .ref a22, .int (iI x17), .int (iI x18), .int (iI x19), .int (iI x20)])), (a1, .inl (T 0, 940, .inl (cI f0)))]) M w 0 8 clX12 rfl (by decide) G1471 rfl rfl rfl rfl (Nat.le_of_ble_eq_true rfl) rfl dX12_go_334 (fun H locs w => ?_)
                                    refine lv_aload_n hx hb dX12_go_337 rfl (lv_at hl 4 rfl) ?_
                                    refine lv_dup hx hb dX12_go_338 rfl ?_
                                    refine r_get (v := .int (iI z273)) M w 0 5 clX12 rfl (by decide) G1468 rfl rfl dX12_go_339 ?_
                                    refine lv_iconst (v := iI 1) hx hb dX12_go_342 (by decide +kernel) ?_
                                    refine r_iadd (v := iI (z273 + 1)) M (iI_add _ _) dX12_go_343 ?_
                                    refine r_put (ws' := [(a0, .inr (11, [.int r0, .ref a1, .int (iI x0), .int (iI x1), .int (iI x2), .int (iI (z273 + 1)), .int (iI z1), .int (iI x5), .int ((((iI 10) * fr274) + (iI (f0 z273))) - (iI 48)), .int (iI x6), .int (iI x7), .int (iI x8), .long (((27 * fy272) + (Int32.toInt64 (iI (f0 z273)))) - 96), .int (iI x9), .ref a2, .ref a3, .ref a4, .ref a5, .ref a6, .ref a7, .ref a8, .ref a9, .ref a10, .ref a11, .int (iI x10), .ref a12, .ref a13, .ref a14, .ref a15, .int (iI x11), .int r2, .int r3, .ref a16, .int (iI x12), .int (iI x13), .ref a17, .ref a18, .int (iI x14), .ref a19, .int (iI x15), .int r4, .ref a20, .ref a21, .int (iI x16), .int r5, .ref a22, .int (iI x17), .int (iI x18), .int (iI x19), .int (iI x20)])), (a1, .inl (T 0, 940, .inl (cI f0)))]) M w 0 5 clX12 rfl (by decide) G1468 rfl rfl rfl rfl (Nat.le_of_ble_eq_true rfl) rfl dX12_go_344 (fun H locs w => ?_)
                                    refine lv_goto (tgt := 215) hx hb dX12_go_347 (by decide) ?_
                                    exact ih2 (((27 * fy272) + (Int32.toInt64 (iI (f0 z273)))) - 96) (z273 + 1) ((((iI 10) * fr274) + (iI (f0 z273))) - (iI 48)) 0 _ _ _ (by omega) (by omega) (by decide) (by decide) (by omega) (by omega) (lq2_r.trans (rn_t (ta_L pq277 pq300 (by omega)).1 (Or.inl (ta_L pq277 pq300 (by omega)).2))) (aR_s lq2_a (Or.inl (ta_L pq277 pq300 (by omega)).2)) (gd_z lq2_g (by omega)) (wI_s lq2_w (by omega) (f0_h _) (by first | exact Or.inl ⟨by omega, rfl⟩ | exact Or.inr ⟨by omega, rfl⟩) (by first | exact Or.inl ⟨by omega, rfl⟩ | exact Or.inr ⟨by omega, rfl⟩)) (by omega) w (lv_sub hl [0, 2, 3, 4] rfl)
                              · replace c_303 : ¬ z275 = 0 := fun h => c_303 ((iz_eq (Int.le_trans (by decide) z275_a) (Int.le_trans z275_b (by decide))).mpr h)
                                refine lv_iload hx hb dX12_go_258 (lv_at hl 0 rfl) ?_
                                refine k_I (ce := 0) (sl := 0) (rest := []) (wr := [(a0, .inr (11, [.int r0, .ref a1, .int (iI x0), .int (iI x1), .int (iI x2), .int (iI z273), .int (iI z1), .int (iI x5), .int fr274, .int (iI x6), .int (iI x7), .int (iI x8), .long fy272, .int (iI x9), .ref a2, .ref a3, .ref a4, .ref a5, .ref a6, .ref a7, .ref a8, .ref a9, .ref a10, .ref a11, .int (iI x10), .ref a12, .ref a13, .ref a14, .ref a15, .int (iI x11), .int r2, .int r3, .ref a16, .int (iI x12), .int (iI x13), .ref a17, .ref a18, .int (iI x14), .ref a19, .int (iI x15), .int r4, .ref a20, .ref a21, .int (iI x16), .int r5, .ref a22, .int (iI x17), .int (iI x18), .int (iI x19), .int (iI x20)])), (a1, .inl (T 0, 940, .inl (cI f0)))]) (r_S (f := 0) [] M w V_HookedCityModel_33 G1632 (c11_X12_isLetter l D T _ (f0 z273) (by omega) (by omega)) rfl (by decide) rfl hl.1 rfl (Nat.le_of_ble_eq_true rfl) dX12_go_260 (by decide) (by decide) (by decide) (by decide)) w [] [0, 1] rfl rfl (by decide) (by decide) rfl rfl (fun v z307 H locs hp w => ?_)
                                have hv : iI z307 = v := hp.1
                                subst hv
                                have z307_a : 0 ≤ z307 := hp.2.1
                                have z307_b : z307 ≤ 1 := hp.2.2.1
                                have ee308 : 0 ≤ (((f0 z273) + 4294967296) - (z307 * 4294967393)) := hp.2.2.2.1
                                have pq309 : lq z307 (f0 z273) 97 122 := hp.2.2.2.2
                                have w : WD D A s.heap [(a0, .inr (11, [.int r0, .ref a1, .int (iI x0), .int (iI x1), .int (iI x2), .int (iI z273), .int (iI z1), .int (iI x5), .int fr274, .int (iI x6), .int (iI x7), .int (iI x8), .long fy272, .int (iI x9), .ref a2, .ref a3, .ref a4, .ref a5, .ref a6, .ref a7, .ref a8, .ref a9, .ref a10, .ref a11, .int (iI x10), .ref a12, .ref a13, .ref a14, .ref a15, .int (iI x11), .int r2, .int r3, .ref a16, .int (iI x12), .int (iI x13), .ref a17, .ref a18, .int (iI x14), .ref a19, .int (iI x15), .int r4, .ref a20, .ref a21, .int (iI x16), .int r5, .ref a22, .int (iI x17), .int (iI x18), .int (iI x19), .int (iI x20)])), (a1, .inl (T 0, 940, .inl (cI f0)))] H locs := w
                                refine lv_iload_n hx hb dX12_go_263 rfl (lv_at hl 2 rfl) ?_
                                refine lv_icmp_ne (tgt := 271) hx hb dX12_go_264 (by decide) (fun c_310 => ?_) (fun c_310 => ?_)
                                · replace c_310 : ¬ z307 = z269 := fun h => c_310 ((iI_eq (Int.le_trans (by decide) z307_a) (Int.le_trans z307_b (by decide)) (Int.le_trans (by decide) z269_a) (Int.le_trans z269_b (by decide))).mpr h)
                                  refine lv_iconst (v := iI 0) hx hb dX12_go_271 (by decide +kernel) ?_
                                  refine lv_istore_n (lv' := [(3, .int (iI 0)), (4, .int (iI (f0 z273))), (2, .int (iI z269)), (1, .int (iI (f0 z1))), (0, .ref a0)]) hx hb dX12_go_272 rfl hl (by decide) rfl (fun ls hl => ?_)
                                  refine lv_aload_n hx hb dX12_go_273 rfl (lv_at hl 4 rfl) ?_
                                  refine r_get (v := .int (iI z273)) M w 0 5 clX12 rfl (by decide) G1468 rfl rfl dX12_go_274 ?_
                                  refine lv_aload_n hx hb dX12_go_277 rfl (lv_at hl 4 rfl) ?_
                                  refine r_get (v := .int (iI z1)) M w 0 6 clX12 rfl (by decide) G1469 rfl rfl dX12_go_278 ?_
                                  refine r_isub (v := iI (z273 - z1)) M (iI_sub _ _) dX12_go_281 ?_
                                  refine lv_bipush (v := iI 7) hx hb dX12_go_282 (by decide +kernel) ?_
                                  refine lv_icmp_ge (tgt := 307) hx hb dX12_go_284 (by decide) (fun c_311 => ?_) (fun c_311 => ?_)
                                  · replace c_311 := (iI_le (by decide) (by decide) (by omega) (by omega)).mp c_311
                                    refine lv_aload_n hx hb dX12_go_307 rfl (lv_at hl 4 rfl) ?_
                                    refine r_get (v := .int (iI z273)) M w 0 5 clX12 rfl (by decide) G1468 rfl rfl dX12_go_308 ?_
                                    refine lv_aload_n hx hb dX12_go_311 rfl (lv_at hl 4 rfl) ?_
                                    refine r_get (v := .int (iI z1)) M w 0 6 clX12 rfl (by decide) G1469 rfl rfl dX12_go_312 ?_
                                    refine r_isub (v := iI (z273 - z1)) M (iI_sub _ _) dX12_go_315 ?_
                                    refine lv_iconst (v := iI 3) hx hb dX12_go_316 (by decide +kernel) ?_
                                    refine lv_icmp_ge (tgt := 337) hx hb dX12_go_317 (by decide) (fun c_312 => ?_) (fun c_312 => ?_)
                                    · replace c_312 := (iI_le (by decide) (by decide) (by omega) (by omega)).mp c_312
                                      refine lv_aload_n hx hb dX12_go_337 rfl (lv_at hl 4 rfl) ?_
                                      refine lv_dup hx hb dX12_go_338 rfl ?_
                                      refine r_get (v := .int (iI z273)) M w 0 5 clX12 rfl (by decide) G1468 rfl rfl dX12_go_339 ?_
                                      refine lv_iconst (v := iI 1) hx hb dX12_go_342 (by decide +kernel) ?_
                                      refine r_iadd (v := iI (z273 + 1)) M (iI_add _ _) dX12_go_343 ?_
                                      refine r_put (ws' := [(a0, .inr (11, [.int r0, .ref a1, .int (iI x0), .int (iI x1), .int (iI x2), .int (iI (z273 + 1)), .int (iI z1), .int (iI x5), .int fr274, .int (iI x6), .int (iI x7), .int (iI x8), .long fy272, .int (iI x9), .ref a2, .ref a3, .ref a4, .ref a5, .ref a6, .ref a7, .ref a8, .ref a9, .ref a10, .ref a11, .int (iI x10), .ref a12, .ref a13, .ref a14, .ref a15, .int (iI x11), .int r2, .int r3, .ref a16, .int (iI x12), .int (iI x13), .ref a17, .ref a18, .int (iI x14), .ref a19, .int (iI x15), .int r4, .ref a20, .ref a21, .int (iI x16), .int r5, .ref a22, .int (iI x17), .int (iI x18), .int (iI x19), .int (iI x20)])), (a1, .inl (T 0, 940, .inl (cI f0)))]) M w 0 5 clX12 rfl (by decide) G1468 rfl rfl rfl rfl (Nat.le_of_ble_eq_true rfl) rfl dX12_go_344 (fun H locs w => ?_)
                                      refine lv_goto (tgt := 215) hx hb dX12_go_347 (by decide) ?_
                                      exact ih2 fy272 (z273 + 1) fr274 0 _ _ _ (by omega) (by omega) (by decide) (by decide) (by omega) (by omega) (lq2_r.trans (rn_t (ta_L pq277 pq300 (by omega)).1 (Or.inl (ta_L pq277 pq300 (by omega)).2))) (aR_s lq2_a (Or.inl (ta_L pq277 pq300 (by omega)).2)) (gd_q lq2_g (by omega) pq309 (by omega) (by omega) (by omega) (by omega) (by omega) (by omega)) (wI_s lq2_w (by omega) (f0_h _) (by first | exact Or.inl ⟨by omega, rfl⟩ | exact Or.inr ⟨by omega, rfl⟩) (by first | exact Or.inl ⟨by omega, rfl⟩ | exact Or.inr ⟨by omega, rfl⟩)) (by omega) w (lv_sub hl [0, 2, 3, 4] rfl)
                                    · replace c_312 : (z273 - z1) < 3 := Int.not_le.mp (fun h => c_312 ((iI_le (by decide) (by decide) (by omega) (by omega)).mpr h))
                                      exfalso; omega
                                  · replace c_311 : (z273 - z1) < 7 := Int.not_le.mp (fun h => c_311 ((iI_le (by decide) (by decide) (by omega) (by omega)).mpr h))
                                    refine lv_aload_n hx hb dX12_go_287 rfl (lv_at hl 4 rfl) ?_
                                    refine lv_ldc2 (v := 27) hx hb M.1.2.2.2.1 (M.1.2.2.2.2 _ G1641) dX12_go_288 ?_
                                    refine lv_aload_n hx hb dX12_go_291 rfl (lv_at hl 4 rfl) ?_
                                    refine r_get (v := .long fy272) M w 0 12 clX12 rfl (by decide) G1475 rfl rfl dX12_go_292 ?_
                                    refine r_lmul (v := (27 * fy272)) M rfl dX12_go_295 ?_
                                    refine lv_iload hx hb dX12_go_296 (lv_at hl 1 rfl) ?_
                                    refine lv_i2l (v := (Int32.toInt64 (iI (f0 z273)))) hx hb dX12_go_298 rfl ?_
                                    refine r_ladd (v := ((27 * fy272) + (Int32.toInt64 (iI (f0 z273))))) M rfl dX12_go_299 ?_
                                    refine lv_ldc2 (v := 96) hx hb M.1.2.2.2.1 (M.1.2.2.2.2 _ G1642) dX12_go_300 ?_
                                    refine r_lsub (v := (((27 * fy272) + (Int32.toInt64 (iI (f0 z273)))) - 96)) M rfl dX12_go_303 ?_
                                    refine r_put (ws' := [(a0, .inr (11, [.int r0, .ref a1, .int (iI x0), .int (iI x1), .int (iI x2), .int (iI z273), .int (iI z1), .int (iI x5), .int fr274, .int (iI x6), .int (iI x7), .int (iI x8), .long (((27 * fy272) + (Int32.toInt64 (iI (f0 z273)))) - 96), .int (iI x9), .ref a2, .ref a3, .ref a4, .ref a5, .ref a6, .ref a7, .ref a8, .ref a9, .ref a10, .ref a11, .int (iI x10), .ref a12, .ref a13, .ref a14, .ref a15, .int (iI x11), .int r2, .int r3, .ref a16, .int (iI x12), .int (iI x13), .ref a17, .ref a18, .int (iI x14), .ref a19, .int (iI x15), .int r4, .ref a20, .ref a21, .int (iI x16), .int r5, .ref a22, .int (iI x17), .int (iI x18), .int (iI x19), .int (iI x20)])), (a1, .inl (T 0, 940, .inl (cI f0)))]) M w 0 12 clX12 rfl (by decide) G1475 rfl rfl rfl rfl (Nat.le_of_ble_eq_true rfl) rfl dX12_go_304 (fun H locs w => ?_)
                                    refine lv_aload_n hx hb dX12_go_307 rfl (lv_at hl 4 rfl) ?_
                                    refine r_get (v := .int (iI z273)) M w 0 5 clX12 rfl (by decide) G1468 rfl rfl dX12_go_308 ?_
                                    refine lv_aload_n hx hb dX12_go_311 rfl (lv_at hl 4 rfl) ?_
                                    refine r_get (v := .int (iI z1)) M w 0 6 clX12 rfl (by decide) G1469 rfl rfl dX12_go_312 ?_
                                    refine r_isub (v := iI (z273 - z1)) M (iI_sub _ _) dX12_go_315 ?_
                                    refine lv_iconst (v := iI 3) hx hb dX12_go_316 (by decide +kernel) ?_
                                    refine lv_icmp_ge (tgt := 337) hx hb dX12_go_317 (by decide) (fun c_313 => ?_) (fun c_313 => ?_)
                                    · replace c_313 := (iI_le (by decide) (by decide) (by omega) (by omega)).mp c_313
                                      refine lv_aload_n hx hb dX12_go_337 rfl (lv_at hl 4 rfl) ?_
                                      refine lv_dup hx hb dX12_go_338 rfl ?_
                                      refine r_get (v := .int (iI z273)) M w 0 5 clX12 rfl (by decide) G1468 rfl rfl dX12_go_339 ?_
                                      refine lv_iconst (v := iI 1) hx hb dX12_go_342 (by decide +kernel) ?_
                                      refine r_iadd (v := iI (z273 + 1)) M (iI_add _ _) dX12_go_343 ?_
                                      refine r_put (ws' := [(a0, .inr (11, [.int r0, .ref a1, .int (iI x0), .int (iI x1), .int (iI x2), .int (iI (z273 + 1)), .int (iI z1), .int (iI x5), .int fr274, .int (iI x6), .int (iI x7), .int (iI x8), .long (((27 * fy272) + (Int32.toInt64 (iI (f0 z273)))) - 96), .int (iI x9), .ref a2, .ref a3, .ref a4, .ref a5, .ref a6, .ref a7, .ref a8, .ref a9, .ref a10, .ref a11, .int (iI x10), .ref a12, .ref a13, .ref a14, .ref a15, .int (iI x11), .int r2, .int r3, .ref a16, .int (iI x12), .int (iI x13), .ref a17, .ref a18, .int (iI x14), .ref a19, .int (iI x15), .int r4, .ref a20, .ref a21, .int (iI x16), .int r5, .ref a22, .int (iI x17), .int (iI x18), .int (iI x19), .int (iI x20)])), (a1, .inl (T 0, 940, .inl (cI f0)))]) M w 0 5 clX12 rfl (by decide) G1468 rfl rfl rfl rfl (Nat.le_of_ble_eq_true rfl) rfl dX12_go_344 (fun H locs w => ?_)
                                      refine lv_goto (tgt := 215) hx hb dX12_go_347 (by decide) ?_
                                      exact ih2 (((27 * fy272) + (Int32.toInt64 (iI (f0 z273)))) - 96) (z273 + 1) fr274 0 _ _ _ (by omega) (by omega) (by decide) (by decide) (by omega) (by omega) (lq2_r.trans (rn_t (ta_L pq277 pq300 (by omega)).1 (Or.inl (ta_L pq277 pq300 (by omega)).2))) (aR_s lq2_a (Or.inl (ta_L pq277 pq300 (by omega)).2)) (gd_q lq2_g (by omega) pq309 (by omega) (by omega) (by omega) (by omega) (by omega) (by omega)) (wI_s lq2_w (by omega) (f0_h _) (by first | exact Or.inl ⟨by omega, rfl⟩ | exact Or.inr ⟨by omega, rfl⟩) (by first | exact Or.inl ⟨by omega, rfl⟩ | exact Or.inr ⟨by omega, rfl⟩)) (by omega) w (lv_sub hl [0, 2, 3, 4] rfl)
                                    · replace c_313 : (z273 - z1) < 3 := Int.not_le.mp (fun h => c_313 ((iI_le (by decide) (by decide) (by omega) (by omega)).mpr h))
                                      refine lv_aload_n hx hb dX12_go_320 rfl (lv_at hl 4 rfl) ?_
                                      refine lv_bipush (v := iI 10) hx hb dX12_go_321 (by decide +kernel) ?_
                                      refine lv_aload_n hx hb dX12_go_323 rfl (lv_at hl 4 rfl) ?_
                                      refine r_get (v := .int fr274) M w 0 8 clX12 rfl (by decide) G1471 rfl rfl dX12_go_324 ?_
                                      refine r_imul (v := ((iI 10) * fr274)) M rfl dX12_go_327 ?_
                                      refine lv_iload hx hb dX12_go_328 (lv_at hl 1 rfl) ?_
                                      refine r_iadd (v := (((iI 10) * fr274) + (iI (f0 z273)))) M rfl dX12_go_330 ?_
                                      refine lv_bipush (v := iI 48) hx hb dX12_go_331 (by decide +kernel) ?_
                                      refine r_isub (v := ((((iI 10) * fr274) + (iI (f0 z273))) - (iI 48))) M rfl dX12_go_333 ?_
                                      refine r_put (ws' := [(a0, .inr (11, [.int r0, .ref a1, .int (iI x0), .int (iI x1), .int (iI x2), .int (iI z273), .int (iI z1), .int (iI x5), .int ((((iI 10) * fr274) + (iI (f0 z273))) - (iI 48)), .int (iI x6), .int (iI x7), .int (iI x8), .long (((27 * fy272) + (Int32.toInt64 (iI (f0 z273)))) - 96), .int (iI x9), .ref a2, .ref a3, .ref a4, .ref a5, .ref a6, .ref a7, .ref a8, .ref a9, .ref a10, .ref a11, .int (iI x10), .ref a12, .ref a13, .ref a14, .ref a15, .int (iI x11), .int r2, .int r3, .ref a16, .int (iI x12), .int (iI x13), .ref a17, .ref a18, .int (iI x14), .ref a19, .int (iI x15), .int r4, .ref a20, .ref a21, .int (iI x16), .int r5, .ref a22, .int (iI x17), .int (iI x18), .int (iI x19), .int (iI x20)])), (a1, .inl (T 0, 940, .inl (cI f0)))]) M w 0 8 clX12 rfl (by decide) G1471 rfl rfl rfl rfl (Nat.le_of_ble_eq_true rfl) rfl dX12_go_334 (fun H locs w => ?_)
                                      refine lv_aload_n hx hb dX12_go_337 rfl (lv_at hl 4 rfl) ?_
                                      refine lv_dup hx hb dX12_go_338 rfl ?_
                                      refine r_get (v := .int (iI z273)) M w 0 5 clX12 rfl (by decide) G1468 rfl rfl dX12_go_339 ?_
                                      refine lv_iconst (v := iI 1) hx hb dX12_go_342 (by decide +kernel) ?_
                                      refine r_iadd (v := iI (z273 + 1)) M (iI_add _ _) dX12_go_343 ?_
                                      refine r_put (ws' := [(a0, .inr (11, [.int r0, .ref a1, .int (iI x0), .int (iI x1), .int (iI x2), .int (iI (z273 + 1)), .int (iI z1), .int (iI x5), .int ((((iI 10) * fr274) + (iI (f0 z273))) - (iI 48)), .int (iI x6), .int (iI x7), .int (iI x8), .long (((27 * fy272) + (Int32.toInt64 (iI (f0 z273)))) - 96), .int (iI x9), .ref a2, .ref a3, .ref a4, .ref a5, .ref a6, .ref a7, .ref a8, .ref a9, .ref a10, .ref a11, .int (iI x10), .ref a12, .ref a13, .ref a14, .ref a15, .int (iI x11), .int r2, .int r3, .ref a16, .int (iI x12), .int (iI x13), .ref a17, .ref a18, .int (iI x14), .ref a19, .int (iI x15), .int r4, .ref a20, .ref a21, .int (iI x16), .int r5, .ref a22, .int (iI x17), .int (iI x18), .int (iI x19), .int (iI x20)])), (a1, .inl (T 0, 940, .inl (cI f0)))]) M w 0 5 clX12 rfl (by decide) G1468 rfl rfl rfl rfl (Nat.le_of_ble_eq_true rfl) rfl dX12_go_344 (fun H locs w => ?_)
                                      refine lv_goto (tgt := 215) hx hb dX12_go_347 (by decide) ?_
                                      exact ih2 (((27 * fy272) + (Int32.toInt64 (iI (f0 z273)))) - 96) (z273 + 1) ((((iI 10) * fr274) + (iI (f0 z273))) - (iI 48)) 0 _ _ _ (by omega) (by omega) (by decide) (by decide) (by omega) (by omega) (lq2_r.trans (rn_t (ta_L pq277 pq300 (by omega)).1 (Or.inl (ta_L pq277 pq300 (by omega)).2))) (aR_s lq2_a (Or.inl (ta_L pq277 pq300 (by omega)).2)) (gd_q lq2_g (by omega) pq309 (by omega) (by omega) (by omega) (by omega) (by omega) (by omega)) (wI_s lq2_w (by omega) (f0_h _) (by first | exact Or.inl ⟨by omega, rfl⟩ | exact Or.inr ⟨by omega, rfl⟩) (by first | exact Or.inl ⟨by omega, rfl⟩ | exact Or.inr ⟨by omega, rfl⟩)) (by omega) w (lv_sub hl [0, 2, 3, 4] rfl)
                                · replace c_310 := (iI_eq (Int.le_trans (by decide) z307_a) (Int.le_trans z307_b (by decide)) (Int.le_trans (by decide) z269_a) (Int.le_trans z269_b (by decide))).mp c_310
                                  refine lv_iconst (v := iI 1) hx hb dX12_go_267 (by decide +kernel) ?_
                                  refine lv_goto (tgt := 272) hx hb dX12_go_268 (by decide) ?_
                                  refine lv_istore_n (lv' := [(3, .int (iI 1)), (4, .int (iI (f0 z273))), (2, .int (iI z269)), (1, .int (iI (f0 z1))), (0, .ref a0)]) hx hb dX12_go_272 rfl hl (by decide) rfl (fun ls hl => ?_)
                                  refine lv_aload_n hx hb dX12_go_273 rfl (lv_at hl 4 rfl) ?_
                                  refine r_get (v := .int (iI z273)) M w 0 5 clX12 rfl (by decide) G1468 rfl rfl dX12_go_274 ?_
                                  refine lv_aload_n hx hb dX12_go_277 rfl (lv_at hl 4 rfl) ?_
                                  refine r_get (v := .int (iI z1)) M w 0 6 clX12 rfl (by decide) G1469 rfl rfl dX12_go_278 ?_
                                  refine r_isub (v := iI (z273 - z1)) M (iI_sub _ _) dX12_go_281 ?_
                                  refine lv_bipush (v := iI 7) hx hb dX12_go_282 (by decide +kernel) ?_
                                  refine lv_icmp_ge (tgt := 307) hx hb dX12_go_284 (by decide) (fun c_314 => ?_) (fun c_314 => ?_)
                                  · replace c_314 := (iI_le (by decide) (by decide) (by omega) (by omega)).mp c_314
                                    refine lv_aload_n hx hb dX12_go_307 rfl (lv_at hl 4 rfl) ?_
                                    refine r_get (v := .int (iI z273)) M w 0 5 clX12 rfl (by decide) G1468 rfl rfl dX12_go_308 ?_
                                    refine lv_aload_n hx hb dX12_go_311 rfl (lv_at hl 4 rfl) ?_
                                    refine r_get (v := .int (iI z1)) M w 0 6 clX12 rfl (by decide) G1469 rfl rfl dX12_go_312 ?_
                                    refine r_isub (v := iI (z273 - z1)) M (iI_sub _ _) dX12_go_315 ?_
                                    refine lv_iconst (v := iI 3) hx hb dX12_go_316 (by decide +kernel) ?_
                                    refine lv_icmp_ge (tgt := 337) hx hb dX12_go_317 (by decide) (fun c_315 => ?_) (fun c_315 => ?_)
                                    · replace c_315 := (iI_le (by decide) (by decide) (by omega) (by omega)).mp c_315
                                      refine lv_aload_n hx hb dX12_go_337 rfl (lv_at hl 4 rfl) ?_
                                      refine lv_dup hx hb dX12_go_338 rfl ?_
                                      refine r_get (v := .int (iI z273)) M w 0 5 clX12 rfl (by decide) G1468 rfl rfl dX12_go_339 ?_
                                      refine lv_iconst (v := iI 1) hx hb dX12_go_342 (by decide +kernel) ?_
                                      refine r_iadd (v := iI (z273 + 1)) M (iI_add _ _) dX12_go_343 ?_
                                      refine r_put (ws' := [(a0, .inr (11, [.int r0, .ref a1, .int (iI x0), .int (iI x1), .int (iI x2), .int (iI (z273 + 1)), .int (iI z1), .int (iI x5), .int fr274, .int (iI x6), .int (iI x7), .int (iI x8), .long fy272, .int (iI x9), .ref a2, .ref a3, .ref a4, .ref a5, .ref a6, .ref a7, .ref a8, .ref a9, .ref a10, .ref a11, .int (iI x10), .ref a12, .ref a13, .ref a14, .ref a15, .int (iI x11), .int r2, .int r3, .ref a16, .int (iI x12), .int (iI x13), .ref a17, .ref a18, .int (iI x14), .ref a19, .int (iI x15), .int r4, .ref a20, .ref a21, .int (iI x16), .int r5, .ref a22, .int (iI x17), .int (iI x18), .int (iI x19), .int (iI x20)])), (a1, .inl (T 0, 940, .inl (cI f0)))]) M w 0 5 clX12 rfl (by decide) G1468 rfl rfl rfl rfl (Nat.le_of_ble_eq_true rfl) rfl dX12_go_344 (fun H locs w => ?_)
                                      refine lv_goto (tgt := 215) hx hb dX12_go_347 (by decide) ?_
                                      exact ih2 fy272 (z273 + 1) fr274 1 _ _ _ (by omega) (by omega) (by decide) (by decide) (by omega) (by omega) (lq2_r.trans (rn_t (ta_L pq277 pq300 (by omega)).1 (Or.inl (ta_L pq277 pq300 (by omega)).2))) (aR_s lq2_a (Or.inl (ta_L pq277 pq300 (by omega)).2)) (gd_q lq2_g (by omega) pq309 (by omega) (by omega) (by omega) (by omega) (by omega) (by omega)) (wI_s lq2_w (by omega) (f0_h _) (by first | exact Or.inl ⟨by omega, rfl⟩ | exact Or.inr ⟨by omega, rfl⟩) (by first | exact Or.inl ⟨by omega, rfl⟩ | exact Or.inr ⟨by omega, rfl⟩)) (by omega) w (lv_sub hl [0, 2, 3, 4] rfl)
                                    · replace c_315 : (z273 - z1) < 3 := Int.not_le.mp (fun h => c_315 ((iI_le (by decide) (by decide) (by omega) (by omega)).mpr h))
                                      exfalso; omega
                                  · replace c_314 : (z273 - z1) < 7 := Int.not_le.mp (fun h => c_314 ((iI_le (by decide) (by decide) (by omega) (by omega)).mpr h))
                                    refine lv_aload_n hx hb dX12_go_287 rfl (lv_at hl 4 rfl) ?_
                                    refine lv_ldc2 (v := 27) hx hb M.1.2.2.2.1 (M.1.2.2.2.2 _ G1641) dX12_go_288 ?_
                                    refine lv_aload_n hx hb dX12_go_291 rfl (lv_at hl 4 rfl) ?_
                                    refine r_get (v := .long fy272) M w 0 12 clX12 rfl (by decide) G1475 rfl rfl dX12_go_292 ?_
                                    refine r_lmul (v := (27 * fy272)) M rfl dX12_go_295 ?_
                                    refine lv_iload hx hb dX12_go_296 (lv_at hl 1 rfl) ?_
                                    refine lv_i2l (v := (Int32.toInt64 (iI (f0 z273)))) hx hb dX12_go_298 rfl ?_
                                    refine r_ladd (v := ((27 * fy272) + (Int32.toInt64 (iI (f0 z273))))) M rfl dX12_go_299 ?_
                                    refine lv_ldc2 (v := 96) hx hb M.1.2.2.2.1 (M.1.2.2.2.2 _ G1642) dX12_go_300 ?_
                                    refine r_lsub (v := (((27 * fy272) + (Int32.toInt64 (iI (f0 z273)))) - 96)) M rfl dX12_go_303 ?_
                                    refine r_put (ws' := [(a0, .inr (11, [.int r0, .ref a1, .int (iI x0), .int (iI x1), .int (iI x2), .int (iI z273), .int (iI z1), .int (iI x5), .int fr274, .int (iI x6), .int (iI x7), .int (iI x8), .long (((27 * fy272) + (Int32.toInt64 (iI (f0 z273)))) - 96), .int (iI x9), .ref a2, .ref a3, .ref a4, .ref a5, .ref a6, .ref a7, .ref a8, .ref a9, .ref a10, .ref a11, .int (iI x10), .ref a12, .ref a13, .ref a14, .ref a15, .int (iI x11), .int r2, .int r3, .ref a16, .int (iI x12), .int (iI x13), .ref a17, .ref a18, .int (iI x14), .ref a19, .int (iI x15), .int r4, .ref a20, .ref a21, .int (iI x16), .int r5, .ref a22, .int (iI x17), .int (iI x18), .int (iI x19), .int (iI x20)])), (a1, .inl (T 0, 940, .inl (cI f0)))]) M w 0 12 clX12 rfl (by decide) G1475 rfl rfl rfl rfl (Nat.le_of_ble_eq_true rfl) rfl dX12_go_304 (fun H locs w => ?_)
                                    refine lv_aload_n hx hb dX12_go_307 rfl (lv_at hl 4 rfl) ?_
                                    refine r_get (v := .int (iI z273)) M w 0 5 clX12 rfl (by decide) G1468 rfl rfl dX12_go_308 ?_
                                    refine lv_aload_n hx hb dX12_go_311 rfl (lv_at hl 4 rfl) ?_
                                    refine r_get (v := .int (iI z1)) M w 0 6 clX12 rfl (by decide) G1469 rfl rfl dX12_go_312 ?_
                                    refine r_isub (v := iI (z273 - z1)) M (iI_sub _ _) dX12_go_315 ?_
                                    refine lv_iconst (v := iI 3) hx hb dX12_go_316 (by decide +kernel) ?_
                                    refine lv_icmp_ge (tgt := 337) hx hb dX12_go_317 (by decide) (fun c_316 => ?_) (fun c_316 => ?_)
                                    · replace c_316 := (iI_le (by decide) (by decide) (by omega) (by omega)).mp c_316
                                      refine lv_aload_n hx hb dX12_go_337 rfl (lv_at hl 4 rfl) ?_
                                      refine lv_dup hx hb dX12_go_338 rfl ?_
                                      refine r_get (v := .int (iI z273)) M w 0 5 clX12 rfl (by decide) G1468 rfl rfl dX12_go_339 ?_
                                      refine lv_iconst (v := iI 1) hx hb dX12_go_342 (by decide +kernel) ?_
                                      refine r_iadd (v := iI (z273 + 1)) M (iI_add _ _) dX12_go_343 ?_
                                      refine r_put (ws' := [(a0, .inr (11, [.int r0, .ref a1, .int (iI x0), .int (iI x1), .int (iI x2), .int (iI (z273 + 1)), .int (iI z1), .int (iI x5), .int fr274, .int (iI x6), .int (iI x7), .int (iI x8), .long (((27 * fy272) + (Int32.toInt64 (iI (f0 z273)))) - 96), .int (iI x9), .ref a2, .ref a3, .ref a4, .ref a5, .ref a6, .ref a7, .ref a8, .ref a9, .ref a10, .ref a11, .int (iI x10), .ref a12, .ref a13, .ref a14, .ref a15, .int (iI x11), .int r2, .int r3, .ref a16, .int (iI x12), .int (iI x13), .ref a17, .ref a18, .int (iI x14), .ref a19, .int (iI x15), .int r4, .ref a20, .ref a21, .int (iI x16), .int r5, .ref a22, .int (iI x17), .int (iI x18), .int (iI x19), .int (iI x20)])), (a1, .inl (T 0, 940, .inl (cI f0)))]) M w 0 5 clX12 rfl (by decide) G1468 rfl rfl rfl rfl (Nat.le_of_ble_eq_true rfl) rfl dX12_go_344 (fun H locs w => ?_)
                                      refine lv_goto (tgt := 215) hx hb dX12_go_347 (by decide) ?_
                                      exact ih2 (((27 * fy272) + (Int32.toInt64 (iI (f0 z273)))) - 96) (z273 + 1) fr274 1 _ _ _ (by omega) (by omega) (by decide) (by decide) (by omega) (by omega) (lq2_r.trans (rn_t (ta_L pq277 pq300 (by omega)).1 (Or.inl (ta_L pq277 pq300 (by omega)).2))) (aR_s lq2_a (Or.inl (ta_L pq277 pq300 (by omega)).2)) (gd_q lq2_g (by omega) pq309 (by omega) (by omega) (by omega) (by omega) (by omega) (by omega)) (wI_s lq2_w (by omega) (f0_h _) (by first | exact Or.inl ⟨by omega, rfl⟩ | exact Or.inr ⟨by omega, rfl⟩) (by first | exact Or.inl ⟨by omega, rfl⟩ | exact Or.inr ⟨by omega, rfl⟩)) (by omega) w (lv_sub hl [0, 2, 3, 4] rfl)
                                    · replace c_316 : (z273 - z1) < 3 := Int.not_le.mp (fun h => c_316 ((iI_le (by decide) (by decide) (by omega) (by omega)).mpr h))
                                      refine lv_aload_n hx hb dX12_go_320 rfl (lv_at hl 4 rfl) ?_
                                      refine lv_bipush (v := iI 10) hx hb dX12_go_321 (by decide +kernel) ?_
                                      refine lv_aload_n hx hb dX12_go_323 rfl (lv_at hl 4 rfl) ?_
                                      refine r_get (v := .int fr274) M w 0 8 clX12 rfl (by decide) G1471 rfl rfl dX12_go_324 ?_
                                      refine r_imul (v := ((iI 10) * fr274)) M rfl dX12_go_327 ?_
                                      refine lv_iload hx hb dX12_go_328 (lv_at hl 1 rfl) ?_
                                      refine r_iadd (v := (((iI 10) * fr274) + (iI (f0 z273)))) M rfl dX12_go_330 ?_
                                      refine lv_bipush (v := iI 48) hx hb dX12_go_331 (by decide +kernel) ?_
                                      refine r_isub (v := ((((iI 10) * fr274) + (iI (f0 z273))) - (iI 48))) M rfl dX12_go_333 ?_
                                      refine r_put (ws' := [(a0, .inr (11, [.int r0, .ref a1, .int (iI x0), .int (iI x1), .int (iI x2), .int (iI z273), .int (iI z1), .int (iI x5), .int ((((iI 10) * fr274) + (iI (f0 z273))) - (iI 48)), .int (iI x6), .int (iI x7), .int (iI x8), .long (((27 * fy272) + (Int32.toInt64 (iI (f0 z273)))) - 96), .int (iI x9), .ref a2, .ref a3, .ref a4, .ref a5, .ref a6, .ref a7, .ref a8, .ref a9, .ref a10, .ref a11, .int (iI x10), .ref a12, .ref a13, .ref a14, .ref a15, .int (iI x11), .int r2, .int r3, .ref a16, .int (iI x12), .int (iI x13), .ref a17, .ref a18, .int (iI x14), .ref a19, .int (iI x15), .int r4, .ref a20, .ref a21, .int (iI x16), .int r5, .ref a22, .int (iI x17), .int (iI x18), .int (iI x19), .int (iI x20)])), (a1, .inl (T 0, 940, .inl (cI f0)))]) M w 0 8 clX12 rfl (by decide) G1471 rfl rfl rfl rfl (Nat.le_of_ble_eq_true rfl) rfl dX12_go_334 (fun H locs w => ?_)
                                      refine lv_aload_n hx hb dX12_go_337 rfl (lv_at hl 4 rfl) ?_
                                      refine lv_dup hx hb dX12_go_338 rfl ?_
                                      refine r_get (v := .int (iI z273)) M w 0 5 clX12 rfl (by decide) G1468 rfl rfl dX12_go_339 ?_
                                      refine lv_iconst (v := iI 1) hx hb dX12_go_342 (by decide +kernel) ?_
                                      refine r_iadd (v := iI (z273 + 1)) M (iI_add _ _) dX12_go_343 ?_
                                      refine r_put (ws' := [(a0, .inr (11, [.int r0, .ref a1, .int (iI x0), .int (iI x1), .int (iI x2), .int (iI (z273 + 1)), .int (iI z1), .int (iI x5), .int ((((iI 10) * fr274) + (iI (f0 z273))) - (iI 48)), .int (iI x6), .int (iI x7), .int (iI x8), .long (((27 * fy272) + (Int32.toInt64 (iI (f0 z273)))) - 96), .int (iI x9), .ref a2, .ref a3, .ref a4, .ref a5, .ref a6, .ref a7, .ref a8, .ref a9, .ref a10, .ref a11, .int (iI x10), .ref a12, .ref a13, .ref a14, .ref a15, .int (iI x11), .int r2, .int r3, .ref a16, .int (iI x12), .int (iI x13), .ref a17, .ref a18, .int (iI x14), .ref a19, .int (iI x15), .int r4, .ref a20, .ref a21, .int (iI x16), .int r5, .ref a22, .int (iI x17), .int (iI x18), .int (iI x19), .int (iI x20)])), (a1, .inl (T 0, 940, .inl (cI f0)))]) M w 0 5 clX12 rfl (by decide) G1468 rfl rfl rfl rfl (Nat.le_of_ble_eq_true rfl) rfl dX12_go_344 (fun H locs w => ?_)
                                      refine lv_goto (tgt := 215) hx hb dX12_go_347 (by decide) ?_
                                      exact ih2 (((27 * fy272) + (Int32.toInt64 (iI (f0 z273)))) - 96) (z273 + 1) ((((iI 10) * fr274) + (iI (f0 z273))) - (iI 48)) 1 _ _ _ (by omega) (by omega) (by decide) (by decide) (by omega) (by omega) (lq2_r.trans (rn_t (ta_L pq277 pq300 (by omega)).1 (Or.inl (ta_L pq277 pq300 (by omega)).2))) (aR_s lq2_a (Or.inl (ta_L pq277 pq300 (by omega)).2)) (gd_q lq2_g (by omega) pq309 (by omega) (by omega) (by omega) (by omega) (by omega) (by omega)) (wI_s lq2_w (by omega) (f0_h _) (by first | exact Or.inl ⟨by omega, rfl⟩ | exact Or.inr ⟨by omega, rfl⟩) (by first | exact Or.inl ⟨by omega, rfl⟩ | exact Or.inr ⟨by omega, rfl⟩)) (by omega) w (lv_sub hl [0, 2, 3, 4] rfl)
                            · replace c_301 := (iz_eq (Int.le_trans (by decide) z298_a) (Int.le_trans z298_b (by decide))).mp c_301
                              refine lv_aload_n hx hb dX12_go_229 rfl (lv_at hl 3 rfl) ?_
                              refine lv_aload_n hx hb dX12_go_230 rfl (lv_at hl 3 rfl) ?_
                              refine r_get (v := .int (iI z273)) M w 0 5 clX12 rfl (by decide) G1468 rfl rfl dX12_go_231 ?_
                              refine k_I (ce := 0) (sl := 0) (rest := []) (wr := []) (r_V (f := 0) [0, 1] M w V_HookedCityModel_50 G1639 G50 (c9_X12_tapeAt l D T _ a0 z273 r0 a1 x0 x1 x2 z273 z1 x5 fr274 x6 x7 x8 fy272 x9 a2 a3 a4 a5 a6 a7 a8 a9 a10 a11 x10 a12 a13 a14 a15 x11 r2 r3 a16 x12 x13 a17 a18 x14 a19 x15 r4 a20 a21 x16 r5 a22 x17 x18 x19 x20 f0 z273_a z273_b x0_a x0_b x1_a x1_b x2_a x2_b z273_a z273_b z1_a z1_b x5_a x5_b x6_a x6_b x7_a x7_b x8_a x8_b x9_a x9_b x10_a x10_b x11_a x11_b x12_a x12_b x13_a x13_b x14_a x14_b x15_a x15_b x16_a x16_b x17_a x17_b x18_a x18_b x19_a x19_b x20_a x20_b f0_h) 0 clX12 rfl rfl (by decide) rfl hl.1 rfl (Nat.le_of_ble_eq_true rfl) dX12_go_234 (by decide) (by decide) (by decide) (by decide)) w [0, 1] [] rfl rfl (by decide) (by decide) rfl rfl (fun v z317 H locs hp w => ?_)
                              have hv : iI z317 = v := hp.1
                              subst hv
                              have z317_a : (-2147483648) ≤ z317 := hp.2.1
                              have z317_b : z317 ≤ 2147483647 := hp.2.2.1
                              have pq318 : taQ z273 x1 z317 (f0 z273) := hp.2.2.2.1
                              have w : WD D A s.heap [(a0, .inr (11, [.int r0, .ref a1, .int (iI x0), .int (iI x1), .int (iI x2), .int (iI z273), .int (iI z1), .int (iI x5), .int fr274, .int (iI x6), .int (iI x7), .int (iI x8), .long fy272, .int (iI x9), .ref a2, .ref a3, .ref a4, .ref a5, .ref a6, .ref a7, .ref a8, .ref a9, .ref a10, .ref a11, .int (iI x10), .ref a12, .ref a13, .ref a14, .ref a15, .int (iI x11), .int r2, .int r3, .ref a16, .int (iI x12), .int (iI x13), .ref a17, .ref a18, .int (iI x14), .ref a19, .int (iI x15), .int r4, .ref a20, .ref a21, .int (iI x16), .int r5, .ref a22, .int (iI x17), .int (iI x18), .int (iI x19), .int (iI x20)])), (a1, .inl (T 0, 940, .inl (cI f0)))] H locs := w
                              rcases hp.2.2.2.2 with ⟨c_319, hr⟩ | c_320
                              · exfalso; omega
                              · refine k_I (ce := 0) (sl := 0) (rest := []) (wr := [(a0, .inr (11, [.int r0, .ref a1, .int (iI x0), .int (iI x1), .int (iI x2), .int (iI z273), .int (iI z1), .int (iI x5), .int fr274, .int (iI x6), .int (iI x7), .int (iI x8), .long fy272, .int (iI x9), .ref a2, .ref a3, .ref a4, .ref a5, .ref a6, .ref a7, .ref a8, .ref a9, .ref a10, .ref a11, .int (iI x10), .ref a12, .ref a13, .ref a14, .ref a15, .int (iI x11), .int r2, .int r3, .ref a16, .int (iI x12), .int (iI x13), .ref a17, .ref a18, .int (iI x14), .ref a19, .int (iI x15), .int r4, .ref a20, .ref a21, .int (iI x16), .int r5, .ref a22, .int (iI x17), .int (iI x18), .int (iI x19), .int (iI x20)])), (a1, .inl (T 0, 940, .inl (cI f0)))]) (r_S (f := 0) [] M w V_HookedCityModel_37 G1635 (c10_X12_isDigit l D T _ z317 z317_a z317_b) rfl (by decide) rfl hl.1 rfl (Nat.le_of_ble_eq_true rfl) dX12_go_237 (by decide) (by decide) (by decide) (by decide)) w [] [0, 1] rfl rfl (by decide) (by decide) rfl rfl (fun v z321 H locs hp w => ?_)
                                have hv : iI z321 = v := hp.1
                                subst hv
                                have z321_a : 0 ≤ z321 := hp.2.1
                                have z321_b : z321 ≤ 1 := hp.2.2.1
                                have ee322 : 0 ≤ ((z317 + 4294967296) - (z321 * 4294967344)) := hp.2.2.2.1
                                have pq323 : lq z321 z317 48 57 := hp.2.2.2.2
                                have w : WD D A s.heap [(a0, .inr (11, [.int r0, .ref a1, .int (iI x0), .int (iI x1), .int (iI x2), .int (iI z273), .int (iI z1), .int (iI x5), .int fr274, .int (iI x6), .int (iI x7), .int (iI x8), .long fy272, .int (iI x9), .ref a2, .ref a3, .ref a4, .ref a5, .ref a6, .ref a7, .ref a8, .ref a9, .ref a10, .ref a11, .int (iI x10), .ref a12, .ref a13, .ref a14, .ref a15, .int (iI x11), .int r2, .int r3, .ref a16, .int (iI x12), .int (iI x13), .ref a17, .ref a18, .int (iI x14), .ref a19, .int (iI x15), .int r4, .ref a20, .ref a21, .int (iI x16), .int r5, .ref a22, .int (iI x17), .int (iI x18), .int (iI x19), .int (iI x20)])), (a1, .inl (T 0, 940, .inl (cI f0)))] H locs := w
                                refine lv_if_eq (tgt := 350) hx hb dX12_go_240 (by decide) (fun c_324 => ?_) (fun c_324 => ?_)
                                · replace c_324 := (iz_eq (Int.le_trans (by decide) z321_a) (Int.le_trans z321_b (by decide))).mp c_324
                                  refine lv_aload_n hx hb dX12_go_350 rfl (lv_at hl 3 rfl) ?_
                                  refine lv_iload_n hx hb dX12_go_351 rfl (lv_at hl 0 rfl) ?_
                                  refine lv_if_eq (tgt := 377) hx hb dX12_go_352 (by decide) (fun c_325 => ?_) (fun c_325 => ?_)
                                  · replace c_325 := (iz_eq (Int.le_trans (by decide) z275_a) (Int.le_trans z275_b (by decide))).mp c_325
                                    refine lv_iconst (v := iI 1) hx hb dX12_go_377 (by decide +kernel) ?_
                                    refine lv_goto (tgt := 390) hx hb dX12_go_378 (by decide) ?_
                                    refine r_put (ws' := [(a0, .inr (11, [.int r0, .ref a1, .int (iI x0), .int (iI x1), .int (iI x2), .int (iI z273), .int (iI z1), .int (iI 1), .int fr274, .int (iI x6), .int (iI x7), .int (iI x8), .long fy272, .int (iI x9), .ref a2, .ref a3, .ref a4, .ref a5, .ref a6, .ref a7, .ref a8, .ref a9, .ref a10, .ref a11, .int (iI x10), .ref a12, .ref a13, .ref a14, .ref a15, .int (iI x11), .int r2, .int r3, .ref a16, .int (iI x12), .int (iI x13), .ref a17, .ref a18, .int (iI x14), .ref a19, .int (iI x15), .int r4, .ref a20, .ref a21, .int (iI x16), .int r5, .ref a22, .int (iI x17), .int (iI x18), .int (iI x19), .int (iI x20)])), (a1, .inl (T 0, 940, .inl (cI f0)))]) M w 0 7 clX12 rfl (by decide) G1470 rfl rfl rfl rfl (Nat.le_of_ble_eq_true rfl) rfl dX12_go_390 (fun H locs w => ?_)
                                    exact ret (z273, z1, 1, fr274, x6, fy272) _ _ _ _ _ [0, 1] dX12_go_393 ⟨z273_a, z273_b, z1_a, z1_b, (show (0 : Int) ≤ 1 from by decide), (show (1 : Int) ≤ 4 from by decide), x6_a, x6_b, (show 0 ≤ (z273 - x3) from by omega), (show 0 ≤ (((z273 - x3) - 1) + 3) from by omega), (show gT (tkAt f0 x1 x2 x3) 1 z1 z273 fy272 fr274 x6 from (by rw [tk_run (lq1_s.trans (sk_e (by omega))) (by omega) (by omega) (Or.inr (lq_1 pq267 (by omega))) (lq2_r.trans (rn_e (ta_E pq277 pq300 (by omega) pq318 pq323 (by omega))))]; exact ⟨rfl, rfl, go_fin lq2_a lq2_g pq271 (lq2_r.trans (rn_e (ta_E pq277 pq300 (by omega) pq318 pq323 (by omega)))) (by omega) (Or.inr (lq_1 pq267 (by omega))) lq2_w (by omega)⟩))⟩ w (by decide) rfl
                                  · replace c_325 : ¬ z275 = 0 := fun h => c_325 ((iz_eq (Int.le_trans (by decide) z275_a) (Int.le_trans z275_b (by decide))).mpr h)
                                    refine lv_aload_n hx hb dX12_go_355 rfl (lv_at hl 3 rfl) ?_
                                    refine r_get (v := .int (iI z273)) M w 0 5 clX12 rfl (by decide) G1468 rfl rfl dX12_go_356 ?_
                                    refine lv_aload_n hx hb dX12_go_359 rfl (lv_at hl 3 rfl) ?_
                                    refine r_get (v := .int (iI z1)) M w 0 6 clX12 rfl (by decide) G1469 rfl rfl dX12_go_360 ?_
                                    refine r_isub (v := iI (z273 - z1)) M (iI_sub _ _) dX12_go_363 ?_
                                    refine lv_iload_n hx hb dX12_go_364 rfl (lv_at hl 1 rfl) ?_
                                    refine lv_if_eq (tgt := 373) hx hb dX12_go_365 (by decide) (fun c_326 => ?_) (fun c_326 => ?_)
                                    · replace c_326 := (iz_eq (Int.le_trans (by decide) z269_a) (Int.le_trans z269_b (by decide))).mp c_326
                                      refine lv_iconst (v := iI 3) hx hb dX12_go_373 (by decide +kernel) ?_
                                      refine lv_icmp_le (tgt := 381) hx hb dX12_go_374 (by decide) (fun c_327 => ?_) (fun c_327 => ?_)
                                      · replace c_327 := (iI_le (by omega) (by omega) (by decide) (by decide)).mp c_327
                                        refine lv_iload_n hx hb dX12_go_381 rfl (lv_at hl 1 rfl) ?_
                                        refine lv_if_eq (tgt := 389) hx hb dX12_go_382 (by decide) (fun c_328 => ?_) (fun c_328 => ?_)
                                        · replace c_328 := (iz_eq (Int.le_trans (by decide) z269_a) (Int.le_trans z269_b (by decide))).mp c_328
                                          refine lv_iconst (v := iI 3) hx hb dX12_go_389 (by decide +kernel) ?_
                                          refine r_put (ws' := [(a0, .inr (11, [.int r0, .ref a1, .int (iI x0), .int (iI x1), .int (iI x2), .int (iI z273), .int (iI z1), .int (iI 3), .int fr274, .int (iI x6), .int (iI x7), .int (iI x8), .long fy272, .int (iI x9), .ref a2, .ref a3, .ref a4, .ref a5, .ref a6, .ref a7, .ref a8, .ref a9, .ref a10, .ref a11, .int (iI x10), .ref a12, .ref a13, .ref a14, .ref a15, .int (iI x11), .int r2, .int r3, .ref a16, .int (iI x12), .int (iI x13), .ref a17, .ref a18, .int (iI x14), .ref a19, .int (iI x15), .int r4, .ref a20, .ref a21, .int (iI x16), .int r5, .ref a22, .int (iI x17), .int (iI x18), .int (iI x19), .int (iI x20)])), (a1, .inl (T 0, 940, .inl (cI f0)))]) M w 0 7 clX12 rfl (by decide) G1470 rfl rfl rfl rfl (Nat.le_of_ble_eq_true rfl) rfl dX12_go_390 (fun H locs w => ?_)
                                          exact ret (z273, z1, 3, fr274, x6, fy272) _ _ _ _ _ [0, 1] dX12_go_393 ⟨z273_a, z273_b, z1_a, z1_b, (show (0 : Int) ≤ 3 from by decide), (show (3 : Int) ≤ 4 from by decide), x6_a, x6_b, (show 0 ≤ (z273 - x3) from by omega), (show 0 ≤ (((z273 - x3) - 3) + 3) from by omega), (show gT (tkAt f0 x1 x2 x3) 3 z1 z273 fy272 fr274 x6 from (by rw [tk_run (lq1_s.trans (sk_e (by omega))) (by omega) (by omega) (Or.inr (lq_1 pq267 (by omega))) (lq2_r.trans (rn_e (ta_E pq277 pq300 (by omega) pq318 pq323 (by omega))))]; exact ⟨rfl, rfl, go_fin lq2_a lq2_g pq271 (lq2_r.trans (rn_e (ta_E pq277 pq300 (by omega) pq318 pq323 (by omega)))) (by omega) (Or.inr (lq_1 pq267 (by omega))) lq2_w (by omega)⟩))⟩ w (by decide) rfl
                                        · replace c_328 : ¬ z269 = 0 := fun h => c_328 ((iz_eq (Int.le_trans (by decide) z269_a) (Int.le_trans z269_b (by decide))).mpr h)
                                          exfalso; omega
                                      · replace c_327 : 3 < (z273 - z1) := Int.not_le.mp (fun h => c_327 ((iI_le (by omega) (by omega) (by decide) (by decide)).mpr h))
                                        refine lv_iconst (v := iI 1) hx hb dX12_go_377 (by decide +kernel) ?_
                                        refine lv_goto (tgt := 390) hx hb dX12_go_378 (by decide) ?_
                                        refine r_put (ws' := [(a0, .inr (11, [.int r0, .ref a1, .int (iI x0), .int (iI x1), .int (iI x2), .int (iI z273), .int (iI z1), .int (iI 1), .int fr274, .int (iI x6), .int (iI x7), .int (iI x8), .long fy272, .int (iI x9), .ref a2, .ref a3, .ref a4, .ref a5, .ref a6, .ref a7, .ref a8, .ref a9, .ref a10, .ref a11, .int (iI x10), .ref a12, .ref a13, .ref a14, .ref a15, .int (iI x11), .int r2, .int r3, .ref a16, .int (iI x12), .int (iI x13), .ref a17, .ref a18, .int (iI x14), .ref a19, .int (iI x15), .int r4, .ref a20, .ref a21, .int (iI x16), .int r5, .ref a22, .int (iI x17), .int (iI x18), .int (iI x19), .int (iI x20)])), (a1, .inl (T 0, 940, .inl (cI f0)))]) M w 0 7 clX12 rfl (by decide) G1470 rfl rfl rfl rfl (Nat.le_of_ble_eq_true rfl) rfl dX12_go_390 (fun H locs w => ?_)
                                        exact ret (z273, z1, 1, fr274, x6, fy272) _ _ _ _ _ [0, 1] dX12_go_393 ⟨z273_a, z273_b, z1_a, z1_b, (show (0 : Int) ≤ 1 from by decide), (show (1 : Int) ≤ 4 from by decide), x6_a, x6_b, (show 0 ≤ (z273 - x3) from by omega), (show 0 ≤ (((z273 - x3) - 1) + 3) from by omega), (show gT (tkAt f0 x1 x2 x3) 1 z1 z273 fy272 fr274 x6 from (by rw [tk_run (lq1_s.trans (sk_e (by omega))) (by omega) (by omega) (Or.inr (lq_1 pq267 (by omega))) (lq2_r.trans (rn_e (ta_E pq277 pq300 (by omega) pq318 pq323 (by omega))))]; exact ⟨rfl, rfl, go_fin lq2_a lq2_g pq271 (lq2_r.trans (rn_e (ta_E pq277 pq300 (by omega) pq318 pq323 (by omega)))) (by omega) (Or.inr (lq_1 pq267 (by omega))) lq2_w (by omega)⟩))⟩ w (by decide) rfl
                                    · replace c_326 : ¬ z269 = 0 := fun h => c_326 ((iz_eq (Int.le_trans (by decide) z269_a) (Int.le_trans z269_b (by decide))).mpr h)
                                      refine lv_bipush (v := iI 7) hx hb dX12_go_368 (by decide +kernel) ?_
                                      refine lv_goto (tgt := 374) hx hb dX12_go_370 (by decide) ?_
                                      refine lv_icmp_le (tgt := 381) hx hb dX12_go_374 (by decide) (fun c_329 => ?_) (fun c_329 => ?_)
                                      · replace c_329 := (iI_le (by omega) (by omega) (by decide) (by decide)).mp c_329
                                        refine lv_iload_n hx hb dX12_go_381 rfl (lv_at hl 1 rfl) ?_
                                        refine lv_if_eq (tgt := 389) hx hb dX12_go_382 (by decide) (fun c_330 => ?_) (fun c_330 => ?_)
                                        · replace c_330 := (iz_eq (Int.le_trans (by decide) z269_a) (Int.le_trans z269_b (by decide))).mp c_330
                                          exfalso; omega
                                        · replace c_330 : ¬ z269 = 0 := fun h => c_330 ((iz_eq (Int.le_trans (by decide) z269_a) (Int.le_trans z269_b (by decide))).mpr h)
                                          refine lv_iconst (v := iI 2) hx hb dX12_go_385 (by decide +kernel) ?_
                                          refine lv_goto (tgt := 390) hx hb dX12_go_386 (by decide) ?_
                                          refine r_put (ws' := [(a0, .inr (11, [.int r0, .ref a1, .int (iI x0), .int (iI x1), .int (iI x2), .int (iI z273), .int (iI z1), .int (iI 2), .int fr274, .int (iI x6), .int (iI x7), .int (iI x8), .long fy272, .int (iI x9), .ref a2, .ref a3, .ref a4, .ref a5, .ref a6, .ref a7, .ref a8, .ref a9, .ref a10, .ref a11, .int (iI x10), .ref a12, .ref a13, .ref a14, .ref a15, .int (iI x11), .int r2, .int r3, .ref a16, .int (iI x12), .int (iI x13), .ref a17, .ref a18, .int (iI x14), .ref a19, .int (iI x15), .int r4, .ref a20, .ref a21, .int (iI x16), .int r5, .ref a22, .int (iI x17), .int (iI x18), .int (iI x19), .int (iI x20)])), (a1, .inl (T 0, 940, .inl (cI f0)))]) M w 0 7 clX12 rfl (by decide) G1470 rfl rfl rfl rfl (Nat.le_of_ble_eq_true rfl) rfl dX12_go_390 (fun H locs w => ?_)
                                          exact ret (z273, z1, 2, fr274, x6, fy272) _ _ _ _ _ [0, 1] dX12_go_393 ⟨z273_a, z273_b, z1_a, z1_b, (show (0 : Int) ≤ 2 from by decide), (show (2 : Int) ≤ 4 from by decide), x6_a, x6_b, (show 0 ≤ (z273 - x3) from by omega), (show 0 ≤ (((z273 - x3) - 2) + 3) from by omega), (show gT (tkAt f0 x1 x2 x3) 2 z1 z273 fy272 fr274 x6 from (by rw [tk_run (lq1_s.trans (sk_e (by omega))) (by omega) (by omega) (Or.inr (lq_1 pq267 (by omega))) (lq2_r.trans (rn_e (ta_E pq277 pq300 (by omega) pq318 pq323 (by omega))))]; exact ⟨rfl, rfl, go_fin lq2_a lq2_g pq271 (lq2_r.trans (rn_e (ta_E pq277 pq300 (by omega) pq318 pq323 (by omega)))) (by omega) (Or.inr (lq_1 pq267 (by omega))) lq2_w (by omega)⟩))⟩ w (by decide) rfl
                                      · replace c_329 : 7 < (z273 - z1) := Int.not_le.mp (fun h => c_329 ((iI_le (by omega) (by omega) (by decide) (by decide)).mpr h))
                                        refine lv_iconst (v := iI 1) hx hb dX12_go_377 (by decide +kernel) ?_
                                        refine lv_goto (tgt := 390) hx hb dX12_go_378 (by decide) ?_
                                        refine r_put (ws' := [(a0, .inr (11, [.int r0, .ref a1, .int (iI x0), .int (iI x1), .int (iI x2), .int (iI z273), .int (iI z1), .int (iI 1), .int fr274, .int (iI x6), .int (iI x7), .int (iI x8), .long fy272, .int (iI x9), .ref a2, .ref a3, .ref a4, .ref a5, .ref a6, .ref a7, .ref a8, .ref a9, .ref a10, .ref a11, .int (iI x10), .ref a12, .ref a13, .ref a14, .ref a15, .int (iI x11), .int r2, .int r3, .ref a16, .int (iI x12), .int (iI x13), .ref a17, .ref a18, .int (iI x14), .ref a19, .int (iI x15), .int r4, .ref a20, .ref a21, .int (iI x16), .int r5, .ref a22, .int (iI x17), .int (iI x18), .int (iI x19), .int (iI x20)])), (a1, .inl (T 0, 940, .inl (cI f0)))]) M w 0 7 clX12 rfl (by decide) G1470 rfl rfl rfl rfl (Nat.le_of_ble_eq_true rfl) rfl dX12_go_390 (fun H locs w => ?_)
                                        exact ret (z273, z1, 1, fr274, x6, fy272) _ _ _ _ _ [0, 1] dX12_go_393 ⟨z273_a, z273_b, z1_a, z1_b, (show (0 : Int) ≤ 1 from by decide), (show (1 : Int) ≤ 4 from by decide), x6_a, x6_b, (show 0 ≤ (z273 - x3) from by omega), (show 0 ≤ (((z273 - x3) - 1) + 3) from by omega), (show gT (tkAt f0 x1 x2 x3) 1 z1 z273 fy272 fr274 x6 from (by rw [tk_run (lq1_s.trans (sk_e (by omega))) (by omega) (by omega) (Or.inr (lq_1 pq267 (by omega))) (lq2_r.trans (rn_e (ta_E pq277 pq300 (by omega) pq318 pq323 (by omega))))]; exact ⟨rfl, rfl, go_fin lq2_a lq2_g pq271 (lq2_r.trans (rn_e (ta_E pq277 pq300 (by omega) pq318 pq323 (by omega)))) (by omega) (Or.inr (lq_1 pq267 (by omega))) lq2_w (by omega)⟩))⟩ w (by decide) rfl
                                · replace c_324 : ¬ z321 = 0 := fun h => c_324 ((iz_eq (Int.le_trans (by decide) z321_a) (Int.le_trans z321_b (by decide))).mpr h)
                                  refine lv_aload_n hx hb dX12_go_243 rfl (lv_at hl 3 rfl) ?_
                                  refine r_get (v := .ref a1) M w 0 1 clX12 rfl (by decide) G1464 rfl rfl dX12_go_244 ?_
                                  refine lv_aload_n hx hb dX12_go_247 rfl (lv_at hl 3 rfl) ?_
                                  refine r_get (v := .int (iI z273)) M w 0 5 clX12 rfl (by decide) G1468 rfl rfl dX12_go_248 ?_
                                  refine r_iald (v := iI (f0 z273)) M w 1 rfl (iI_in (by omega) (by omega) (by decide)) (cI_at (by omega) (by omega)) dX12_go_251 ?_
                                  have hh331 : 0 ≤ (f0 z273) ∧ (f0 z273) ≤ 255 := f0_h z273
                                  refine lv_istore (lv' := [(4, .int (iI (f0 z273))), (3, .int (iI z275)), (2, .int (iI z269)), (1, .int (iI (f0 z1))), (0, .ref a0)]) hx hb dX12_go_252 hl (by decide) rfl (fun ls hl => ?_)
                                  refine lv_iload_n hx hb dX12_go_254 rfl (lv_at hl 1 rfl) ?_
                                  refine lv_if_eq (tgt := 271) hx hb dX12_go_255 (by decide) (fun c_332 => ?_) (fun c_332 => ?_)
                                  · replace c_332 := (iz_eq (Int.le_trans (by decide) z275_a) (Int.le_trans z275_b (by decide))).mp c_332
                                    refine lv_iconst (v := iI 0) hx hb dX12_go_271 (by decide +kernel) ?_
                                    refine lv_istore_n (lv' := [(3, .int (iI 0)), (4, .int (iI (f0 z273))), (2, .int (iI z269)), (1, .int (iI (f0 z1))), (0, .ref a0)]) hx hb dX12_go_272 rfl hl (by decide) rfl (fun ls hl => ?_)
                                    refine lv_aload_n hx hb dX12_go_273 rfl (lv_at hl 4 rfl) ?_
                                    refine r_get (v := .int (iI z273)) M w 0 5 clX12 rfl (by decide) G1468 rfl rfl dX12_go_274 ?_
                                    refine lv_aload_n hx hb dX12_go_277 rfl (lv_at hl 4 rfl) ?_
                                    refine r_get (v := .int (iI z1)) M w 0 6 clX12 rfl (by decide) G1469 rfl rfl dX12_go_278 ?_
                                    refine r_isub (v := iI (z273 - z1)) M (iI_sub _ _) dX12_go_281 ?_
                                    refine lv_bipush (v := iI 7) hx hb dX12_go_282 (by decide +kernel) ?_
                                    refine lv_icmp_ge (tgt := 307) hx hb dX12_go_284 (by decide) (fun c_333 => ?_) (fun c_333 => ?_)
                                    · replace c_333 := (iI_le (by decide) (by decide) (by omega) (by omega)).mp c_333
                                      refine lv_aload_n hx hb dX12_go_307 rfl (lv_at hl 4 rfl) ?_
                                      refine r_get (v := .int (iI z273)) M w 0 5 clX12 rfl (by decide) G1468 rfl rfl dX12_go_308 ?_
                                      refine lv_aload_n hx hb dX12_go_311 rfl (lv_at hl 4 rfl) ?_
                                      refine r_get (v := .int (iI z1)) M w 0 6 clX12 rfl (by decide) G1469 rfl rfl dX12_go_312 ?_
                                      refine r_isub (v := iI (z273 - z1)) M (iI_sub _ _) dX12_go_315 ?_
                                      refine lv_iconst (v := iI 3) hx hb dX12_go_316 (by decide +kernel) ?_
                                      refine lv_icmp_ge (tgt := 337) hx hb dX12_go_317 (by decide) (fun c_334 => ?_) (fun c_334 => ?_)
                                      · replace c_334 := (iI_le (by decide) (by decide) (by omega) (by omega)).mp c_334
                                        refine lv_aload_n hx hb dX12_go_337 rfl (lv_at hl 4 rfl) ?_
                                        refine lv_dup hx hb dX12_go_338 rfl ?_
                                        refine r_get (v := .int (iI z273)) M w 0 5 clX12 rfl (by decide) G1468 rfl rfl dX12_go_339 ?_
                                        refine lv_iconst (v := iI 1) hx hb dX12_go_342 (by decide +kernel) ?_
                                        refine r_iadd (v := iI (z273 + 1)) M (iI_add _ _) dX12_go_343 ?_
                                        refine r_put (ws' := [(a0, .inr (11, [.int r0, .ref a1, .int (iI x0), .int (iI x1), .int (iI x2), .int (iI (z273 + 1)), .int (iI z1), .int (iI x5), .int fr274, .int (iI x6), .int (iI x7), .int (iI x8), .long fy272, .int (iI x9), .ref a2, .ref a3, .ref a4, .ref a5, .ref a6, .ref a7, .ref a8, .ref a9, .ref a10, .ref a11, .int (iI x10), .ref a12, .ref a13, .ref a14, .ref a15, .int (iI x11), .int r2, .int r3, .ref a16, .int (iI x12), .int (iI x13), .ref a17, .ref a18, .int (iI x14), .ref a19, .int (iI x15), .int r4, .ref a20, .ref a21, .int (iI x16), .int r5, .ref a22, .int (iI x17), .int (iI x18), .int (iI x19), .int (iI x20)])), (a1, .inl (T 0, 940, .inl (cI f0)))]) M w 0 5 clX12 rfl (by decide) G1468 rfl rfl rfl rfl (Nat.le_of_ble_eq_true rfl) rfl dX12_go_344 (fun H locs w => ?_)
                                        refine lv_goto (tgt := 215) hx hb dX12_go_347 (by decide) ?_
                                        exact ih2 fy272 (z273 + 1) fr274 0 _ _ _ (by omega) (by omega) (by decide) (by decide) (by omega) (by omega) (lq2_r.trans (rn_t (ta_D pq318 pq323 (by omega)).1 (Or.inr (ta_D pq318 pq323 (by omega)).2))) (aR_s lq2_a (Or.inr (ta_D pq318 pq323 (by omega)).2)) (gd_z lq2_g (by omega)) (wI_s lq2_w (by omega) (f0_h _) (by first | exact Or.inl ⟨by omega, rfl⟩ | exact Or.inr ⟨by omega, rfl⟩) (by first | exact Or.inl ⟨by omega, rfl⟩ | exact Or.inr ⟨by omega, rfl⟩)) (by omega) w (lv_sub hl [0, 2, 3, 4] rfl)
                                      · replace c_334 : (z273 - z1) < 3 := Int.not_le.mp (fun h => c_334 ((iI_le (by decide) (by decide) (by omega) (by omega)).mpr h))
                                        exfalso; omega
                                    · replace c_333 : (z273 - z1) < 7 := Int.not_le.mp (fun h => c_333 ((iI_le (by decide) (by decide) (by omega) (by omega)).mpr h))
                                      refine lv_aload_n hx hb dX12_go_287 rfl (lv_at hl 4 rfl) ?_
                                      refine lv_ldc2 (v := 27) hx hb M.1.2.2.2.1 (M.1.2.2.2.2 _ G1641) dX12_go_288 ?_
                                      refine lv_aload_n hx hb dX12_go_291 rfl (lv_at hl 4 rfl) ?_
                                      refine r_get (v := .long fy272) M w 0 12 clX12 rfl (by decide) G1475 rfl rfl dX12_go_292 ?_
                                      refine r_lmul (v := (27 * fy272)) M rfl dX12_go_295 ?_
                                      refine lv_iload hx hb dX12_go_296 (lv_at hl 1 rfl) ?_
                                      refine lv_i2l (v := (Int32.toInt64 (iI (f0 z273)))) hx hb dX12_go_298 rfl ?_
                                      refine r_ladd (v := ((27 * fy272) + (Int32.toInt64 (iI (f0 z273))))) M rfl dX12_go_299 ?_
                                      refine lv_ldc2 (v := 96) hx hb M.1.2.2.2.1 (M.1.2.2.2.2 _ G1642) dX12_go_300 ?_
                                      refine r_lsub (v := (((27 * fy272) + (Int32.toInt64 (iI (f0 z273)))) - 96)) M rfl dX12_go_303 ?_
                                      refine r_put (ws' := [(a0, .inr (11, [.int r0, .ref a1, .int (iI x0), .int (iI x1), .int (iI x2), .int (iI z273), .int (iI z1), .int (iI x5), .int fr274, .int (iI x6), .int (iI x7), .int (iI x8), .long (((27 * fy272) + (Int32.toInt64 (iI (f0 z273)))) - 96), .int (iI x9), .ref a2, .ref a3, .ref a4, .ref a5, .ref a6, .ref a7, .ref a8, .ref a9, .ref a10, .ref a11, .int (iI x10), .ref a12, .ref a13, .ref a14, .ref a15, .int (iI x11), .int r2, .int r3, .ref a16, .int (iI x12), .int (iI x13), .ref a17, .ref a18, .int (iI x14), .ref a19, .int (iI x15), .int r4, .ref a20, .ref a21, .int (iI x16), .int r5, .ref a22, .int (iI x17), .int (iI x18), .int (iI x19), .int (iI x20)])), (a1, .inl (T 0, 940, .inl (cI f0)))]) M w 0 12 clX12 rfl (by decide) G1475 rfl rfl rfl rfl (Nat.le_of_ble_eq_true rfl) rfl dX12_go_304 (fun H locs w => ?_)
                                      refine lv_aload_n hx hb dX12_go_307 rfl (lv_at hl 4 rfl) ?_
                                      refine r_get (v := .int (iI z273)) M w 0 5 clX12 rfl (by decide) G1468 rfl rfl dX12_go_308 ?_
                                      refine lv_aload_n hx hb dX12_go_311 rfl (lv_at hl 4 rfl) ?_
                                      refine r_get (v := .int (iI z1)) M w 0 6 clX12 rfl (by decide) G1469 rfl rfl dX12_go_312 ?_
                                      refine r_isub (v := iI (z273 - z1)) M (iI_sub _ _) dX12_go_315 ?_
                                      refine lv_iconst (v := iI 3) hx hb dX12_go_316 (by decide +kernel) ?_
                                      refine lv_icmp_ge (tgt := 337) hx hb dX12_go_317 (by decide) (fun c_335 => ?_) (fun c_335 => ?_)
                                      · replace c_335 := (iI_le (by decide) (by decide) (by omega) (by omega)).mp c_335
                                        refine lv_aload_n hx hb dX12_go_337 rfl (lv_at hl 4 rfl) ?_
                                        refine lv_dup hx hb dX12_go_338 rfl ?_
                                        refine r_get (v := .int (iI z273)) M w 0 5 clX12 rfl (by decide) G1468 rfl rfl dX12_go_339 ?_
                                        refine lv_iconst (v := iI 1) hx hb dX12_go_342 (by decide +kernel) ?_
                                        refine r_iadd (v := iI (z273 + 1)) M (iI_add _ _) dX12_go_343 ?_
                                        refine r_put (ws' := [(a0, .inr (11, [.int r0, .ref a1, .int (iI x0), .int (iI x1), .int (iI x2), .int (iI (z273 + 1)), .int (iI z1), .int (iI x5), .int fr274, .int (iI x6), .int (iI x7), .int (iI x8), .long (((27 * fy272) + (Int32.toInt64 (iI (f0 z273)))) - 96), .int (iI x9), .ref a2, .ref a3, .ref a4, .ref a5, .ref a6, .ref a7, .ref a8, .ref a9, .ref a10, .ref a11, .int (iI x10), .ref a12, .ref a13, .ref a14, .ref a15, .int (iI x11), .int r2, .int r3, .ref a16, .int (iI x12), .int (iI x13), .ref a17, .ref a18, .int (iI x14), .ref a19, .int (iI x15), .int r4, .ref a20, .ref a21, .int (iI x16), .int r5, .ref a22, .int (iI x17), .int (iI x18), .int (iI x19), .int (iI x20)])), (a1, .inl (T 0, 940, .inl (cI f0)))]) M w 0 5 clX12 rfl (by decide) G1468 rfl rfl rfl rfl (Nat.le_of_ble_eq_true rfl) rfl dX12_go_344 (fun H locs w => ?_)
                                        refine lv_goto (tgt := 215) hx hb dX12_go_347 (by decide) ?_
                                        exact ih2 (((27 * fy272) + (Int32.toInt64 (iI (f0 z273)))) - 96) (z273 + 1) fr274 0 _ _ _ (by omega) (by omega) (by decide) (by decide) (by omega) (by omega) (lq2_r.trans (rn_t (ta_D pq318 pq323 (by omega)).1 (Or.inr (ta_D pq318 pq323 (by omega)).2))) (aR_s lq2_a (Or.inr (ta_D pq318 pq323 (by omega)).2)) (gd_z lq2_g (by omega)) (wI_s lq2_w (by omega) (f0_h _) (by first | exact Or.inl ⟨by omega, rfl⟩ | exact Or.inr ⟨by omega, rfl⟩) (by first | exact Or.inl ⟨by omega, rfl⟩ | exact Or.inr ⟨by omega, rfl⟩)) (by omega) w (lv_sub hl [0, 2, 3, 4] rfl)
                                      · replace c_335 : (z273 - z1) < 3 := Int.not_le.mp (fun h => c_335 ((iI_le (by decide) (by decide) (by omega) (by omega)).mpr h))
                                        refine lv_aload_n hx hb dX12_go_320 rfl (lv_at hl 4 rfl) ?_
                                        refine lv_bipush (v := iI 10) hx hb dX12_go_321 (by decide +kernel) ?_
                                        refine lv_aload_n hx hb dX12_go_323 rfl (lv_at hl 4 rfl) ?_
                                        refine r_get (v := .int fr274) M w 0 8 clX12 rfl (by decide) G1471 rfl rfl dX12_go_324 ?_
                                        refine r_imul (v := ((iI 10) * fr274)) M rfl dX12_go_327 ?_
                                        refine lv_iload hx hb dX12_go_328 (lv_at hl 1 rfl) ?_
                                        refine r_iadd (v := (((iI 10) * fr274) + (iI (f0 z273)))) M rfl dX12_go_330 ?_
                                        refine lv_bipush (v := iI 48) hx hb dX12_go_331 (by decide +kernel) ?_
                                        refine r_isub (v := ((((iI 10) * fr274) + (iI (f0 z273))) - (iI 48))) M rfl dX12_go_333 ?_
                                        refine r_put (ws' := [(a0, .inr (11, [.int r0, .ref a1, .int (iI x0), .int (iI x1), .int (iI x2), .int (iI z273), .int (iI z1), .int (iI x5), .int ((((iI 10) * fr274) + (iI (f0 z273))) - (iI 48)), .int (iI x6), .int (iI x7), .int (iI x8), .long (((27 * fy272) + (Int32.toInt64 (iI (f0 z273)))) - 96), .int (iI x9), .ref a2, .ref a3, .ref a4, .ref a5, .ref a6, .ref a7, .ref a8, .ref a9, .ref a10, .ref a11, .int (iI x10), .ref a12, .ref a13, .ref a14, .ref a15, .int (iI x11), .int r2, .int r3, .ref a16, .int (iI x12), .int (iI x13), .ref a17, .ref a18, .int (iI x14), .ref a19, .int (iI x15), .int r4, .ref a20, .ref a21, .int (iI x16), .int r5, .ref a22, .int (iI x17), .int (iI x18), .int (iI x19), .int (iI x20)])), (a1, .inl (T 0, 940, .inl (cI f0)))]) M w 0 8 clX12 rfl (by decide) G1471 rfl rfl rfl rfl (Nat.le_of_ble_eq_true rfl) rfl dX12_go_334 (fun H locs w => ?_)
                                        refine lv_aload_n hx hb dX12_go_337 rfl (lv_at hl 4 rfl) ?_
                                        refine lv_dup hx hb dX12_go_338 rfl ?_
                                        refine r_get (v := .int (iI z273)) M w 0 5 clX12 rfl (by decide) G1468 rfl rfl dX12_go_339 ?_
                                        refine lv_iconst (v := iI 1) hx hb dX12_go_342 (by decide +kernel) ?_
                                        refine r_iadd (v := iI (z273 + 1)) M (iI_add _ _) dX12_go_343 ?_
                                        refine r_put (ws' := [(a0, .inr (11, [.int r0, .ref a1, .int (iI x0), .int (iI x1), .int (iI x2), .int (iI (z273 + 1)), .int (iI z1), .int (iI x5), .int ((((iI 10) * fr274) + (iI (f0 z273))) - (iI 48)), .int (iI x6), .int (iI x7), .int (iI x8), .long (((27 * fy272) + (Int32.toInt64 (iI (f0 z273)))) - 96), .int (iI x9), .ref a2, .ref a3, .ref a4, .ref a5, .ref a6, .ref a7, .ref a8, .ref a9, .ref a10, .ref a11, .int (iI x10), .ref a12, .ref a13, .ref a14, .ref a15, .int (iI x11), .int r2, .int r3, .ref a16, .int (iI x12), .int (iI x13), .ref a17, .ref a18, .int (iI x14), .ref a19, .int (iI x15), .int r4, .ref a20, .ref a21, .int (iI x16), .int r5, .ref a22, .int (iI x17), .int (iI x18), .int (iI x19), .int (iI x20)])), (a1, .inl (T 0, 940, .inl (cI f0)))]) M w 0 5 clX12 rfl (by decide) G1468 rfl rfl rfl rfl (Nat.le_of_ble_eq_true rfl) rfl dX12_go_344 (fun H locs w => ?_)
                                        refine lv_goto (tgt := 215) hx hb dX12_go_347 (by decide) ?_
                                        exact ih2 (((27 * fy272) + (Int32.toInt64 (iI (f0 z273)))) - 96) (z273 + 1) ((((iI 10) * fr274) + (iI (f0 z273))) - (iI 48)) 0 _ _ _ (by omega) (by omega) (by decide) (by decide) (by omega) (by omega) (lq2_r.trans (rn_t (ta_D pq318 pq323 (by omega)).1 (Or.inr (ta_D pq318 pq323 (by omega)).2))) (aR_s lq2_a (Or.inr (ta_D pq318 pq323 (by omega)).2)) (gd_z lq2_g (by omega)) (wI_s lq2_w (by omega) (f0_h _) (by first | exact Or.inl ⟨by omega, rfl⟩ | exact Or.inr ⟨by omega, rfl⟩) (by first | exact Or.inl ⟨by omega, rfl⟩ | exact Or.inr ⟨by omega, rfl⟩)) (by omega) w (lv_sub hl [0, 2, 3, 4] rfl)
                                  · replace c_332 : ¬ z275 = 0 := fun h => c_332 ((iz_eq (Int.le_trans (by decide) z275_a) (Int.le_trans z275_b (by decide))).mpr h)
                                    refine lv_iload hx hb dX12_go_258 (lv_at hl 0 rfl) ?_
                                    refine k_I (ce := 0) (sl := 0) (rest := []) (wr := [(a0, .inr (11, [.int r0, .ref a1, .int (iI x0), .int (iI x1), .int (iI x2), .int (iI z273), .int (iI z1), .int (iI x5), .int fr274, .int (iI x6), .int (iI x7), .int (iI x8), .long fy272, .int (iI x9), .ref a2, .ref a3, .ref a4, .ref a5, .ref a6, .ref a7, .ref a8, .ref a9, .ref a10, .ref a11, .int (iI x10), .ref a12, .ref a13, .ref a14, .ref a15, .int (iI x11), .int r2, .int r3, .ref a16, .int (iI x12), .int (iI x13), .ref a17, .ref a18, .int (iI x14), .ref a19, .int (iI x15), .int r4, .ref a20, .ref a21, .int (iI x16), .int r5, .ref a22, .int (iI x17), .int (iI x18), .int (iI x19), .int (iI x20)])), (a1, .inl (T 0, 940, .inl (cI f0)))]) (r_S (f := 0) [] M w V_HookedCityModel_33 G1632 (c11_X12_isLetter l D T _ (f0 z273) (by omega) (by omega)) rfl (by decide) rfl hl.1 rfl (Nat.le_of_ble_eq_true rfl) dX12_go_260 (by decide) (by decide) (by decide) (by decide)) w [] [0, 1] rfl rfl (by decide) (by decide) rfl rfl (fun v z336 H locs hp w => ?_)
                                    have hv : iI z336 = v := hp.1
                                    subst hv
                                    have z336_a : 0 ≤ z336 := hp.2.1
                                    have z336_b : z336 ≤ 1 := hp.2.2.1
                                    have ee337 : 0 ≤ (((f0 z273) + 4294967296) - (z336 * 4294967393)) := hp.2.2.2.1
                                    have pq338 : lq z336 (f0 z273) 97 122 := hp.2.2.2.2
                                    have w : WD D A s.heap [(a0, .inr (11, [.int r0, .ref a1, .int (iI x0), .int (iI x1), .int (iI x2), .int (iI z273), .int (iI z1), .int (iI x5), .int fr274, .int (iI x6), .int (iI x7), .int (iI x8), .long fy272, .int (iI x9), .ref a2, .ref a3, .ref a4, .ref a5, .ref a6, .ref a7, .ref a8, .ref a9, .ref a10, .ref a11, .int (iI x10), .ref a12, .ref a13, .ref a14, .ref a15, .int (iI x11), .int r2, .int r3, .ref a16, .int (iI x12), .int (iI x13), .ref a17, .ref a18, .int (iI x14), .ref a19, .int (iI x15), .int r4, .ref a20, .ref a21, .int (iI x16), .int r5, .ref a22, .int (iI x17), .int (iI x18), .int (iI x19), .int (iI x20)])), (a1, .inl (T 0, 940, .inl (cI f0)))] H locs := w
                                    refine lv_iload_n hx hb dX12_go_263 rfl (lv_at hl 2 rfl) ?_
                                    refine lv_icmp_ne (tgt := 271) hx hb dX12_go_264 (by decide) (fun c_339 => ?_) (fun c_339 => ?_)
                                    · replace c_339 : ¬ z336 = z269 := fun h => c_339 ((iI_eq (Int.le_trans (by decide) z336_a) (Int.le_trans z336_b (by decide)) (Int.le_trans (by decide) z269_a) (Int.le_trans z269_b (by decide))).mpr h)
                                      refine lv_iconst (v := iI 0) hx hb dX12_go_271 (by decide +kernel) ?_
                                      refine lv_istore_n (lv' := [(3, .int (iI 0)), (4, .int (iI (f0 z273))), (2, .int (iI z269)), (1, .int (iI (f0 z1))), (0, .ref a0)]) hx hb dX12_go_272 rfl hl (by decide) rfl (fun ls hl => ?_)
                                      refine lv_aload_n hx hb dX12_go_273 rfl (lv_at hl 4 rfl) ?_
                                      refine r_get (v := .int (iI z273)) M w 0 5 clX12 rfl (by decide) G1468 rfl rfl dX12_go_274 ?_
                                      refine lv_aload_n hx hb dX12_go_277 rfl (lv_at hl 4 rfl) ?_
                                      refine r_get (v := .int (iI z1)) M w 0 6 clX12 rfl (by decide) G1469 rfl rfl dX12_go_278 ?_
                                      refine r_isub (v := iI (z273 - z1)) M (iI_sub _ _) dX12_go_281 ?_
                                      refine lv_bipush (v := iI 7) hx hb dX12_go_282 (by decide +kernel) ?_
                                      refine lv_icmp_ge (tgt := 307) hx hb dX12_go_284 (by decide) (fun c_340 => ?_) (fun c_340 => ?_)
                                      · replace c_340 := (iI_le (by decide) (by decide) (by omega) (by omega)).mp c_340
                                        refine lv_aload_n hx hb dX12_go_307 rfl (lv_at hl 4 rfl) ?_
                                        refine r_get (v := .int (iI z273)) M w 0 5 clX12 rfl (by decide) G1468 rfl rfl dX12_go_308 ?_
                                        refine lv_aload_n hx hb dX12_go_311 rfl (lv_at hl 4 rfl) ?_
                                        refine r_get (v := .int (iI z1)) M w 0 6 clX12 rfl (by decide) G1469 rfl rfl dX12_go_312 ?_
                                        refine r_isub (v := iI (z273 - z1)) M (iI_sub _ _) dX12_go_315 ?_
                                        refine lv_iconst (v := iI 3) hx hb dX12_go_316 (by decide +kernel) ?_
                                        refine lv_icmp_ge (tgt := 337) hx hb dX12_go_317 (by decide) (fun c_341 => ?_) (fun c_341 => ?_)
                                        · replace c_341 := (iI_le (by decide) (by decide) (by omega) (by omega)).mp c_341
                                          refine lv_aload_n hx hb dX12_go_337 rfl (lv_at hl 4 rfl) ?_
                                          refine lv_dup hx hb dX12_go_338 rfl ?_
                                          refine r_get (v := .int (iI z273)) M w 0 5 clX12 rfl (by decide) G1468 rfl rfl dX12_go_339 ?_
                                          refine lv_iconst (v := iI 1) hx hb dX12_go_342 (by decide +kernel) ?_
                                          refine r_iadd (v := iI (z273 + 1)) M (iI_add _ _) dX12_go_343 ?_
                                          refine r_put (ws' := [(a0, .inr (11, [.int r0, .ref a1, .int (iI x0), .int (iI x1), .int (iI x2), .int (iI (z273 + 1)), .int (iI z1), .int (iI x5), .int fr274, .int (iI x6), .int (iI x7), .int (iI x8), .long fy272, .int (iI x9), .ref a2, .ref a3, .ref a4, .ref a5, .ref a6, .ref a7, .ref a8, .ref a9, .ref a10, .ref a11, .int (iI x10), .ref a12, .ref a13, .ref a14, .ref a15, .int (iI x11), .int r2, .int r3, .ref a16, .int (iI x12), .int (iI x13), .ref a17, .ref a18, .int (iI x14), .ref a19, .int (iI x15), .int r4, .ref a20, .ref a21, .int (iI x16), .int r5, .ref a22, .int (iI x17), .int (iI x18), .int (iI x19), .int (iI x20)])), (a1, .inl (T 0, 940, .inl (cI f0)))]) M w 0 5 clX12 rfl (by decide) G1468 rfl rfl rfl rfl (Nat.le_of_ble_eq_true rfl) rfl dX12_go_344 (fun H locs w => ?_)
                                          refine lv_goto (tgt := 215) hx hb dX12_go_347 (by decide) ?_
                                          exact ih2 fy272 (z273 + 1) fr274 0 _ _ _ (by omega) (by omega) (by decide) (by decide) (by omega) (by omega) (lq2_r.trans (rn_t (ta_D pq318 pq323 (by omega)).1 (Or.inr (ta_D pq318 pq323 (by omega)).2))) (aR_s lq2_a (Or.inr (ta_D pq318 pq323 (by omega)).2)) (gd_q lq2_g (by omega) pq338 (by omega) (by omega) (by omega) (by omega) (by omega) (by omega)) (wI_s lq2_w (by omega) (f0_h _) (by first | exact Or.inl ⟨by omega, rfl⟩ | exact Or.inr ⟨by omega, rfl⟩) (by first | exact Or.inl ⟨by omega, rfl⟩ | exact Or.inr ⟨by omega, rfl⟩)) (by omega) w (lv_sub hl [0, 2, 3, 4] rfl)
                                        · replace c_341 : (z273 - z1) < 3 := Int.not_le.mp (fun h => c_341 ((iI_le (by decide) (by decide) (by omega) (by omega)).mpr h))
                                          exfalso; omega
                                      · replace c_340 : (z273 - z1) < 7 := Int.not_le.mp (fun h => c_340 ((iI_le (by decide) (by decide) (by omega) (by omega)).mpr h))
                                        refine lv_aload_n hx hb dX12_go_287 rfl (lv_at hl 4 rfl) ?_
                                        refine lv_ldc2 (v := 27) hx hb M.1.2.2.2.1 (M.1.2.2.2.2 _ G1641) dX12_go_288 ?_
                                        refine lv_aload_n hx hb dX12_go_291 rfl (lv_at hl 4 rfl) ?_
                                        refine r_get (v := .long fy272) M w 0 12 clX12 rfl (by decide) G1475 rfl rfl dX12_go_292 ?_
                                        refine r_lmul (v := (27 * fy272)) M rfl dX12_go_295 ?_
                                        refine lv_iload hx hb dX12_go_296 (lv_at hl 1 rfl) ?_
                                        refine lv_i2l (v := (Int32.toInt64 (iI (f0 z273)))) hx hb dX12_go_298 rfl ?_
                                        refine r_ladd (v := ((27 * fy272) + (Int32.toInt64 (iI (f0 z273))))) M rfl dX12_go_299 ?_
                                        refine lv_ldc2 (v := 96) hx hb M.1.2.2.2.1 (M.1.2.2.2.2 _ G1642) dX12_go_300 ?_
                                        refine r_lsub (v := (((27 * fy272) + (Int32.toInt64 (iI (f0 z273)))) - 96)) M rfl dX12_go_303 ?_
                                        refine r_put (ws' := [(a0, .inr (11, [.int r0, .ref a1, .int (iI x0), .int (iI x1), .int (iI x2), .int (iI z273), .int (iI z1), .int (iI x5), .int fr274, .int (iI x6), .int (iI x7), .int (iI x8), .long (((27 * fy272) + (Int32.toInt64 (iI (f0 z273)))) - 96), .int (iI x9), .ref a2, .ref a3, .ref a4, .ref a5, .ref a6, .ref a7, .ref a8, .ref a9, .ref a10, .ref a11, .int (iI x10), .ref a12, .ref a13, .ref a14, .ref a15, .int (iI x11), .int r2, .int r3, .ref a16, .int (iI x12), .int (iI x13), .ref a17, .ref a18, .int (iI x14), .ref a19, .int (iI x15), .int r4, .ref a20, .ref a21, .int (iI x16), .int r5, .ref a22, .int (iI x17), .int (iI x18), .int (iI x19), .int (iI x20)])), (a1, .inl (T 0, 940, .inl (cI f0)))]) M w 0 12 clX12 rfl (by decide) G1475 rfl rfl rfl rfl (Nat.le_of_ble_eq_true rfl) rfl dX12_go_304 (fun H locs w => ?_)
                                        refine lv_aload_n hx hb dX12_go_307 rfl (lv_at hl 4 rfl) ?_
                                        refine r_get (v := .int (iI z273)) M w 0 5 clX12 rfl (by decide) G1468 rfl rfl dX12_go_308 ?_
                                        refine lv_aload_n hx hb dX12_go_311 rfl (lv_at hl 4 rfl) ?_
                                        refine r_get (v := .int (iI z1)) M w 0 6 clX12 rfl (by decide) G1469 rfl rfl dX12_go_312 ?_
                                        refine r_isub (v := iI (z273 - z1)) M (iI_sub _ _) dX12_go_315 ?_
                                        refine lv_iconst (v := iI 3) hx hb dX12_go_316 (by decide +kernel) ?_
                                        refine lv_icmp_ge (tgt := 337) hx hb dX12_go_317 (by decide) (fun c_342 => ?_) (fun c_342 => ?_)
                                        · replace c_342 := (iI_le (by decide) (by decide) (by omega) (by omega)).mp c_342
                                          refine lv_aload_n hx hb dX12_go_337 rfl (lv_at hl 4 rfl) ?_
                                          refine lv_dup hx hb dX12_go_338 rfl ?_
                                          refine r_get (v := .int (iI z273)) M w 0 5 clX12 rfl (by decide) G1468 rfl rfl dX12_go_339 ?_
                                          refine lv_iconst (v := iI 1) hx hb dX12_go_342 (by decide +kernel) ?_
                                          refine r_iadd (v := iI (z273 + 1)) M (iI_add _ _) dX12_go_343 ?_
                                          refine r_put (ws' := [(a0, .inr (11, [.int r0, .ref a1, .int (iI x0), .int (iI x1), .int (iI x2), .int (iI (z273 + 1)), .int (iI z1), .int (iI x5), .int fr274, .int (iI x6), .int (iI x7), .int (iI x8), .long (((27 * fy272) + (Int32.toInt64 (iI (f0 z273)))) - 96), .int (iI x9), .ref a2, .ref a3, .ref a4, .ref a5, .ref a6, .ref a7, .ref a8, .ref a9, .ref a10, .ref a11, .int (iI x10), .ref a12, .ref a13, .ref a14, .ref a15, .int (iI x11), .int r2, .int r3, .ref a16, .int (iI x12), .int (iI x13), .ref a17, .ref a18, .int (iI x14), .ref a19, .int (iI x15), .int r4, .ref a20, .ref a21, .int (iI x16), .int r5, .ref a22, .int (iI x17), .int (iI x18), .int (iI x19), .int (iI x20)])), (a1, .inl (T 0, 940, .inl (cI f0)))]) M w 0 5 clX12 rfl (by decide) G1468 rfl rfl rfl rfl (Nat.le_of_ble_eq_true rfl) rfl dX12_go_344 (fun H locs w => ?_)
                                          refine lv_goto (tgt := 215) hx hb dX12_go_347 (by decide) ?_
                                          exact ih2 (((27 * fy272) + (Int32.toInt64 (iI (f0 z273)))) - 96) (z273 + 1) fr274 0 _ _ _ (by omega) (by omega) (by decide) (by decide) (by omega) (by omega) (lq2_r.trans (rn_t (ta_D pq318 pq323 (by omega)).1 (Or.inr (ta_D pq318 pq323 (by omega)).2))) (aR_s lq2_a (Or.inr (ta_D pq318 pq323 (by omega)).2)) (gd_q lq2_g (by omega) pq338 (by omega) (by omega) (by omega) (by omega) (by omega) (by omega)) (wI_s lq2_w (by omega) (f0_h _) (by first | exact Or.inl ⟨by omega, rfl⟩ | exact Or.inr ⟨by omega, rfl⟩) (by first | exact Or.inl ⟨by omega, rfl⟩ | exact Or.inr ⟨by omega, rfl⟩)) (by omega) w (lv_sub hl [0, 2, 3, 4] rfl)
                                        · replace c_342 : (z273 - z1) < 3 := Int.not_le.mp (fun h => c_342 ((iI_le (by decide) (by decide) (by omega) (by omega)).mpr h))
                                          refine lv_aload_n hx hb dX12_go_320 rfl (lv_at hl 4 rfl) ?_
                                          refine lv_bipush (v := iI 10) hx hb dX12_go_321 (by decide +kernel) ?_
                                          refine lv_aload_n hx hb dX12_go_323 rfl (lv_at hl 4 rfl) ?_
                                          refine r_get (v := .int fr274) M w 0 8 clX12 rfl (by decide) G1471 rfl rfl dX12_go_324 ?_
                                          refine r_imul (v := ((iI 10) * fr274)) M rfl dX12_go_327 ?_
                                          refine lv_iload hx hb dX12_go_328 (lv_at hl 1 rfl) ?_
                                          refine r_iadd (v := (((iI 10) * fr274) + (iI (f0 z273)))) M rfl dX12_go_330 ?_
                                          refine lv_bipush (v := iI 48) hx hb dX12_go_331 (by decide +kernel) ?_
                                          refine r_isub (v := ((((iI 10) * fr274) + (iI (f0 z273))) - (iI 48))) M rfl dX12_go_333 ?_
                                          refine r_put (ws' := [(a0, .inr (11, [.int r0, .ref a1, .int (iI x0), .int (iI x1), .int (iI x2), .int (iI z273), .int (iI z1), .int (iI x5), .int ((((iI 10) * fr274) + (iI (f0 z273))) - (iI 48)), .int (iI x6), .int (iI x7), .int (iI x8), .long (((27 * fy272) + (Int32.toInt64 (iI (f0 z273)))) - 96), .int (iI x9), .ref a2, .ref a3, .ref a4, .ref a5, .ref a6, .ref a7, .ref a8, .ref a9, .ref a10, .ref a11, .int (iI x10), .ref a12, .ref a13, .ref a14, .ref a15, .int (iI x11), .int r2, .int r3, .ref a16, .int (iI x12), .int (iI x13), .ref a17, .ref a18, .int (iI x14), .ref a19, .int (iI x15), .int r4, .ref a20, .ref a21, .int (iI x16), .int r5, .ref a22, .int (iI x17), .int (iI x18), .int (iI x19), .int (iI x20)])), (a1, .inl (T 0, 940, .inl (cI f0)))]) M w 0 8 clX12 rfl (by decide) G1471 rfl rfl rfl rfl (Nat.le_of_ble_eq_true rfl) rfl dX12_go_334 (fun H locs w => ?_)
                                          refine lv_aload_n hx hb dX12_go_337 rfl (lv_at hl 4 rfl) ?_
                                          refine lv_dup hx hb dX12_go_338 rfl ?_
                                          refine r_get (v := .int (iI z273)) M w 0 5 clX12 rfl (by decide) G1468 rfl rfl dX12_go_339 ?_
                                          refine lv_iconst (v := iI 1) hx hb dX12_go_342 (by decide +kernel) ?_
                                          refine r_iadd (v := iI (z273 + 1)) M (iI_add _ _) dX12_go_343 ?_
                                          refine r_put (ws' := [(a0, .inr (11, [.int r0, .ref a1, .int (iI x0), .int (iI x1), .int (iI x2), .int (iI (z273 + 1)), .int (iI z1), .int (iI x5), .int ((((iI 10) * fr274) + (iI (f0 z273))) - (iI 48)), .int (iI x6), .int (iI x7), .int (iI x8), .long (((27 * fy272) + (Int32.toInt64 (iI (f0 z273)))) - 96), .int (iI x9), .ref a2, .ref a3, .ref a4, .ref a5, .ref a6, .ref a7, .ref a8, .ref a9, .ref a10, .ref a11, .int (iI x10), .ref a12, .ref a13, .ref a14, .ref a15, .int (iI x11), .int r2, .int r3, .ref a16, .int (iI x12), .int (iI x13), .ref a17, .ref a18, .int (iI x14), .ref a19, .int (iI x15), .int r4, .ref a20, .ref a21, .int (iI x16), .int r5, .ref a22, .int (iI x17), .int (iI x18), .int (iI x19), .int (iI x20)])), (a1, .inl (T 0, 940, .inl (cI f0)))]) M w 0 5 clX12 rfl (by decide) G1468 rfl rfl rfl rfl (Nat.le_of_ble_eq_true rfl) rfl dX12_go_344 (fun H locs w => ?_)
                                          refine lv_goto (tgt := 215) hx hb dX12_go_347 (by decide) ?_
                                          exact ih2 (((27 * fy272) + (Int32.toInt64 (iI (f0 z273)))) - 96) (z273 + 1) ((((iI 10) * fr274) + (iI (f0 z273))) - (iI 48)) 0 _ _ _ (by omega) (by omega) (by decide) (by decide) (by omega) (by omega) (lq2_r.trans (rn_t (ta_D pq318 pq323 (by omega)).1 (Or.inr (ta_D pq318 pq323 (by omega)).2))) (aR_s lq2_a (Or.inr (ta_D pq318 pq323 (by omega)).2)) (gd_q lq2_g (by omega) pq338 (by omega) (by omega) (by omega) (by omega) (by omega) (by omega)) (wI_s lq2_w (by omega) (f0_h _) (by first | exact Or.inl ⟨by omega, rfl⟩ | exact Or.inr ⟨by omega, rfl⟩) (by first | exact Or.inl ⟨by omega, rfl⟩ | exact Or.inr ⟨by omega, rfl⟩)) (by omega) w (lv_sub hl [0, 2, 3, 4] rfl)
                                    · replace c_339 := (iI_eq (Int.le_trans (by decide) z336_a) (Int.le_trans z336_b (by decide)) (Int.le_trans (by decide) z269_a) (Int.le_trans z269_b (by decide))).mp c_339
                                      refine lv_iconst (v := iI 1) hx hb dX12_go_267 (by decide +kernel) ?_
                                      refine lv_goto (tgt := 272) hx hb dX12_go_268 (by decide) ?_
                                      refine lv_istore_n (lv' := [(3, .int (iI 1)), (4, .int (iI (f0 z273))), (2, .int (iI z269)), (1, .int (iI (f0 z1))), (0, .ref a0)]) hx hb dX12_go_272 rfl hl (by decide) rfl (fun ls hl => ?_)
                                      refine lv_aload_n hx hb dX12_go_273 rfl (lv_at hl 4 rfl) ?_
                                      refine r_get (v := .int (iI z273)) M w 0 5 clX12 rfl (by decide) G1468 rfl rfl dX12_go_274 ?_
                                      refine lv_aload_n hx hb dX12_go_277 rfl (lv_at hl 4 rfl) ?_
                                      refine r_get (v := .int (iI z1)) M w 0 6 clX12 rfl (by decide) G1469 rfl rfl dX12_go_278 ?_
                                      refine r_isub (v := iI (z273 - z1)) M (iI_sub _ _) dX12_go_281 ?_
                                      refine lv_bipush (v := iI 7) hx hb dX12_go_282 (by decide +kernel) ?_
                                      refine lv_icmp_ge (tgt := 307) hx hb dX12_go_284 (by decide) (fun c_343 => ?_) (fun c_343 => ?_)
                                      · replace c_343 := (iI_le (by decide) (by decide) (by omega) (by omega)).mp c_343
                                        refine lv_aload_n hx hb dX12_go_307 rfl (lv_at hl 4 rfl) ?_
                                        refine r_get (v := .int (iI z273)) M w 0 5 clX12 rfl (by decide) G1468 rfl rfl dX12_go_308 ?_
                                        refine lv_aload_n hx hb dX12_go_311 rfl (lv_at hl 4 rfl) ?_
                                        refine r_get (v := .int (iI z1)) M w 0 6 clX12 rfl (by decide) G1469 rfl rfl dX12_go_312 ?_
                                        refine r_isub (v := iI (z273 - z1)) M (iI_sub _ _) dX12_go_315 ?_
                                        refine lv_iconst (v := iI 3) hx hb dX12_go_316 (by decide +kernel) ?_
                                        refine lv_icmp_ge (tgt := 337) hx hb dX12_go_317 (by decide) (fun c_344 => ?_) (fun c_344 => ?_)
                                        · replace c_344 := (iI_le (by decide) (by decide) (by omega) (by omega)).mp c_344
                                          refine lv_aload_n hx hb dX12_go_337 rfl (lv_at hl 4 rfl) ?_
                                          refine lv_dup hx hb dX12_go_338 rfl ?_
                                          refine r_get (v := .int (iI z273)) M w 0 5 clX12 rfl (by decide) G1468 rfl rfl dX12_go_339 ?_
                                          refine lv_iconst (v := iI 1) hx hb dX12_go_342 (by decide +kernel) ?_
                                          refine r_iadd (v := iI (z273 + 1)) M (iI_add _ _) dX12_go_343 ?_
                                          refine r_put (ws' := [(a0, .inr (11, [.int r0, .ref a1, .int (iI x0), .int (iI x1), .int (iI x2), .int (iI (z273 + 1)), .int (iI z1), .int (iI x5), .int fr274, .int (iI x6), .int (iI x7), .int (iI x8), .long fy272, .int (iI x9), .ref a2, .ref a3, .ref a4, .ref a5, .ref a6, .ref a7, .ref a8, .ref a9, .ref a10, .ref a11, .int (iI x10), .ref a12, .ref a13, .ref a14, .ref a15, .int (iI x11), .int r2, .int r3, .ref a16, .int (iI x12), .int (iI x13), .ref a17, .ref a18, .int (iI x14), .ref a19, .int (iI x15), .int r4, .ref a20, .ref a21, .int (iI x16), .int r5, .ref a22, .int (iI x17), .int (iI x18), .int (iI x19), .int (iI x20)])), (a1, .inl (T 0, 940, .inl (cI f0)))]) M w 0 5 clX12 rfl (by decide) G1468 rfl rfl rfl rfl (Nat.le_of_ble_eq_true rfl) rfl dX12_go_344 (fun H locs w => ?_)
                                          refine lv_goto (tgt := 215) hx hb dX12_go_347 (by decide) ?_
                                          exact ih2 fy272 (z273 + 1) fr274 1 _ _ _ (by omega) (by omega) (by decide) (by decide) (by omega) (by omega) (lq2_r.trans (rn_t (ta_D pq318 pq323 (by omega)).1 (Or.inr (ta_D pq318 pq323 (by omega)).2))) (aR_s lq2_a (Or.inr (ta_D pq318 pq323 (by omega)).2)) (gd_q lq2_g (by omega) pq338 (by omega) (by omega) (by omega) (by omega) (by omega) (by omega)) (wI_s lq2_w (by omega) (f0_h _) (by first | exact Or.inl ⟨by omega, rfl⟩ | exact Or.inr ⟨by omega, rfl⟩) (by first | exact Or.inl ⟨by omega, rfl⟩ | exact Or.inr ⟨by omega, rfl⟩)) (by omega) w (lv_sub hl [0, 2, 3, 4] rfl)
                                        · replace c_344 : (z273 - z1) < 3 := Int.not_le.mp (fun h => c_344 ((iI_le (by decide) (by decide) (by omega) (by omega)).mpr h))
                                          exfalso; omega
                                      · replace c_343 : (z273 - z1) < 7 := Int.not_le.mp (fun h => c_343 ((iI_le (by decide) (by decide) (by omega) (by omega)).mpr h))
                                        refine lv_aload_n hx hb dX12_go_287 rfl (lv_at hl 4 rfl) ?_
                                        refine lv_ldc2 (v := 27) hx hb M.1.2.2.2.1 (M.1.2.2.2.2 _ G1641) dX12_go_288 ?_
                                        refine lv_aload_n hx hb dX12_go_291 rfl (lv_at hl 4 rfl) ?_
                                        refine r_get (v := .long fy272) M w 0 12 clX12 rfl (by decide) G1475 rfl rfl dX12_go_292 ?_
                                        refine r_lmul (v := (27 * fy272)) M rfl dX12_go_295 ?_
                                        refine lv_iload hx hb dX12_go_296 (lv_at hl 1 rfl) ?_
                                        refine lv_i2l (v := (Int32.toInt64 (iI (f0 z273)))) hx hb dX12_go_298 rfl ?_
                                        refine r_ladd (v := ((27 * fy272) + (Int32.toInt64 (iI (f0 z273))))) M rfl dX12_go_299 ?_
                                        refine lv_ldc2 (v := 96) hx hb M.1.2.2.2.1 (M.1.2.2.2.2 _ G1642) dX12_go_300 ?_
                                        refine r_lsub (v := (((27 * fy272) + (Int32.toInt64 (iI (f0 z273)))) - 96)) M rfl dX12_go_303 ?_
                                        refine r_put (ws' := [(a0, .inr (11, [.int r0, .ref a1, .int (iI x0), .int (iI x1), .int (iI x2), .int (iI z273), .int (iI z1), .int (iI x5), .int fr274, .int (iI x6), .int (iI x7), .int (iI x8), .long (((27 * fy272) + (Int32.toInt64 (iI (f0 z273)))) - 96), .int (iI x9), .ref a2, .ref a3, .ref a4, .ref a5, .ref a6, .ref a7, .ref a8, .ref a9, .ref a10, .ref a11, .int (iI x10), .ref a12, .ref a13, .ref a14, .ref a15, .int (iI x11), .int r2, .int r3, .ref a16, .int (iI x12), .int (iI x13), .ref a17, .ref a18, .int (iI x14), .ref a19, .int (iI x15), .int r4, .ref a20, .ref a21, .int (iI x16), .int r5, .ref a22, .int (iI x17), .int (iI x18), .int (iI x19), .int (iI x20)])), (a1, .inl (T 0, 940, .inl (cI f0)))]) M w 0 12 clX12 rfl (by decide) G1475 rfl rfl rfl rfl (Nat.le_of_ble_eq_true rfl) rfl dX12_go_304 (fun H locs w => ?_)
                                        refine lv_aload_n hx hb dX12_go_307 rfl (lv_at hl 4 rfl) ?_
                                        refine r_get (v := .int (iI z273)) M w 0 5 clX12 rfl (by decide) G1468 rfl rfl dX12_go_308 ?_
                                        refine lv_aload_n hx hb dX12_go_311 rfl (lv_at hl 4 rfl) ?_
                                        refine r_get (v := .int (iI z1)) M w 0 6 clX12 rfl (by decide) G1469 rfl rfl dX12_go_312 ?_
                                        refine r_isub (v := iI (z273 - z1)) M (iI_sub _ _) dX12_go_315 ?_
                                        refine lv_iconst (v := iI 3) hx hb dX12_go_316 (by decide +kernel) ?_
                                        refine lv_icmp_ge (tgt := 337) hx hb dX12_go_317 (by decide) (fun c_345 => ?_) (fun c_345 => ?_)
                                        · replace c_345 := (iI_le (by decide) (by decide) (by omega) (by omega)).mp c_345
                                          refine lv_aload_n hx hb dX12_go_337 rfl (lv_at hl 4 rfl) ?_
                                          refine lv_dup hx hb dX12_go_338 rfl ?_
                                          refine r_get (v := .int (iI z273)) M w 0 5 clX12 rfl (by decide) G1468 rfl rfl dX12_go_339 ?_
                                          refine lv_iconst (v := iI 1) hx hb dX12_go_342 (by decide +kernel) ?_
                                          refine r_iadd (v := iI (z273 + 1)) M (iI_add _ _) dX12_go_343 ?_
                                          refine r_put (ws' := [(a0, .inr (11, [.int r0, .ref a1, .int (iI x0), .int (iI x1), .int (iI x2), .int (iI (z273 + 1)), .int (iI z1), .int (iI x5), .int fr274, .int (iI x6), .int (iI x7), .int (iI x8), .long (((27 * fy272) + (Int32.toInt64 (iI (f0 z273)))) - 96), .int (iI x9), .ref a2, .ref a3, .ref a4, .ref a5, .ref a6, .ref a7, .ref a8, .ref a9, .ref a10, .ref a11, .int (iI x10), .ref a12, .ref a13, .ref a14, .ref a15, .int (iI x11), .int r2, .int r3, .ref a16, .int (iI x12), .int (iI x13), .ref a17, .ref a18, .int (iI x14), .ref a19, .int (iI x15), .int r4, .ref a20, .ref a21, .int (iI x16), .int r5, .ref a22, .int (iI x17), .int (iI x18), .int (iI x19), .int (iI x20)])), (a1, .inl (T 0, 940, .inl (cI f0)))]) M w 0 5 clX12 rfl (by decide) G1468 rfl rfl rfl rfl (Nat.le_of_ble_eq_true rfl) rfl dX12_go_344 (fun H locs w => ?_)
                                          refine lv_goto (tgt := 215) hx hb dX12_go_347 (by decide) ?_
                                          exact ih2 (((27 * fy272) + (Int32.toInt64 (iI (f0 z273)))) - 96) (z273 + 1) fr274 1 _ _ _ (by omega) (by omega) (by decide) (by decide) (by omega) (by omega) (lq2_r.trans (rn_t (ta_D pq318 pq323 (by omega)).1 (Or.inr (ta_D pq318 pq323 (by omega)).2))) (aR_s lq2_a (Or.inr (ta_D pq318 pq323 (by omega)).2)) (gd_q lq2_g (by omega) pq338 (by omega) (by omega) (by omega) (by omega) (by omega) (by omega)) (wI_s lq2_w (by omega) (f0_h _) (by first | exact Or.inl ⟨by omega, rfl⟩ | exact Or.inr ⟨by omega, rfl⟩) (by first | exact Or.inl ⟨by omega, rfl⟩ | exact Or.inr ⟨by omega, rfl⟩)) (by omega) w (lv_sub hl [0, 2, 3, 4] rfl)
                                        · replace c_345 : (z273 - z1) < 3 := Int.not_le.mp (fun h => c_345 ((iI_le (by decide) (by decide) (by omega) (by omega)).mpr h))
                                          refine lv_aload_n hx hb dX12_go_320 rfl (lv_at hl 4 rfl) ?_
                                          refine lv_bipush (v := iI 10) hx hb dX12_go_321 (by decide +kernel) ?_
                                          refine lv_aload_n hx hb dX12_go_323 rfl (lv_at hl 4 rfl) ?_
                                          refine r_get (v := .int fr274) M w 0 8 clX12 rfl (by decide) G1471 rfl rfl dX12_go_324 ?_
                                          refine r_imul (v := ((iI 10) * fr274)) M rfl dX12_go_327 ?_
                                          refine lv_iload hx hb dX12_go_328 (lv_at hl 1 rfl) ?_
                                          refine r_iadd (v := (((iI 10) * fr274) + (iI (f0 z273)))) M rfl dX12_go_330 ?_
                                          refine lv_bipush (v := iI 48) hx hb dX12_go_331 (by decide +kernel) ?_
                                          refine r_isub (v := ((((iI 10) * fr274) + (iI (f0 z273))) - (iI 48))) M rfl dX12_go_333 ?_
                                          refine r_put (ws' := [(a0, .inr (11, [.int r0, .ref a1, .int (iI x0), .int (iI x1), .int (iI x2), .int (iI z273), .int (iI z1), .int (iI x5), .int ((((iI 10) * fr274) + (iI (f0 z273))) - (iI 48)), .int (iI x6), .int (iI x7), .int (iI x8), .long (((27 * fy272) + (Int32.toInt64 (iI (f0 z273)))) - 96), .int (iI x9), .ref a2, .ref a3, .ref a4, .ref a5, .ref a6, .ref a7, .ref a8, .ref a9, .ref a10, .ref a11, .int (iI x10), .ref a12, .ref a13, .ref a14, .ref a15, .int (iI x11), .int r2, .int r3, .ref a16, .int (iI x12), .int (iI x13), .ref a17, .ref a18, .int (iI x14), .ref a19, .int (iI x15), .int r4, .ref a20, .ref a21, .int (iI x16), .int r5, .ref a22, .int (iI x17), .int (iI x18), .int (iI x19), .int (iI x20)])), (a1, .inl (T 0, 940, .inl (cI f0)))]) M w 0 8 clX12 rfl (by decide) G1471 rfl rfl rfl rfl (Nat.le_of_ble_eq_true rfl) rfl dX12_go_334 (fun H locs w => ?_)
                                          refine lv_aload_n hx hb dX12_go_337 rfl (lv_at hl 4 rfl) ?_
                                          refine lv_dup hx hb dX12_go_338 rfl ?_
                                          refine r_get (v := .int (iI z273)) M w 0 5 clX12 rfl (by decide) G1468 rfl rfl dX12_go_339 ?_
                                          refine lv_iconst (v := iI 1) hx hb dX12_go_342 (by decide +kernel) ?_
                                          refine r_iadd (v := iI (z273 + 1)) M (iI_add _ _) dX12_go_343 ?_
                                          refine r_put (ws' := [(a0, .inr (11, [.int r0, .ref a1, .int (iI x0), .int (iI x1), .int (iI x2), .int (iI (z273 + 1)), .int (iI z1), .int (iI x5), .int ((((iI 10) * fr274) + (iI (f0 z273))) - (iI 48)), .int (iI x6), .int (iI x7), .int (iI x8), .long (((27 * fy272) + (Int32.toInt64 (iI (f0 z273)))) - 96), .int (iI x9), .ref a2, .ref a3, .ref a4, .ref a5, .ref a6, .ref a7, .ref a8, .ref a9, .ref a10, .ref a11, .int (iI x10), .ref a12, .ref a13, .ref a14, .ref a15, .int (iI x11), .int r2, .int r3, .ref a16, .int (iI x12), .int (iI x13), .ref a17, .ref a18, .int (iI x14), .ref a19, .int (iI x15), .int r4, .ref a20, .ref a21, .int (iI x16), .int r5, .ref a22, .int (iI x17), .int (iI x18), .int (iI x19), .int (iI x20)])), (a1, .inl (T 0, 940, .inl (cI f0)))]) M w 0 5 clX12 rfl (by decide) G1468 rfl rfl rfl rfl (Nat.le_of_ble_eq_true rfl) rfl dX12_go_344 (fun H locs w => ?_)
                                          refine lv_goto (tgt := 215) hx hb dX12_go_347 (by decide) ?_
                                          exact ih2 (((27 * fy272) + (Int32.toInt64 (iI (f0 z273)))) - 96) (z273 + 1) ((((iI 10) * fr274) + (iI (f0 z273))) - (iI 48)) 1 _ _ _ (by omega) (by omega) (by decide) (by decide) (by omega) (by omega) (lq2_r.trans (rn_t (ta_D pq318 pq323 (by omega)).1 (Or.inr (ta_D pq318 pq323 (by omega)).2))) (aR_s lq2_a (Or.inr (ta_D pq318 pq323 (by omega)).2)) (gd_q lq2_g (by omega) pq338 (by omega) (by omega) (by omega) (by omega) (by omega) (by omega)) (wI_s lq2_w (by omega) (f0_h _) (by first | exact Or.inl ⟨by omega, rfl⟩ | exact Or.inr ⟨by omega, rfl⟩) (by first | exact Or.inl ⟨by omega, rfl⟩ | exact Or.inr ⟨by omega, rfl⟩)) (by omega) w (lv_sub hl [0, 2, 3, 4] rfl)
                      exact loop2 (((x1 - z1) : Int).toNat + 1) 0 z1 (iI 0) 1 _ _ _ z1_a z1_b (by decide) (by decide) (by omega) (by omega) rfl aR_0 gd_0 (wI_0 rfl rfl) (Nat.lt_succ_self _) w (lv_sub hl [0, 1, 2, 3] rfl)
                    · replace c_268 := (iz_eq (Int.le_trans (by decide) z265_a) (Int.le_trans z265_b (by decide))).mp c_268
                      refine lv_aload_n hx hb dX12_go_137 rfl (lv_at hl 1 rfl) ?_
                      refine lv_iload_n hx hb dX12_go_138 rfl (lv_at hl 0 rfl) ?_
                      refine lv_bipush (v := iI 59) hx hb dX12_go_139 (by decide +kernel) ?_
                      refine lv_icmp_eq (tgt := 174) hx hb dX12_go_141 (by decide) (fun c_346 => ?_) (fun c_346 => ?_)
                      · replace c_346 := (iI_eq (by omega) (by omega) (by decide) (by decide)).mp c_346
                        refine lv_iconst (v := iI 4) hx hb dX12_go_174 (by decide +kernel) ?_
                        refine lv_goto (tgt := 179) hx hb dX12_go_175 (by decide) ?_
                        refine r_put (ws' := [(a0, .inr (11, [.int r0, .ref a1, .int (iI x0), .int (iI x1), .int (iI x2), .int (iI z1), .int (iI z1), .int (iI 4), .int r1, .int (iI x6), .int (iI x7), .int (iI x8), .long y0, .int (iI x9), .ref a2, .ref a3, .ref a4, .ref a5, .ref a6, .ref a7, .ref a8, .ref a9, .ref a10, .ref a11, .int (iI x10), .ref a12, .ref a13, .ref a14, .ref a15, .int (iI x11), .int r2, .int r3, .ref a16, .int (iI x12), .int (iI x13), .ref a17, .ref a18, .int (iI x14), .ref a19, .int (iI x15), .int r4, .ref a20, .ref a21, .int (iI x16), .int r5, .ref a22, .int (iI x17), .int (iI x18), .int (iI x19), .int (iI x20)])), (a1, .inl (T 0, 940, .inl (cI f0)))]) M w 0 7 clX12 rfl (by decide) G1470 rfl rfl rfl rfl (Nat.le_of_ble_eq_true rfl) rfl dX12_go_179 (fun H locs w => ?_)
                        refine lv_aload_n hx hb dX12_go_182 rfl (lv_at hl 1 rfl) ?_
                        refine lv_iload_n hx hb dX12_go_183 rfl (lv_at hl 0 rfl) ?_
                        refine r_put (ws' := [(a0, .inr (11, [.int r0, .ref a1, .int (iI x0), .int (iI x1), .int (iI x2), .int (iI z1), .int (iI z1), .int (iI 4), .int r1, .int (iI (f0 z1)), .int (iI x7), .int (iI x8), .long y0, .int (iI x9), .ref a2, .ref a3, .ref a4, .ref a5, .ref a6, .ref a7, .ref a8, .ref a9, .ref a10, .ref a11, .int (iI x10), .ref a12, .ref a13, .ref a14, .ref a15, .int (iI x11), .int r2, .int r3, .ref a16, .int (iI x12), .int (iI x13), .ref a17, .ref a18, .int (iI x14), .ref a19, .int (iI x15), .int r4, .ref a20, .ref a21, .int (iI x16), .int r5, .ref a22, .int (iI x17), .int (iI x18), .int (iI x19), .int (iI x20)])), (a1, .inl (T 0, 940, .inl (cI f0)))]) M w 0 9 clX12 rfl (by decide) G1472 rfl rfl rfl rfl (Nat.le_of_ble_eq_true rfl) rfl dX12_go_184 (fun H locs w => ?_)
                        refine lv_aload_n hx hb dX12_go_187 rfl (lv_at hl 1 rfl) ?_
                        refine lv_dup hx hb dX12_go_188 rfl ?_
                        refine r_get (v := .int (iI z1)) M w 0 5 clX12 rfl (by decide) G1468 rfl rfl dX12_go_189 ?_
                        refine lv_iconst (v := iI 1) hx hb dX12_go_192 (by decide +kernel) ?_
                        refine r_iadd (v := iI (z1 + 1)) M (iI_add _ _) dX12_go_193 ?_
                        refine r_put (ws' := [(a0, .inr (11, [.int r0, .ref a1, .int (iI x0), .int (iI x1), .int (iI x2), .int (iI (z1 + 1)), .int (iI z1), .int (iI 4), .int r1, .int (iI (f0 z1)), .int (iI x7), .int (iI x8), .long y0, .int (iI x9), .ref a2, .ref a3, .ref a4, .ref a5, .ref a6, .ref a7, .ref a8, .ref a9, .ref a10, .ref a11, .int (iI x10), .ref a12, .ref a13, .ref a14, .ref a15, .int (iI x11), .int r2, .int r3, .ref a16, .int (iI x12), .int (iI x13), .ref a17, .ref a18, .int (iI x14), .ref a19, .int (iI x15), .int r4, .ref a20, .ref a21, .int (iI x16), .int r5, .ref a22, .int (iI x17), .int (iI x18), .int (iI x19), .int (iI x20)])), (a1, .inl (T 0, 940, .inl (cI f0)))]) M w 0 5 clX12 rfl (by decide) G1468 rfl rfl rfl rfl (Nat.le_of_ble_eq_true rfl) rfl dX12_go_194 (fun H locs w => ?_)
                        exact ret ((z1 + 1), z1, 4, r1, (f0 z1), y0) _ _ _ _ _ [0, 1] dX12_go_197 ⟨(show 0 ≤ (z1 + 1) from by omega), (show (z1 + 1) ≤ 940 from by omega), z1_a, z1_b, (show (0 : Int) ≤ 4 from by decide), (show (4 : Int) ≤ 4 from by decide), (show (-2147483648) ≤ (f0 z1) from by omega), (show (f0 z1) ≤ 2147483647 from by omega), (show 0 ≤ ((z1 + 1) - x3) from by omega), (show 0 ≤ ((((z1 + 1) - x3) - 4) + 3) from by omega), (show gT (tkAt f0 x1 x2 x3) 4 z1 (z1 + 1) y0 r1 (f0 z1) from (by rw [tk_sg (lq1_s.trans (sk_e (by omega))) (by omega) (by omega) (nld pq186 (by omega) pq267 (by omega)) (by omega)]; exact ⟨rfl, rfl, rfl, rfl⟩))⟩ w (by decide) rfl
                      · replace c_346 : ¬ (f0 z1) = 59 := fun h => c_346 ((iI_eq (by omega) (by omega) (by decide) (by decide)).mpr h)
                        refine lv_iload_n hx hb dX12_go_144 rfl (lv_at hl 0 rfl) ?_
                        refine lv_bipush (v := iI 60) hx hb dX12_go_145 (by decide +kernel) ?_
                        refine lv_icmp_eq (tgt := 174) hx hb dX12_go_147 (by decide) (fun c_347 => ?_) (fun c_347 => ?_)
                        · replace c_347 := (iI_eq (by omega) (by omega) (by decide) (by decide)).mp c_347
                          refine lv_iconst (v := iI 4) hx hb dX12_go_174 (by decide +kernel) ?_
                          refine lv_goto (tgt := 179) hx hb dX12_go_175 (by decide) ?_
                          refine r_put (ws' := [(a0, .inr (11, [.int r0, .ref a1, .int (iI x0), .int (iI x1), .int (iI x2), .int (iI z1), .int (iI z1), .int (iI 4), .int r1, .int (iI x6), .int (iI x7), .int (iI x8), .long y0, .int (iI x9), .ref a2, .ref a3, .ref a4, .ref a5, .ref a6, .ref a7, .ref a8, .ref a9, .ref a10, .ref a11, .int (iI x10), .ref a12, .ref a13, .ref a14, .ref a15, .int (iI x11), .int r2, .int r3, .ref a16, .int (iI x12), .int (iI x13), .ref a17, .ref a18, .int (iI x14), .ref a19, .int (iI x15), .int r4, .ref a20, .ref a21, .int (iI x16), .int r5, .ref a22, .int (iI x17), .int (iI x18), .int (iI x19), .int (iI x20)])), (a1, .inl (T 0, 940, .inl (cI f0)))]) M w 0 7 clX12 rfl (by decide) G1470 rfl rfl rfl rfl (Nat.le_of_ble_eq_true rfl) rfl dX12_go_179 (fun H locs w => ?_)
                          refine lv_aload_n hx hb dX12_go_182 rfl (lv_at hl 1 rfl) ?_
                          refine lv_iload_n hx hb dX12_go_183 rfl (lv_at hl 0 rfl) ?_
                          refine r_put (ws' := [(a0, .inr (11, [.int r0, .ref a1, .int (iI x0), .int (iI x1), .int (iI x2), .int (iI z1), .int (iI z1), .int (iI 4), .int r1, .int (iI (f0 z1)), .int (iI x7), .int (iI x8), .long y0, .int (iI x9), .ref a2, .ref a3, .ref a4, .ref a5, .ref a6, .ref a7, .ref a8, .ref a9, .ref a10, .ref a11, .int (iI x10), .ref a12, .ref a13, .ref a14, .ref a15, .int (iI x11), .int r2, .int r3, .ref a16, .int (iI x12), .int (iI x13), .ref a17, .ref a18, .int (iI x14), .ref a19, .int (iI x15), .int r4, .ref a20, .ref a21, .int (iI x16), .int r5, .ref a22, .int (iI x17), .int (iI x18), .int (iI x19), .int (iI x20)])), (a1, .inl (T 0, 940, .inl (cI f0)))]) M w 0 9 clX12 rfl (by decide) G1472 rfl rfl rfl rfl (Nat.le_of_ble_eq_true rfl) rfl dX12_go_184 (fun H locs w => ?_)
                          refine lv_aload_n hx hb dX12_go_187 rfl (lv_at hl 1 rfl) ?_
                          refine lv_dup hx hb dX12_go_188 rfl ?_
                          refine r_get (v := .int (iI z1)) M w 0 5 clX12 rfl (by decide) G1468 rfl rfl dX12_go_189 ?_
                          refine lv_iconst (v := iI 1) hx hb dX12_go_192 (by decide +kernel) ?_
                          refine r_iadd (v := iI (z1 + 1)) M (iI_add _ _) dX12_go_193 ?_
                          refine r_put (ws' := [(a0, .inr (11, [.int r0, .ref a1, .int (iI x0), .int (iI x1), .int (iI x2), .int (iI (z1 + 1)), .int (iI z1), .int (iI 4), .int r1, .int (iI (f0 z1)), .int (iI x7), .int (iI x8), .long y0, .int (iI x9), .ref a2, .ref a3, .ref a4, .ref a5, .ref a6, .ref a7, .ref a8, .ref a9, .ref a10, .ref a11, .int (iI x10), .ref a12, .ref a13, .ref a14, .ref a15, .int (iI x11), .int r2, .int r3, .ref a16, .int (iI x12), .int (iI x13), .ref a17, .ref a18, .int (iI x14), .ref a19, .int (iI x15), .int r4, .ref a20, .ref a21, .int (iI x16), .int r5, .ref a22, .int (iI x17), .int (iI x18), .int (iI x19), .int (iI x20)])), (a1, .inl (T 0, 940, .inl (cI f0)))]) M w 0 5 clX12 rfl (by decide) G1468 rfl rfl rfl rfl (Nat.le_of_ble_eq_true rfl) rfl dX12_go_194 (fun H locs w => ?_)
                          exact ret ((z1 + 1), z1, 4, r1, (f0 z1), y0) _ _ _ _ _ [0, 1] dX12_go_197 ⟨(show 0 ≤ (z1 + 1) from by omega), (show (z1 + 1) ≤ 940 from by omega), z1_a, z1_b, (show (0 : Int) ≤ 4 from by decide), (show (4 : Int) ≤ 4 from by decide), (show (-2147483648) ≤ (f0 z1) from by omega), (show (f0 z1) ≤ 2147483647 from by omega), (show 0 ≤ ((z1 + 1) - x3) from by omega), (show 0 ≤ ((((z1 + 1) - x3) - 4) + 3) from by omega), (show gT (tkAt f0 x1 x2 x3) 4 z1 (z1 + 1) y0 r1 (f0 z1) from (by rw [tk_sg (lq1_s.trans (sk_e (by omega))) (by omega) (by omega) (nld pq186 (by omega) pq267 (by omega)) (by omega)]; exact ⟨rfl, rfl, rfl, rfl⟩))⟩ w (by decide) rfl
                        · replace c_347 : ¬ (f0 z1) = 60 := fun h => c_347 ((iI_eq (by omega) (by omega) (by decide) (by decide)).mpr h)
                          refine lv_iload_n hx hb dX12_go_150 rfl (lv_at hl 0 rfl) ?_
                          refine lv_bipush (v := iI 61) hx hb dX12_go_151 (by decide +kernel) ?_
                          refine lv_icmp_eq (tgt := 174) hx hb dX12_go_153 (by decide) (fun c_348 => ?_) (fun c_348 => ?_)
                          · replace c_348 := (iI_eq (by omega) (by omega) (by decide) (by decide)).mp c_348
                            refine lv_iconst (v := iI 4) hx hb dX12_go_174 (by decide +kernel) ?_
                            refine lv_goto (tgt := 179) hx hb dX12_go_175 (by decide) ?_
                            refine r_put (ws' := [(a0, .inr (11, [.int r0, .ref a1, .int (iI x0), .int (iI x1), .int (iI x2), .int (iI z1), .int (iI z1), .int (iI 4), .int r1, .int (iI x6), .int (iI x7), .int (iI x8), .long y0, .int (iI x9), .ref a2, .ref a3, .ref a4, .ref a5, .ref a6, .ref a7, .ref a8, .ref a9, .ref a10, .ref a11, .int (iI x10), .ref a12, .ref a13, .ref a14, .ref a15, .int (iI x11), .int r2, .int r3, .ref a16, .int (iI x12), .int (iI x13), .ref a17, .ref a18, .int (iI x14), .ref a19, .int (iI x15), .int r4, .ref a20, .ref a21, .int (iI x16), .int r5, .ref a22, .int (iI x17), .int (iI x18), .int (iI x19), .int (iI x20)])), (a1, .inl (T 0, 940, .inl (cI f0)))]) M w 0 7 clX12 rfl (by decide) G1470 rfl rfl rfl rfl (Nat.le_of_ble_eq_true rfl) rfl dX12_go_179 (fun H locs w => ?_)
                            refine lv_aload_n hx hb dX12_go_182 rfl (lv_at hl 1 rfl) ?_
                            refine lv_iload_n hx hb dX12_go_183 rfl (lv_at hl 0 rfl) ?_
                            refine r_put (ws' := [(a0, .inr (11, [.int r0, .ref a1, .int (iI x0), .int (iI x1), .int (iI x2), .int (iI z1), .int (iI z1), .int (iI 4), .int r1, .int (iI (f0 z1)), .int (iI x7), .int (iI x8), .long y0, .int (iI x9), .ref a2, .ref a3, .ref a4, .ref a5, .ref a6, .ref a7, .ref a8, .ref a9, .ref a10, .ref a11, .int (iI x10), .ref a12, .ref a13, .ref a14, .ref a15, .int (iI x11), .int r2, .int r3, .ref a16, .int (iI x12), .int (iI x13), .ref a17, .ref a18, .int (iI x14), .ref a19, .int (iI x15), .int r4, .ref a20, .ref a21, .int (iI x16), .int r5, .ref a22, .int (iI x17), .int (iI x18), .int (iI x19), .int (iI x20)])), (a1, .inl (T 0, 940, .inl (cI f0)))]) M w 0 9 clX12 rfl (by decide) G1472 rfl rfl rfl rfl (Nat.le_of_ble_eq_true rfl) rfl dX12_go_184 (fun H locs w => ?_)
                            refine lv_aload_n hx hb dX12_go_187 rfl (lv_at hl 1 rfl) ?_
                            refine lv_dup hx hb dX12_go_188 rfl ?_
                            refine r_get (v := .int (iI z1)) M w 0 5 clX12 rfl (by decide) G1468 rfl rfl dX12_go_189 ?_
                            refine lv_iconst (v := iI 1) hx hb dX12_go_192 (by decide +kernel) ?_
                            refine r_iadd (v := iI (z1 + 1)) M (iI_add _ _) dX12_go_193 ?_
                            refine r_put (ws' := [(a0, .inr (11, [.int r0, .ref a1, .int (iI x0), .int (iI x1), .int (iI x2), .int (iI (z1 + 1)), .int (iI z1), .int (iI 4), .int r1, .int (iI (f0 z1)), .int (iI x7), .int (iI x8), .long y0, .int (iI x9), .ref a2, .ref a3, .ref a4, .ref a5, .ref a6, .ref a7, .ref a8, .ref a9, .ref a10, .ref a11, .int (iI x10), .ref a12, .ref a13, .ref a14, .ref a15, .int (iI x11), .int r2, .int r3, .ref a16, .int (iI x12), .int (iI x13), .ref a17, .ref a18, .int (iI x14), .ref a19, .int (iI x15), .int r4, .ref a20, .ref a21, .int (iI x16), .int r5, .ref a22, .int (iI x17), .int (iI x18), .int (iI x19), .int (iI x20)])), (a1, .inl (T 0, 940, .inl (cI f0)))]) M w 0 5 clX12 rfl (by decide) G1468 rfl rfl rfl rfl (Nat.le_of_ble_eq_true rfl) rfl dX12_go_194 (fun H locs w => ?_)
                            exact ret ((z1 + 1), z1, 4, r1, (f0 z1), y0) _ _ _ _ _ [0, 1] dX12_go_197 ⟨(show 0 ≤ (z1 + 1) from by omega), (show (z1 + 1) ≤ 940 from by omega), z1_a, z1_b, (show (0 : Int) ≤ 4 from by decide), (show (4 : Int) ≤ 4 from by decide), (show (-2147483648) ≤ (f0 z1) from by omega), (show (f0 z1) ≤ 2147483647 from by omega), (show 0 ≤ ((z1 + 1) - x3) from by omega), (show 0 ≤ ((((z1 + 1) - x3) - 4) + 3) from by omega), (show gT (tkAt f0 x1 x2 x3) 4 z1 (z1 + 1) y0 r1 (f0 z1) from (by rw [tk_sg (lq1_s.trans (sk_e (by omega))) (by omega) (by omega) (nld pq186 (by omega) pq267 (by omega)) (by omega)]; exact ⟨rfl, rfl, rfl, rfl⟩))⟩ w (by decide) rfl
                          · replace c_348 : ¬ (f0 z1) = 61 := fun h => c_348 ((iI_eq (by omega) (by omega) (by decide) (by decide)).mpr h)
                            refine lv_iload_n hx hb dX12_go_156 rfl (lv_at hl 0 rfl) ?_
                            refine lv_bipush (v := iI 62) hx hb dX12_go_157 (by decide +kernel) ?_
                            refine lv_icmp_eq (tgt := 174) hx hb dX12_go_159 (by decide) (fun c_349 => ?_) (fun c_349 => ?_)
                            · replace c_349 := (iI_eq (by omega) (by omega) (by decide) (by decide)).mp c_349
                              refine lv_iconst (v := iI 4) hx hb dX12_go_174 (by decide +kernel) ?_
                              refine lv_goto (tgt := 179) hx hb dX12_go_175 (by decide) ?_
                              refine r_put (ws' := [(a0, .inr (11, [.int r0, .ref a1, .int (iI x0), .int (iI x1), .int (iI x2), .int (iI z1), .int (iI z1), .int (iI 4), .int r1, .int (iI x6), .int (iI x7), .int (iI x8), .long y0, .int (iI x9), .ref a2, .ref a3, .ref a4, .ref a5, .ref a6, .ref a7, .ref a8, .ref a9, .ref a10, .ref a11, .int (iI x10), .ref a12, .ref a13, .ref a14, .ref a15, .int (iI x11), .int r2, .int r3, .ref a16, .int (iI x12), .int (iI x13), .ref a17, .ref a18, .int (iI x14), .ref a19, .int (iI x15), .int r4, .ref a20, .ref a21, .int (iI x16), .int r5, .ref a22, .int (iI x17), .int (iI x18), .int (iI x19), .int (iI x20)])), (a1, .inl (T 0, 940, .inl (cI f0)))]) M w 0 7 clX12 rfl (by decide) G1470 rfl rfl rfl rfl (Nat.le_of_ble_eq_true rfl) rfl dX12_go_179 (fun H locs w => ?_)
                              refine lv_aload_n hx hb dX12_go_182 rfl (lv_at hl 1 rfl) ?_
                              refine lv_iload_n hx hb dX12_go_183 rfl (lv_at hl 0 rfl) ?_
                              refine r_put (ws' := [(a0, .inr (11, [.int r0, .ref a1, .int (iI x0), .int (iI x1), .int (iI x2), .int (iI z1), .int (iI z1), .int (iI 4), .int r1, .int (iI (f0 z1)), .int (iI x7), .int (iI x8), .long y0, .int (iI x9), .ref a2, .ref a3, .ref a4, .ref a5, .ref a6, .ref a7, .ref a8, .ref a9, .ref a10, .ref a11, .int (iI x10), .ref a12, .ref a13, .ref a14, .ref a15, .int (iI x11), .int r2, .int r3, .ref a16, .int (iI x12), .int (iI x13), .ref a17, .ref a18, .int (iI x14), .ref a19, .int (iI x15), .int r4, .ref a20, .ref a21, .int (iI x16), .int r5, .ref a22, .int (iI x17), .int (iI x18), .int (iI x19), .int (iI x20)])), (a1, .inl (T 0, 940, .inl (cI f0)))]) M w 0 9 clX12 rfl (by decide) G1472 rfl rfl rfl rfl (Nat.le_of_ble_eq_true rfl) rfl dX12_go_184 (fun H locs w => ?_)
                              refine lv_aload_n hx hb dX12_go_187 rfl (lv_at hl 1 rfl) ?_
                              refine lv_dup hx hb dX12_go_188 rfl ?_
                              refine r_get (v := .int (iI z1)) M w 0 5 clX12 rfl (by decide) G1468 rfl rfl dX12_go_189 ?_
                              refine lv_iconst (v := iI 1) hx hb dX12_go_192 (by decide +kernel) ?_
                              refine r_iadd (v := iI (z1 + 1)) M (iI_add _ _) dX12_go_193 ?_
                              refine r_put (ws' := [(a0, .inr (11, [.int r0, .ref a1, .int (iI x0), .int (iI x1), .int (iI x2), .int (iI (z1 + 1)), .int (iI z1), .int (iI 4), .int r1, .int (iI (f0 z1)), .int (iI x7), .int (iI x8), .long y0, .int (iI x9), .ref a2, .ref a3, .ref a4, .ref a5, .ref a6, .ref a7, .ref a8, .ref a9, .ref a10, .ref a11, .int (iI x10), .ref a12, .ref a13, .ref a14, .ref a15, .int (iI x11), .int r2, .int r3, .ref a16, .int (iI x12), .int (iI x13), .ref a17, .ref a18, .int (iI x14), .ref a19, .int (iI x15), .int r4, .ref a20, .ref a21, .int (iI x16), .int r5, .ref a22, .int (iI x17), .int (iI x18), .int (iI x19), .int (iI x20)])), (a1, .inl (T 0, 940, .inl (cI f0)))]) M w 0 5 clX12 rfl (by decide) G1468 rfl rfl rfl rfl (Nat.le_of_ble_eq_true rfl) rfl dX12_go_194 (fun H locs w => ?_)
                              exact ret ((z1 + 1), z1, 4, r1, (f0 z1), y0) _ _ _ _ _ [0, 1] dX12_go_197 ⟨(show 0 ≤ (z1 + 1) from by omega), (show (z1 + 1) ≤ 940 from by omega), z1_a, z1_b, (show (0 : Int) ≤ 4 from by decide), (show (4 : Int) ≤ 4 from by decide), (show (-2147483648) ≤ (f0 z1) from by omega), (show (f0 z1) ≤ 2147483647 from by omega), (show 0 ≤ ((z1 + 1) - x3) from by omega), (show 0 ≤ ((((z1 + 1) - x3) - 4) + 3) from by omega), (show gT (tkAt f0 x1 x2 x3) 4 z1 (z1 + 1) y0 r1 (f0 z1) from (by rw [tk_sg (lq1_s.trans (sk_e (by omega))) (by omega) (by omega) (nld pq186 (by omega) pq267 (by omega)) (by omega)]; exact ⟨rfl, rfl, rfl, rfl⟩))⟩ w (by decide) rfl
                            · replace c_349 : ¬ (f0 z1) = 62 := fun h => c_349 ((iI_eq (by omega) (by omega) (by decide) (by decide)).mpr h)
                              refine lv_iload_n hx hb dX12_go_162 rfl (lv_at hl 0 rfl) ?_
                              refine lv_bipush (v := iI 40) hx hb dX12_go_163 (by decide +kernel) ?_
                              refine lv_icmp_eq (tgt := 174) hx hb dX12_go_165 (by decide) (fun c_350 => ?_) (fun c_350 => ?_)
                              · replace c_350 := (iI_eq (by omega) (by omega) (by decide) (by decide)).mp c_350
                                refine lv_iconst (v := iI 4) hx hb dX12_go_174 (by decide +kernel) ?_
                                refine lv_goto (tgt := 179) hx hb dX12_go_175 (by decide) ?_
                                refine r_put (ws' := [(a0, .inr (11, [.int r0, .ref a1, .int (iI x0), .int (iI x1), .int (iI x2), .int (iI z1), .int (iI z1), .int (iI 4), .int r1, .int (iI x6), .int (iI x7), .int (iI x8), .long y0, .int (iI x9), .ref a2, .ref a3, .ref a4, .ref a5, .ref a6, .ref a7, .ref a8, .ref a9, .ref a10, .ref a11, .int (iI x10), .ref a12, .ref a13, .ref a14, .ref a15, .int (iI x11), .int r2, .int r3, .ref a16, .int (iI x12), .int (iI x13), .ref a17, .ref a18, .int (iI x14), .ref a19, .int (iI x15), .int r4, .ref a20, .ref a21, .int (iI x16), .int r5, .ref a22, .int (iI x17), .int (iI x18), .int (iI x19), .int (iI x20)])), (a1, .inl (T 0, 940, .inl (cI f0)))]) M w 0 7 clX12 rfl (by decide) G1470 rfl rfl rfl rfl (Nat.le_of_ble_eq_true rfl) rfl dX12_go_179 (fun H locs w => ?_)
                                refine lv_aload_n hx hb dX12_go_182 rfl (lv_at hl 1 rfl) ?_
                                refine lv_iload_n hx hb dX12_go_183 rfl (lv_at hl 0 rfl) ?_
                                refine r_put (ws' := [(a0, .inr (11, [.int r0, .ref a1, .int (iI x0), .int (iI x1), .int (iI x2), .int (iI z1), .int (iI z1), .int (iI 4), .int r1, .int (iI (f0 z1)), .int (iI x7), .int (iI x8), .long y0, .int (iI x9), .ref a2, .ref a3, .ref a4, .ref a5, .ref a6, .ref a7, .ref a8, .ref a9, .ref a10, .ref a11, .int (iI x10), .ref a12, .ref a13, .ref a14, .ref a15, .int (iI x11), .int r2, .int r3, .ref a16, .int (iI x12), .int (iI x13), .ref a17, .ref a18, .int (iI x14), .ref a19, .int (iI x15), .int r4, .ref a20, .ref a21, .int (iI x16), .int r5, .ref a22, .int (iI x17), .int (iI x18), .int (iI x19), .int (iI x20)])), (a1, .inl (T 0, 940, .inl (cI f0)))]) M w 0 9 clX12 rfl (by decide) G1472 rfl rfl rfl rfl (Nat.le_of_ble_eq_true rfl) rfl dX12_go_184 (fun H locs w => ?_)
                                refine lv_aload_n hx hb dX12_go_187 rfl (lv_at hl 1 rfl) ?_
                                refine lv_dup hx hb dX12_go_188 rfl ?_
                                refine r_get (v := .int (iI z1)) M w 0 5 clX12 rfl (by decide) G1468 rfl rfl dX12_go_189 ?_
                                refine lv_iconst (v := iI 1) hx hb dX12_go_192 (by decide +kernel) ?_
                                refine r_iadd (v := iI (z1 + 1)) M (iI_add _ _) dX12_go_193 ?_
                                refine r_put (ws' := [(a0, .inr (11, [.int r0, .ref a1, .int (iI x0), .int (iI x1), .int (iI x2), .int (iI (z1 + 1)), .int (iI z1), .int (iI 4), .int r1, .int (iI (f0 z1)), .int (iI x7), .int (iI x8), .long y0, .int (iI x9), .ref a2, .ref a3, .ref a4, .ref a5, .ref a6, .ref a7, .ref a8, .ref a9, .ref a10, .ref a11, .int (iI x10), .ref a12, .ref a13, .ref a14, .ref a15, .int (iI x11), .int r2, .int r3, .ref a16, .int (iI x12), .int (iI x13), .ref a17, .ref a18, .int (iI x14), .ref a19, .int (iI x15), .int r4, .ref a20, .ref a21, .int (iI x16), .int r5, .ref a22, .int (iI x17), .int (iI x18), .int (iI x19), .int (iI x20)])), (a1, .inl (T 0, 940, .inl (cI f0)))]) M w 0 5 clX12 rfl (by decide) G1468 rfl rfl rfl rfl (Nat.le_of_ble_eq_true rfl) rfl dX12_go_194 (fun H locs w => ?_)
                                exact ret ((z1 + 1), z1, 4, r1, (f0 z1), y0) _ _ _ _ _ [0, 1] dX12_go_197 ⟨(show 0 ≤ (z1 + 1) from by omega), (show (z1 + 1) ≤ 940 from by omega), z1_a, z1_b, (show (0 : Int) ≤ 4 from by decide), (show (4 : Int) ≤ 4 from by decide), (show (-2147483648) ≤ (f0 z1) from by omega), (show (f0 z1) ≤ 2147483647 from by omega), (show 0 ≤ ((z1 + 1) - x3) from by omega), (show 0 ≤ ((((z1 + 1) - x3) - 4) + 3) from by omega), (show gT (tkAt f0 x1 x2 x3) 4 z1 (z1 + 1) y0 r1 (f0 z1) from (by rw [tk_sg (lq1_s.trans (sk_e (by omega))) (by omega) (by omega) (nld pq186 (by omega) pq267 (by omega)) (by omega)]; exact ⟨rfl, rfl, rfl, rfl⟩))⟩ w (by decide) rfl
                              · replace c_350 : ¬ (f0 z1) = 40 := fun h => c_350 ((iI_eq (by omega) (by omega) (by decide) (by decide)).mpr h)
                                refine lv_iload_n hx hb dX12_go_168 rfl (lv_at hl 0 rfl) ?_
                                refine lv_bipush (v := iI 41) hx hb dX12_go_169 (by decide +kernel) ?_
                                refine lv_icmp_ne (tgt := 178) hx hb dX12_go_171 (by decide) (fun c_351 => ?_) (fun c_351 => ?_)
                                · replace c_351 : ¬ (f0 z1) = 41 := fun h => c_351 ((iI_eq (by omega) (by omega) (by decide) (by decide)).mpr h)
                                  refine lv_iconst (v := iI 1) hx hb dX12_go_178 (by decide +kernel) ?_
                                  refine r_put (ws' := [(a0, .inr (11, [.int r0, .ref a1, .int (iI x0), .int (iI x1), .int (iI x2), .int (iI z1), .int (iI z1), .int (iI 1), .int r1, .int (iI x6), .int (iI x7), .int (iI x8), .long y0, .int (iI x9), .ref a2, .ref a3, .ref a4, .ref a5, .ref a6, .ref a7, .ref a8, .ref a9, .ref a10, .ref a11, .int (iI x10), .ref a12, .ref a13, .ref a14, .ref a15, .int (iI x11), .int r2, .int r3, .ref a16, .int (iI x12), .int (iI x13), .ref a17, .ref a18, .int (iI x14), .ref a19, .int (iI x15), .int r4, .ref a20, .ref a21, .int (iI x16), .int r5, .ref a22, .int (iI x17), .int (iI x18), .int (iI x19), .int (iI x20)])), (a1, .inl (T 0, 940, .inl (cI f0)))]) M w 0 7 clX12 rfl (by decide) G1470 rfl rfl rfl rfl (Nat.le_of_ble_eq_true rfl) rfl dX12_go_179 (fun H locs w => ?_)
                                  refine lv_aload_n hx hb dX12_go_182 rfl (lv_at hl 1 rfl) ?_
                                  refine lv_iload_n hx hb dX12_go_183 rfl (lv_at hl 0 rfl) ?_
                                  refine r_put (ws' := [(a0, .inr (11, [.int r0, .ref a1, .int (iI x0), .int (iI x1), .int (iI x2), .int (iI z1), .int (iI z1), .int (iI 1), .int r1, .int (iI (f0 z1)), .int (iI x7), .int (iI x8), .long y0, .int (iI x9), .ref a2, .ref a3, .ref a4, .ref a5, .ref a6, .ref a7, .ref a8, .ref a9, .ref a10, .ref a11, .int (iI x10), .ref a12, .ref a13, .ref a14, .ref a15, .int (iI x11), .int r2, .int r3, .ref a16, .int (iI x12), .int (iI x13), .ref a17, .ref a18, .int (iI x14), .ref a19, .int (iI x15), .int r4, .ref a20, .ref a21, .int (iI x16), .int r5, .ref a22, .int (iI x17), .int (iI x18), .int (iI x19), .int (iI x20)])), (a1, .inl (T 0, 940, .inl (cI f0)))]) M w 0 9 clX12 rfl (by decide) G1472 rfl rfl rfl rfl (Nat.le_of_ble_eq_true rfl) rfl dX12_go_184 (fun H locs w => ?_)
                                  refine lv_aload_n hx hb dX12_go_187 rfl (lv_at hl 1 rfl) ?_
                                  refine lv_dup hx hb dX12_go_188 rfl ?_
                                  refine r_get (v := .int (iI z1)) M w 0 5 clX12 rfl (by decide) G1468 rfl rfl dX12_go_189 ?_
                                  refine lv_iconst (v := iI 1) hx hb dX12_go_192 (by decide +kernel) ?_
                                  refine r_iadd (v := iI (z1 + 1)) M (iI_add _ _) dX12_go_193 ?_
                                  refine r_put (ws' := [(a0, .inr (11, [.int r0, .ref a1, .int (iI x0), .int (iI x1), .int (iI x2), .int (iI (z1 + 1)), .int (iI z1), .int (iI 1), .int r1, .int (iI (f0 z1)), .int (iI x7), .int (iI x8), .long y0, .int (iI x9), .ref a2, .ref a3, .ref a4, .ref a5, .ref a6, .ref a7, .ref a8, .ref a9, .ref a10, .ref a11, .int (iI x10), .ref a12, .ref a13, .ref a14, .ref a15, .int (iI x11), .int r2, .int r3, .ref a16, .int (iI x12), .int (iI x13), .ref a17, .ref a18, .int (iI x14), .ref a19, .int (iI x15), .int r4, .ref a20, .ref a21, .int (iI x16), .int r5, .ref a22, .int (iI x17), .int (iI x18), .int (iI x19), .int (iI x20)])), (a1, .inl (T 0, 940, .inl (cI f0)))]) M w 0 5 clX12 rfl (by decide) G1468 rfl rfl rfl rfl (Nat.le_of_ble_eq_true rfl) rfl dX12_go_194 (fun H locs w => ?_)
                                  exact ret ((z1 + 1), z1, 1, r1, (f0 z1), y0) _ _ _ _ _ [0, 1] dX12_go_197 ⟨(show 0 ≤ (z1 + 1) from by omega), (show (z1 + 1) ≤ 940 from by omega), z1_a, z1_b, (show (0 : Int) ≤ 1 from by decide), (show (1 : Int) ≤ 4 from by decide), (show (-2147483648) ≤ (f0 z1) from by omega), (show (f0 z1) ≤ 2147483647 from by omega), (show 0 ≤ ((z1 + 1) - x3) from by omega), (show 0 ≤ ((((z1 + 1) - x3) - 1) + 3) from by omega), (show gT (tkAt f0 x1 x2 x3) 1 z1 (z1 + 1) y0 r1 (f0 z1) from (by rw [tk_no (lq1_s.trans (sk_e (by omega))) (by omega) (by omega) (nld pq186 (by omega) pq267 (by omega)) (by omega)]; exact ⟨rfl, rfl, rfl⟩))⟩ w (by decide) rfl
                                · replace c_351 := (iI_eq (by omega) (by omega) (by decide) (by decide)).mp c_351
                                  refine lv_iconst (v := iI 4) hx hb dX12_go_174 (by decide +kernel) ?_
                                  refine lv_goto (tgt := 179) hx hb dX12_go_175 (by decide) ?_
                                  refine r_put (ws' := [(a0, .inr (11, [.int r0, .ref a1, .int (iI x0), .int (iI x1), .int (iI x2), .int (iI z1), .int (iI z1), .int (iI 4), .int r1, .int (iI x6), .int (iI x7), .int (iI x8), .long y0, .int (iI x9), .ref a2, .ref a3, .ref a4, .ref a5, .ref a6, .ref a7, .ref a8, .ref a9, .ref a10, .ref a11, .int (iI x10), .ref a12, .ref a13, .ref a14, .ref a15, .int (iI x11), .int r2, .int r3, .ref a16, .int (iI x12), .int (iI x13), .ref a17, .ref a18, .int (iI x14), .ref a19, .int (iI x15), .int r4, .ref a20, .ref a21, .int (iI x16), .int r5, .ref a22, .int (iI x17), .int (iI x18), .int (iI x19), .int (iI x20)])), (a1, .inl (T 0, 940, .inl (cI f0)))]) M w 0 7 clX12 rfl (by decide) G1470 rfl rfl rfl rfl (Nat.le_of_ble_eq_true rfl) rfl dX12_go_179 (fun H locs w => ?_)
                                  refine lv_aload_n hx hb dX12_go_182 rfl (lv_at hl 1 rfl) ?_
                                  refine lv_iload_n hx hb dX12_go_183 rfl (lv_at hl 0 rfl) ?_
                                  refine r_put (ws' := [(a0, .inr (11, [.int r0, .ref a1, .int (iI x0), .int (iI x1), .int (iI x2), .int (iI z1), .int (iI z1), .int (iI 4), .int r1, .int (iI (f0 z1)), .int (iI x7), .int (iI x8), .long y0, .int (iI x9), .ref a2, .ref a3, .ref a4, .ref a5, .ref a6, .ref a7, .ref a8, .ref a9, .ref a10, .ref a11, .int (iI x10), .ref a12, .ref a13, .ref a14, .ref a15, .int (iI x11), .int r2, .int r3, .ref a16, .int (iI x12), .int (iI x13), .ref a17, .ref a18, .int (iI x14), .ref a19, .int (iI x15), .int r4, .ref a20, .ref a21, .int (iI x16), .int r5, .ref a22, .int (iI x17), .int (iI x18), .int (iI x19), .int (iI x20)])), (a1, .inl (T 0, 940, .inl (cI f0)))]) M w 0 9 clX12 rfl (by decide) G1472 rfl rfl rfl rfl (Nat.le_of_ble_eq_true rfl) rfl dX12_go_184 (fun H locs w => ?_)
                                  refine lv_aload_n hx hb dX12_go_187 rfl (lv_at hl 1 rfl) ?_
                                  refine lv_dup hx hb dX12_go_188 rfl ?_
                                  refine r_get (v := .int (iI z1)) M w 0 5 clX12 rfl (by decide) G1468 rfl rfl dX12_go_189 ?_
                                  refine lv_iconst (v := iI 1) hx hb dX12_go_192 (by decide +kernel) ?_
                                  refine r_iadd (v := iI (z1 + 1)) M (iI_add _ _) dX12_go_193 ?_
                                  refine r_put (ws' := [(a0, .inr (11, [.int r0, .ref a1, .int (iI x0), .int (iI x1), .int (iI x2), .int (iI (z1 + 1)), .int (iI z1), .int (iI 4), .int r1, .int (iI (f0 z1)), .int (iI x7), .int (iI x8), .long y0, .int (iI x9), .ref a2, .ref a3, .ref a4, .ref a5, .ref a6, .ref a7, .ref a8, .ref a9, .ref a10, .ref a11, .int (iI x10), .ref a12, .ref a13, .ref a14, .ref a15, .int (iI x11), .int r2, .int r3, .ref a16, .int (iI x12), .int (iI x13), .ref a17, .ref a18, .int (iI x14), .ref a19, .int (iI x15), .int r4, .ref a20, .ref a21, .int (iI x16), .int r5, .ref a22, .int (iI x17), .int (iI x18), .int (iI x19), .int (iI x20)])), (a1, .inl (T 0, 940, .inl (cI f0)))]) M w 0 5 clX12 rfl (by decide) G1468 rfl rfl rfl rfl (Nat.le_of_ble_eq_true rfl) rfl dX12_go_194 (fun H locs w => ?_)
                                  exact ret ((z1 + 1), z1, 4, r1, (f0 z1), y0) _ _ _ _ _ [0, 1] dX12_go_197 ⟨(show 0 ≤ (z1 + 1) from by omega), (show (z1 + 1) ≤ 940 from by omega), z1_a, z1_b, (show (0 : Int) ≤ 4 from by decide), (show (4 : Int) ≤ 4 from by decide), (show (-2147483648) ≤ (f0 z1) from by omega), (show (f0 z1) ≤ 2147483647 from by omega), (show 0 ≤ ((z1 + 1) - x3) from by omega), (show 0 ≤ ((((z1 + 1) - x3) - 4) + 3) from by omega), (show gT (tkAt f0 x1 x2 x3) 4 z1 (z1 + 1) y0 r1 (f0 z1) from (by rw [tk_sg (lq1_s.trans (sk_e (by omega))) (by omega) (by omega) (nld pq186 (by omega) pq267 (by omega)) (by omega)]; exact ⟨rfl, rfl, rfl, rfl⟩))⟩ w (by decide) rfl
                · replace c_182 : x1 ≤ z1 := Int.not_lt.mp (fun h => c_182 ((iI_lt (Int.le_trans (by decide) z1_a) (Int.le_trans z1_b (by decide)) (Int.le_trans (by decide) x1_a) (Int.le_trans x1_b (by decide))).mpr h))
                  exfalso; omega
              · replace c_181 : x2 ≤ z1 := Int.not_lt.mp (fun h => c_181 ((iI_lt (Int.le_trans (by decide) z1_a) (Int.le_trans z1_b (by decide)) (Int.le_trans (by decide) x2_a) (Int.le_trans x2_b (by decide))).mpr h))
                refine lv_aload_n hx hb dX12_go_82 rfl (lv_at hl 0 rfl) ?_
                refine lv_aload_n hx hb dX12_go_83 rfl (lv_at hl 0 rfl) ?_
                refine r_get (v := .int (iI x2)) M w 0 4 clX12 rfl (by decide) G1467 rfl rfl dX12_go_84 ?_
                refine r_put (ws' := [(a0, .inr (11, [.int r0, .ref a1, .int (iI x0), .int (iI x1), .int (iI x2), .int (iI z1), .int (iI x2), .int (iI x5), .int r1, .int (iI x6), .int (iI x7), .int (iI x8), .long y0, .int (iI x9), .ref a2, .ref a3, .ref a4, .ref a5, .ref a6, .ref a7, .ref a8, .ref a9, .ref a10, .ref a11, .int (iI x10), .ref a12, .ref a13, .ref a14, .ref a15, .int (iI x11), .int r2, .int r3, .ref a16, .int (iI x12), .int (iI x13), .ref a17, .ref a18, .int (iI x14), .ref a19, .int (iI x15), .int r4, .ref a20, .ref a21, .int (iI x16), .int r5, .ref a22, .int (iI x17), .int (iI x18), .int (iI x19), .int (iI x20)])), (a1, .inl (T 0, 940, .inl (cI f0)))]) M w 0 6 clX12 rfl (by decide) G1469 rfl rfl rfl rfl (Nat.le_of_ble_eq_true rfl) rfl dX12_go_87 (fun H locs w => ?_)
                refine lv_aload_n hx hb dX12_go_90 rfl (lv_at hl 0 rfl) ?_
                refine lv_iconst (v := iI 1) hx hb dX12_go_91 (by decide +kernel) ?_
                refine r_put (ws' := [(a0, .inr (11, [.int r0, .ref a1, .int (iI x0), .int (iI x1), .int (iI x2), .int (iI z1), .int (iI x2), .int (iI 1), .int r1, .int (iI x6), .int (iI x7), .int (iI x8), .long y0, .int (iI x9), .ref a2, .ref a3, .ref a4, .ref a5, .ref a6, .ref a7, .ref a8, .ref a9, .ref a10, .ref a11, .int (iI x10), .ref a12, .ref a13, .ref a14, .ref a15, .int (iI x11), .int r2, .int r3, .ref a16, .int (iI x12), .int (iI x13), .ref a17, .ref a18, .int (iI x14), .ref a19, .int (iI x15), .int r4, .ref a20, .ref a21, .int (iI x16), .int r5, .ref a22, .int (iI x17), .int (iI x18), .int (iI x19), .int (iI x20)])), (a1, .inl (T 0, 940, .inl (cI f0)))]) M w 0 7 clX12 rfl (by decide) G1470 rfl rfl rfl rfl (Nat.le_of_ble_eq_true rfl) rfl dX12_go_92 (fun H locs w => ?_)
                exact ret (z1, x2, 1, r1, x6, y0) _ _ _ _ _ [0, 1] dX12_go_95 ⟨z1_a, z1_b, x2_a, x2_b, (show (0 : Int) ≤ 1 from by decide), (show (1 : Int) ≤ 4 from by decide), x6_a, x6_b, (show 0 ≤ (z1 - x3) from by omega), (show 0 ≤ (((z1 - x3) - 1) + 3) from by omega), (show gT (tkAt f0 x1 x2 x3) 1 x2 z1 y0 r1 x6 from (by rw [tk_lim (lq1_s.trans (sk_e (by omega))) (by omega) (by omega)]; exact ⟨rfl, rfl, rfl⟩))⟩ w (by decide) rfl
          · replace c_9 := (iI_eq (by omega) (by omega) (by decide) (by decide)).mp c_9
            refine lv_aload_n hx hb dX12_go_39 rfl (lv_at hl 0 rfl) ?_
            refine lv_dup hx hb dX12_go_40 rfl ?_
            refine r_get (v := .int (iI z1)) M w 0 5 clX12 rfl (by decide) G1468 rfl rfl dX12_go_41 ?_
            refine lv_iconst (v := iI 1) hx hb dX12_go_44 (by decide +kernel) ?_
            refine r_iadd (v := iI (z1 + 1)) M (iI_add _ _) dX12_go_45 ?_
            refine r_put (ws' := [(a0, .inr (11, [.int r0, .ref a1, .int (iI x0), .int (iI x1), .int (iI x2), .int (iI (z1 + 1)), .int (iI x4), .int (iI x5), .int r1, .int (iI x6), .int (iI x7), .int (iI x8), .long y0, .int (iI x9), .ref a2, .ref a3, .ref a4, .ref a5, .ref a6, .ref a7, .ref a8, .ref a9, .ref a10, .ref a11, .int (iI x10), .ref a12, .ref a13, .ref a14, .ref a15, .int (iI x11), .int r2, .int r3, .ref a16, .int (iI x12), .int (iI x13), .ref a17, .ref a18, .int (iI x14), .ref a19, .int (iI x15), .int r4, .ref a20, .ref a21, .int (iI x16), .int r5, .ref a22, .int (iI x17), .int (iI x18), .int (iI x19), .int (iI x20)])), (a1, .inl (T 0, 940, .inl (cI f0)))]) M w 0 5 clX12 rfl (by decide) G1468 rfl rfl rfl rfl (Nat.le_of_ble_eq_true rfl) rfl dX12_go_46 (fun H locs w => ?_)
            refine lv_goto (tgt := 0) hx hb dX12_go_49 (by decide) ?_
            exact ih1 (z1 + 1) _ _ _ (by omega) (by omega) (by omega) (lq1_s.trans (sk_t (by omega) (by omega))) (by omega) w (lv_sub hl [0] rfl)
  exact loop1 (((x1 - x3) : Int).toNat + 1) x3 _ _ _ x3_a x3_b (by omega) rfl (Nat.lt_succ_self _) w (lv_sub hl [0] rfl)
