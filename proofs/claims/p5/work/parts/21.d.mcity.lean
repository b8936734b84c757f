theorem dX12_startSo_0 : decode cX12_startSo 0 = .ok (.bipush 53, 2) := by decide +kernel
theorem dX12_startSo_2 : decode cX12_startSo 2 = .ok (.istore_n 1, 1) := by decide +kernel
theorem dX12_startSo_3 : decode cX12_startSo 3 = .ok (.iload_n 1, 1) := by decide +kernel
theorem dX12_startSo_4 : decode cX12_startSo 4 = .ok (.sipush 329, 3) := by decide +kernel
theorem dX12_startSo_7 : decode cX12_startSo 7 = .ok (.if_icmp .ge 16, 3) := by decide +kernel
theorem dX12_startSo_23 : decode cX12_startSo 23 = .ok (.aload_n 0, 1) := by decide +kernel
theorem dX12_startSo_24 : decode cX12_startSo 24 = .ok (.getfield 98, 3) := by decide +kernel
theorem G1477 : Cond.fieldLink "HookedCityModel" 98 "HookedCityModel" "now" "[I" ∈ GW := gw_i 1477 (by decide +kernel) rfl
theorem dX12_startSo_27 : decode cX12_startSo 27 = .ok (.bipush 54, 2) := by decide +kernel
theorem dX12_startSo_29 : decode cX12_startSo 29 = .ok (.aload_n 0, 1) := by decide +kernel
theorem dX12_startSo_30 : decode cX12_startSo 30 = .ok (.getfield 98, 3) := by decide +kernel
theorem dX12_startSo_33 : decode cX12_startSo 33 = .ok (.iconst 2, 1) := by decide +kernel
theorem dX12_startSo_34 : decode cX12_startSo 34 = .ok (.iaload, 1) := by decide +kernel
theorem dX12_startSo_35 : decode cX12_startSo 35 = .ok (.iastore, 1) := by decide +kernel
theorem dX12_startSo_36 : decode cX12_startSo 36 = .ok (.iconst 0, 1) := by decide +kernel
theorem dX12_startSo_37 : decode cX12_startSo 37 = .ok (.istore_n 1, 1) := by decide +kernel
theorem dX12_startSo_38 : decode cX12_startSo 38 = .ok (.iload_n 1, 1) := by decide +kernel
theorem dX12_startSo_39 : decode cX12_startSo 39 = .ok (.bipush 9, 2) := by decide +kernel
theorem dX12_startSo_41 : decode cX12_startSo 41 = .ok (.if_icmp .ge 55, 3) := by decide +kernel
theorem dX12_startSo_96 : decode cX12_startSo 96 = .ok (.iconst 0, 1) := by decide +kernel
theorem dX12_startSo_97 : decode cX12_startSo 97 = .ok (.istore_n 1, 1) := by decide +kernel
theorem dX12_startSo_98 : decode cX12_startSo 98 = .ok (.iload_n 1, 1) := by decide +kernel
theorem dX12_startSo_99 : decode cX12_startSo 99 = .ok (.bipush 9, 2) := by decide +kernel
theorem dX12_startSo_101 : decode cX12_startSo 101 = .ok (.if_icmp .ge 40, 3) := by decide +kernel
theorem dX12_startSo_141 : decode cX12_startSo 141 = .ok (.return_, 1) := by decide +kernel
theorem dX12_startSo_104 : decode cX12_startSo 104 = .ok (.aload_n 0, 1) := by decide +kernel
theorem dX12_startSo_105 : decode cX12_startSo 105 = .ok (.getfield 98, 3) := by decide +kernel
theorem dX12_startSo_108 : decode cX12_startSo 108 = .ok (.bipush 57, 2) := by decide +kernel
theorem dX12_startSo_110 : decode cX12_startSo 110 = .ok (.iload_n 1, 1) := by decide +kernel
theorem dX12_startSo_111 : decode cX12_startSo 111 = .ok (.iadd, 1) := by decide +kernel
theorem dX12_startSo_112 : decode cX12_startSo 112 = .ok (.iaload, 1) := by decide +kernel
theorem dX12_startSo_113 : decode cX12_startSo 113 = .ok (.iconst (-1), 1) := by decide +kernel
theorem dX12_startSo_114 : decode cX12_startSo 114 = .ok (.if_icmp .eq 21, 3) := by decide +kernel
theorem dX12_startSo_135 : decode cX12_startSo 135 = .ok (.iinc 1 1, 3) := by decide +kernel
theorem dX12_startSo_138 : decode cX12_startSo 138 = .ok (.goto (-40), 3) := by decide +kernel
theorem dX12_startSo_117 : decode cX12_startSo 117 = .ok (.aload_n 0, 1) := by decide +kernel
theorem dX12_startSo_118 : decode cX12_startSo 118 = .ok (.getfield 98, 3) := by decide +kernel
theorem dX12_startSo_121 : decode cX12_startSo 121 = .ok (.bipush 66, 2) := by decide +kernel
theorem dX12_startSo_123 : decode cX12_startSo 123 = .ok (.aload_n 0, 1) := by decide +kernel
theorem dX12_startSo_124 : decode cX12_startSo 124 = .ok (.getfield 98, 3) := by decide +kernel
theorem dX12_startSo_127 : decode cX12_startSo 127 = .ok (.bipush 57, 2) := by decide +kernel
theorem dX12_startSo_129 : decode cX12_startSo 129 = .ok (.iload_n 1, 1) := by decide +kernel
theorem dX12_startSo_130 : decode cX12_startSo 130 = .ok (.iadd, 1) := by decide +kernel
theorem dX12_startSo_131 : decode cX12_startSo 131 = .ok (.iaload, 1) := by decide +kernel
theorem dX12_startSo_132 : decode cX12_startSo 132 = .ok (.iadd, 1) := by decide +kernel
theorem dX12_startSo_133 : decode cX12_startSo 133 = .ok (.iload_n 1, 1) := by decide +kernel
theorem dX12_startSo_134 : decode cX12_startSo 134 = .ok (.iastore, 1) := by decide +kernel
theorem dX12_startSo_44 : decode cX12_startSo 44 = .ok (.aload_n 0, 1) := by decide +kernel
theorem dX12_startSo_45 : decode cX12_startSo 45 = .ok (.getfield 98, 3) := by decide +kernel
theorem dX12_startSo_48 : decode cX12_startSo 48 = .ok (.bipush 57, 2) := by decide +kernel
theorem dX12_startSo_50 : decode cX12_startSo 50 = .ok (.iload_n 1, 1) := by decide +kernel
theorem dX12_startSo_51 : decode cX12_startSo 51 = .ok (.iadd, 1) := by decide +kernel
theorem dX12_startSo_52 : decode cX12_startSo 52 = .ok (.aload_n 0, 1) := by decide +kernel
theorem dX12_startSo_53 : decode cX12_startSo 53 = .ok (.getfield 98, 3) := by decide +kernel
theorem dX12_startSo_56 : decode cX12_startSo 56 = .ok (.bipush 32, 2) := by decide +kernel
theorem dX12_startSo_58 : decode cX12_startSo 58 = .ok (.iload_n 1, 1) := by decide +kernel
theorem dX12_startSo_59 : decode cX12_startSo 59 = .ok (.iadd, 1) := by decide +kernel
theorem dX12_startSo_60 : decode cX12_startSo 60 = .ok (.iaload, 1) := by decide +kernel
theorem dX12_startSo_61 : decode cX12_startSo 61 = .ok (.iastore, 1) := by decide +kernel
theorem dX12_startSo_62 : decode cX12_startSo 62 = .ok (.aload_n 0, 1) := by decide +kernel
theorem dX12_startSo_63 : decode cX12_startSo 63 = .ok (.getfield 98, 3) := by decide +kernel
theorem dX12_startSo_66 : decode cX12_startSo 66 = .ok (.bipush 66, 2) := by decide +kernel
theorem dX12_startSo_68 : decode cX12_startSo 68 = .ok (.iload_n 1, 1) := by decide +kernel
theorem dX12_startSo_69 : decode cX12_startSo 69 = .ok (.iadd, 1) := by decide +kernel
theorem dX12_startSo_70 : decode cX12_startSo 70 = .ok (.iconst (-1), 1) := by decide +kernel
theorem dX12_startSo_71 : decode cX12_startSo 71 = .ok (.iastore, 1) := by decide +kernel
theorem dX12_startSo_72 : decode cX12_startSo 72 = .ok (.aload_n 0, 1) := by decide +kernel
theorem dX12_startSo_73 : decode cX12_startSo 73 = .ok (.getfield 98, 3) := by decide +kernel
theorem dX12_startSo_76 : decode cX12_startSo 76 = .ok (.bipush 75, 2) := by decide +kernel
theorem dX12_startSo_78 : decode cX12_startSo 78 = .ok (.iload_n 1, 1) := by decide +kernel
theorem dX12_startSo_79 : decode cX12_startSo 79 = .ok (.iadd, 1) := by decide +kernel
theorem dX12_startSo_80 : decode cX12_startSo 80 = .ok (.aload_n 0, 1) := by decide +kernel
theorem dX12_startSo_81 : decode cX12_startSo 81 = .ok (.getfield 98, 3) := by decide +kernel
theorem dX12_startSo_84 : decode cX12_startSo 84 = .ok (.bipush 23, 2) := by decide +kernel
theorem dX12_startSo_86 : decode cX12_startSo 86 = .ok (.iload_n 1, 1) := by decide +kernel
theorem dX12_startSo_87 : decode cX12_startSo 87 = .ok (.iadd, 1) := by decide +kernel
theorem dX12_startSo_88 : decode cX12_startSo 88 = .ok (.iaload, 1) := by decide +kernel
theorem dX12_startSo_89 : decode cX12_startSo 89 = .ok (.iastore, 1) := by decide +kernel
theorem dX12_startSo_90 : decode cX12_startSo 90 = .ok (.iinc 1 1, 3) := by decide +kernel
theorem dX12_startSo_93 : decode cX12_startSo 93 = .ok (.goto (-55), 3) := by decide +kernel
theorem dX12_startSo_10 : decode cX12_startSo 10 = .ok (.aload_n 0, 1) := by decide +kernel
theorem dX12_startSo_11 : decode cX12_startSo 11 = .ok (.getfield 98, 3) := by decide +kernel
theorem dX12_startSo_14 : decode cX12_startSo 14 = .ok (.iload_n 1, 1) := by decide +kernel
theorem dX12_startSo_15 : decode cX12_startSo 15 = .ok (.iconst 0, 1) := by decide +kernel
theorem dX12_startSo_16 : decode cX12_startSo 16 = .ok (.iastore, 1) := by decide +kernel
theorem dX12_startSo_17 : decode cX12_startSo 17 = .ok (.iinc 1 1, 3) := by decide +kernel
theorem dX12_startSo_20 : decode cX12_startSo 20 = .ok (.goto (-17), 3) := by decide +kernel
theorem dX12_city_0 : decode cX12_city 0 = .ok (.aload_n 0, 1) := by decide +kernel
theorem dX12_city_1 : decode cX12_city 1 = .ok (.sipush 900, 3) := by decide +kernel
theorem dX12_city_4 : decode cX12_city 4 = .ok (.invokevirtual 224, 3) := by decide +kernel
theorem G1622 : Cond.code ⟨"HookedCityModel", "begin", "(I)V"⟩ prog_14_method_25_code 2 none ∈ GW := gw_i 1622 (by decide +kernel) rfl
theorem G1619 : Cond.methodLink "HookedCityModel" 224 ⟨"HookedCityModel", "begin", "(I)V"⟩ ∈ GW := gw_i 1619 (by decide +kernel) rfl
theorem V_HookedCityModel_224 : VL "HookedCityModel" 224 yX12_begin cX12_begin 2 none 1 := ⟨G1622, G1619, G131, by decide +kernel, by decide +kernel, by decide +kernel⟩
theorem G1621 : Cond.instanceMethod ⟨"HookedCityModel", "begin", "(I)V"⟩ ∈ GW := gw_i 1621 (by decide +kernel) rfl
theorem G47 : Cond.selects "HookedCityModel" ⟨"HookedCityModel", "begin", "(I)V"⟩ ⟨"HookedCityModel", "begin", "(I)V"⟩ ∈ GW := gw_i 47 (by decide +kernel) rfl
theorem dX12_city_7 : decode cX12_city 7 = .ok (.aload_n 0, 1) := by decide +kernel
theorem dX12_city_8 : decode cX12_city 8 = .ok (.invokevirtual 169, 3) := by decide +kernel
theorem G1458 : Cond.code ⟨"HookedCityModel", "startRead", "()V"⟩ prog_14_method_27_code 2 none ∈ GW := gw_i 1458 (by decide +kernel) rfl
theorem G1455 : Cond.methodLink "HookedCityModel" 169 ⟨"HookedCityModel", "startRead", "()V"⟩ ∈ GW := gw_i 1455 (by decide +kernel) rfl
theorem V_HookedCityModel_169 : VL "HookedCityModel" 169 yX12_startRead cX12_startRead 2 none 0 := ⟨G1458, G1455, G131, by decide +kernel, by decide +kernel, by decide +kernel⟩
theorem G1457 : Cond.instanceMethod ⟨"HookedCityModel", "startRead", "()V"⟩ ∈ GW := gw_i 1457 (by decide +kernel) rfl
theorem G45 : Cond.selects "HookedCityModel" ⟨"HookedCityModel", "startRead", "()V"⟩ ⟨"HookedCityModel", "startRead", "()V"⟩ ∈ GW := gw_i 45 (by decide +kernel) rfl
theorem dX12_city_11 : decode cX12_city 11 = .ok (.iconst 0, 1) := by decide +kernel
theorem dX12_city_12 : decode cX12_city 12 = .ok (.istore_n 1, 1) := by decide +kernel
theorem dX12_city_13 : decode cX12_city 13 = .ok (.aload_n 0, 1) := by decide +kernel
theorem dX12_city_14 : decode cX12_city 14 = .ok (.getfield 30, 3) := by decide +kernel
theorem dX12_city_17 : decode cX12_city 17 = .ok (.ifCond .eq 30, 3) := by decide +kernel
theorem dX12_city_47 : decode cX12_city 47 = .ok (.iconst 0, 1) := by decide +kernel
theorem dX12_city_48 : decode cX12_city 48 = .ok (.istore_n 2, 1) := by decide +kernel
theorem dX12_city_49 : decode cX12_city 49 = .ok (.iload_n 2, 1) := by decide +kernel
theorem dX12_city_50 : decode cX12_city 50 = .ok (.bipush 53, 2) := by decide +kernel
theorem dX12_city_52 : decode cX12_city 52 = .ok (.if_icmp .ge 21, 3) := by decide +kernel
theorem dX12_city_73 : decode cX12_city 73 = .ok (.iconst 0, 1) := by decide +kernel
theorem dX12_city_74 : decode cX12_city 74 = .ok (.istore_n 2, 1) := by decide +kernel
theorem dX12_city_75 : decode cX12_city 75 = .ok (.iload_n 2, 1) := by decide +kernel
theorem dX12_city_76 : decode cX12_city 76 = .ok (.bipush 12, 2) := by decide +kernel
theorem dX12_city_78 : decode cX12_city 78 = .ok (.if_icmp .ge 21, 3) := by decide +kernel
theorem dX12_city_99 : decode cX12_city 99 = .ok (.aload_n 0, 1) := by decide +kernel
theorem dX12_city_100 : decode cX12_city 100 = .ok (.invokevirtual 172, 3) := by decide +kernel
theorem G1462 : Cond.code ⟨"HookedCityModel", "startSo", "()V"⟩ prog_14_method_28_code 2 none ∈ GW := gw_i 1462 (by decide +kernel) rfl
theorem G1459 : Cond.methodLink "HookedCityModel" 172 ⟨"HookedCityModel", "startSo", "()V"⟩ ∈ GW := gw_i 1459 (by decide +kernel) rfl
theorem V_HookedCityModel_172 : VL "HookedCityModel" 172 yX12_startSo cX12_startSo 2 none 0 := ⟨G1462, G1459, G131, by decide +kernel, by decide +kernel, by decide +kernel⟩
theorem G1461 : Cond.instanceMethod ⟨"HookedCityModel", "startSo", "()V"⟩ ∈ GW := gw_i 1461 (by decide +kernel) rfl
theorem G46 : Cond.selects "HookedCityModel" ⟨"HookedCityModel", "startSo", "()V"⟩ ⟨"HookedCityModel", "startSo", "()V"⟩ ∈ GW := gw_i 46 (by decide +kernel) rfl
theorem dX12_city_103 : decode cX12_city 103 = .ok (.aload_n 0, 1) := by decide +kernel
theorem dX12_city_104 : decode cX12_city 104 = .ok (.iconst 0, 1) := by decide +kernel
theorem dX12_city_105 : decode cX12_city 105 = .ok (.putfield 233, 3) := by decide +kernel
theorem G1487 : Cond.fieldLink "HookedCityModel" 233 "HookedCityModel" "snapMany" "I" ∈ GW := gw_i 1487 (by decide +kernel) rfl
theorem dX12_city_108 : decode cX12_city 108 = .ok (.aload_n 0, 1) := by decide +kernel
theorem dX12_city_109 : decode cX12_city 109 = .ok (.iconst 0, 1) := by decide +kernel
theorem dX12_city_110 : decode cX12_city 110 = .ok (.putfield 236, 3) := by decide +kernel
theorem G1494 : Cond.fieldLink "HookedCityModel" 236 "HookedCityModel" "canTake" "Z" ∈ GW := gw_i 1494 (by decide +kernel) rfl
theorem dX12_city_113 : decode cX12_city 113 = .ok (.iload_n 1, 1) := by decide +kernel
theorem dX12_city_114 : decode cX12_city 114 = .ok (.ireturn, 1) := by decide +kernel
theorem dX12_city_81 : decode cX12_city 81 = .ok (.aload_n 0, 1) := by decide +kernel
theorem dX12_city_82 : decode cX12_city 82 = .ok (.getfield 113, 3) := by decide +kernel
theorem G1482 : Cond.fieldLink "HookedCityModel" 113 "HookedCityModel" "name" "[J" ∈ GW := gw_i 1482 (by decide +kernel) rfl
theorem dX12_city_85 : decode cX12_city 85 = .ok (.iload_n 2, 1) := by decide +kernel
theorem dX12_city_86 : decode cX12_city 86 = .ok (.aload_n 0, 1) := by decide +kernel
theorem dX12_city_87 : decode cX12_city 87 = .ok (.getfield 117, 3) := by decide +kernel
theorem dX12_city_90 : decode cX12_city 90 = .ok (.iload_n 2, 1) := by decide +kernel
theorem dX12_city_91 : decode cX12_city 91 = .ok (.laload, 1) := by decide +kernel
theorem dX12_city_92 : decode cX12_city 92 = .ok (.lastore, 1) := by decide +kernel
theorem dX12_city_93 : decode cX12_city 93 = .ok (.iinc 2 1, 3) := by decide +kernel
theorem dX12_city_96 : decode cX12_city 96 = .ok (.goto (-21), 3) := by decide +kernel
theorem dX12_city_55 : decode cX12_city 55 = .ok (.aload_n 0, 1) := by decide +kernel
theorem dX12_city_56 : decode cX12_city 56 = .ok (.getfield 98, 3) := by decide +kernel
theorem dX12_city_59 : decode cX12_city 59 = .ok (.iload_n 2, 1) := by decide +kernel
theorem dX12_city_60 : decode cX12_city 60 = .ok (.aload_n 0, 1) := by decide +kernel
theorem dX12_city_61 : decode cX12_city 61 = .ok (.getfield 101, 3) := by decide +kernel
theorem dX12_city_64 : decode cX12_city 64 = .ok (.iload_n 2, 1) := by decide +kernel
theorem dX12_city_65 : decode cX12_city 65 = .ok (.iaload, 1) := by decide +kernel
theorem dX12_city_66 : decode cX12_city 66 = .ok (.iastore, 1) := by decide +kernel
theorem dX12_city_67 : decode cX12_city 67 = .ok (.iinc 2 1, 3) := by decide +kernel
theorem dX12_city_70 : decode cX12_city 70 = .ok (.goto (-21), 3) := by decide +kernel
theorem dX12_city_20 : decode cX12_city 20 = .ok (.aload_n 0, 1) := by decide +kernel
theorem dX12_city_21 : decode cX12_city 21 = .ok (.invokevirtual 227, 3) := by decide +kernel
theorem G1646 : Cond.code ⟨"HookedCityModel", "readLine", "()Z"⟩ prog_14_method_40_code 1 (some .boolean) ∈ GW := gw_i 1646 (by decide +kernel) rfl
theorem G1643 : Cond.methodLink "HookedCityModel" 227 ⟨"HookedCityModel", "readLine", "()Z"⟩ ∈ GW := gw_i 1643 (by decide +kernel) rfl
theorem V_HookedCityModel_227 : VL "HookedCityModel" 227 yX12_readLine cX12_readLine 1 (some .boolean) 0 := ⟨G1646, G1643, G131, by decide +kernel, by decide +kernel, by decide +kernel⟩
theorem G1645 : Cond.instanceMethod ⟨"HookedCityModel", "readLine", "()Z"⟩ ∈ GW := gw_i 1645 (by decide +kernel) rfl
theorem G51 : Cond.selects "HookedCityModel" ⟨"HookedCityModel", "readLine", "()Z"⟩ ⟨"HookedCityModel", "readLine", "()Z"⟩ ∈ GW := gw_i 51 (by decide +kernel) rfl
theorem dX12_city_24 : decode cX12_city 24 = .ok (.ifCond .eq 10, 3) := by decide +kernel
theorem dX12_city_34 : decode cX12_city 34 = .ok (.iconst (-1), 1) := by decide +kernel
theorem dX12_city_35 : decode cX12_city 35 = .ok (.aload_n 0, 1) := by decide +kernel
theorem dX12_city_36 : decode cX12_city 36 = .ok (.getfield 69, 3) := by decide +kernel
theorem dX12_city_39 : decode cX12_city 39 = .ok (.isub, 1) := by decide +kernel
theorem dX12_city_40 : decode cX12_city 40 = .ok (.ireturn, 1) := by decide +kernel
theorem dX12_city_27 : decode cX12_city 27 = .ok (.aload_n 0, 1) := by decide +kernel
theorem dX12_city_28 : decode cX12_city 28 = .ok (.invokevirtual 230, 3) := by decide +kernel
theorem G1721 : Cond.code ⟨"HookedCityModel", "readEnd", "()Z"⟩ prog_14_method_24_code 1 (some .boolean) ∈ GW := gw_i 1721 (by decide +kernel) rfl
theorem G1718 : Cond.methodLink "HookedCityModel" 230 ⟨"HookedCityModel", "readEnd", "()Z"⟩ ∈ GW := gw_i 1718 (by decide +kernel) rfl
theorem V_HookedCityModel_230 : VL "HookedCityModel" 230 yX12_readEnd cX12_readEnd 1 (some .boolean) 0 := ⟨G1721, G1718, G131, by decide +kernel, by decide +kernel, by decide +kernel⟩
theorem G1720 : Cond.instanceMethod ⟨"HookedCityModel", "readEnd", "()Z"⟩ ∈ GW := gw_i 1720 (by decide +kernel) rfl
theorem G66 : Cond.selects "HookedCityModel" ⟨"HookedCityModel", "readEnd", "()Z"⟩ ⟨"HookedCityModel", "readEnd", "()Z"⟩ ∈ GW := gw_i 66 (by decide +kernel) rfl
theorem dX12_city_31 : decode cX12_city 31 = .ok (.ifCond .ne 10, 3) := by decide +kernel
theorem dX12_city_41 : decode cX12_city 41 = .ok (.iinc 1 1, 3) := by decide +kernel
theorem dX12_city_44 : decode cX12_city 44 = .ok (.goto (-31), 3) := by decide +kernel
set_option maxRecDepth 100000 in
set_option maxHeartbeats 4000000 in
theorem c66_X12_startSo (l : Launch) (D : va_G) (T : Nat → ClassId) (sz : Nat) (a0 : Nat) (r0 : Int32) (a1 : Nat) (x0 : Int) (x1 : Int) (x2 : Int) (x3 : Int) (x4 : Int) (x5 : Int) (r1 : Int32) (x6 : Int) (x7 : Int) (x8 : Int) (y0 : Int64) (x9 : Int) (a2 : Nat) (a3 : Nat) (a4 : Nat) (a5 : Nat) (a6 : Nat) (a7 : Nat) (a8 : Nat) (a9 : Nat) (a10 : Nat) (a11 : Nat) (x10 : Int) (a12 : Nat) (a13 : Nat) (a14 : Nat) (a15 : Nat) (x11 : Int) (r2 : Int32) (r3 : Int32) (a16 : Nat) (x12 : Int) (x13 : Int) (a17 : Nat) (a18 : Nat) (x14 : Int) (a19 : Nat) (x15 : Int) (r4 : Int32) (a20 : Nat) (a21 : Nat) (x16 : Int) (r5 : Int32) (a22 : Nat) (x17 : Int) (x18 : Int) (x19 : Int) (x20 : Int) (f0 : Int → Int) (x0_a : 0 ≤ x0) (x0_b : x0 ≤ 940) (x1_a : 0 ≤ x1) (x1_b : x1 ≤ 940) (x2_a : 0 ≤ x2) (x2_b : x2 ≤ 940) (x3_a : 0 ≤ x3) (x3_b : x3 ≤ 940) (x4_a : 0 ≤ x4) (x4_b : x4 ≤ 940) (x5_a : 0 ≤ x5) (x5_b : x5 ≤ 4) (x6_a : (-2147483648) ≤ x6) (x6_b : x6 ≤ 2147483647) (x7_a : (-2147483648) ≤ x7) (x7_b : x7 ≤ 2147483647) (x8_a : 0 ≤ x8) (x8_b : x8 ≤ 940) (x9_a : (-2147483648) ≤ x9) (x9_b : x9 ≤ 2147483647) (x10_a : 0 ≤ x10) (x10_b : x10 ≤ 8) (x11_a : 0 ≤ x11) (x11_b : x11 ≤ 9) (x12_a : (-1) ≤ x12) (x12_b : x12 ≤ 9) (x13_a : (-1) ≤ x13) (x13_b : x13 ≤ 8) (x14_a : 0 ≤ x14) (x14_b : x14 ≤ 9) (x15_a : 0 ≤ x15) (x15_b : x15 ≤ 64) (x16_a : 0 ≤ x16) (x16_b : x16 ≤ 40) (x17_a : 0 ≤ x17) (x17_b : x17 ≤ 40) (x18_a : 0 ≤ x18) (x18_b : x18 ≤ 20) (x19_a : 0 ≤ x19) (x19_b : x19 ≤ 8) (x20_a : 0 ≤ x20) (x20_b : x20 ≤ 39) (f0_h : nowI f0) (pp_r : rdI f0) : Met l yX12_startSo (Cond.code yX12_startSo cX12_startSo 2 none :: GW) (Rm 0 0 0) (cPre [.ref a0] D T [(a0, .inr (11, [.int r0, .ref a1, .int (iI x0), .int (iI x1), .int (iI x2), .int (iI x3), .int (iI x4), .int (iI x5), .int r1, .int (iI x6), .int (iI x7), .int (iI x8), .long y0, .int (iI x9), .ref a2, .ref a3, .ref a4, .ref a5, .ref a6, .ref a7, .ref a8, .ref a9, .ref a10, .ref a11, .int (iI x10), .ref a12, .ref a13, .ref a14, .ref a15, .int (iI x11), .int r2, .int r3, .ref a16, .int (iI x12), .int (iI x13), .ref a17, .ref a18, .int (iI x14), .ref a19, .int (iI x15), .int r4, .ref a20, .ref a21, .int (iI x16), .int r5, .ref a22, .int (iI x17), .int (iI x18), .int (iI x19), .int (iI x20)])), (a2, .inl (T 0, 329, .inl (cI f0)))] sz) (qV D [(a0, .inr (11, [.int r0, .ref a1, .int (iI x0), .int (iI x1), .int (iI x2), .int (iI x3), .int (iI x4), .int (iI x5), .int r1, .int (iI x6), .int (iI x7), .int (iI x8), .long y0, .int (iI x9), .ref a2, .ref a3, .ref a4, .ref a5, .ref a6, .ref a7, .ref a8, .ref a9, .ref a10, .ref a11, .int (iI x10), .ref a12, .ref a13, .ref a14, .ref a15, .int (iI x11), .int r2, .int r3, .ref a16, .int (iI x12), .int (iI x13), .ref a17, .ref a18, .int (iI x14), .ref a19, .int (iI x15), .int r4, .ref a20, .ref a21, .int (iI x16), .int r5, .ref a22, .int (iI x17), .int (iI x18), .int (iI x19), .int (iI x20)])), (a2, .inl (T 0, 329, .inl (cI f0)))] sz (fun (u : (Int → Int)) => nowI u ∧ (∀ i : Int, 0 ≤ i → i < 53 → u i = f0 i)) (fun u => [(a0, .inr (11, [.int r0, .ref a1, .int (iI x0), .int (iI x1), .int (iI x2), .int (iI x3), .int (iI x4), .int (iI x5), .int r1, .int (iI x6), .int (iI x7), .int (iI x8), .long y0, .int (iI x9), .ref a2, .ref a3, .ref a4, .ref a5, .ref a6, .ref a7, .ref a8, .ref a9, .ref a10, .ref a11, .int (iI x10), .ref a12, .ref a13, .ref a14, .ref a15, .int (iI x11), .int r2, .int r3, .ref a16, .int (iI x12), .int (iI x13), .ref a17, .ref a18, .int (iI x14), .ref a19, .int (iI x15), .int r4, .ref a20, .ref a21, .int (iI x16), .int r5, .ref a22, .int (iI x17), .int (iI x18), .int (iI x19), .int (iI x20)])), (a2, .inl (T 0, 329, .inl (cI u)))])) 0 0 (va_A [(a0, .inr (11, [.int r0, .ref a1, .int (iI x0), .int (iI x1), .int (iI x2), .int (iI x3), .int (iI x4), .int (iI x5), .int r1, .int (iI x6), .int (iI x7), .int (iI x8), .long y0, .int (iI x9), .ref a2, .ref a3, .ref a4, .ref a5, .ref a6, .ref a7, .ref a8, .ref a9, .ref a10, .ref a11, .int (iI x10), .ref a12, .ref a13, .ref a14, .ref a15, .int (iI x11), .int r2, .int r3, .ref a16, .int (iI x12), .int (iI x13), .ref a17, .ref a18, .int (iI x14), .ref a19, .int (iI x15), .int r4, .ref a20, .ref a21, .int (iI x16), .int r5, .ref a22, .int (iI x17), .int (iI x18), .int (iI x19), .int (iI x20)])), (a2, .inl (T 0, 329, .inl (cI f0)))] sz) := by
  refine e_V (by decide) (Nat.le_of_ble_eq_true rfl) ?_
  intro p e s m args below meth c A Q ls M hin w ret hl
  have hx := M.1.1
  have hb := M.1.2.1
  have hl : lv_has ls 2 [(0, .ref a0)] := hl
  refine lv_bipush (v := iI 53) hx hb dX12_startSo_0 (by decide +kernel) ?_
  refine lv_istore_n (lv' := [(1, .int (iI 53)), (0, .ref a0)]) hx hb dX12_startSo_2 rfl hl (by decide) rfl (fun ls hl => ?_)
  have w := WD.eq (ws' := [(a0, .inr (11, [.int r0, .ref a1, .int (iI x0), .int (iI x1), .int (iI x2), .int (iI x3), .int (iI x4), .int (iI x5), .int r1, .int (iI x6), .int (iI x7), .int (iI x8), .long y0, .int (iI x9), .ref a2, .ref a3, .ref a4, .ref a5, .ref a6, .ref a7, .ref a8, .ref a9, .ref a10, .ref a11, .int (iI x10), .ref a12, .ref a13, .ref a14, .ref a15, .int (iI x11), .int r2, .int r3, .ref a16, .int (iI x12), .int (iI x13), .ref a17, .ref a18, .int (iI x14), .ref a19, .int (iI x15), .int r4, .ref a20, .ref a21, .int (iI x16), .int r5, .ref a22, .int (iI x17), .int (iI x18), .int (iI x19), .int (iI x20)])), (a2, .inl (T 0, 329, .inl (cI (rgz 53 53 0 f0))))]) (by rw [rgz_0 (lo := 53) (hi := 53) (x := 0) (c := f0) (by decide)]) w
  have loop1 : ∀ (k1 : Nat) (z1 : Int) (H : Heap) (locs : List Loc) (ls : Array Slot), 53 ≤ z1 → z1 ≤ 329 → ((329 - z1) : Int).toNat < k1 → WD D A s.heap [(a0, .inr (11, [.int r0, .ref a1, .int (iI x0), .int (iI x1), .int (iI x2), .int (iI x3), .int (iI x4), .int (iI x5), .int r1, .int (iI x6), .int (iI x7), .int (iI x8), .long y0, .int (iI x9), .ref a2, .ref a3, .ref a4, .ref a5, .ref a6, .ref a7, .ref a8, .ref a9, .ref a10, .ref a11, .int (iI x10), .ref a12, .ref a13, .ref a14, .ref a15, .int (iI x11), .int r2, .int r3, .ref a16, .int (iI x12), .int (iI x13), .ref a17, .ref a18, .int (iI x14), .ref a19, .int (iI x15), .int r4, .ref a20, .ref a21, .int (iI x16), .int r5, .ref a22, .int (iI x17), .int (iI x18), .int (iI x19), .int (iI x20)])), (a2, .inl (T 0, 329, .inl (cI (rgz 53 z1 0 f0))))] H locs → lv_has ls 2 [(1, .int (iI z1)), (0, .ref a0)] → W p l e (Rm 0 0 0) s m args below meth c H locs 0 0 Q (F0 m 3 ls []) := by
    intro k1
    induction k1 with
    | zero => intro z1 H locs ls z1_a z1_b hm; exact absurd hm (Nat.not_lt_zero _)
    | succ k1 ih1 =>
      intro z1 H locs ls z1_a z1_b hm1 w hl
      refine lv_iload_n hx hb dX12_startSo_3 rfl (lv_at hl 0 rfl) ?_
      refine lv_sipush (v := iI 329) hx hb dX12_startSo_4 (by decide +kernel) ?_
      refine lv_icmp_ge (tgt := 23) hx hb dX12_startSo_7 (by decide) (fun c_2 => ?_) (fun c_2 => ?_)
      · replace c_2 := (iI_le (by decide) (by decide) (Int.le_trans (by decide) z1_a) (Int.le_trans z1_b (by decide))).mp c_2
        obtain rfl : z1 = 329 := by omega
        refine lv_aload_n hx hb dX12_startSo_23 rfl (lv_at hl 1 rfl) ?_
        refine r_get (v := .ref a2) M w 0 14 clX12 rfl (by decide) G1477 rfl rfl dX12_startSo_24 ?_
        refine lv_bipush (v := iI 54) hx hb dX12_startSo_27 (by decide +kernel) ?_
        refine lv_aload_n hx hb dX12_startSo_29 rfl (lv_at hl 1 rfl) ?_
        refine r_get (v := .ref a2) M w 0 14 clX12 rfl (by decide) G1477 rfl rfl dX12_startSo_30 ?_
        refine lv_iconst (v := iI 2) hx hb dX12_startSo_33 (by decide +kernel) ?_
        refine r_iald (v := iI ((rgz 53 329 0 f0) 2)) M w 1 rfl (iI_in (by decide) (by decide) (by decide)) (cI_at (by omega) (by omega)) dX12_startSo_34 ?_
        have hh3 : (-2147483648) ≤ ((rgz 53 329 0 f0) 2) ∧ ((rgz 53 329 0 f0) 2) ≤ 2147483647 := (FL_rg f0_h.1 (by decide) (by decide)) 2
        refine r_iast (ws' := [(a0, .inr (11, [.int r0, .ref a1, .int (iI x0), .int (iI x1), .int (iI x2), .int (iI x3), .int (iI x4), .int (iI x5), .int r1, .int (iI x6), .int (iI x7), .int (iI x8), .long y0, .int (iI x9), .ref a2, .ref a3, .ref a4, .ref a5, .ref a6, .ref a7, .ref a8, .ref a9, .ref a10, .ref a11, .int (iI x10), .ref a12, .ref a13, .ref a14, .ref a15, .int (iI x11), .int r2, .int r3, .ref a16, .int (iI x12), .int (iI x13), .ref a17, .ref a18, .int (iI x14), .ref a19, .int (iI x15), .int r4, .ref a20, .ref a21, .int (iI x16), .int r5, .ref a22, .int (iI x17), .int (iI x18), .int (iI x19), .int (iI x20)])), (a2, .inl (T 0, 329, .inl (cI (upz (rgz 53 329 0 f0) 54 ((rgz 53 329 0 f0) 2)))))]) M w 1 rfl (iI_in (by decide) (by decide) (by decide)) (by rw [cI_up (by omega) (by omega)]; rfl) dX12_startSo_35 (fun H locs w => ?_)
        refine lv_iconst (v := iI 0) hx hb dX12_startSo_36 (by decide +kernel) ?_
        refine lv_istore_n (lv' := [(1, .int (iI 0)), (0, .ref a0)]) hx hb dX12_startSo_37 rfl hl (by decide) rfl (fun ls hl => ?_)
        have w := WD.eq (ws' := [(a0, .inr (11, [.int r0, .ref a1, .int (iI x0), .int (iI x1), .int (iI x2), .int (iI x3), .int (iI x4), .int (iI x5), .int r1, .int (iI x6), .int (iI x7), .int (iI x8), .long y0, .int (iI x9), .ref a2, .ref a3, .ref a4, .ref a5, .ref a6, .ref a7, .ref a8, .ref a9, .ref a10, .ref a11, .int (iI x10), .ref a12, .ref a13, .ref a14, .ref a15, .int (iI x11), .int r2, .int r3, .ref a16, .int (iI x12), .int (iI x13), .ref a17, .ref a18, .int (iI x14), .ref a19, .int (iI x15), .int r4, .ref a20, .ref a21, .int (iI x16), .int r5, .ref a22, .int (iI x17), .int (iI x18), .int (iI x19), .int (iI x20)])), (a2, .inl (T 0, 329, .inl (cI (so2 0 (upz (rgz 53 329 0 f0) 54 ((rgz 53 329 0 f0) 2))))))]) (by rw [so2_0 (k := 0) (c := (upz (rgz 53 329 0 f0) 54 ((rgz 53 329 0 f0) 2))) (by decide)]) w
        have loop2 : ∀ (k2 : Nat) (z4 : Int) (H : Heap) (locs : List Loc) (ls : Array Slot), 0 ≤ z4 → z4 ≤ 9 → ((9 - z4) : Int).toNat < k2 → WD D A s.heap [(a0, .inr (11, [.int r0, .ref a1, .int (iI x0), .int (iI x1), .int (iI x2), .int (iI x3), .int (iI x4), .int (iI x5), .int r1, .int (iI x6), .int (iI x7), .int (iI x8), .long y0, .int (iI x9), .ref a2, .ref a3, .ref a4, .ref a5, .ref a6, .ref a7, .ref a8, .ref a9, .ref a10, .ref a11, .int (iI x10), .ref a12, .ref a13, .ref a14, .ref a15, .int (iI x11), .int r2, .int r3, .ref a16, .int (iI x12), .int (iI x13), .ref a17, .ref a18, .int (iI x14), .ref a19, .int (iI x15), .int r4, .ref a20, .ref a21, .int (iI x16), .int r5, .ref a22, .int (iI x17), .int (iI x18), .int (iI x19), .int (iI x20)])), (a2, .inl (T 0, 329, .inl (cI (so2 z4 (upz (rgz 53 329 0 f0) 54 ((rgz 53 329 0 f0) 2))))))] H locs → lv_has ls 2 [(1, .int (iI z4)), (0, .ref a0)] → W p l e (Rm 0 0 0) s m args below meth c H locs 0 0 Q (F0 m 38 ls []) := by
          intro k2
          induction k2 with
          | zero => intro z4 H locs ls z4_a z4_b hm; exact absurd hm (Nat.not_lt_zero _)
          | succ k2 ih2 =>
            intro z4 H locs ls z4_a z4_b hm2 w hl
            refine lv_iload_n hx hb dX12_startSo_38 rfl (lv_at hl 0 rfl) ?_
            refine lv_bipush (v := iI 9) hx hb dX12_startSo_39 (by decide +kernel) ?_
            refine lv_icmp_ge (tgt := 96) hx hb dX12_startSo_41 (by decide) (fun c_5 => ?_) (fun c_5 => ?_)
            · replace c_5 := (iI_le (by decide) (by decide) (Int.le_trans (by decide) z4_a) (Int.le_trans z4_b (by decide))).mp c_5
              obtain rfl : z4 = 9 := by omega
              refine lv_iconst (v := iI 0) hx hb dX12_startSo_96 (by decide +kernel) ?_
              refine lv_istore_n (lv' := [(1, .int (iI 0)), (0, .ref a0)]) hx hb dX12_startSo_97 rfl hl (by decide) rfl (fun ls hl => ?_)
              have loop3 : ∀ (k3 : Nat) (ff6 : Int → Int) (z7 : Int) (H : Heap) (locs : List Loc) (ls : Array Slot), so3 z7 ff6 → 0 ≤ z7 → z7 ≤ 9 → (∀ i : Int, 0 ≤ i → i < 53 → ff6 i = f0 i) → ((9 - z7) : Int).toNat < k3 → WD D A s.heap [(a0, .inr (11, [.int r0, .ref a1, .int (iI x0), .int (iI x1), .int (iI x2), .int (iI x3), .int (iI x4), .int (iI x5), .int r1, .int (iI x6), .int (iI x7), .int (iI x8), .long y0, .int (iI x9), .ref a2, .ref a3, .ref a4, .ref a5, .ref a6, .ref a7, .ref a8, .ref a9, .ref a10, .ref a11, .int (iI x10), .ref a12, .ref a13, .ref a14, .ref a15, .int (iI x11), .int r2, .int r3, .ref a16, .int (iI x12), .int (iI x13), .ref a17, .ref a18, .int (iI x14), .ref a19, .int (iI x15), .int r4, .ref a20, .ref a21, .int (iI x16), .int r5, .ref a22, .int (iI x17), .int (iI x18), .int (iI x19), .int (iI x20)])), (a2, .inl (T 0, 329, .inl (cI ff6)))] H locs → lv_has ls 2 [(1, .int (iI z7)), (0, .ref a0)] → W p l e (Rm 0 0 0) s m args below meth c H locs 0 0 Q (F0 m 98 ls []) := by
                intro k3
                induction k3 with
                | zero => intro ff6 z7 H locs ls ff6_h z7_a z7_b lq3_h hm; exact absurd hm (Nat.not_lt_zero _)
                | succ k3 ih3 =>
                  intro ff6 z7 H locs ls ff6_h z7_a z7_b lq3_h hm3 w hl
                  refine lv_iload_n hx hb dX12_startSo_98 rfl (lv_at hl 0 rfl) ?_
                  refine lv_bipush (v := iI 9) hx hb dX12_startSo_99 (by decide +kernel) ?_
                  refine lv_icmp_ge (tgt := 141) hx hb dX12_startSo_101 (by decide) (fun c_8 => ?_) (fun c_8 => ?_)
                  · replace c_8 := (iI_le (by decide) (by decide) (Int.le_trans (by decide) z7_a) (Int.le_trans z7_b (by decide))).mp c_8
                    exact ret ff6 _ _ _ _ _ [0, 1] dX12_startSo_141 ⟨(so3_now ff6_h (by omega)), (show ∀ i : Int, 0 ≤ i → i < 53 → ff6 i = f0 i from lq3_h)⟩ w (by decide) rfl
                  · replace c_8 : z7 < 9 := Int.not_le.mp (fun h => c_8 ((iI_le (by decide) (by decide) (Int.le_trans (by decide) z7_a) (Int.le_trans z7_b (by decide))).mpr h))
                    refine lv_aload_n hx hb dX12_startSo_104 rfl (lv_at hl 1 rfl) ?_
                    refine r_get (v := .ref a2) M w 0 14 clX12 rfl (by decide) G1477 rfl rfl dX12_startSo_105 ?_
                    refine lv_bipush (v := iI 57) hx hb dX12_startSo_108 (by decide +kernel) ?_
                    refine lv_iload_n hx hb dX12_startSo_110 rfl (lv_at hl 0 rfl) ?_
                    refine r_iadd (v := iI (57 + z7)) M (iI_add _ _) dX12_startSo_111 ?_
                    refine r_iald (v := iI (ff6 (57 + z7))) M w 1 rfl (iI_in (by omega) (by omega) (by decide)) (cI_at (by omega) (by omega)) dX12_startSo_112 ?_
                    have hh9 : (-2147483648) ≤ (ff6 (57 + z7)) ∧ (ff6 (57 + z7)) ≤ 2147483647 := ff6_h.1 (57 + z7)
                    have hh10 : (-1) ≤ (ff6 (57 + z7)) ∧ (ff6 (57 + z7)) ≤ 8 := (ff6_h.2.1 (57 + z7)).2.2.2.1 (by omega) (by omega)
                    refine lv_iconst (v := iI (-1)) hx hb dX12_startSo_113 (by decide +kernel) ?_
                    refine lv_icmp_eq (tgt := 135) hx hb dX12_startSo_114 (by decide) (fun c_11 => ?_) (fun c_11 => ?_)
                    · replace c_11 := (iI_eq (by omega) (by omega) (by decide) (by decide)).mp c_11
                      refine lv_iinc (v := iI (z7 + 1)) (lv' := [(1, .int (iI (z7 + 1))), (0, .ref a0)]) hx hb dX12_startSo_135 hl (k := 0) rfl (ii_inc (by decide +kernel)) (by decide) rfl (fun ls hl => ?_)
                      refine lv_goto (tgt := 98) hx hb dX12_startSo_138 (by decide) ?_
                      exact ih3 ff6 (z7 + 1) _ _ _ (so3_no ff6_h (by omega) (by omega)) (by omega) (by omega) lq3_h (by omega) w (lv_sub hl [0, 1] rfl)
                    · replace c_11 : ¬ (ff6 (57 + z7)) = (-1) := fun h => c_11 ((iI_eq (by omega) (by omega) (by decide) (by decide)).mpr h)
                      refine lv_aload_n hx hb dX12_startSo_117 rfl (lv_at hl 1 rfl) ?_
                      refine r_get (v := .ref a2) M w 0 14 clX12 rfl (by decide) G1477 rfl rfl dX12_startSo_118 ?_
                      refine lv_bipush (v := iI 66) hx hb dX12_startSo_121 (by decide +kernel) ?_
                      refine lv_aload_n hx hb dX12_startSo_123 rfl (lv_at hl 1 rfl) ?_
                      refine r_get (v := .ref a2) M w 0 14 clX12 rfl (by decide) G1477 rfl rfl dX12_startSo_124 ?_
                      refine lv_bipush (v := iI 57) hx hb dX12_startSo_127 (by decide +kernel) ?_
                      refine lv_iload_n hx hb dX12_startSo_129 rfl (lv_at hl 0 rfl) ?_
                      refine r_iadd (v := iI (57 + z7)) M (iI_add _ _) dX12_startSo_130 ?_
                      refine r_iald (v := iI (ff6 (57 + z7))) M w 1 rfl (iI_in (by omega) (by omega) (by decide)) (cI_at (by omega) (by omega)) dX12_startSo_131 ?_
                      have hh12 : (-2147483648) ≤ (ff6 (57 + z7)) ∧ (ff6 (57 + z7)) ≤ 2147483647 := ff6_h.1 (57 + z7)
                      have hh13 : (-1) ≤ (ff6 (57 + z7)) ∧ (ff6 (57 + z7)) ≤ 8 := (ff6_h.2.1 (57 + z7)).2.2.2.1 (by omega) (by omega)
                      refine r_iadd (v := iI (66 + (ff6 (57 + z7)))) M (iI_add _ _) dX12_startSo_132 ?_
                      refine lv_iload_n hx hb dX12_startSo_133 rfl (lv_at hl 0 rfl) ?_
                      refine r_iast (ws' := [(a0, .inr (11, [.int r0, .ref a1, .int (iI x0), .int (iI x1), .int (iI x2), .int (iI x3), .int (iI x4), .int (iI x5), .int r1, .int (iI x6), .int (iI x7), .int (iI x8), .long y0, .int (iI x9), .ref a2, .ref a3, .ref a4, .ref a5, .ref a6, .ref a7, .ref a8, .ref a9, .ref a10, .ref a11, .int (iI x10), .ref a12, .ref a13, .ref a14, .ref a15, .int (iI x11), .int r2, .int r3, .ref a16, .int (iI x12), .int (iI x13), .ref a17, .ref a18, .int (iI x14), .ref a19, .int (iI x15), .int r4, .ref a20, .ref a21, .int (iI x16), .int r5, .ref a22, .int (iI x17), .int (iI x18), .int (iI x19), .int (iI x20)])), (a2, .inl (T 0, 329, .inl (cI (upz ff6 (66 + (ff6 (57 + z7))) z7))))]) M w 1 rfl (iI_in (by omega) (by omega) (by decide)) (by rw [cI_up (by omega) (by omega)]; rfl) dX12_startSo_134 (fun H locs w => ?_)
                      refine lv_iinc (v := iI (z7 + 1)) (lv' := [(1, .int (iI (z7 + 1))), (0, .ref a0)]) hx hb dX12_startSo_135 hl (k := 0) rfl (ii_inc (by decide +kernel)) (by decide) rfl (fun ls hl => ?_)
                      refine lv_goto (tgt := 98) hx hb dX12_startSo_138 (by decide) ?_
                      exact ih3 (upz ff6 (66 + (ff6 (57 + z7))) z7) (z7 + 1) _ _ _ (so3_up ff6_h (by omega) (by omega) (by omega) (by omega) (by omega)) (by omega) (by omega) (fun i i0 i1 => by rw [upz_n (by omega)]; exact lq3_h i i0 i1) (by omega) w (lv_sub hl [0, 1] rfl)
              exact loop3 ((9 : Int).toNat + 1) (so2 9 (upz (rgz 53 329 0 f0) 54 ((rgz 53 329 0 f0) 2))) 0 _ _ _ (so3_0 pp_r f0_h (by omega) (by omega)) (by decide) (by decide) (fun i i0 i1 => by rw [so2_lo (by omega), upz_n (by omega)]; simp only [rgz]; rw [if_neg (by omega)]) (Nat.lt_succ_self _) w (lv_sub hl [0, 1] rfl)
            · replace c_5 : z4 < 9 := Int.not_le.mp (fun h => c_5 ((iI_le (by decide) (by decide) (Int.le_trans (by decide) z4_a) (Int.le_trans z4_b (by decide))).mpr h))
              refine lv_aload_n hx hb dX12_startSo_44 rfl (lv_at hl 1 rfl) ?_
              refine r_get (v := .ref a2) M w 0 14 clX12 rfl (by decide) G1477 rfl rfl dX12_startSo_45 ?_
              refine lv_bipush (v := iI 57) hx hb dX12_startSo_48 (by decide +kernel) ?_
              refine lv_iload_n hx hb dX12_startSo_50 rfl (lv_at hl 0 rfl) ?_
              refine r_iadd (v := iI (57 + z4)) M (iI_add _ _) dX12_startSo_51 ?_
              refine lv_aload_n hx hb dX12_startSo_52 rfl (lv_at hl 1 rfl) ?_
              refine r_get (v := .ref a2) M w 0 14 clX12 rfl (by decide) G1477 rfl rfl dX12_startSo_53 ?_
              refine lv_bipush (v := iI 32) hx hb dX12_startSo_56 (by decide +kernel) ?_
              refine lv_iload_n hx hb dX12_startSo_58 rfl (lv_at hl 0 rfl) ?_
              refine r_iadd (v := iI (32 + z4)) M (iI_add _ _) dX12_startSo_59 ?_
              refine r_iald (v := iI ((so2 z4 (upz (rgz 53 329 0 f0) 54 ((rgz 53 329 0 f0) 2))) (32 + z4))) M w 1 rfl (iI_in (by omega) (by omega) (by decide)) (cI_at (by omega) (by omega)) dX12_startSo_60 ?_
              have hh14 : (-2147483648) ≤ ((so2 z4 (upz (rgz 53 329 0 f0) 54 ((rgz 53 329 0 f0) 2))) (32 + z4)) ∧ ((so2 z4 (upz (rgz 53 329 0 f0) 54 ((rgz 53 329 0 f0) 2))) (32 + z4)) ≤ 2147483647 := (so2_fl (FL_up (FL_rg f0_h.1 (by decide) (by decide)) (by omega) (by omega))) (32 + z4)
              refine r_iast (ws' := [(a0, .inr (11, [.int r0, .ref a1, .int (iI x0), .int (iI x1), .int (iI x2), .int (iI x3), .int (iI x4), .int (iI x5), .int r1, .int (iI x6), .int (iI x7), .int (iI x8), .long y0, .int (iI x9), .ref a2, .ref a3, .ref a4, .ref a5, .ref a6, .ref a7, .ref a8, .ref a9, .ref a10, .ref a11, .int (iI x10), .ref a12, .ref a13, .ref a14, .ref a15, .int (iI x11), .int r2, .int r3, .ref a16, .int (iI x12), .int (iI x13), .ref a17, .ref a18, .int (iI x14), .ref a19, .int (iI x15), .int r4, .ref a20, .ref a21, .int (iI x16), .int r5, .ref a22, .int (iI x17), .int (iI x18), .int (iI x19), .int (iI x20)])), (a2, .inl (T 0, 329, .inl (cI (upz (so2 z4 (upz (rgz 53 329 0 f0) 54 ((rgz 53 329 0 f0) 2))) (57 + z4) ((so2 z4 (upz (rgz 53 329 0 f0) 54 ((rgz 53 329 0 f0) 2))) (32 + z4))))))]) M w 1 rfl (iI_in (by omega) (by omega) (by decide)) (by rw [cI_up (by omega) (by omega)]; rfl) dX12_startSo_61 (fun H locs w => ?_)
              refine lv_aload_n hx hb dX12_startSo_62 rfl (lv_at hl 1 rfl) ?_
              refine r_get (v := .ref a2) M w 0 14 clX12 rfl (by decide) G1477 rfl rfl dX12_startSo_63 ?_
              refine lv_bipush (v := iI 66) hx hb dX12_startSo_66 (by decide +kernel) ?_
              refine lv_iload_n hx hb dX12_startSo_68 rfl (lv_at hl 0 rfl) ?_
              refine r_iadd (v := iI (66 + z4)) M (iI_add _ _) dX12_startSo_69 ?_
              refine lv_iconst (v := iI (-1)) hx hb dX12_startSo_70 (by decide +kernel) ?_
              refine r_iast (ws' := [(a0, .inr (11, [.int r0, .ref a1, .int (iI x0), .int (iI x1), .int (iI x2), .int (iI x3), .int (iI x4), .int (iI x5), .int r1, .int (iI x6), .int (iI x7), .int (iI x8), .long y0, .int (iI x9), .ref a2, .ref a3, .ref a4, .ref a5, .ref a6, .ref a7, .ref a8, .ref a9, .ref a10, .ref a11, .int (iI x10), .ref a12, .ref a13, .ref a14, .ref a15, .int (iI x11), .int r2, .int r3, .ref a16, .int (iI x12), .int (iI x13), .ref a17, .ref a18, .int (iI x14), .ref a19, .int (iI x15), .int r4, .ref a20, .ref a21, .int (iI x16), .int r5, .ref a22, .int (iI x17), .int (iI x18), .int (iI x19), .int (iI x20)])), (a2, .inl (T 0, 329, .inl (cI (upz (upz (so2 z4 (upz (rgz 53 329 0 f0) 54 ((rgz 53 329 0 f0) 2))) (57 + z4) ((so2 z4 (upz (rgz 53 329 0 f0) 54 ((rgz 53 329 0 f0) 2))) (32 + z4))) (66 + z4) (-1)))))]) M w 1 rfl (iI_in (by omega) (by omega) (by decide)) (by rw [cI_up (by omega) (by omega)]; rfl) dX12_startSo_71 (fun H locs w => ?_)
              refine lv_aload_n hx hb dX12_startSo_72 rfl (lv_at hl 1 rfl) ?_
              refine r_get (v := .ref a2) M w 0 14 clX12 rfl (by decide) G1477 rfl rfl dX12_startSo_73 ?_
              refine lv_bipush (v := iI 75) hx hb dX12_startSo_76 (by decide +kernel) ?_
              refine lv_iload_n hx hb dX12_startSo_78 rfl (lv_at hl 0 rfl) ?_
              refine r_iadd (v := iI (75 + z4)) M (iI_add _ _) dX12_startSo_79 ?_
              refine lv_aload_n hx hb dX12_startSo_80 rfl (lv_at hl 1 rfl) ?_
              refine r_get (v := .ref a2) M w 0 14 clX12 rfl (by decide) G1477 rfl rfl dX12_startSo_81 ?_
              refine lv_bipush (v := iI 23) hx hb dX12_startSo_84 (by decide +kernel) ?_
              refine lv_iload_n hx hb dX12_startSo_86 rfl (lv_at hl 0 rfl) ?_
              refine r_iadd (v := iI (23 + z4)) M (iI_add _ _) dX12_startSo_87 ?_
              refine r_iald (v := iI ((so2 z4 (upz (rgz 53 329 0 f0) 54 ((rgz 53 329 0 f0) 2))) (23 + z4))) M w 1 rfl (iI_in (by omega) (by omega) (by decide)) ((cI_at (by omega) (by omega)).trans (congrArg iI (by rw [upz_n (by omega), upz_n (by omega)]))) dX12_startSo_88 ?_
              have hh15 : (-2147483648) ≤ ((so2 z4 (upz (rgz 53 329 0 f0) 54 ((rgz 53 329 0 f0) 2))) (23 + z4)) ∧ ((so2 z4 (upz (rgz 53 329 0 f0) 54 ((rgz 53 329 0 f0) 2))) (23 + z4)) ≤ 2147483647 := (so2_fl (FL_up (FL_rg f0_h.1 (by decide) (by decide)) (by omega) (by omega))) (23 + z4)
              refine r_iast (ws' := [(a0, .inr (11, [.int r0, .ref a1, .int (iI x0), .int (iI x1), .int (iI x2), .int (iI x3), .int (iI x4), .int (iI x5), .int r1, .int (iI x6), .int (iI x7), .int (iI x8), .long y0, .int (iI x9), .ref a2, .ref a3, .ref a4, .ref a5, .ref a6, .ref a7, .ref a8, .ref a9, .ref a10, .ref a11, .int (iI x10), .ref a12, .ref a13, .ref a14, .ref a15, .int (iI x11), .int r2, .int r3, .ref a16, .int (iI x12), .int (iI x13), .ref a17, .ref a18, .int (iI x14), .ref a19, .int (iI x15), .int r4, .ref a20, .ref a21, .int (iI x16), .int r5, .ref a22, .int (iI x17), .int (iI x18), .int (iI x19), .int (iI x20)])), (a2, .inl (T 0, 329, .inl (cI (upz (upz (upz (so2 z4 (upz (rgz 53 329 0 f0) 54 ((rgz 53 329 0 f0) 2))) (57 + z4) ((so2 z4 (upz (rgz 53 329 0 f0) 54 ((rgz 53 329 0 f0) 2))) (32 + z4))) (66 + z4) (-1)) (75 + z4) ((so2 z4 (upz (rgz 53 329 0 f0) 54 ((rgz 53 329 0 f0) 2))) (23 + z4))))))]) M w 1 rfl (iI_in (by omega) (by omega) (by decide)) (by rw [cI_up (by omega) (by omega)]; rfl) dX12_startSo_89 (fun H locs w => ?_)
              refine lv_iinc (v := iI (z4 + 1)) (lv' := [(1, .int (iI (z4 + 1))), (0, .ref a0)]) hx hb dX12_startSo_90 hl (k := 0) rfl (ii_inc (by decide +kernel)) (by decide) rfl (fun ls hl => ?_)
              refine lv_goto (tgt := 38) hx hb dX12_startSo_93 (by decide) ?_
              have w := WD.eq (ws' := [(a0, .inr (11, [.int r0, .ref a1, .int (iI x0), .int (iI x1), .int (iI x2), .int (iI x3), .int (iI x4), .int (iI x5), .int r1, .int (iI x6), .int (iI x7), .int (iI x8), .long y0, .int (iI x9), .ref a2, .ref a3, .ref a4, .ref a5, .ref a6, .ref a7, .ref a8, .ref a9, .ref a10, .ref a11, .int (iI x10), .ref a12, .ref a13, .ref a14, .ref a15, .int (iI x11), .int r2, .int r3, .ref a16, .int (iI x12), .int (iI x13), .ref a17, .ref a18, .int (iI x14), .ref a19, .int (iI x15), .int r4, .ref a20, .ref a21, .int (iI x16), .int r5, .ref a22, .int (iI x17), .int (iI x18), .int (iI x19), .int (iI x20)])), (a2, .inl (T 0, 329, .inl (cI (so2 (z4 + 1) (upz (rgz 53 329 0 f0) 54 ((rgz 53 329 0 f0) 2))))))]) (by rw [← so2_t (k := z4) (k' := (z4 + 1)) (a := (57 + z4)) (b := (66 + z4)) (d := (75 + z4)) (x := ((so2 z4 (upz (rgz 53 329 0 f0) 54 ((rgz 53 329 0 f0) 2))) (32 + z4))) (y := (-1)) (z := ((so2 z4 (upz (rgz 53 329 0 f0) 54 ((rgz 53 329 0 f0) 2))) (23 + z4))) (c := (upz (rgz 53 329 0 f0) 54 ((rgz 53 329 0 f0) 2))) (by omega) (by omega) (by omega) (by omega) (so2_lo (by omega)) (by omega) (by decide) (by omega) (by first | exact so2_lo (by omega) | (rw [upz_n (by omega), upz_n (by omega)]; exact so2_lo (by omega)))]) w
              exact ih2 (z4 + 1) _ _ _ (by omega) (by omega) (by omega) w (lv_sub hl [0, 1] rfl)
        exact loop2 ((9 : Int).toNat + 1) 0 _ _ _ (by decide) (by decide) (Nat.lt_succ_self _) w (lv_sub hl [0, 1] rfl)
      · replace c_2 : z1 < 329 := Int.not_le.mp (fun h => c_2 ((iI_le (by decide) (by decide) (Int.le_trans (by decide) z1_a) (Int.le_trans z1_b (by decide))).mpr h))
        refine lv_aload_n hx hb dX12_startSo_10 rfl (lv_at hl 1 rfl) ?_
        refine r_get (v := .ref a2) M w 0 14 clX12 rfl (by decide) G1477 rfl rfl dX12_startSo_11 ?_
        refine lv_iload_n hx hb dX12_startSo_14 rfl (lv_at hl 0 rfl) ?_
        refine lv_iconst (v := iI 0) hx hb dX12_startSo_15 (by decide +kernel) ?_
        refine r_iast (ws' := [(a0, .inr (11, [.int r0, .ref a1, .int (iI x0), .int (iI x1), .int (iI x2), .int (iI x3), .int (iI x4), .int (iI x5), .int r1, .int (iI x6), .int (iI x7), .int (iI x8), .long y0, .int (iI x9), .ref a2, .ref a3, .ref a4, .ref a5, .ref a6, .ref a7, .ref a8, .ref a9, .ref a10, .ref a11, .int (iI x10), .ref a12, .ref a13, .ref a14, .ref a15, .int (iI x11), .int r2, .int r3, .ref a16, .int (iI x12), .int (iI x13), .ref a17, .ref a18, .int (iI x14), .ref a19, .int (iI x15), .int r4, .ref a20, .ref a21, .int (iI x16), .int r5, .ref a22, .int (iI x17), .int (iI x18), .int (iI x19), .int (iI x20)])), (a2, .inl (T 0, 329, .inl (cI (upz (rgz 53 z1 0 f0) z1 0))))]) M w 1 rfl (iI_in (by omega) (by omega) (by decide)) (by rw [cI_up (by omega) (by omega)]; rfl) dX12_startSo_16 (fun H locs w => ?_)
        refine lv_iinc (v := iI (z1 + 1)) (lv' := [(1, .int (iI (z1 + 1))), (0, .ref a0)]) hx hb dX12_startSo_17 hl (k := 0) rfl (ii_inc (by decide +kernel)) (by decide) rfl (fun ls hl => ?_)
        refine lv_goto (tgt := 3) hx hb dX12_startSo_20 (by decide) ?_
        have w := WD.eq (ws' := [(a0, .inr (11, [.int r0, .ref a1, .int (iI x0), .int (iI x1), .int (iI x2), .int (iI x3), .int (iI x4), .int (iI x5), .int r1, .int (iI x6), .int (iI x7), .int (iI x8), .long y0, .int (iI x9), .ref a2, .ref a3, .ref a4, .ref a5, .ref a6, .ref a7, .ref a8, .ref a9, .ref a10, .ref a11, .int (iI x10), .ref a12, .ref a13, .ref a14, .ref a15, .int (iI x11), .int r2, .int r3, .ref a16, .int (iI x12), .int (iI x13), .ref a17, .ref a18, .int (iI x14), .ref a19, .int (iI x15), .int r4, .ref a20, .ref a21, .int (iI x16), .int r5, .ref a22, .int (iI x17), .int (iI x18), .int (iI x19), .int (iI x20)])), (a2, .inl (T 0, 329, .inl (cI (rgz 53 (z1 + 1) 0 f0))))]) (by rw [← rgz_t (lo := 53) (k := z1) (k' := (z1 + 1)) (x := 0) (c := f0) (by omega) (by omega)]) w
        exact ih1 (z1 + 1) _ _ _ (by omega) (by omega) (by omega) w (lv_sub hl [0, 1] rfl)
  exact loop1 ((276 : Int).toNat + 1) 53 _ _ _ (by decide) (by decide) (Nat.lt_succ_self _) w (lv_sub hl [0, 1] rfl)
set_option maxRecDepth 100000 in
set_option maxHeartbeats 4000000 in
theorem c67_X12_city (l : Launch) (D : va_G) (T : Nat → ClassId) (sz : Nat) (a0 : Nat) (r0 : Int32) (a1 : Nat) (x0 : Int) (x1 : Int) (x2 : Int) (x3 : Int) (x4 : Int) (x5 : Int) (r1 : Int32) (x6 : Int) (x7 : Int) (x8 : Int) (y0 : Int64) (x9 : Int) (a2 : Nat) (a3 : Nat) (a4 : Nat) (a5 : Nat) (a6 : Nat) (a7 : Nat) (a8 : Nat) (a9 : Nat) (a10 : Nat) (a11 : Nat) (x10 : Int) (a12 : Nat) (a13 : Nat) (a14 : Nat) (a15 : Nat) (x11 : Int) (r2 : Int32) (r3 : Int32) (a16 : Nat) (x12 : Int) (x13 : Int) (a17 : Nat) (a18 : Nat) (x14 : Int) (a19 : Nat) (x15 : Int) (r4 : Int32) (a20 : Nat) (a21 : Nat) (x16 : Int) (r5 : Int32) (a22 : Nat) (x17 : Int) (x18 : Int) (x19 : Int) (x20 : Int) (f0 : Int → Int) (f1 : Int → Int) (f2 : Int → Int) (f3 : Int → Int) (h0 : Nat → Int64) (h1 : Nat → Int64) (f4 : Int → Int) (x0_a : 0 ≤ x0) (x0_b : x0 ≤ 940) (x1_a : 0 ≤ x1) (x1_b : x1 ≤ 940) (x2_a : 0 ≤ x2) (x2_b : x2 ≤ 940) (x3_a : 0 ≤ x3) (x3_b : x3 ≤ 940) (x4_a : 0 ≤ x4) (x4_b : x4 ≤ 940) (x5_a : 0 ≤ x5) (x5_b : x5 ≤ 4) (x6_a : (-2147483648) ≤ x6) (x6_b : x6 ≤ 2147483647) (x7_a : (-2147483648) ≤ x7) (x7_b : x7 ≤ 2147483647) (x8_a : 0 ≤ x8) (x8_b : x8 ≤ 940) (x9_a : (-2147483648) ≤ x9) (x9_b : x9 ≤ 2147483647) (x10_a : 0 ≤ x10) (x10_b : x10 ≤ 8) (x11_a : 0 ≤ x11) (x11_b : x11 ≤ 9) (x12_a : (-1) ≤ x12) (x12_b : x12 ≤ 9) (x13_a : (-1) ≤ x13) (x13_b : x13 ≤ 8) (x14_a : 0 ≤ x14) (x14_b : x14 ≤ 9) (x15_a : 0 ≤ x15) (x15_b : x15 ≤ 64) (x16_a : 0 ≤ x16) (x16_b : x16 ≤ 40) (x17_a : 0 ≤ x17) (x17_b : x17 ≤ 40) (x18_a : 0 ≤ x18) (x18_b : x18 ≤ 20) (x19_a : 0 ≤ x19) (x19_b : x19 ≤ 8) (x20_a : 0 ≤ x20) (x20_b : x20 ≤ 39) (f0_h : rng 0 255 f0) (f1_h : nowI f1) (f2_h : rdI f2) (f3_h : FL f3) (f4_h : rng 0 1 f4) (pp_s : snI f3 x10) : Met l yX12_city (Cond.code yX12_city cX12_city 3 (some .int) :: GW) (Rm 6 0 0) (cPre [.ref a0] D T [(a0, .inr (11, [.int r0, .ref a1, .int (iI x0), .int (iI x1), .int (iI x2), .int (iI x3), .int (iI x4), .int (iI x5), .int r1, .int (iI x6), .int (iI x7), .int (iI x8), .long y0, .int (iI x9), .ref a2, .ref a3, .ref a4, .ref a5, .ref a6, .ref a7, .ref a8, .ref a9, .ref a10, .ref a11, .int (iI x10), .ref a12, .ref a13, .ref a14, .ref a15, .int (iI x11), .int r2, .int r3, .ref a16, .int (iI x12), .int (iI x13), .ref a17, .ref a18, .int (iI x14), .ref a19, .int (iI x15), .int r4, .ref a20, .ref a21, .int (iI x16), .int r5, .ref a22, .int (iI x17), .int (iI x18), .int (iI x19), .int (iI x20)])), (a1, .inl (T 0, 940, .inl (cI f0))), (a2, .inl (T 0, 329, .inl (cI f1))), (a3, .inl (T 0, 53, .inl (cI f2))), (a5, .inl (T 0, 272, .inl (cI f3))), (a7, .inl (T 1, 12, .inr (.inl h0))), (a8, .inl (T 1, 12, .inr (.inl h1))), (a11, .inl (T 2, 3, .inl (cI f4)))] sz) (qI D [(a0, .inr (11, [.int r0, .ref a1, .int (iI x0), .int (iI x1), .int (iI x2), .int (iI x3), .int (iI x4), .int (iI x5), .int r1, .int (iI x6), .int (iI x7), .int (iI x8), .long y0, .int (iI x9), .ref a2, .ref a3, .ref a4, .ref a5, .ref a6, .ref a7, .ref a8, .ref a9, .ref a10, .ref a11, .int (iI x10), .ref a12, .ref a13, .ref a14, .ref a15, .int (iI x11), .int r2, .int r3, .ref a16, .int (iI x12), .int (iI x13), .ref a17, .ref a18, .int (iI x14), .ref a19, .int (iI x15), .int r4, .ref a20, .ref a21, .int (iI x16), .int r5, .ref a22, .int (iI x17), .int (iI x18), .int (iI x19), .int (iI x20)])), (a1, .inl (T 0, 940, .inl (cI f0))), (a2, .inl (T 0, 329, .inl (cI f1))), (a3, .inl (T 0, 53, .inl (cI f2))), (a5, .inl (T 0, 272, .inl (cI f3))), (a7, .inl (T 1, 12, .inr (.inl h0))), (a8, .inl (T 1, 12, .inr (.inl h1))), (a11, .inl (T 2, 3, .inl (cI f4)))] sz (fun (v : Int32) (u : Int × Int32 × Int × Int × Int × Int × Int × Int × Int32 × Int × Int × Int × Int64 × Int × Int × Int32 × (Int → Int) × (Int → Int) × (Nat → Int64) × (Nat → Int64) × (Int → Int)) => iI u.1 = v ∧ (-2147483648) ≤ u.1 ∧ u.1 ≤ 2147483647 ∧ 0 ≤ u.2.2.1 ∧ u.2.2.1 ≤ 940 ∧ 0 ≤ u.2.2.2.1 ∧ u.2.2.2.1 ≤ 940 ∧ 0 ≤ u.2.2.2.2.1 ∧ u.2.2.2.2.1 ≤ 940 ∧ 0 ≤ u.2.2.2.2.2.1 ∧ u.2.2.2.2.2.1 ≤ 940 ∧ 0 ≤ u.2.2.2.2.2.2.1 ∧ u.2.2.2.2.2.2.1 ≤ 940 ∧ 0 ≤ u.2.2.2.2.2.2.2.1 ∧ u.2.2.2.2.2.2.2.1 ≤ 4 ∧ (-2147483648) ≤ u.2.2.2.2.2.2.2.2.2.1 ∧ u.2.2.2.2.2.2.2.2.2.1 ≤ 2147483647 ∧ (-2147483648) ≤ u.2.2.2.2.2.2.2.2.2.2.1 ∧ u.2.2.2.2.2.2.2.2.2.2.1 ≤ 2147483647 ∧ 0 ≤ u.2.2.2.2.2.2.2.2.2.2.2.1 ∧ u.2.2.2.2.2.2.2.2.2.2.2.1 ≤ 940 ∧ (-2147483648) ≤ u.2.2.2.2.2.2.2.2.2.2.2.2.2.1 ∧ u.2.2.2.2.2.2.2.2.2.2.2.2.2.1 ≤ 2147483647 ∧ 0 ≤ u.2.2.2.2.2.2.2.2.2.2.2.2.2.2.1 ∧ u.2.2.2.2.2.2.2.2.2.2.2.2.2.2.1 ≤ 8 ∧ nowI u.2.2.2.2.2.2.2.2.2.2.2.2.2.2.2.2.1 ∧ rdI u.2.2.2.2.2.2.2.2.2.2.2.2.2.2.2.2.2.1 ∧ rng 0 1 u.2.2.2.2.2.2.2.2.2.2.2.2.2.2.2.2.2.2.2.2 ∧ 0 ≤ (0 - u.2.2.1) ∧ (snI f3 u.2.2.2.2.2.2.2.2.2.2.2.2.2.2.1) ∧ (∃ rd o : Int → Int, rd0P rd ∧ o0P o ∧ CPm (ctN f0 x0 900 1000 ⟨tkAt f0 x0 900 0, rd, h1, o⟩ 0) u.1 u.2.2.2.2.2.2.2.2.2.2.1 f1 u.2.2.2.2.2.2.2.2.2.2.2.2.2.2.2.2.1) ∧ (∃ rd o : Int → Int, rd0P rd ∧ o0P o ∧ CPn (ctN f0 x0 900 1000 ⟨tkAt f0 x0 900 0, rd, h1, o⟩ 0) f1 u.2.2.2.2.2.2.2.2.2.2.2.2.2.2.2.2.1 h0 u.2.2.2.2.2.2.2.2.2.2.2.2.2.2.2.2.2.2.1) ∧ (∃ rd o : Int → Int, rd0P rd ∧ o0P o ∧ CPf (ctN f0 x0 900 1000 ⟨tkAt f0 x0 900 0, rd, h1, o⟩ 0) u.2.2.2.2.2.2.2.2.2.2.1)) (fun u => [(a0, .inr (11, [.int u.2.1, .ref a1, .int (iI u.2.2.1), .int (iI u.2.2.2.1), .int (iI u.2.2.2.2.1), .int (iI u.2.2.2.2.2.1), .int (iI u.2.2.2.2.2.2.1), .int (iI u.2.2.2.2.2.2.2.1), .int u.2.2.2.2.2.2.2.2.1, .int (iI u.2.2.2.2.2.2.2.2.2.1), .int (iI u.2.2.2.2.2.2.2.2.2.2.1), .int (iI u.2.2.2.2.2.2.2.2.2.2.2.1), .long u.2.2.2.2.2.2.2.2.2.2.2.2.1, .int (iI u.2.2.2.2.2.2.2.2.2.2.2.2.2.1), .ref a2, .ref a3, .ref a4, .ref a5, .ref a6, .ref a7, .ref a8, .ref a9, .ref a10, .ref a11, .int (iI u.2.2.2.2.2.2.2.2.2.2.2.2.2.2.1), .ref a12, .ref a13, .ref a14, .ref a15, .int (iI x11), .int r2, .int u.2.2.2.2.2.2.2.2.2.2.2.2.2.2.2.1, .ref a16, .int (iI x12), .int (iI x13), .ref a17, .ref a18, .int (iI x14), .ref a19, .int (iI x15), .int r4, .ref a20, .ref a21, .int (iI x16), .int r5, .ref a22, .int (iI x17), .int (iI x18), .int (iI x19), .int (iI x20)])), (a1, .inl (T 0, 940, .inl (cI f0))), (a2, .inl (T 0, 329, .inl (cI u.2.2.2.2.2.2.2.2.2.2.2.2.2.2.2.2.1))), (a3, .inl (T 0, 53, .inl (cI u.2.2.2.2.2.2.2.2.2.2.2.2.2.2.2.2.2.1))), (a5, .inl (T 0, 272, .inl (cI f3))), (a7, .inl (T 1, 12, .inr (.inl u.2.2.2.2.2.2.2.2.2.2.2.2.2.2.2.2.2.2.1))), (a8, .inl (T 1, 12, .inr (.inl u.2.2.2.2.2.2.2.2.2.2.2.2.2.2.2.2.2.2.2.1))), (a11, .inl (T 2, 3, .inl (cI u.2.2.2.2.2.2.2.2.2.2.2.2.2.2.2.2.2.2.2.2)))])) 0 0 (va_A [(a0, .inr (11, [.int r0, .ref a1, .int (iI x0), .int (iI x1), .int (iI x2), .int (iI x3), .int (iI x4), .int (iI x5), .int r1, .int (iI x6), .int (iI x7), .int (iI x8), .long y0, .int (iI x9), .ref a2, .ref a3, .ref a4, .ref a5, .ref a6, .ref a7, .ref a8, .ref a9, .ref a10, .ref a11, .int (iI x10), .ref a12, .ref a13, .ref a14, .ref a15, .int (iI x11), .int r2, .int r3, .ref a16, .int (iI x12), .int (iI x13), .ref a17, .ref a18, .int (iI x14), .ref a19, .int (iI x15), .int r4, .ref a20, .ref a21, .int (iI x16), .int r5, .ref a22, .int (iI x17), .int (iI x18), .int (iI x19), .int (iI x20)])), (a1, .inl (T 0, 940, .inl (cI f0))), (a2, .inl (T 0, 329, .inl (cI f1))), (a3, .inl (T 0, 53, .inl (cI f2))), (a5, .inl (T 0, 272, .inl (cI f3))), (a7, .inl (T 1, 12, .inr (.inl h0))), (a8, .inl (T 1, 12, .inr (.inl h1))), (a11, .inl (T 2, 3, .inl (cI f4)))] sz) := by
  refine e_I (by decide) (Nat.le_of_ble_eq_true rfl) ?_
  intro p e s m args below meth c A Q ls M hin w ret hl
  have hx := M.1.1
  have hb := M.1.2.1
  have hl : lv_has ls 3 [(0, .ref a0)] := hl
  refine lv_aload_n hx hb dX12_city_0 rfl (lv_at hl 0 rfl) ?_
  refine lv_sipush (v := iI 900) hx hb dX12_city_1 (by decide +kernel) ?_
  refine k_V (ce := 0) (sl := 0) (rest := []) (wr := [(a2, .inl (T 0, 329, .inl (cI f1))), (a3, .inl (T 0, 53, .inl (cI f2))), (a5, .inl (T 0, 272, .inl (cI f3))), (a7, .inl (T 1, 12, .inr (.inl h0))), (a8, .inl (T 1, 12, .inr (.inl h1))), (a11, .inl (T 2, 3, .inl (cI f4)))]) (r_V (f := 2) [0, 1] M w V_HookedCityModel_224 G1621 G47 (c48_X12_begin l D T _ a0 900 r0 a1 x0 x1 x2 x3 x4 x5 r1 x6 x7 x8 y0 x9 a2 a3 a4 a5 a6 a7 a8 a9 a10 a11 x10 a12 a13 a14 a15 x11 r2 r3 a16 x12 x13 a17 a18 x14 a19 x15 r4 a20 a21 x16 r5 a22 x17 x18 x19 x20 f0 (by decide) (by decide) x0_a x0_b x1_a x1_b x2_a x2_b x3_a x3_b x4_a x4_b x5_a x5_b x6_a x6_b x7_a x7_b x8_a x8_b x9_a x9_b x10_a x10_b x11_a x11_b x12_a x12_b x13_a x13_b x14_a x14_b x15_a x15_b x16_a x16_b x17_a x17_b x18_a x18_b x19_a x19_b x20_a x20_b f0_h) 0 clX12 rfl rfl (by decide) rfl hl.1 rfl (Nat.le_of_ble_eq_true rfl) dX12_city_4 (by decide) (by decide) (by decide) (by decide)) w [0, 1] [2, 3, 4, 5, 6, 7] rfl rfl (by decide) (by decide) rfl rfl (fun u H locs hp w => ?_)
  obtain ⟨fr1, z2, z3, z4, z5, z6, z7, fr8, z9, z10, fy11⟩ := u
  have z2_a : 0 ≤ z2 := hp.1
  have z2_b : z2 ≤ 940 := hp.2.1
  have z3_a : 0 ≤ z3 := hp.2.2.1
  have z3_b : z3 ≤ 940 := hp.2.2.2.1
  have z4_a : 0 ≤ z4 := hp.2.2.2.2.1
  have z4_b : z4 ≤ 940 := hp.2.2.2.2.2.1
  have z5_a : 0 ≤ z5 := hp.2.2.2.2.2.2.1
  have z5_b : z5 ≤ 940 := hp.2.2.2.2.2.2.2.1
  have z6_a : 0 ≤ z6 := hp.2.2.2.2.2.2.2.2.1
  have z6_b : z6 ≤ 940 := hp.2.2.2.2.2.2.2.2.2.1
  have z7_a : 0 ≤ z7 := hp.2.2.2.2.2.2.2.2.2.2.1
  have z7_b : z7 ≤ 4 := hp.2.2.2.2.2.2.2.2.2.2.2.1
  have z9_a : (-2147483648) ≤ z9 := hp.2.2.2.2.2.2.2.2.2.2.2.2.1
  have z9_b : z9 ≤ 2147483647 := hp.2.2.2.2.2.2.2.2.2.2.2.2.2.1
  have z10_a : (-2147483648) ≤ z10 := hp.2.2.2.2.2.2.2.2.2.2.2.2.2.2.1
  have z10_b : z10 ≤ 2147483647 := hp.2.2.2.2.2.2.2.2.2.2.2.2.2.2.2.1
  have ee12 : 0 ≤ (0 - z2) := hp.2.2.2.2.2.2.2.2.2.2.2.2.2.2.2.2.1
  have ee13 : 0 ≤ (z3 - x0) := hp.2.2.2.2.2.2.2.2.2.2.2.2.2.2.2.2.2.1
  have ee14 : 0 ≤ (x0 - z3) := hp.2.2.2.2.2.2.2.2.2.2.2.2.2.2.2.2.2.2.1
  have ee15 : 0 ≤ (z4 - 900) := hp.2.2.2.2.2.2.2.2.2.2.2.2.2.2.2.2.2.2.2.1
  have ee16 : 0 ≤ (900 - z4) := hp.2.2.2.2.2.2.2.2.2.2.2.2.2.2.2.2.2.2.2.2.1
  have ee17 : 0 ≤ z10 := hp.2.2.2.2.2.2.2.2.2.2.2.2.2.2.2.2.2.2.2.2.2.1
  have ee18 : 0 ≤ (0 - z10) := hp.2.2.2.2.2.2.2.2.2.2.2.2.2.2.2.2.2.2.2.2.2.2.1
  have pq19 : gT (tkAt f0 z3 z4 0) z7 z6 z5 fy11 fr8 z9 := hp.2.2.2.2.2.2.2.2.2.2.2.2.2.2.2.2.2.2.2.2.2.2.2
  have w : WD D A s.heap [(a2, .inl (T 0, 329, .inl (cI f1))), (a3, .inl (T 0, 53, .inl (cI f2))), (a5, .inl (T 0, 272, .inl (cI f3))), (a7, .inl (T 1, 12, .inr (.inl h0))), (a8, .inl (T 1, 12, .inr (.inl h1))), (a11, .inl (T 2, 3, .inl (cI f4))), (a0, .inr (11, [.int fr1, .ref a1, .int (iI z2), .int (iI z3), .int (iI z4), .int (iI z5), .int (iI z6), .int (iI z7), .int fr8, .int (iI z9), .int (iI z10), .int (iI x8), .long fy11, .int (iI x9), .ref a2, .ref a3, .ref a4, .ref a5, .ref a6, .ref a7, .ref a8, .ref a9, .ref a10, .ref a11, .int (iI x10), .ref a12, .ref a13, .ref a14, .ref a15, .int (iI x11), .int r2, .int r3, .ref a16, .int (iI x12), .int (iI x13), .ref a17, .ref a18, .int (iI x14), .ref a19, .int (iI x15), .int r4, .ref a20, .ref a21, .int (iI x16), .int r5, .ref a22, .int (iI x17), .int (iI x18), .int (iI x19), .int (iI x20)])), (a1, .inl (T 0, 940, .inl (cI f0)))] H locs := w
  refine lv_aload_n hx hb dX12_city_7 rfl (lv_at hl 0 rfl) ?_
  refine k_V (ce := 0) (sl := 0) (rest := []) (wr := [(a2, .inl (T 0, 329, .inl (cI f1))), (a5, .inl (T 0, 272, .inl (cI f3))), (a7, .inl (T 1, 12, .inr (.inl h0))), (a8, .inl (T 1, 12, .inr (.inl h1))), (a1, .inl (T 0, 940, .inl (cI f0)))]) (r_V (f := 0) [6, 1, 5] M w V_HookedCityModel_169 G1457 G45 (c50_X12_startRead l D T _ a0 fr1 a1 z2 z3 z4 z5 z6 z7 fr8 z9 z10 x8 fy11 x9 a2 a3 a4 a5 a6 a7 a8 a9 a10 a11 x10 a12 a13 a14 a15 x11 r2 r3 a16 x12 x13 a17 a18 x14 a19 x15 r4 a20 a21 x16 r5 a22 x17 x18 x19 x20 f2 f4 z2_a z2_b z3_a z3_b z4_a z4_b z5_a z5_b z6_a z6_b z7_a z7_b z9_a z9_b z10_a z10_b x8_a x8_b x9_a x9_b x10_a x10_b x11_a x11_b x12_a x12_b x13_a x13_b x14_a x14_b x15_a x15_b x16_a x16_b x17_a x17_b x18_a x18_b x19_a x19_b x20_a x20_b f2_h f4_h) 6 clX12 rfl rfl (by decide) rfl hl.1 rfl (Nat.le_of_ble_eq_true rfl) dX12_city_8 (by decide) (by decide) (by decide) (by decide)) w [6, 1, 5] [0, 2, 3, 4, 7] rfl rfl (by decide) (by decide) rfl rfl (fun u H locs hp w => ?_)
  obtain ⟨ff20, ff21⟩ := u
  have ff20_h : rdI ff20 := hp.1
  have ff21_h : rng 0 1 ff21 := hp.2.1
  have pq22 : rd0P ff20 := hp.2.2.1
  have pq23 : o0P ff21 := hp.2.2.2
  have w : WD D A s.heap [(a2, .inl (T 0, 329, .inl (cI f1))), (a5, .inl (T 0, 272, .inl (cI f3))), (a7, .inl (T 1, 12, .inr (.inl h0))), (a8, .inl (T 1, 12, .inr (.inl h1))), (a1, .inl (T 0, 940, .inl (cI f0))), (a0, .inr (11, [.int fr1, .ref a1, .int (iI z2), .int (iI z3), .int (iI z4), .int (iI z5), .int (iI z6), .int (iI z7), .int fr8, .int (iI z9), .int (iI z10), .int (iI x8), .long fy11, .int (iI x9), .ref a2, .ref a3, .ref a4, .ref a5, .ref a6, .ref a7, .ref a8, .ref a9, .ref a10, .ref a11, .int (iI x10), .ref a12, .ref a13, .ref a14, .ref a15, .int (iI x11), .int r2, .int r3, .ref a16, .int (iI x12), .int (iI x13), .ref a17, .ref a18, .int (iI x14), .ref a19, .int (iI x15), .int r4, .ref a20, .ref a21, .int (iI x16), .int r5, .ref a22, .int (iI x17), .int (iI x18), .int (iI x19), .int (iI x20)])), (a3, .inl (T 0, 53, .inl (cI ff20))), (a11, .inl (T 2, 3, .inl (cI ff21)))] H locs := w
  refine lv_iconst (v := iI 0) hx hb dX12_city_11 (by decide +kernel) ?_
  refine lv_istore_n (lv' := [(1, .int (iI 0)), (0, .ref a0)]) hx hb dX12_city_12 rfl hl (by decide) rfl (fun ls hl => ?_)
  have loop1 : ∀ (k1 : Nat) (z24 : Int) (z25 : Int) (fy26 : Int64) (z27 : Int) (z28 : Int) (z29 : Int) (z30 : Int) (fr31 : Int32) (z32 : Int) (ff33 : Int → Int) (ff34 : Int → Int) (fh35 : Nat → Int64) (z36 : Int) (H : Heap) (locs : List Loc) (ls : Array Slot), (-2147483648) ≤ z24 → z24 ≤ 2147483647 → 0 ≤ z25 → z25 ≤ 940 → (-2147483648) ≤ z27 → z27 ≤ 2147483647 → 0 ≤ z28 → z28 ≤ 940 → 0 ≤ z29 → z29 ≤ 940 → 0 ≤ z30 → z30 ≤ 4 → (-2147483648) ≤ z32 → z32 ≤ 2147483647 → rng 0 1 ff33 → rdI ff34 → 0 ≤ z36 → z36 ≤ 940 → 0 ≤ (z28 - z36) → ctI f0 z3 z4 ⟨tkAt f0 z3 z4 0, ff20, h1, ff21⟩ (fun y => gT y z30 z29 z28 fy26 fr31 z32) ff34 fh35 ff33 z36 → z24 = 0 → ((940 - z28) : Int).toNat < k1 → WD D A s.heap [(a2, .inl (T 0, 329, .inl (cI f1))), (a5, .inl (T 0, 272, .inl (cI f3))), (a7, .inl (T 1, 12, .inr (.inl h0))), (a8, .inl (T 1, 12, .inr (.inl fh35))), (a1, .inl (T 0, 940, .inl (cI f0))), (a0, .inr (11, [.int fr1, .ref a1, .int (iI z2), .int (iI z3), .int (iI z4), .int (iI z28), .int (iI z29), .int (iI z30), .int fr31, .int (iI z32), .int (iI z24), .int (iI z25), .long fy26, .int (iI z27), .ref a2, .ref a3, .ref a4, .ref a5, .ref a6, .ref a7, .ref a8, .ref a9, .ref a10, .ref a11, .int (iI x10), .ref a12, .ref a13, .ref a14, .ref a15, .int (iI x11), .int r2, .int r3, .ref a16, .int (iI x12), .int (iI x13), .ref a17, .ref a18, .int (iI x14), .ref a19, .int (iI x15), .int r4, .ref a20, .ref a21, .int (iI x16), .int r5, .ref a22, .int (iI x17), .int (iI x18), .int (iI x19), .int (iI x20)])), (a3, .inl (T 0, 53, .inl (cI ff34))), (a11, .inl (T 2, 3, .inl (cI ff33)))] H locs → lv_has ls 3 [(1, .int (iI z36)), (0, .ref a0)] → W p l e (Rm 6 0 0) s m args below meth c H locs 0 0 Q (F0 m 13 ls []) := by
    intro k1
    induction k1 with
    | zero => intro z24 z25 fy26 z27 z28 z29 z30 fr31 z32 ff33 ff34 fh35 z36 H locs ls z24_a z24_b z25_a z25_b z27_a z27_b z28_a z28_b z29_a z29_b z30_a z30_b z32_a z32_b ff33_h ff34_h z36_a z36_b q1_0 lq1_c lq1_z hm; exact absurd hm (Nat.not_lt_zero _)
    | succ k1 ih1 =>
      intro z24 z25 fy26 z27 z28 z29 z30 fr31 z32 ff33 ff34 fh35 z36 H locs ls z24_a z24_b z25_a z25_b z27_a z27_b z28_a z28_b z29_a z29_b z30_a z30_b z32_a z32_b ff33_h ff34_h z36_a z36_b q1_0 lq1_c lq1_z hm1 w hl
      refine lv_aload_n hx hb dX12_city_13 rfl (lv_at hl 1 rfl) ?_
      refine r_get (v := .int (iI z30)) M w 5 7 clX12 rfl (by decide) G1470 rfl rfl dX12_city_14 ?_
      refine lv_if_eq (tgt := 47) hx hb dX12_city_17 (by decide) (fun c_37 => ?_) (fun c_37 => ?_)
      · replace c_37 := (iz_eq (Int.le_trans (by decide) z30_a) (Int.le_trans z30_b (by decide))).mp c_37
        refine lv_iconst (v := iI 0) hx hb dX12_city_47 (by decide +kernel) ?_
        refine lv_istore_n (lv' := [(2, .int (iI 0)), (1, .int (iI z36)), (0, .ref a0)]) hx hb dX12_city_48 rfl hl (by decide) rfl (fun ls hl => ?_)
        have w := WD.eq (ws' := [(a2, .inl (T 0, 329, .inl (cI (cpz ff34 f1 0 0 0)))), (a5, .inl (T 0, 272, .inl (cI f3))), (a7, .inl (T 1, 12, .inr (.inl h0))), (a8, .inl (T 1, 12, .inr (.inl fh35))), (a1, .inl (T 0, 940, .inl (cI f0))), (a0, .inr (11, [.int fr1, .ref a1, .int (iI z2), .int (iI z3), .int (iI z4), .int (iI z28), .int (iI z29), .int (iI z30), .int fr31, .int (iI z32), .int (iI z24), .int (iI z25), .long fy26, .int (iI z27), .ref a2, .ref a3, .ref a4, .ref a5, .ref a6, .ref a7, .ref a8, .ref a9, .ref a10, .ref a11, .int (iI x10), .ref a12, .ref a13, .ref a14, .ref a15, .int (iI x11), .int r2, .int r3, .ref a16, .int (iI x12), .int (iI x13), .ref a17, .ref a18, .int (iI x14), .ref a19, .int (iI x15), .int r4, .ref a20, .ref a21, .int (iI x16), .int r5, .ref a22, .int (iI x17), .int (iI x18), .int (iI x19), .int (iI x20)])), (a3, .inl (T 0, 53, .inl (cI ff34))), (a11, .inl (T 2, 3, .inl (cI ff33)))]) (by rw [cpz_0 (c := ff34) (d := f1) (sp := 0) (dp := 0) (n := 0) (by decide)]) w
        have loop2 : ∀ (k2 : Nat) (z38 : Int) (H : Heap) (locs : List Loc) (ls : Array Slot), 0 ≤ z38 → z38 ≤ 53 → ((53 - z38) : Int).toNat < k2 → WD D A s.heap [(a2, .inl (T 0, 329, .inl (cI (cpz ff34 f1 0 0 z38)))), (a5, .inl (T 0, 272, .inl (cI f3))), (a7, .inl (T 1, 12, .inr (.inl h0))), (a8, .inl (T 1, 12, .inr (.inl fh35))), (a1, .inl (T 0, 940, .inl (cI f0))), (a0, .inr (11, [.int fr1, .ref a1, .int (iI z2), .int (iI z3), .int (iI z4), .int (iI z28), .int (iI z29), .int (iI z30), .int fr31, .int (iI z32), .int (iI z24), .int (iI z25), .long fy26, .int (iI z27), .ref a2, .ref a3, .ref a4, .ref a5, .ref a6, .ref a7, .ref a8, .ref a9, .ref a10, .ref a11, .int (iI x10), .ref a12, .ref a13, .ref a14, .ref a15, .int (iI x11), .int r2, .int r3, .ref a16, .int (iI x12), .int (iI x13), .ref a17, .ref a18, .int (iI x14), .ref a19, .int (iI x15), .int r4, .ref a20, .ref a21, .int (iI x16), .int r5, .ref a22, .int (iI x17), .int (iI x18), .int (iI x19), .int (iI x20)])), (a3, .inl (T 0, 53, .inl (cI ff34))), (a11, .inl (T 2, 3, .inl (cI ff33)))] H locs → lv_has ls 3 [(2, .int (iI z38)), (1, .int (iI z36)), (0, .ref a0)] → W p l e (Rm 6 0 0) s m args below meth c H locs 0 0 Q (F0 m 49 ls []) := by
          intro k2
          induction k2 with
          | zero => intro z38 H locs ls z38_a z38_b hm; exact absurd hm (Nat.not_lt_zero _)
          | succ k2 ih2 =>
            intro z38 H locs ls z38_a z38_b hm2 w hl
            refine lv_iload_n hx hb dX12_city_49 rfl (lv_at hl 0 rfl) ?_
            refine lv_bipush (v := iI 53) hx hb dX12_city_50 (by decide +kernel) ?_
            refine lv_icmp_ge (tgt := 73) hx hb dX12_city_52 (by decide) (fun c_39 => ?_) (fun c_39 => ?_)
            · replace c_39 := (iI_le (by decide) (by decide) (Int.le_trans (by decide) z38_a) (Int.le_trans z38_b (by decide))).mp c_39
              obtain rfl : z38 = 53 := by omega
              refine lv_iconst (v := iI 0) hx hb dX12_city_73 (by decide +kernel) ?_
              refine lv_istore_n (lv' := [(2, .int (iI 0)), (1, .int (iI z36)), (0, .ref a0)]) hx hb dX12_city_74 rfl hl (by decide) rfl (fun ls hl => ?_)
              have loop3 : ∀ (k3 : Nat) (fh40 : Nat → Int64) (z41 : Int) (H : Heap) (locs : List Loc) (ls : Array Slot), 0 ≤ z41 → z41 ≤ 12 → (∀ j : Int, 0 ≤ j → j < z41 → fh40 (ix j) = fh35 (ix j)) → ((12 - z41) : Int).toNat < k3 → WD D A s.heap [(a2, .inl (T 0, 329, .inl (cI (cpz ff34 f1 0 0 53)))), (a5, .inl (T 0, 272, .inl (cI f3))), (a7, .inl (T 1, 12, .inr (.inl fh40))), (a8, .inl (T 1, 12, .inr (.inl fh35))), (a1, .inl (T 0, 940, .inl (cI f0))), (a0, .inr (11, [.int fr1, .ref a1, .int (iI z2), .int (iI z3), .int (iI z4), .int (iI z28), .int (iI z29), .int (iI z30), .int fr31, .int (iI z32), .int (iI z24), .int (iI z25), .long fy26, .int (iI z27), .ref a2, .ref a3, .ref a4, .ref a5, .ref a6, .ref a7, .ref a8, .ref a9, .ref a10, .ref a11, .int (iI x10), .ref a12, .ref a13, .ref a14, .ref a15, .int (iI x11), .int r2, .int r3, .ref a16, .int (iI x12), .int (iI x13), .ref a17, .ref a18, .int (iI x14), .ref a19, .int (iI x15), .int r4, .ref a20, .ref a21, .int (iI x16), .int r5, .ref a22, .int (iI x17), .int (iI x18), .int (iI x19), .int (iI x20)])), (a3, .inl (T 0, 53, .inl (cI ff34))), (a11, .inl (T 2, 3, .inl (cI ff33)))] H locs → lv_has ls 3 [(2, .int (iI z41)), (1, .int (iI z36)), (0, .ref a0)] → W p l e (Rm 6 0 0) s m args below meth c H locs 0 0 Q (F0 m 75 ls []) := by
                intro k3
                induction k3 with
                | zero => intro fh40 z41 H locs ls z41_a z41_b lq3_j hm; exact absurd hm (Nat.not_lt_zero _)
                | succ k3 ih3 =>
                  intro fh40 z41 H locs ls z41_a z41_b lq3_j hm3 w hl
                  refine lv_iload_n hx hb dX12_city_75 rfl (lv_at hl 0 rfl) ?_
                  refine lv_bipush (v := iI 12) hx hb dX12_city_76 (by decide +kernel) ?_
                  refine lv_icmp_ge (tgt := 99) hx hb dX12_city_78 (by decide) (fun c_42 => ?_) (fun c_42 => ?_)
                  · replace c_42 := (iI_le (by decide) (by decide) (Int.le_trans (by decide) z41_a) (Int.le_trans z41_b (by decide))).mp c_42
                    refine lv_aload_n hx hb dX12_city_99 rfl (lv_at hl 2 rfl) ?_
                    refine k_V (ce := 0) (sl := 0) (rest := []) (wr := [(a5, .inl (T 0, 272, .inl (cI f3))), (a7, .inl (T 1, 12, .inr (.inl fh40))), (a8, .inl (T 1, 12, .inr (.inl fh35))), (a1, .inl (T 0, 940, .inl (cI f0))), (a3, .inl (T 0, 53, .inl (cI ff34))), (a11, .inl (T 2, 3, .inl (cI ff33)))]) (r_V (f := 0) [5, 0] M w V_HookedCityModel_172 G1461 G46 (c66_X12_startSo l D T _ a0 fr1 a1 z2 z3 z4 z28 z29 z30 fr31 z32 z24 z25 fy26 z27 a2 a3 a4 a5 a6 a7 a8 a9 a10 a11 x10 a12 a13 a14 a15 x11 r2 r3 a16 x12 x13 a17 a18 x14 a19 x15 r4 a20 a21 x16 r5 a22 x17 x18 x19 x20 (cpz ff34 f1 0 0 53) z2_a z2_b z3_a z3_b z4_a z4_b z28_a z28_b z29_a z29_b z30_a z30_b z32_a z32_b z24_a z24_b z25_a z25_b z27_a z27_b x10_a x10_b x11_a x11_b x12_a x12_b x13_a x13_b x14_a x14_b x15_a x15_b x16_a x16_b x17_a x17_b x18_a x18_b x19_a x19_b x20_a x20_b (now_rd ff34_h f1_h) (rd_cp ff34_h f1_h.1)) 5 clX12 rfl rfl (by decide) rfl hl.1 rfl (Nat.le_of_ble_eq_true rfl) dX12_city_100 (by decide) (by decide) (by decide) (by decide)) w [5, 0] [1, 2, 3, 4, 6, 7] rfl rfl (by decide) (by decide) rfl rfl (fun ff43 H locs hp w => ?_)
                    have ff43_h : nowI ff43 := hp.1
                    have pq44 : ∀ i : Int, 0 ≤ i → i < 53 → ff43 i = (cpz ff34 f1 0 0 53) i := hp.2
                    have w : WD D A s.heap [(a5, .inl (T 0, 272, .inl (cI f3))), (a7, .inl (T 1, 12, .inr (.inl fh40))), (a8, .inl (T 1, 12, .inr (.inl fh35))), (a1, .inl (T 0, 940, .inl (cI f0))), (a3, .inl (T 0, 53, .inl (cI ff34))), (a11, .inl (T 2, 3, .inl (cI ff33))), (a0, .inr (11, [.int fr1, .ref a1, .int (iI z2), .int (iI z3), .int (iI z4), .int (iI z28), .int (iI z29), .int (iI z30), .int fr31, .int (iI z32), .int (iI z24), .int (iI z25), .long fy26, .int (iI z27), .ref a2, .ref a3, .ref a4, .ref a5, .ref a6, .ref a7, .ref a8, .ref a9, .ref a10, .ref a11, .int (iI x10), .ref a12, .ref a13, .ref a14, .ref a15, .int (iI x11), .int r2, .int r3, .ref a16, .int (iI x12), .int (iI x13), .ref a17, .ref a18, .int (iI x14), .ref a19, .int (iI x15), .int r4, .ref a20, .ref a21, .int (iI x16), .int r5, .ref a22, .int (iI x17), .int (iI x18), .int (iI x19), .int (iI x20)])), (a2, .inl (T 0, 329, .inl (cI ff43)))] H locs := w
                    refine lv_aload_n hx hb dX12_city_103 rfl (lv_at hl 2 rfl) ?_
                    refine lv_iconst (v := iI 0) hx hb dX12_city_104 (by decide +kernel) ?_
                    refine r_put (ws' := [(a5, .inl (T 0, 272, .inl (cI f3))), (a7, .inl (T 1, 12, .inr (.inl fh40))), (a8, .inl (T 1, 12, .inr (.inl fh35))), (a1, .inl (T 0, 940, .inl (cI f0))), (a3, .inl (T 0, 53, .inl (cI ff34))), (a11, .inl (T 2, 3, .inl (cI ff33))), (a0, .inr (11, [.int fr1, .ref a1, .int (iI z2), .int (iI z3), .int (iI z4), .int (iI z28), .int (iI z29), .int (iI z30), .int fr31, .int (iI z32), .int (iI z24), .int (iI z25), .long fy26, .int (iI z27), .ref a2, .ref a3, .ref a4, .ref a5, .ref a6, .ref a7, .ref a8, .ref a9, .ref a10, .ref a11, .int (iI 0), .ref a12, .ref a13, .ref a14, .ref a15, .int (iI x11), .int r2, .int r3, .ref a16, .int (iI x12), .int (iI x13), .ref a17, .ref a18, .int (iI x14), .ref a19, .int (iI x15), .int r4, .ref a20, .ref a21, .int (iI x16), .int r5, .ref a22, .int (iI x17), .int (iI x18), .int (iI x19), .int (iI x20)])), (a2, .inl (T 0, 329, .inl (cI ff43)))]) M w 6 24 clX12 rfl (by decide) G1487 rfl rfl rfl rfl (Nat.le_of_ble_eq_true rfl) rfl dX12_city_105 (fun H locs w => ?_)
                    refine lv_aload_n hx hb dX12_city_108 rfl (lv_at hl 2 rfl) ?_
                    refine lv_iconst (v := iI 0) hx hb dX12_city_109 (by decide +kernel) ?_
                    refine r_put (ws' := [(a5, .inl (T 0, 272, .inl (cI f3))), (a7, .inl (T 1, 12, .inr (.inl fh40))), (a8, .inl (T 1, 12, .inr (.inl fh35))), (a1, .inl (T 0, 940, .inl (cI f0))), (a3, .inl (T 0, 53, .inl (cI ff34))), (a11, .inl (T 2, 3, .inl (cI ff33))), (a0, .inr (11, [.int fr1, .ref a1, .int (iI z2), .int (iI z3), .int (iI z4), .int (iI z28), .int (iI z29), .int (iI z30), .int fr31, .int (iI z32), .int (iI z24), .int (iI z25), .long fy26, .int (iI z27), .ref a2, .ref a3, .ref a4, .ref a5, .ref a6, .ref a7, .ref a8, .ref a9, .ref a10, .ref a11, .int (iI 0), .ref a12, .ref a13, .ref a14, .ref a15, .int (iI x11), .int r2, .int (iI 0), .ref a16, .int (iI x12), .int (iI x13), .ref a17, .ref a18, .int (iI x14), .ref a19, .int (iI x15), .int r4, .ref a20, .ref a21, .int (iI x16), .int r5, .ref a22, .int (iI x17), .int (iI x18), .int (iI x19), .int (iI x20)])), (a2, .inl (T 0, 329, .inl (cI ff43)))]) M w 6 31 clX12 rfl (by decide) G1494 rfl rfl (by decide +kernel) (by decide +kernel) (Nat.le_of_ble_eq_true rfl) rfl dX12_city_110 (fun H locs w => ?_)
                    refine lv_iload_n hx hb dX12_city_113 rfl (lv_at hl 1 rfl) ?_
                    exact ret _ (z36, fr1, z2, z3, z4, z28, z29, z30, fr31, z32, z24, z25, fy26, z27, 0, (iI 0), ff43, ff34, fh40, fh35, ff33) _ _ _ _ _ [6, 3, 7, 4, 0, 1, 2, 5] dX12_city_114 ⟨rfl, (show (-2147483648) ≤ z36 from by omega), (show z36 ≤ 2147483647 from by omega), z2_a, z2_b, z3_a, z3_b, z4_a, z4_b, z28_a, z28_b, z29_a, z29_b, z30_a, z30_b, z32_a, z32_b, z24_a, z24_b, z25_a, z25_b, z27_a, z27_b, (show (0 : Int) ≤ 0 from by decide), (show (0 : Int) ≤ 8 from by decide), ff43_h, ff34_h, ff33_h, (show 0 ≤ (0 - z2) from by omega), (show snI f3 0 from (sn_le pp_s (by omega))), (show ∃ rd o : Int → Int, rd0P rd ∧ o0P o ∧ CPm (ctN f0 x0 900 1000 ⟨tkAt f0 x0 900 0, rd, h1, o⟩ 0) z36 z24 f1 ff43 from (by refine ⟨ff20, ff21, pq22, pq23, ?_⟩; obtain ⟨x9, hc⟩ := ct_fin lq1_c (by omega) (by omega) (fun x g => (gT_stop g).mp (by omega)); have e1 : z4 = 900 := (by omega); have e2 : z3 = x0 := (by omega); rw [e1, e2] at hc; rw [hc]; refine ⟨rfl, fun i i0 i1 => ?_⟩; rw [pq44 i i0 i1]; simp only [cpz]; rw [if_pos (by omega)]; congr 1; omega)), (show ∃ rd o : Int → Int, rd0P rd ∧ o0P o ∧ CPn (ctN f0 x0 900 1000 ⟨tkAt f0 x0 900 0, rd, h1, o⟩ 0) f1 ff43 h0 fh40 from (by refine ⟨ff20, ff21, pq22, pq23, ?_⟩; obtain ⟨x9, hc⟩ := ct_fin lq1_c (by omega) (by omega) (fun x g => (gT_stop g).mp (by omega)); have e1 : z4 = 900 := (by omega); have e2 : z3 = x0 := (by omega); rw [e1, e2] at hc; rw [hc]; refine ⟨fun i i0 i1 => ?_, fun j j0 j1 => lq3_j j j0 (by omega)⟩; rw [pq44 i i0 i1]; simp only [cpz]; rw [if_pos (by omega)]; congr 1; omega)), (show ∃ rd o : Int → Int, rd0P rd ∧ o0P o ∧ CPf (ctN f0 x0 900 1000 ⟨tkAt f0 x0 900 0, rd, h1, o⟩ 0) z24 from (by refine ⟨ff20, ff21, pq22, pq23, ?_⟩; obtain ⟨x9, hc⟩ := ct_fin lq1_c (by omega) (by omega) (fun x g => (gT_stop g).mp (by omega)); have e1 : z4 = 900 := (by omega); have e2 : z3 = x0 := (by omega); rw [e1, e2] at hc; rw [hc]; exact (show z24 = 0 by omega)))⟩ w (by decide) rfl
                  · replace c_42 : z41 < 12 := Int.not_le.mp (fun h => c_42 ((iI_le (by decide) (by decide) (Int.le_trans (by decide) z41_a) (Int.le_trans z41_b (by decide))).mpr h))
                    refine lv_aload_n hx hb dX12_city_81 rfl (lv_at hl 2 rfl) ?_
                    refine r_get (v := .ref a7) M w 5 19 clX12 rfl (by decide) G1482 rfl rfl dX12_city_82 ?_
                    refine lv_iload_n hx hb dX12_city_85 rfl (lv_at hl 0 rfl) ?_
                    refine lv_aload_n hx hb dX12_city_86 rfl (lv_at hl 2 rfl) ?_
                    refine r_get (v := .ref a8) M w 5 20 clX12 rfl (by decide) G1483 rfl rfl dX12_city_87 ?_
                    refine lv_iload_n hx hb dX12_city_90 rfl (lv_at hl 0 rfl) ?_
                    refine r_lald (v := (fh35 (Int32.toNatClampNeg (iI z41)))) M w 3 rfl (iI_in (by omega) (by omega) (by decide)) rfl dX12_city_91 ?_
                    refine r_last (ws' := [(a2, .inl (T 0, 329, .inl (cI (cpz ff34 f1 0 0 53)))), (a5, .inl (T 0, 272, .inl (cI f3))), (a7, .inl (T 1, 12, .inr (.inl (vp_updL fh40 (Int32.toNatClampNeg (iI z41)) (fh35 (Int32.toNatClampNeg (iI z41))))))), (a8, .inl (T 1, 12, .inr (.inl fh35))), (a1, .inl (T 0, 940, .inl (cI f0))), (a0, .inr (11, [.int fr1, .ref a1, .int (iI z2), .int (iI z3), .int (iI z4), .int (iI z28), .int (iI z29), .int (iI z30), .int fr31, .int (iI z32), .int (iI z24), .int (iI z25), .long fy26, .int (iI z27), .ref a2, .ref a3, .ref a4, .ref a5, .ref a6, .ref a7, .ref a8, .ref a9, .ref a10, .ref a11, .int (iI x10), .ref a12, .ref a13, .ref a14, .ref a15, .int (iI x11), .int r2, .int r3, .ref a16, .int (iI x12), .int (iI x13), .ref a17, .ref a18, .int (iI x14), .ref a19, .int (iI x15), .int r4, .ref a20, .ref a21, .int (iI x16), .int r5, .ref a22, .int (iI x17), .int (iI x18), .int (iI x19), .int (iI x20)])), (a3, .inl (T 0, 53, .inl (cI ff34))), (a11, .inl (T 2, 3, .inl (cI ff33)))]) M w 2 rfl (iI_in (by omega) (by omega) (by decide)) rfl dX12_city_92 (fun H locs w => ?_)
                    refine lv_iinc (v := iI (z41 + 1)) (lv' := [(2, .int (iI (z41 + 1))), (1, .int (iI z36)), (0, .ref a0)]) hx hb dX12_city_93 hl (k := 0) rfl (ii_inc (by decide +kernel)) (by decide) rfl (fun ls hl => ?_)
                    refine lv_goto (tgt := 75) hx hb dX12_city_96 (by decide) ?_
                    exact ih3 (vp_updL fh40 (Int32.toNatClampNeg (iI z41)) (fh35 (Int32.toNatClampNeg (iI z41)))) (z41 + 1) _ _ _ (by omega) (by omega) (fun j j0 j1 => nm_up lq3_j (by omega) (by omega) j0 j1) (by omega) w (lv_sub hl [0, 1, 2] rfl)
              exact loop3 ((12 : Int).toNat + 1) h0 0 _ _ _ (by decide) (by decide) (fun j j0 j1 => absurd j1 (by omega)) (Nat.lt_succ_self _) w (lv_sub hl [0, 1, 2] rfl)
            · replace c_39 : z38 < 53 := Int.not_le.mp (fun h => c_39 ((iI_le (by decide) (by decide) (Int.le_trans (by decide) z38_a) (Int.le_trans z38_b (by decide))).mpr h))
              refine lv_aload_n hx hb dX12_city_55 rfl (lv_at hl 2 rfl) ?_
              refine r_get (v := .ref a2) M w 5 14 clX12 rfl (by decide) G1477 rfl rfl dX12_city_56 ?_
              refine lv_iload_n hx hb dX12_city_59 rfl (lv_at hl 0 rfl) ?_
              refine lv_aload_n hx hb dX12_city_60 rfl (lv_at hl 2 rfl) ?_
              refine r_get (v := .ref a3) M w 5 15 clX12 rfl (by decide) G1478 rfl rfl dX12_city_61 ?_
              refine lv_iload_n hx hb dX12_city_64 rfl (lv_at hl 0 rfl) ?_
              refine r_iald (v := iI (ff34 z38)) M w 6 rfl (iI_in (by omega) (by omega) (by decide)) (cI_at (by omega) (by omega)) dX12_city_65 ?_
              have hh45 : (-2147483648) ≤ (ff34 z38) ∧ (ff34 z38) ≤ 2147483647 := ff34_h.1 z38
              refine r_iast (ws' := [(a2, .inl (T 0, 329, .inl (cI (upz (cpz ff34 f1 0 0 z38) z38 (ff34 z38))))), (a5, .inl (T 0, 272, .inl (cI f3))), (a7, .inl (T 1, 12, .inr (.inl h0))), (a8, .inl (T 1, 12, .inr (.inl fh35))), (a1, .inl (T 0, 940, .inl (cI f0))), (a0, .inr (11, [.int fr1, .ref a1, .int (iI z2), .int (iI z3), .int (iI z4), .int (iI z28), .int (iI z29), .int (iI z30), .int fr31, .int (iI z32), .int (iI z24), .int (iI z25), .long fy26, .int (iI z27), .ref a2, .ref a3, .ref a4, .ref a5, .ref a6, .ref a7, .ref a8, .ref a9, .ref a10, .ref a11, .int (iI x10), .ref a12, .ref a13, .ref a14, .ref a15, .int (iI x11), .int r2, .int r3, .ref a16, .int (iI x12), .int (iI x13), .ref a17, .ref a18, .int (iI x14), .ref a19, .int (iI x15), .int r4, .ref a20, .ref a21, .int (iI x16), .int r5, .ref a22, .int (iI x17), .int (iI x18), .int (iI x19), .int (iI x20)])), (a3, .inl (T 0, 53, .inl (cI ff34))), (a11, .inl (T 2, 3, .inl (cI ff33)))]) M w 0 rfl (iI_in (by omega) (by omega) (by decide)) (by rw [cI_up (by omega) (by omega)]; rfl) dX12_city_66 (fun H locs w => ?_)
              refine lv_iinc (v := iI (z38 + 1)) (lv' := [(2, .int (iI (z38 + 1))), (1, .int (iI z36)), (0, .ref a0)]) hx hb dX12_city_67 hl (k := 0) rfl (ii_inc (by decide +kernel)) (by decide) rfl (fun ls hl => ?_)
              refine lv_goto (tgt := 49) hx hb dX12_city_70 (by decide) ?_
              have w := WD.eq (ws' := [(a2, .inl (T 0, 329, .inl (cI (cpz ff34 f1 0 0 (z38 + 1))))), (a5, .inl (T 0, 272, .inl (cI f3))), (a7, .inl (T 1, 12, .inr (.inl h0))), (a8, .inl (T 1, 12, .inr (.inl fh35))), (a1, .inl (T 0, 940, .inl (cI f0))), (a0, .inr (11, [.int fr1, .ref a1, .int (iI z2), .int (iI z3), .int (iI z4), .int (iI z28), .int (iI z29), .int (iI z30), .int fr31, .int (iI z32), .int (iI z24), .int (iI z25), .long fy26, .int (iI z27), .ref a2, .ref a3, .ref a4, .ref a5, .ref a6, .ref a7, .ref a8, .ref a9, .ref a10, .ref a11, .int (iI x10), .ref a12, .ref a13, .ref a14, .ref a15, .int (iI x11), .int r2, .int r3, .ref a16, .int (iI x12), .int (iI x13), .ref a17, .ref a18, .int (iI x14), .ref a19, .int (iI x15), .int r4, .ref a20, .ref a21, .int (iI x16), .int r5, .ref a22, .int (iI x17), .int (iI x18), .int (iI x19), .int (iI x20)])), (a3, .inl (T 0, 53, .inl (cI ff34))), (a11, .inl (T 2, 3, .inl (cI ff33)))]) (by rw [← cpz_t (c := ff34) (d := f1) (sp := 0) (dp := 0) (k := z38) (k' := (z38 + 1)) (i := z38) (x := (ff34 z38)) (by omega) (by omega) (by omega) (congrArg ff34 (by omega))]) w
              exact ih2 (z38 + 1) _ _ _ (by omega) (by omega) (by omega) w (lv_sub hl [0, 1, 2] rfl)
        exact loop2 ((53 : Int).toNat + 1) 0 _ _ _ (by decide) (by decide) (Nat.lt_succ_self _) w (lv_sub hl [0, 1, 2] rfl)
      · replace c_37 : ¬ z30 = 0 := fun h => c_37 ((iz_eq (Int.le_trans (by decide) z30_a) (Int.le_trans z30_b (by decide))).mpr h)
        refine lv_aload_n hx hb dX12_city_20 rfl (lv_at hl 1 rfl) ?_
        refine k_I (ce := 0) (sl := 0) (rest := []) (wr := [(a2, .inl (T 0, 329, .inl (cI f1))), (a5, .inl (T 0, 272, .inl (cI f3))), (a7, .inl (T 1, 12, .inr (.inl h0)))]) (r_V (f := 5) [5, 4, 6, 3, 7] M w V_HookedCityModel_227 G1645 G51 (c65_X12_readLine l D T _ a0 fr1 a1 z2 z3 z4 z28 z29 z30 fr31 z32 z24 z25 fy26 z27 a2 a3 a4 a5 a6 a7 a8 a9 a10 a11 x10 a12 a13 a14 a15 x11 r2 r3 a16 x12 x13 a17 a18 x14 a19 x15 r4 a20 a21 x16 r5 a22 x17 x18 x19 x20 f0 ff34 fh35 ff33 z2_a z2_b z3_a z3_b z4_a z4_b z28_a z28_b z29_a z29_b z30_a z30_b z32_a z32_b z24_a z24_b z25_a z25_b z27_a z27_b x10_a x10_b x11_a x11_b x12_a x12_b x13_a x13_b x14_a x14_b x15_a x15_b x16_a x16_b x17_a x17_b x18_a x18_b x19_a x19_b x20_a x20_b f0_h ff34_h ff33_h) 5 clX12 rfl rfl (by decide) rfl hl.1 rfl (Nat.le_of_ble_eq_true rfl) dX12_city_21 (by decide) (by decide) (by decide) (by decide)) w [5, 4, 6, 3, 7] [0, 1, 2] rfl rfl (by decide) (by decide) rfl rfl (fun v u H locs hp w => ?_)
        obtain ⟨z46, z47, z48, z49, fr50, z51, z52, z53, fy54, z55, ff56, fh57, ff58⟩ := u
        have hv : iI z46 = v := hp.1
        subst hv
        have z46_a : 0 ≤ z46 := hp.2.1
        have z46_b : z46 ≤ 1 := hp.2.2.1
        have z47_a : 0 ≤ z47 := hp.2.2.2.1
        have z47_b : z47 ≤ 940 := hp.2.2.2.2.1
        have z48_a : 0 ≤ z48 := hp.2.2.2.2.2.1
        have z48_b : z48 ≤ 940 := hp.2.2.2.2.2.2.1
        have z49_a : 0 ≤ z49 := hp.2.2.2.2.2.2.2.1
        have z49_b : z49 ≤ 4 := hp.2.2.2.2.2.2.2.2.1
        have z51_a : (-2147483648) ≤ z51 := hp.2.2.2.2.2.2.2.2.2.1
        have z51_b : z51 ≤ 2147483647 := hp.2.2.2.2.2.2.2.2.2.2.1
        have z52_a : (-2147483648) ≤ z52 := hp.2.2.2.2.2.2.2.2.2.2.2.1
        have z52_b : z52 ≤ 2147483647 := hp.2.2.2.2.2.2.2.2.2.2.2.2.1
        have z53_a : 0 ≤ z53 := hp.2.2.2.2.2.2.2.2.2.2.2.2.2.1
        have z53_b : z53 ≤ 940 := hp.2.2.2.2.2.2.2.2.2.2.2.2.2.2.1
        have z55_a : (-2147483648) ≤ z55 := hp.2.2.2.2.2.2.2.2.2.2.2.2.2.2.2.1
        have z55_b : z55 ≤ 2147483647 := hp.2.2.2.2.2.2.2.2.2.2.2.2.2.2.2.2.1
        have ff56_h : rdI ff56 := hp.2.2.2.2.2.2.2.2.2.2.2.2.2.2.2.2.2.1
        have ff58_h : rng 0 1 ff58 := hp.2.2.2.2.2.2.2.2.2.2.2.2.2.2.2.2.2.2.1
        have ee59 : 0 ≤ (z47 - z28) := hp.2.2.2.2.2.2.2.2.2.2.2.2.2.2.2.2.2.2.2.1
        have ee60 : 0 ≤ ((((z47 - z28) - z49) + 4) - z46) := hp.2.2.2.2.2.2.2.2.2.2.2.2.2.2.2.2.2.2.2.2.1
        have pq61 : ∀ x : Tk × Int × Int, gT x z30 z29 z28 fy26 fr31 z32 → RP (sLine f0 z3 z4 x ff34 fh35 ff33) z46 z52 z53 (fun y => gT y z49 z48 z47 fy54 fr50 z51) ff56 fh57 ff58 := hp.2.2.2.2.2.2.2.2.2.2.2.2.2.2.2.2.2.2.2.2.2.1
        have pq62 : kpB z46 z24 z52 := hp.2.2.2.2.2.2.2.2.2.2.2.2.2.2.2.2.2.2.2.2.2.2
        have w : WD D A s.heap [(a2, .inl (T 0, 329, .inl (cI f1))), (a5, .inl (T 0, 272, .inl (cI f3))), (a7, .inl (T 1, 12, .inr (.inl h0))), (a0, .inr (11, [.int fr1, .ref a1, .int (iI z2), .int (iI z3), .int (iI z4), .int (iI z47), .int (iI z48), .int (iI z49), .int fr50, .int (iI z51), .int (iI z52), .int (iI z53), .long fy54, .int (iI z55), .ref a2, .ref a3, .ref a4, .ref a5, .ref a6, .ref a7, .ref a8, .ref a9, .ref a10, .ref a11, .int (iI x10), .ref a12, .ref a13, .ref a14, .ref a15, .int (iI x11), .int r2, .int r3, .ref a16, .int (iI x12), .int (iI x13), .ref a17, .ref a18, .int (iI x14), .ref a19, .int (iI x15), .int r4, .ref a20, .ref a21, .int (iI x16), .int r5, .ref a22, .int (iI x17), .int (iI x18), .int (iI x19), .int (iI x20)])), (a1, .inl (T 0, 940, .inl (cI f0))), (a3, .inl (T 0, 53, .inl (cI ff56))), (a8, .inl (T 1, 12, .inr (.inl fh57))), (a11, .inl (T 2, 3, .inl (cI ff58)))] H locs := w
        refine lv_if_eq (tgt := 34) hx hb dX12_city_24 (by decide) (fun c_63 => ?_) (fun c_63 => ?_)
        · replace c_63 := (iz_eq (Int.le_trans (by decide) z46_a) (Int.le_trans z46_b (by decide))).mp c_63
          refine lv_iconst (v := iI (-1)) hx hb dX12_city_34 (by decide +kernel) ?_
          refine lv_aload_n hx hb dX12_city_35 rfl (lv_at hl 1 rfl) ?_
          refine r_get (v := .int (iI z53)) M w 3 11 clX12 rfl (by decide) G1474 rfl rfl dX12_city_36 ?_
          refine r_isub (v := iI ((-1) - z53)) M (iI_sub _ _) dX12_city_39 ?_
          exact ret _ (((-1) - z53), fr1, z2, z3, z4, z47, z48, z49, fr50, z51, z52, z53, fy54, z55, x10, r3, f1, ff56, h0, fh57, ff58) _ _ _ _ _ [3, 4, 0, 5, 1, 2, 6, 7] dX12_city_40 ⟨rfl, (show (-2147483648) ≤ ((-1) - z53) from by omega), (show ((-1) - z53) ≤ 2147483647 from by omega), z2_a, z2_b, z3_a, z3_b, z4_a, z4_b, z47_a, z47_b, z48_a, z48_b, z49_a, z49_b, z51_a, z51_b, z52_a, z52_b, z53_a, z53_b, z55_a, z55_b, x10_a, x10_b, f1_h, ff56_h, ff58_h, (show 0 ≤ (0 - z2) from by omega), (show snI f3 x10 from pp_s), (show ∃ rd o : Int → Int, rd0P rd ∧ o0P o ∧ CPm (ctN f0 x0 900 1000 ⟨tkAt f0 x0 900 0, rd, h1, o⟩ 0) ((-1) - z53) z52 f1 f1 from (by refine ⟨ff20, ff21, pq22, pq23, ?_⟩; have hc := ct_f1 lq1_c (by omega) (by omega) (fun x g e => absurd ((gT_stop g).mpr e) (by omega)) pq61 (by omega); have e1 : z4 = 900 := (by omega); have e2 : z3 = x0 := (by omega); rw [e1, e2] at hc; rw [hc]; exact ⟨by omega, rfl, rfl⟩)), (show ∃ rd o : Int → Int, rd0P rd ∧ o0P o ∧ CPn (ctN f0 x0 900 1000 ⟨tkAt f0 x0 900 0, rd, h1, o⟩ 0) f1 f1 h0 h0 from (by refine ⟨ff20, ff21, pq22, pq23, ?_⟩; have hc := ct_f1 lq1_c (by omega) (by omega) (fun x g e => absurd ((gT_stop g).mpr e) (by omega)) pq61 (by omega); have e1 : z4 = 900 := (by omega); have e2 : z3 = x0 := (by omega); rw [e1, e2] at hc; rw [hc]; exact ⟨rfl, rfl⟩)), (show ∃ rd o : Int → Int, rd0P rd ∧ o0P o ∧ CPf (ctN f0 x0 900 1000 ⟨tkAt f0 x0 900 0, rd, h1, o⟩ 0) z52 from (by refine ⟨ff20, ff21, pq22, pq23, ?_⟩; have hc := ct_f1 lq1_c (by omega) (by omega) (fun x g e => absurd ((gT_stop g).mpr e) (by omega)) pq61 (by omega); have e1 : z4 = 900 := (by omega); have e2 : z3 = x0 := (by omega); rw [e1, e2] at hc; rw [hc]; exact rfl))⟩ w (by decide) rfl
        · replace c_63 : ¬ z46 = 0 := fun h => c_63 ((iz_eq (Int.le_trans (by decide) z46_a) (Int.le_trans z46_b (by decide))).mpr h)
          refine lv_aload_n hx hb dX12_city_27 rfl (lv_at hl 1 rfl) ?_
          refine k_I (ce := 0) (sl := 0) (rest := []) (wr := [(a2, .inl (T 0, 329, .inl (cI f1))), (a5, .inl (T 0, 272, .inl (cI f3))), (a7, .inl (T 1, 12, .inr (.inl h0))), (a3, .inl (T 0, 53, .inl (cI ff56))), (a8, .inl (T 1, 12, .inr (.inl fh57))), (a11, .inl (T 2, 3, .inl (cI ff58)))]) (r_V (f := 2) [3, 4] M w V_HookedCityModel_230 G1720 G66 (c47_X12_readEnd l D T _ a0 fr1 a1 z2 z3 z4 z47 z48 z49 fr50 z51 z52 z53 fy54 z55 a2 a3 a4 a5 a6 a7 a8 a9 a10 a11 x10 a12 a13 a14 a15 x11 r2 r3 a16 x12 x13 a17 a18 x14 a19 x15 r4 a20 a21 x16 r5 a22 x17 x18 x19 x20 f0 z2_a z2_b z3_a z3_b z4_a z4_b z47_a z47_b z48_a z48_b z49_a z49_b z51_a z51_b z52_a z52_b z53_a z53_b z55_a z55_b x10_a x10_b x11_a x11_b x12_a x12_b x13_a x13_b x14_a x14_b x15_a x15_b x16_a x16_b x17_a x17_b x18_a x18_b x19_a x19_b x20_a x20_b f0_h) 3 clX12 rfl rfl (by decide) rfl hl.1 rfl (Nat.le_of_ble_eq_true rfl) dX12_city_28 (by decide) (by decide) (by decide) (by decide)) w [3, 4] [0, 1, 2, 5, 6, 7] rfl rfl (by decide) (by decide) rfl rfl (fun v u H locs hp w => ?_)
          obtain ⟨z64, z65, z66, z67, fr68, z69, z70, z71, fy72⟩ := u
          have hv : iI z64 = v := hp.1
          subst hv
          have z64_a : 0 ≤ z64 := hp.2.1
          have z64_b : z64 ≤ 1 := hp.2.2.1
          have z65_a : 0 ≤ z65 := hp.2.2.2.1
          have z65_b : z65 ≤ 940 := hp.2.2.2.2.1
          have z66_a : 0 ≤ z66 := hp.2.2.2.2.2.1
          have z66_b : z66 ≤ 940 := hp.2.2.2.2.2.2.1
          have z67_a : 0 ≤ z67 := hp.2.2.2.2.2.2.2.1
          have z67_b : z67 ≤ 4 := hp.2.2.2.2.2.2.2.2.1
          have z69_a : (-2147483648) ≤ z69 := hp.2.2.2.2.2.2.2.2.2.1
          have z69_b : z69 ≤ 2147483647 := hp.2.2.2.2.2.2.2.2.2.2.1
          have z70_a : (-2147483648) ≤ z70 := hp.2.2.2.2.2.2.2.2.2.2.2.1
          have z70_b : z70 ≤ 2147483647 := hp.2.2.2.2.2.2.2.2.2.2.2.2.1
          have z71_a : 0 ≤ z71 := hp.2.2.2.2.2.2.2.2.2.2.2.2.2.1
          have z71_b : z71 ≤ 940 := hp.2.2.2.2.2.2.2.2.2.2.2.2.2.2.1
          have ee73 : 0 ≤ (z65 - z47) := hp.2.2.2.2.2.2.2.2.2.2.2.2.2.2.2.1
          have ee74 : 0 ≤ (z49 - (z64 * 4)) := hp.2.2.2.2.2.2.2.2.2.2.2.2.2.2.2.2.1
          have pq75 : ∀ x : Tk × Int × Int, gT x z49 z48 z47 fy54 fr50 z51 → enP f0 z3 z4 59 x z64 z70 z71 (fun y => gT y z67 z66 z65 fy72 fr68 z69) := hp.2.2.2.2.2.2.2.2.2.2.2.2.2.2.2.2.2.1
          have pq76 : kpB z64 z52 z70 := hp.2.2.2.2.2.2.2.2.2.2.2.2.2.2.2.2.2.2
          have w : WD D A s.heap [(a2, .inl (T 0, 329, .inl (cI f1))), (a5, .inl (T 0, 272, .inl (cI f3))), (a7, .inl (T 1, 12, .inr (.inl h0))), (a3, .inl (T 0, 53, .inl (cI ff56))), (a8, .inl (T 1, 12, .inr (.inl fh57))), (a11, .inl (T 2, 3, .inl (cI ff58))), (a0, .inr (11, [.int fr1, .ref a1, .int (iI z2), .int (iI z3), .int (iI z4), .int (iI z65), .int (iI z66), .int (iI z67), .int fr68, .int (iI z69), .int (iI z70), .int (iI z71), .long fy72, .int (iI z55), .ref a2, .ref a3, .ref a4, .ref a5, .ref a6, .ref a7, .ref a8, .ref a9, .ref a10, .ref a11, .int (iI x10), .ref a12, .ref a13, .ref a14, .ref a15, .int (iI x11), .int r2, .int r3, .ref a16, .int (iI x12), .int (iI x13), .ref a17, .ref a18, .int (iI x14), .ref a19, .int (iI x15), .int r4, .ref a20, .ref a21, .int (iI x16), .int r5, .ref a22, .int (iI x17), .int (iI x18), .int (iI x19), .int (iI x20)])), (a1, .inl (T 0, 940, .inl (cI f0)))] H locs := w
          refine lv_if_ne (tgt := 41) hx hb dX12_city_31 (by decide) (fun c_77 => ?_) (fun c_77 => ?_)
          · replace c_77 : ¬ z64 = 0 := fun h => c_77 ((iz_eq (Int.le_trans (by decide) z64_a) (Int.le_trans z64_b (by decide))).mpr h)
            refine lv_iinc (v := iI (z36 + 1)) (lv' := [(1, .int (iI (z36 + 1))), (0, .ref a0)]) hx hb dX12_city_41 hl (k := 0) rfl (ii_inc (by decide +kernel)) (by decide) rfl (fun ls hl => ?_)
            refine lv_goto (tgt := 13) hx hb dX12_city_44 (by decide) ?_
            exact ih1 z70 z71 fy72 z55 z65 z66 z67 fr68 z69 ff58 ff56 fh57 (z36 + 1) _ _ _ z70_a z70_b z71_a z71_b z55_a z55_b z65_a z65_b z66_a z66_b z67_a z67_b z69_a z69_b ff58_h ff56_h (by omega) (by omega) (by omega) (ct_step lq1_c (by omega) (by omega) (fun x g e => absurd ((gT_stop g).mpr e) (by omega)) pq61 (by omega) pq75 (by omega)) (by have y2 := pq62 (by omega); have y3 := pq76 (by omega); omega) (by omega) (w.sub [0, 1, 2, 4, 7, 6, 3, 5] (by decide) rfl) (lv_sub hl [0, 1] rfl)
          · replace c_77 := (iz_eq (Int.le_trans (by decide) z64_a) (Int.le_trans z64_b (by decide))).mp c_77
            refine lv_iconst (v := iI (-1)) hx hb dX12_city_34 (by decide +kernel) ?_
            refine lv_aload_n hx hb dX12_city_35 rfl (lv_at hl 1 rfl) ?_
            refine r_get (v := .int (iI z71)) M w 6 11 clX12 rfl (by decide) G1474 rfl rfl dX12_city_36 ?_
            refine r_isub (v := iI ((-1) - z71)) M (iI_sub _ _) dX12_city_39 ?_
            exact ret _ (((-1) - z71), fr1, z2, z3, z4, z65, z66, z67, fr68, z69, z70, z71, fy72, z55, x10, r3, f1, ff56, h0, fh57, ff58) _ _ _ _ _ [6, 7, 0, 3, 1, 2, 4, 5] dX12_city_40 ⟨rfl, (show (-2147483648) ≤ ((-1) - z71) from by omega), (show ((-1) - z71) ≤ 2147483647 from by omega), z2_a, z2_b, z3_a, z3_b, z4_a, z4_b, z65_a, z65_b, z66_a, z66_b, z67_a, z67_b, z69_a, z69_b, z70_a, z70_b, z71_a, z71_b, z55_a, z55_b, x10_a, x10_b, f1_h, ff56_h, ff58_h, (show 0 ≤ (0 - z2) from by omega), (show snI f3 x10 from pp_s), (show ∃ rd o : Int → Int, rd0P rd ∧ o0P o ∧ CPm (ctN f0 x0 900 1000 ⟨tkAt f0 x0 900 0, rd, h1, o⟩ 0) ((-1) - z71) z70 f1 f1 from (by refine ⟨ff20, ff21, pq22, pq23, ?_⟩; have hc := ct_f2 lq1_c (by omega) (by omega) (fun x g e => absurd ((gT_stop g).mpr e) (by omega)) pq61 (by omega) pq75 (by omega); have e1 : z4 = 900 := (by omega); have e2 : z3 = x0 := (by omega); rw [e1, e2] at hc; rw [hc]; exact ⟨by omega, rfl, rfl⟩)), (show ∃ rd o : Int → Int, rd0P rd ∧ o0P o ∧ CPn (ctN f0 x0 900 1000 ⟨tkAt f0 x0 900 0, rd, h1, o⟩ 0) f1 f1 h0 h0 from (by refine ⟨ff20, ff21, pq22, pq23, ?_⟩; have hc := ct_f2 lq1_c (by omega) (by omega) (fun x g e => absurd ((gT_stop g).mpr e) (by omega)) pq61 (by omega) pq75 (by omega); have e1 : z4 = 900 := (by omega); have e2 : z3 = x0 := (by omega); rw [e1, e2] at hc; rw [hc]; exact ⟨rfl, rfl⟩)), (show ∃ rd o : Int → Int, rd0P rd ∧ o0P o ∧ CPf (ctN f0 x0 900 1000 ⟨tkAt f0 x0 900 0, rd, h1, o⟩ 0) z70 from (by refine ⟨ff20, ff21, pq22, pq23, ?_⟩; have hc := ct_f2 lq1_c (by omega) (by omega) (fun x g e => absurd ((gT_stop g).mpr e) (by omega)) pq61 (by omega) pq75 (by omega); have e1 : z4 = 900 := (by omega); have e2 : z3 = x0 := (by omega); rw [e1, e2] at hc; rw [hc]; exact rfl))⟩ w (by decide) rfl
  exact loop1 (((940 - z5) : Int).toNat + 1) z10 x8 fy11 x9 z5 z6 z7 fr8 z9 ff21 ff20 h1 0 _ _ _ z10_a z10_b x8_a x8_b x9_a x9_b z5_a z5_b z6_a z6_b z7_a z7_b z9_a z9_b ff21_h ff20_h (by decide) (by decide) (by omega) (ct_0 pq19) (by omega) (Nat.lt_succ_self _) w (lv_sub hl [0, 1] rfl)
