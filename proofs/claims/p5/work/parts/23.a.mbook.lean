theorem dX12_stay_0 : decode cX12_stay 0 = .ok (.iconst 0, 1) := by decide +kernel
theorem dX12_stay_1 : decode cX12_stay 1 = .ok (.istore_n 2, 1) := by decide +kernel
theorem dX12_stay_2 : decode cX12_stay 2 = .ok (.iload_n 2, 1) := by decide +kernel
theorem dX12_stay_3 : decode cX12_stay 3 = .ok (.bipush 34, 2) := by decide +kernel
theorem dX12_stay_5 : decode cX12_stay 5 = .ok (.if_icmp .ge 41, 3) := by decide +kernel
theorem dX12_stay_46 : decode cX12_stay 46 = .ok (.iload_n 1, 1) := by decide +kernel
theorem dX12_stay_47 : decode cX12_stay 47 = .ok (.ifCond .ne 4, 3) := by decide +kernel
theorem dX12_stay_51 : decode cX12_stay 51 = .ok (.aload_n 0, 1) := by decide +kernel
theorem dX12_stay_52 : decode cX12_stay 52 = .ok (.invokevirtual 284, 3) := by decide +kernel
theorem dX12_stay_55 : decode cX12_stay 55 = .ok (.aload_n 0, 1) := by decide +kernel
theorem dX12_stay_56 : decode cX12_stay 56 = .ok (.invokevirtual 367, 3) := by decide +kernel
theorem dX12_stay_59 : decode cX12_stay 59 = .ok (.return_, 1) := by decide +kernel
theorem dX12_stay_50 : decode cX12_stay 50 = .ok (.return_, 1) := by decide +kernel
theorem dX12_stay_8 : decode cX12_stay 8 = .ok (.aload_n 0, 1) := by decide +kernel
theorem dX12_stay_9 : decode cX12_stay 9 = .ok (.getfield 98, 3) := by decide +kernel
theorem dX12_stay_12 : decode cX12_stay 12 = .ok (.bipush 53, 2) := by decide +kernel
theorem dX12_stay_14 : decode cX12_stay 14 = .ok (.iload_n 2, 1) := by decide +kernel
theorem dX12_stay_15 : decode cX12_stay 15 = .ok (.iadd, 1) := by decide +kernel
theorem dX12_stay_16 : decode cX12_stay 16 = .ok (.iaload, 1) := by decide +kernel
theorem dX12_stay_17 : decode cX12_stay 17 = .ok (.istore_n 3, 1) := by decide +kernel
theorem dX12_stay_18 : decode cX12_stay 18 = .ok (.aload_n 0, 1) := by decide +kernel
theorem dX12_stay_19 : decode cX12_stay 19 = .ok (.getfield 98, 3) := by decide +kernel
theorem dX12_stay_22 : decode cX12_stay 22 = .ok (.bipush 53, 2) := by decide +kernel
theorem dX12_stay_24 : decode cX12_stay 24 = .ok (.iload_n 2, 1) := by decide +kernel
theorem dX12_stay_25 : decode cX12_stay 25 = .ok (.iadd, 1) := by decide +kernel
theorem dX12_stay_26 : decode cX12_stay 26 = .ok (.aload_n 0, 1) := by decide +kernel
theorem dX12_stay_27 : decode cX12_stay 27 = .ok (.getfield 110, 3) := by decide +kernel
theorem dX12_stay_30 : decode cX12_stay 30 = .ok (.iload_n 2, 1) := by decide +kernel
theorem dX12_stay_31 : decode cX12_stay 31 = .ok (.iaload, 1) := by decide +kernel
theorem dX12_stay_32 : decode cX12_stay 32 = .ok (.iastore, 1) := by decide +kernel
theorem dX12_stay_33 : decode cX12_stay 33 = .ok (.aload_n 0, 1) := by decide +kernel
theorem dX12_stay_34 : decode cX12_stay 34 = .ok (.getfield 110, 3) := by decide +kernel
theorem dX12_stay_37 : decode cX12_stay 37 = .ok (.iload_n 2, 1) := by decide +kernel
theorem dX12_stay_38 : decode cX12_stay 38 = .ok (.iload_n 3, 1) := by decide +kernel
theorem dX12_stay_39 : decode cX12_stay 39 = .ok (.iastore, 1) := by decide +kernel
theorem dX12_stay_40 : decode cX12_stay 40 = .ok (.iinc 2 1, 3) := by decide +kernel
theorem dX12_stay_43 : decode cX12_stay 43 = .ok (.goto (-41), 3) := by decide +kernel
theorem dX12_readPersonName_0 : decode cX12_readPersonName 0 = .ok (.aload_n 0, 1) := by decide +kernel
theorem dX12_readPersonName_1 : decode cX12_readPersonName 1 = .ok (.invokevirtual 175, 3) := by decide +kernel
theorem dX12_readPersonName_4 : decode cX12_readPersonName 4 = .ok (.ifCond .ne 9, 3) := by decide +kernel
theorem dX12_readPersonName_13 : decode cX12_readPersonName 13 = .ok (.aload_n 0, 1) := by decide +kernel
theorem dX12_readPersonName_14 : decode cX12_readPersonName 14 = .ok (.aload_n 0, 1) := by decide +kernel
theorem dX12_readPersonName_15 : decode cX12_readPersonName 15 = .ok (.getfield 113, 3) := by decide +kernel
theorem dX12_readPersonName_18 : decode cX12_readPersonName 18 = .ok (.iconst 0, 1) := by decide +kernel
theorem dX12_readPersonName_19 : decode cX12_readPersonName 19 = .ok (.aload_n 0, 1) := by decide +kernel
theorem dX12_readPersonName_20 : decode cX12_readPersonName 20 = .ok (.getfield 98, 3) := by decide +kernel
theorem dX12_readPersonName_23 : decode cX12_readPersonName 23 = .ok (.iconst 0, 1) := by decide +kernel
theorem dX12_readPersonName_24 : decode cX12_readPersonName 24 = .ok (.iaload, 1) := by decide +kernel
theorem dX12_readPersonName_25 : decode cX12_readPersonName 25 = .ok (.aload_n 0, 1) := by decide +kernel
theorem dX12_readPersonName_26 : decode cX12_readPersonName 26 = .ok (.getfield 43, 3) := by decide +kernel
theorem dX12_readPersonName_29 : decode cX12_readPersonName 29 = .ok (.invokestatic 179, 3) := by decide +kernel
theorem dX12_readPersonName_32 : decode cX12_readPersonName 32 = .ok (.putfield 79, 3) := by decide +kernel
theorem dX12_readPersonName_35 : decode cX12_readPersonName 35 = .ok (.aload_n 0, 1) := by decide +kernel
theorem dX12_readPersonName_36 : decode cX12_readPersonName 36 = .ok (.getfield 79, 3) := by decide +kernel
theorem dX12_readPersonName_39 : decode cX12_readPersonName 39 = .ok (.iconst (-1), 1) := by decide +kernel
theorem dX12_readPersonName_40 : decode cX12_readPersonName 40 = .ok (.if_icmp .ne 9, 3) := by decide +kernel
theorem dX12_readPersonName_49 : decode cX12_readPersonName 49 = .ok (.aload_n 0, 1) := by decide +kernel
theorem dX12_readPersonName_50 : decode cX12_readPersonName 50 = .ok (.invokevirtual 82, 3) := by decide +kernel
theorem dX12_readPersonName_53 : decode cX12_readPersonName 53 = .ok (.iconst 1, 1) := by decide +kernel
theorem dX12_readPersonName_54 : decode cX12_readPersonName 54 = .ok (.ireturn, 1) := by decide +kernel
theorem dX12_readPersonName_43 : decode cX12_readPersonName 43 = .ok (.aload_n 0, 1) := by decide +kernel
theorem dX12_readPersonName_44 : decode cX12_readPersonName 44 = .ok (.iconst 3, 1) := by decide +kernel
theorem dX12_readPersonName_45 : decode cX12_readPersonName 45 = .ok (.invokevirtual 72, 3) := by decide +kernel
theorem dX12_readPersonName_48 : decode cX12_readPersonName 48 = .ok (.ireturn, 1) := by decide +kernel
theorem dX12_readPersonName_7 : decode cX12_readPersonName 7 = .ok (.aload_n 0, 1) := by decide +kernel
theorem dX12_readPersonName_8 : decode cX12_readPersonName 8 = .ok (.iconst 1, 1) := by decide +kernel
theorem dX12_readPersonName_9 : decode cX12_readPersonName 9 = .ok (.invokevirtual 72, 3) := by decide +kernel
theorem dX12_readPersonName_12 : decode cX12_readPersonName 12 = .ok (.ireturn, 1) := by decide +kernel
theorem dX12_keep_0 : decode cX12_keep 0 = .ok (.iload_n 2, 1) := by decide +kernel
theorem dX12_keep_1 : decode cX12_keep 1 = .ok (.ifCond .eq 13, 3) := by decide +kernel
theorem dX12_keep_14 : decode cX12_keep 14 = .ok (.iload_n 2, 1) := by decide +kernel
theorem dX12_keep_15 : decode cX12_keep 15 = .ok (.ireturn, 1) := by decide +kernel
theorem dX12_keep_4 : decode cX12_keep 4 = .ok (.aload_n 0, 1) := by decide +kernel
theorem dX12_keep_5 : decode cX12_keep 5 = .ok (.getfield 160, 3) := by decide +kernel
theorem G1504 : Cond.fieldLink "HookedCityModel" 160 "HookedCityModel" "line" "[I" ∈ GW := gw_i 1504 (by decide +kernel) rfl
theorem dX12_keep_8 : decode cX12_keep 8 = .ok (.iload_n 1, 1) := by decide +kernel
theorem dX12_keep_9 : decode cX12_keep 9 = .ok (.aload_n 0, 1) := by decide +kernel
theorem dX12_keep_10 : decode cX12_keep 10 = .ok (.getfield 79, 3) := by decide +kernel
theorem dX12_keep_13 : decode cX12_keep 13 = .ok (.iastore, 1) := by decide +kernel
theorem dX12_readDoes_0 : decode cX12_readDoes 0 = .ok (.aload_n 0, 1) := by decide +kernel
theorem dX12_readDoes_1 : decode cX12_readDoes 1 = .ok (.bipush 11, 2) := by decide +kernel
theorem dX12_readDoes_3 : decode cX12_readDoes 3 = .ok (.invokevirtual 183, 3) := by decide +kernel
theorem dX12_readDoes_6 : decode cX12_readDoes 6 = .ok (.ifCond .ne 18, 3) := by decide +kernel
theorem dX12_readDoes_24 : decode cX12_readDoes 24 = .ok (.aload_n 0, 1) := by decide +kernel
theorem dX12_readDoes_25 : decode cX12_readDoes 25 = .ok (.getfield 160, 3) := by decide +kernel
theorem dX12_readDoes_28 : decode cX12_readDoes 28 = .ok (.iload_n 1, 1) := by decide +kernel
theorem dX12_readDoes_29 : decode cX12_readDoes 29 = .ok (.aload_n 0, 1) := by decide +kernel
theorem dX12_readDoes_30 : decode cX12_readDoes 30 = .ok (.bipush 11, 2) := by decide +kernel
theorem dX12_readDoes_32 : decode cX12_readDoes 32 = .ok (.invokevirtual 183, 3) := by decide +kernel
theorem dX12_readDoes_35 : decode cX12_readDoes 35 = .ok (.ifCond .eq 7, 3) := by decide +kernel
theorem dX12_readDoes_42 : decode cX12_readDoes 42 = .ok (.iconst 1, 1) := by decide +kernel
theorem dX12_readDoes_43 : decode cX12_readDoes 43 = .ok (.iastore, 1) := by decide +kernel
theorem dX12_readDoes_44 : decode cX12_readDoes 44 = .ok (.aload_n 0, 1) := by decide +kernel
theorem dX12_readDoes_45 : decode cX12_readDoes 45 = .ok (.invokevirtual 82, 3) := by decide +kernel
theorem dX12_readDoes_48 : decode cX12_readDoes 48 = .ok (.aload_n 0, 1) := by decide +kernel
theorem dX12_readDoes_49 : decode cX12_readDoes 49 = .ok (.iload_n 1, 1) := by decide +kernel
theorem dX12_readDoes_50 : decode cX12_readDoes 50 = .ok (.iconst 2, 1) := by decide +kernel
theorem dX12_readDoes_51 : decode cX12_readDoes 51 = .ok (.iadd, 1) := by decide +kernel
theorem dX12_readDoes_52 : decode cX12_readDoes 52 = .ok (.aload_n 0, 1) := by decide +kernel
theorem dX12_readDoes_53 : decode cX12_readDoes 53 = .ok (.invokevirtual 370, 3) := by decide +kernel
theorem G1990 : Cond.code ⟨"HookedCityModel", "readPersonName", "()Z"⟩ prog_14_method_104_code 1 (some .boolean) ∈ GW := gw_i 1990 (by decide +kernel) rfl
theorem G1987 : Cond.methodLink "HookedCityModel" 370 ⟨"HookedCityModel", "readPersonName", "()Z"⟩ ∈ GW := gw_i 1987 (by decide +kernel) rfl
theorem V_HookedCityModel_370 : VL "HookedCityModel" 370 yX12_readPersonName cX12_readPersonName 1 (some .boolean) 0 := ⟨G1990, G1987, G131, by decide +kernel, by decide +kernel, by decide +kernel⟩
theorem G1989 : Cond.instanceMethod ⟨"HookedCityModel", "readPersonName", "()Z"⟩ ∈ GW := gw_i 1989 (by decide +kernel) rfl
theorem G104 : Cond.selects "HookedCityModel" ⟨"HookedCityModel", "readPersonName", "()Z"⟩ ⟨"HookedCityModel", "readPersonName", "()Z"⟩ ∈ GW := gw_i 104 (by decide +kernel) rfl
theorem dX12_readDoes_56 : decode cX12_readDoes 56 = .ok (.invokevirtual 373, 3) := by decide +kernel
theorem G1994 : Cond.code ⟨"HookedCityModel", "keep", "(IZ)Z"⟩ prog_14_method_103_code 3 (some .boolean) ∈ GW := gw_i 1994 (by decide +kernel) rfl
theorem G1991 : Cond.methodLink "HookedCityModel" 373 ⟨"HookedCityModel", "keep", "(IZ)Z"⟩ ∈ GW := gw_i 1991 (by decide +kernel) rfl
theorem V_HookedCityModel_373 : VL "HookedCityModel" 373 yX12_keep cX12_keep 3 (some .boolean) 2 := ⟨G1994, G1991, G131, by decide +kernel, by decide +kernel, by decide +kernel⟩
theorem G1993 : Cond.instanceMethod ⟨"HookedCityModel", "keep", "(IZ)Z"⟩ ∈ GW := gw_i 1993 (by decide +kernel) rfl
theorem G105 : Cond.selects "HookedCityModel" ⟨"HookedCityModel", "keep", "(IZ)Z"⟩ ⟨"HookedCityModel", "keep", "(IZ)Z"⟩ ∈ GW := gw_i 105 (by decide +kernel) rfl
theorem dX12_readDoes_59 : decode cX12_readDoes 59 = .ok (.ifCond .eq 31, 3) := by decide +kernel
theorem dX12_readDoes_90 : decode cX12_readDoes 90 = .ok (.iconst 0, 1) := by decide +kernel
theorem dX12_readDoes_91 : decode cX12_readDoes 91 = .ok (.ireturn, 1) := by decide +kernel
theorem dX12_readDoes_62 : decode cX12_readDoes 62 = .ok (.aload_n 0, 1) := by decide +kernel
theorem dX12_readDoes_63 : decode cX12_readDoes 63 = .ok (.getfield 160, 3) := by decide +kernel
theorem dX12_readDoes_66 : decode cX12_readDoes 66 = .ok (.iload_n 1, 1) := by decide +kernel
theorem dX12_readDoes_67 : decode cX12_readDoes 67 = .ok (.iaload, 1) := by decide +kernel
theorem dX12_readDoes_68 : decode cX12_readDoes 68 = .ok (.iconst 1, 1) := by decide +kernel
theorem dX12_readDoes_69 : decode cX12_readDoes 69 = .ok (.if_icmp .eq 17, 3) := by decide +kernel
theorem dX12_readDoes_86 : decode cX12_readDoes 86 = .ok (.iconst 1, 1) := by decide +kernel
theorem dX12_readDoes_87 : decode cX12_readDoes 87 = .ok (.goto 4, 3) := by decide +kernel
theorem dX12_readDoes_72 : decode cX12_readDoes 72 = .ok (.aload_n 0, 1) := by decide +kernel
theorem dX12_readDoes_73 : decode cX12_readDoes 73 = .ok (.iload_n 1, 1) := by decide +kernel
theorem dX12_readDoes_74 : decode cX12_readDoes 74 = .ok (.iconst 3, 1) := by decide +kernel
theorem dX12_readDoes_75 : decode cX12_readDoes 75 = .ok (.iadd, 1) := by decide +kernel
theorem dX12_readDoes_76 : decode cX12_readDoes 76 = .ok (.aload_n 0, 1) := by decide +kernel
theorem dX12_readDoes_77 : decode cX12_readDoes 77 = .ok (.invokevirtual 370, 3) := by decide +kernel
theorem dX12_readDoes_80 : decode cX12_readDoes 80 = .ok (.invokevirtual 373, 3) := by decide +kernel
theorem dX12_readDoes_83 : decode cX12_readDoes 83 = .ok (.ifCond .eq 7, 3) := by decide +kernel
theorem dX12_readDoes_38 : decode cX12_readDoes 38 = .ok (.iconst 0, 1) := by decide +kernel
theorem dX12_readDoes_39 : decode cX12_readDoes 39 = .ok (.goto 4, 3) := by decide +kernel
theorem dX12_readDoes_9 : decode cX12_readDoes 9 = .ok (.aload_n 0, 1) := by decide +kernel
theorem dX12_readDoes_10 : decode cX12_readDoes 10 = .ok (.bipush 12, 2) := by decide +kernel
theorem dX12_readDoes_12 : decode cX12_readDoes 12 = .ok (.invokevirtual 183, 3) := by decide +kernel
theorem dX12_readDoes_15 : decode cX12_readDoes 15 = .ok (.ifCond .ne 9, 3) := by decide +kernel
theorem dX12_readDoes_18 : decode cX12_readDoes 18 = .ok (.aload_n 0, 1) := by decide +kernel
theorem dX12_readDoes_19 : decode cX12_readDoes 19 = .ok (.iconst 1, 1) := by decide +kernel
theorem dX12_readDoes_20 : decode cX12_readDoes 20 = .ok (.invokevirtual 72, 3) := by decide +kernel
theorem dX12_readDoes_23 : decode cX12_readDoes 23 = .ok (.ireturn, 1) := by decide +kernel
theorem dX12_readBookLine_0 : decode cX12_readBookLine 0 = .ok (.aload_n 0, 1) := by decide +kernel
theorem dX12_readBookLine_1 : decode cX12_readBookLine 1 = .ok (.bipush 13, 2) := by decide +kernel
theorem dX12_readBookLine_3 : decode cX12_readBookLine 3 = .ok (.invokevirtual 183, 3) := by decide +kernel
theorem dX12_readBookLine_6 : decode cX12_readBookLine 6 = .ok (.istore_n 1, 1) := by decide +kernel
theorem dX12_readBookLine_7 : decode cX12_readBookLine 7 = .ok (.aload_n 0, 1) := by decide +kernel
theorem dX12_readBookLine_8 : decode cX12_readBookLine 8 = .ok (.bipush 14, 2) := by decide +kernel
theorem dX12_readBookLine_10 : decode cX12_readBookLine 10 = .ok (.invokevirtual 183, 3) := by decide +kernel
theorem dX12_readBookLine_13 : decode cX12_readBookLine 13 = .ok (.istore_n 2, 1) := by decide +kernel
theorem dX12_readBookLine_14 : decode cX12_readBookLine 14 = .ok (.iload_n 1, 1) := by decide +kernel
theorem dX12_readBookLine_15 : decode cX12_readBookLine 15 = .ok (.ifCond .ne 49, 3) := by decide +kernel
theorem dX12_readBookLine_64 : decode cX12_readBookLine 64 = .ok (.aload_n 0, 1) := by decide +kernel
theorem dX12_readBookLine_65 : decode cX12_readBookLine 65 = .ok (.getfield 376, 3) := by decide +kernel
theorem G1506 : Cond.fieldLink "HookedCityModel" 376 "HookedCityModel" "lineMany" "I" ∈ GW := gw_i 1506 (by decide +kernel) rfl
theorem dX12_readBookLine_68 : decode cX12_readBookLine 68 = .ok (.bipush 40, 2) := by decide +kernel
theorem dX12_readBookLine_70 : decode cX12_readBookLine 70 = .ok (.if_icmp .ne 9, 3) := by decide +kernel
theorem dX12_readBookLine_79 : decode cX12_readBookLine 79 = .ok (.iconst 4, 1) := by decide +kernel
theorem dX12_readBookLine_80 : decode cX12_readBookLine 80 = .ok (.aload_n 0, 1) := by decide +kernel
theorem dX12_readBookLine_81 : decode cX12_readBookLine 81 = .ok (.getfield 376, 3) := by decide +kernel
theorem dX12_readBookLine_84 : decode cX12_readBookLine 84 = .ok (.imul, 1) := by decide +kernel
theorem dX12_readBookLine_85 : decode cX12_readBookLine 85 = .ok (.istore_n 3, 1) := by decide +kernel
theorem dX12_readBookLine_86 : decode cX12_readBookLine 86 = .ok (.aload_n 0, 1) := by decide +kernel
theorem dX12_readBookLine_87 : decode cX12_readBookLine 87 = .ok (.getfield 160, 3) := by decide +kernel
theorem dX12_readBookLine_90 : decode cX12_readBookLine 90 = .ok (.iload_n 3, 1) := by decide +kernel
theorem dX12_readBookLine_91 : decode cX12_readBookLine 91 = .ok (.iload_n 1, 1) := by decide +kernel
theorem dX12_readBookLine_92 : decode cX12_readBookLine 92 = .ok (.ifCond .eq 7, 3) := by decide +kernel
theorem dX12_readBookLine_95 : decode cX12_readBookLine 95 = .ok (.iconst 2, 1) := by decide +kernel
theorem dX12_readBookLine_96 : decode cX12_readBookLine 96 = .ok (.goto 4, 3) := by decide +kernel
theorem dX12_readBookLine_100 : decode cX12_readBookLine 100 = .ok (.iastore, 1) := by decide +kernel
theorem dX12_readBookLine_101 : decode cX12_readBookLine 101 = .ok (.aload_n 0, 1) := by decide +kernel
theorem dX12_readBookLine_102 : decode cX12_readBookLine 102 = .ok (.getfield 160, 3) := by decide +kernel
theorem dX12_readBookLine_105 : decode cX12_readBookLine 105 = .ok (.iload_n 3, 1) := by decide +kernel
theorem dX12_readBookLine_106 : decode cX12_readBookLine 106 = .ok (.iconst 1, 1) := by decide +kernel
theorem dX12_readBookLine_107 : decode cX12_readBookLine 107 = .ok (.iadd, 1) := by decide +kernel
theorem dX12_readBookLine_108 : decode cX12_readBookLine 108 = .ok (.iload_n 1, 1) := by decide +kernel
theorem dX12_readBookLine_109 : decode cX12_readBookLine 109 = .ok (.ifCond .ne 7, 3) := by decide +kernel
theorem dX12_readBookLine_116 : decode cX12_readBookLine 116 = .ok (.iconst 0, 1) := by decide +kernel
theorem dX12_readBookLine_117 : decode cX12_readBookLine 117 = .ok (.goto 22, 3) := by decide +kernel
theorem dX12_readBookLine_139 : decode cX12_readBookLine 139 = .ok (.iastore, 1) := by decide +kernel
theorem dX12_readBookLine_140 : decode cX12_readBookLine 140 = .ok (.aload_n 0, 1) := by decide +kernel
theorem dX12_readBookLine_141 : decode cX12_readBookLine 141 = .ok (.getfield 160, 3) := by decide +kernel
theorem dX12_readBookLine_144 : decode cX12_readBookLine 144 = .ok (.iload_n 3, 1) := by decide +kernel
theorem dX12_readBookLine_145 : decode cX12_readBookLine 145 = .ok (.iconst 2, 1) := by decide +kernel
theorem dX12_readBookLine_146 : decode cX12_readBookLine 146 = .ok (.iadd, 1) := by decide +kernel
theorem dX12_readBookLine_147 : decode cX12_readBookLine 147 = .ok (.iconst 0, 1) := by decide +kernel
theorem dX12_readBookLine_148 : decode cX12_readBookLine 148 = .ok (.iastore, 1) := by decide +kernel
theorem dX12_readBookLine_149 : decode cX12_readBookLine 149 = .ok (.aload_n 0, 1) := by decide +kernel
theorem dX12_readBookLine_150 : decode cX12_readBookLine 150 = .ok (.getfield 160, 3) := by decide +kernel
theorem dX12_readBookLine_153 : decode cX12_readBookLine 153 = .ok (.iload_n 3, 1) := by decide +kernel
theorem dX12_readBookLine_154 : decode cX12_readBookLine 154 = .ok (.iconst 3, 1) := by decide +kernel
theorem dX12_readBookLine_155 : decode cX12_readBookLine 155 = .ok (.iadd, 1) := by decide +kernel
theorem dX12_readBookLine_156 : decode cX12_readBookLine 156 = .ok (.iconst 0, 1) := by decide +kernel
theorem dX12_readBookLine_157 : decode cX12_readBookLine 157 = .ok (.iastore, 1) := by decide +kernel
theorem dX12_readBookLine_158 : decode cX12_readBookLine 158 = .ok (.aload_n 0, 1) := by decide +kernel
theorem dX12_readBookLine_159 : decode cX12_readBookLine 159 = .ok (.invokevirtual 82, 3) := by decide +kernel
theorem dX12_readBookLine_162 : decode cX12_readBookLine 162 = .ok (.iload_n 1, 1) := by decide +kernel
theorem dX12_readBookLine_163 : decode cX12_readBookLine 163 = .ok (.ifCond .eq 30, 3) := by decide +kernel
theorem dX12_readBookLine_166 : decode cX12_readBookLine 166 = .ok (.aload_n 0, 1) := by decide +kernel
theorem dX12_readBookLine_167 : decode cX12_readBookLine 167 = .ok (.iload_n 3, 1) := by decide +kernel
theorem dX12_readBookLine_168 : decode cX12_readBookLine 168 = .ok (.iconst 1, 1) := by decide +kernel
theorem dX12_readBookLine_169 : decode cX12_readBookLine 169 = .ok (.iadd, 1) := by decide +kernel
theorem dX12_readBookLine_170 : decode cX12_readBookLine 170 = .ok (.aload_n 0, 1) := by decide +kernel
theorem dX12_readBookLine_171 : decode cX12_readBookLine 171 = .ok (.invokevirtual 370, 3) := by decide +kernel
theorem dX12_readBookLine_174 : decode cX12_readBookLine 174 = .ok (.invokevirtual 373, 3) := by decide +kernel
theorem dX12_readBookLine_177 : decode cX12_readBookLine 177 = .ok (.ifCond .eq 14, 3) := by decide +kernel
theorem dX12_readBookLine_191 : decode cX12_readBookLine 191 = .ok (.iconst 0, 1) := by decide +kernel
theorem dX12_readBookLine_192 : decode cX12_readBookLine 192 = .ok (.ireturn, 1) := by decide +kernel
theorem dX12_readBookLine_180 : decode cX12_readBookLine 180 = .ok (.aload_n 0, 1) := by decide +kernel
theorem dX12_readBookLine_181 : decode cX12_readBookLine 181 = .ok (.invokevirtual 230, 3) := by decide +kernel
theorem dX12_readBookLine_184 : decode cX12_readBookLine 184 = .ok (.ifCond .eq 7, 3) := by decide +kernel
theorem dX12_readBookLine_187 : decode cX12_readBookLine 187 = .ok (.iconst 1, 1) := by decide +kernel
theorem dX12_readBookLine_188 : decode cX12_readBookLine 188 = .ok (.goto 4, 3) := by decide +kernel
theorem dX12_readBookLine_73 : decode cX12_readBookLine 73 = .ok (.aload_n 0, 1) := by decide +kernel
theorem dX12_readBookLine_74 : decode cX12_readBookLine 74 = .ok (.iconst 4, 1) := by decide +kernel
theorem dX12_readBookLine_75 : decode cX12_readBookLine 75 = .ok (.invokevirtual 72, 3) := by decide +kernel
theorem dX12_readBookLine_78 : decode cX12_readBookLine 78 = .ok (.ireturn, 1) := by decide +kernel
theorem dX12_readBookLine_18 : decode cX12_readBookLine 18 = .ok (.iload_n 2, 1) := by decide +kernel
theorem dX12_readBookLine_19 : decode cX12_readBookLine 19 = .ok (.ifCond .ne 45, 3) := by decide +kernel
theorem dX12_readBookLine_99 : decode cX12_readBookLine 99 = .ok (.iconst 3, 1) := by decide +kernel
theorem dX12_readBookLine_112 : decode cX12_readBookLine 112 = .ok (.iload_n 2, 1) := by decide +kernel
theorem dX12_readBookLine_113 : decode cX12_readBookLine 113 = .ok (.ifCond .eq 7, 3) := by decide +kernel
theorem dX12_readBookLine_193 : decode cX12_readBookLine 193 = .ok (.iload_n 2, 1) := by decide +kernel
theorem dX12_readBookLine_194 : decode cX12_readBookLine 194 = .ok (.ifCond .eq 23, 3) := by decide +kernel
theorem dX12_readBookLine_197 : decode cX12_readBookLine 197 = .ok (.aload_n 0, 1) := by decide +kernel
theorem dX12_readBookLine_198 : decode cX12_readBookLine 198 = .ok (.iload_n 3, 1) := by decide +kernel
theorem dX12_readBookLine_199 : decode cX12_readBookLine 199 = .ok (.iconst 1, 1) := by decide +kernel
theorem dX12_readBookLine_200 : decode cX12_readBookLine 200 = .ok (.iadd, 1) := by decide +kernel
theorem dX12_readBookLine_201 : decode cX12_readBookLine 201 = .ok (.aload_n 0, 1) := by decide +kernel
theorem dX12_readBookLine_202 : decode cX12_readBookLine 202 = .ok (.iconst 1, 1) := by decide +kernel
theorem dX12_readBookLine_203 : decode cX12_readBookLine 203 = .ok (.bipush 60, 2) := by decide +kernel
theorem dX12_readBookLine_205 : decode cX12_readBookLine 205 = .ok (.invokevirtual 200, 3) := by decide +kernel
theorem dX12_readBookLine_208 : decode cX12_readBookLine 208 = .ok (.invokevirtual 373, 3) := by decide +kernel
theorem dX12_readBookLine_211 : decode cX12_readBookLine 211 = .ok (.ifCond .eq 25, 3) := by decide +kernel
theorem dX12_readBookLine_236 : decode cX12_readBookLine 236 = .ok (.iconst 0, 1) := by decide +kernel
theorem dX12_readBookLine_237 : decode cX12_readBookLine 237 = .ok (.ireturn, 1) := by decide +kernel
theorem dX12_readBookLine_214 : decode cX12_readBookLine 214 = .ok (.goto 11, 3) := by decide +kernel
theorem dX12_readBookLine_225 : decode cX12_readBookLine 225 = .ok (.aload_n 0, 1) := by decide +kernel
theorem dX12_readBookLine_226 : decode cX12_readBookLine 226 = .ok (.invokevirtual 230, 3) := by decide +kernel
theorem dX12_readBookLine_229 : decode cX12_readBookLine 229 = .ok (.ifCond .eq 7, 3) := by decide +kernel
theorem dX12_readBookLine_232 : decode cX12_readBookLine 232 = .ok (.iconst 1, 1) := by decide +kernel
theorem dX12_readBookLine_233 : decode cX12_readBookLine 233 = .ok (.goto 4, 3) := by decide +kernel
theorem dX12_readBookLine_22 : decode cX12_readBookLine 22 = .ok (.aload_n 0, 1) := by decide +kernel
theorem dX12_readBookLine_23 : decode cX12_readBookLine 23 = .ok (.invokevirtual 175, 3) := by decide +kernel
theorem dX12_readBookLine_26 : decode cX12_readBookLine 26 = .ok (.ifCond .ne 9, 3) := by decide +kernel
theorem dX12_readBookLine_35 : decode cX12_readBookLine 35 = .ok (.aload_n 0, 1) := by decide +kernel
theorem dX12_readBookLine_36 : decode cX12_readBookLine 36 = .ok (.getfield 113, 3) := by decide +kernel
theorem dX12_readBookLine_39 : decode cX12_readBookLine 39 = .ok (.bipush 9, 2) := by decide +kernel
theorem dX12_readBookLine_41 : decode cX12_readBookLine 41 = .ok (.aload_n 0, 1) := by decide +kernel
theorem dX12_readBookLine_42 : decode cX12_readBookLine 42 = .ok (.getfield 98, 3) := by decide +kernel
theorem dX12_readBookLine_45 : decode cX12_readBookLine 45 = .ok (.iconst 1, 1) := by decide +kernel
theorem dX12_readBookLine_46 : decode cX12_readBookLine 46 = .ok (.iaload, 1) := by decide +kernel
theorem dX12_readBookLine_47 : decode cX12_readBookLine 47 = .ok (.aload_n 0, 1) := by decide +kernel
theorem dX12_readBookLine_48 : decode cX12_readBookLine 48 = .ok (.getfield 43, 3) := by decide +kernel
theorem dX12_readBookLine_51 : decode cX12_readBookLine 51 = .ok (.invokestatic 179, 3) := by decide +kernel
theorem dX12_readBookLine_54 : decode cX12_readBookLine 54 = .ok (.iconst (-1), 1) := by decide +kernel
theorem dX12_readBookLine_55 : decode cX12_readBookLine 55 = .ok (.if_icmp .ne 9, 3) := by decide +kernel
theorem dX12_readBookLine_120 : decode cX12_readBookLine 120 = .ok (.aload_n 0, 1) := by decide +kernel
theorem dX12_readBookLine_121 : decode cX12_readBookLine 121 = .ok (.getfield 113, 3) := by decide +kernel
theorem dX12_readBookLine_124 : decode cX12_readBookLine 124 = .ok (.bipush 9, 2) := by decide +kernel
theorem dX12_readBookLine_126 : decode cX12_readBookLine 126 = .ok (.aload_n 0, 1) := by decide +kernel
theorem dX12_readBookLine_127 : decode cX12_readBookLine 127 = .ok (.getfield 98, 3) := by decide +kernel
theorem dX12_readBookLine_130 : decode cX12_readBookLine 130 = .ok (.iconst 1, 1) := by decide +kernel
theorem dX12_readBookLine_131 : decode cX12_readBookLine 131 = .ok (.iaload, 1) := by decide +kernel
theorem dX12_readBookLine_132 : decode cX12_readBookLine 132 = .ok (.aload_n 0, 1) := by decide +kernel
theorem dX12_readBookLine_133 : decode cX12_readBookLine 133 = .ok (.getfield 43, 3) := by decide +kernel
theorem dX12_readBookLine_136 : decode cX12_readBookLine 136 = .ok (.invokestatic 179, 3) := by decide +kernel
theorem dX12_readBookLine_217 : decode cX12_readBookLine 217 = .ok (.aload_n 0, 1) := by decide +kernel
theorem dX12_readBookLine_218 : decode cX12_readBookLine 218 = .ok (.iload_n 3, 1) := by decide +kernel
theorem dX12_readBookLine_219 : decode cX12_readBookLine 219 = .ok (.invokevirtual 379, 3) := by decide +kernel
theorem G1998 : Cond.code ⟨"HookedCityModel", "readDoes", "(I)Z"⟩ prog_14_method_105_code 2 (some .boolean) ∈ GW := gw_i 1998 (by decide +kernel) rfl
theorem G1995 : Cond.methodLink "HookedCityModel" 379 ⟨"HookedCityModel", "readDoes", "(I)Z"⟩ ∈ GW := gw_i 1995 (by decide +kernel) rfl
theorem V_HookedCityModel_379 : VL "HookedCityModel" 379 yX12_readDoes cX12_readDoes 2 (some .boolean) 1 := ⟨G1998, G1995, G131, by decide +kernel, by decide +kernel, by decide +kernel⟩
theorem G1997 : Cond.instanceMethod ⟨"HookedCityModel", "readDoes", "(I)Z"⟩ ∈ GW := gw_i 1997 (by decide +kernel) rfl
theorem G106 : Cond.selects "HookedCityModel" ⟨"HookedCityModel", "readDoes", "(I)Z"⟩ ⟨"HookedCityModel", "readDoes", "(I)Z"⟩ ∈ GW := gw_i 106 (by decide +kernel) rfl
theorem dX12_readBookLine_222 : decode cX12_readBookLine 222 = .ok (.ifCond .eq 14, 3) := by decide +kernel
theorem dX12_readBookLine_58 : decode cX12_readBookLine 58 = .ok (.aload_n 0, 1) := by decide +kernel
theorem dX12_readBookLine_59 : decode cX12_readBookLine 59 = .ok (.iconst 3, 1) := by decide +kernel
theorem dX12_readBookLine_60 : decode cX12_readBookLine 60 = .ok (.invokevirtual 72, 3) := by decide +kernel
theorem dX12_readBookLine_63 : decode cX12_readBookLine 63 = .ok (.ireturn, 1) := by decide +kernel
theorem dX12_readBookLine_29 : decode cX12_readBookLine 29 = .ok (.aload_n 0, 1) := by decide +kernel
theorem dX12_readBookLine_30 : decode cX12_readBookLine 30 = .ok (.iconst 1, 1) := by decide +kernel
theorem dX12_readBookLine_31 : decode cX12_readBookLine 31 = .ok (.invokevirtual 72, 3) := by decide +kernel
theorem dX12_readBookLine_34 : decode cX12_readBookLine 34 = .ok (.ireturn, 1) := by decide +kernel
theorem dX12_goBy_0 : decode cX12_goBy 0 = .ok (.aload_n 0, 1) := by decide +kernel
theorem dX12_goBy_1 : decode cX12_goBy 1 = .ok (.getfield 160, 3) := by decide +kernel
theorem dX12_goBy_4 : decode cX12_goBy 4 = .ok (.iload_n 1, 1) := by decide +kernel
theorem dX12_goBy_5 : decode cX12_goBy 5 = .ok (.iconst 1, 1) := by decide +kernel
theorem dX12_goBy_6 : decode cX12_goBy 6 = .ok (.iadd, 1) := by decide +kernel
theorem dX12_goBy_7 : decode cX12_goBy 7 = .ok (.iaload, 1) := by decide +kernel
theorem dX12_goBy_8 : decode cX12_goBy 8 = .ok (.istore_n 2, 1) := by decide +kernel
theorem dX12_goBy_9 : decode cX12_goBy 9 = .ok (.aload_n 0, 1) := by decide +kernel
theorem dX12_goBy_10 : decode cX12_goBy 10 = .ok (.getfield 160, 3) := by decide +kernel
theorem dX12_goBy_13 : decode cX12_goBy 13 = .ok (.iload_n 1, 1) := by decide +kernel
theorem dX12_goBy_14 : decode cX12_goBy 14 = .ok (.iaload, 1) := by decide +kernel
theorem dX12_goBy_15 : decode cX12_goBy 15 = .ok (.iconst 3, 1) := by decide +kernel
theorem dX12_goBy_16 : decode cX12_goBy 16 = .ok (.if_icmp .ne 29, 3) := by decide +kernel
theorem dX12_goBy_45 : decode cX12_goBy 45 = .ok (.aload_n 0, 1) := by decide +kernel
theorem dX12_goBy_46 : decode cX12_goBy 46 = .ok (.aload_n 0, 1) := by decide +kernel
theorem dX12_goBy_47 : decode cX12_goBy 47 = .ok (.getfield 160, 3) := by decide +kernel
theorem dX12_goBy_50 : decode cX12_goBy 50 = .ok (.iload_n 1, 1) := by decide +kernel
theorem dX12_goBy_51 : decode cX12_goBy 51 = .ok (.iaload, 1) := by decide +kernel
theorem dX12_goBy_52 : decode cX12_goBy 52 = .ok (.iload_n 2, 1) := by decide +kernel
theorem dX12_goBy_53 : decode cX12_goBy 53 = .ok (.aload_n 0, 1) := by decide +kernel
theorem dX12_goBy_54 : decode cX12_goBy 54 = .ok (.getfield 160, 3) := by decide +kernel
theorem dX12_goBy_57 : decode cX12_goBy 57 = .ok (.iload_n 1, 1) := by decide +kernel
theorem dX12_goBy_58 : decode cX12_goBy 58 = .ok (.iconst 2, 1) := by decide +kernel
theorem dX12_goBy_59 : decode cX12_goBy 59 = .ok (.iadd, 1) := by decide +kernel
theorem dX12_goBy_60 : decode cX12_goBy 60 = .ok (.iaload, 1) := by decide +kernel
theorem dX12_goBy_61 : decode cX12_goBy 61 = .ok (.aload_n 0, 1) := by decide +kernel
theorem dX12_goBy_62 : decode cX12_goBy 62 = .ok (.getfield 160, 3) := by decide +kernel
theorem dX12_goBy_65 : decode cX12_goBy 65 = .ok (.iload_n 1, 1) := by decide +kernel
theorem dX12_goBy_66 : decode cX12_goBy 66 = .ok (.iconst 3, 1) := by decide +kernel
theorem dX12_goBy_67 : decode cX12_goBy 67 = .ok (.iadd, 1) := by decide +kernel
theorem dX12_goBy_68 : decode cX12_goBy 68 = .ok (.iaload, 1) := by decide +kernel
theorem dX12_goBy_69 : decode cX12_goBy 69 = .ok (.invokevirtual 280, 3) := by decide +kernel
theorem dX12_goBy_72 : decode cX12_goBy 72 = .ok (.istore_n 3, 1) := by decide +kernel
theorem dX12_goBy_73 : decode cX12_goBy 73 = .ok (.iload_n 3, 1) := by decide +kernel
theorem dX12_goBy_74 : decode cX12_goBy 74 = .ok (.ifCond .eq 15, 3) := by decide +kernel
theorem dX12_goBy_89 : decode cX12_goBy 89 = .ok (.aload_n 0, 1) := by decide +kernel
theorem dX12_goBy_90 : decode cX12_goBy 90 = .ok (.aload_n 0, 1) := by decide +kernel
theorem dX12_goBy_91 : decode cX12_goBy 91 = .ok (.getfield 160, 3) := by decide +kernel
theorem dX12_goBy_94 : decode cX12_goBy 94 = .ok (.iload_n 1, 1) := by decide +kernel
theorem dX12_goBy_95 : decode cX12_goBy 95 = .ok (.iaload, 1) := by decide +kernel
theorem dX12_goBy_96 : decode cX12_goBy 96 = .ok (.iload_n 2, 1) := by decide +kernel
theorem dX12_goBy_97 : decode cX12_goBy 97 = .ok (.aload_n 0, 1) := by decide +kernel
theorem dX12_goBy_98 : decode cX12_goBy 98 = .ok (.getfield 160, 3) := by decide +kernel
theorem dX12_goBy_101 : decode cX12_goBy 101 = .ok (.iload_n 1, 1) := by decide +kernel
theorem dX12_goBy_102 : decode cX12_goBy 102 = .ok (.iconst 2, 1) := by decide +kernel
theorem dX12_goBy_103 : decode cX12_goBy 103 = .ok (.iadd, 1) := by decide +kernel
theorem dX12_goBy_104 : decode cX12_goBy 104 = .ok (.iaload, 1) := by decide +kernel
theorem dX12_goBy_105 : decode cX12_goBy 105 = .ok (.aload_n 0, 1) := by decide +kernel
theorem dX12_goBy_106 : decode cX12_goBy 106 = .ok (.getfield 160, 3) := by decide +kernel
theorem dX12_goBy_109 : decode cX12_goBy 109 = .ok (.iload_n 1, 1) := by decide +kernel
theorem dX12_goBy_110 : decode cX12_goBy 110 = .ok (.iconst 3, 1) := by decide +kernel
theorem dX12_goBy_111 : decode cX12_goBy 111 = .ok (.iadd, 1) := by decide +kernel
theorem dX12_goBy_112 : decode cX12_goBy 112 = .ok (.iaload, 1) := by decide +kernel
theorem dX12_goBy_113 : decode cX12_goBy 113 = .ok (.invokevirtual 287, 3) := by decide +kernel
theorem dX12_goBy_116 : decode cX12_goBy 116 = .ok (.iconst 0, 1) := by decide +kernel
theorem dX12_goBy_117 : decode cX12_goBy 117 = .ok (.ireturn, 1) := by decide +kernel
theorem dX12_goBy_77 : decode cX12_goBy 77 = .ok (.bipush 10, 2) := by decide +kernel
theorem dX12_goBy_79 : decode cX12_goBy 79 = .ok (.aload_n 0, 1) := by decide +kernel
theorem dX12_goBy_80 : decode cX12_goBy 80 = .ok (.getfield 160, 3) := by decide +kernel
theorem dX12_goBy_83 : decode cX12_goBy 83 = .ok (.iload_n 1, 1) := by decide +kernel
theorem dX12_goBy_84 : decode cX12_goBy 84 = .ok (.iaload, 1) := by decide +kernel
theorem dX12_goBy_85 : decode cX12_goBy 85 = .ok (.imul, 1) := by decide +kernel
theorem dX12_goBy_86 : decode cX12_goBy 86 = .ok (.iload_n 3, 1) := by decide +kernel
theorem dX12_goBy_87 : decode cX12_goBy 87 = .ok (.iadd, 1) := by decide +kernel
theorem dX12_goBy_88 : decode cX12_goBy 88 = .ok (.ireturn, 1) := by decide +kernel
theorem dX12_goBy_19 : decode cX12_goBy 19 = .ok (.aload_n 0, 1) := by decide +kernel
theorem dX12_goBy_20 : decode cX12_goBy 20 = .ok (.getfield 98, 3) := by decide +kernel
theorem dX12_goBy_23 : decode cX12_goBy 23 = .ok (.bipush 53, 2) := by decide +kernel
theorem dX12_goBy_25 : decode cX12_goBy 25 = .ok (.iaload, 1) := by decide +kernel
theorem dX12_goBy_26 : decode cX12_goBy 26 = .ok (.iload_n 2, 1) := by decide +kernel
theorem dX12_goBy_27 : decode cX12_goBy 27 = .ok (.iadd, 1) := by decide +kernel
theorem dX12_goBy_28 : decode cX12_goBy 28 = .ok (.sipush 400, 3) := by decide +kernel
theorem dX12_goBy_31 : decode cX12_goBy 31 = .ok (.if_icmp .le 6, 3) := by decide +kernel
theorem dX12_goBy_37 : decode cX12_goBy 37 = .ok (.aload_n 0, 1) := by decide +kernel
theorem dX12_goBy_38 : decode cX12_goBy 38 = .ok (.iload_n 2, 1) := by decide +kernel
theorem dX12_goBy_39 : decode cX12_goBy 39 = .ok (.invokevirtual 304, 3) := by decide +kernel
theorem dX12_goBy_42 : decode cX12_goBy 42 = .ok (.pop, 1) := by decide +kernel
theorem dX12_goBy_43 : decode cX12_goBy 43 = .ok (.iconst 0, 1) := by decide +kernel
theorem dX12_goBy_44 : decode cX12_goBy 44 = .ok (.ireturn, 1) := by decide +kernel
theorem dX12_goBy_34 : decode cX12_goBy 34 = .ok (.bipush 31, 2) := by decide +kernel
theorem dX12_goBy_36 : decode cX12_goBy 36 = .ok (.ireturn, 1) := by decide +kernel
theorem dX12_book_0 : decode cX12_book 0 = .ok (.aload_n 0, 1) := by decide +kernel
theorem dX12_book_1 : decode cX12_book 1 = .ok (.iconst 0, 1) := by decide +kernel
theorem dX12_book_2 : decode cX12_book 2 = .ok (.putfield 1, 3) := by decide +kernel
theorem dX12_book_5 : decode cX12_book 5 = .ok (.iload_n 1, 1) := by decide +kernel
theorem dX12_book_6 : decode cX12_book 6 = .ok (.iconst 0, 1) := by decide +kernel
theorem dX12_book_7 : decode cX12_book 7 = .ok (.iconst 1, 1) := by decide +kernel
theorem dX12_book_8 : decode cX12_book 8 = .ok (.invokestatic 75, 3) := by decide +kernel
theorem dX12_book_11 : decode cX12_book 11 = .ok (.ifCond .ne 7, 3) := by decide +kernel
theorem dX12_book_14 : decode cX12_book 14 = .ok (.sipush (-1000), 3) := by decide +kernel
theorem dX12_book_17 : decode cX12_book 17 = .ok (.ireturn, 1) := by decide +kernel
theorem dX12_book_18 : decode cX12_book 18 = .ok (.aload_n 0, 1) := by decide +kernel
theorem dX12_book_19 : decode cX12_book 19 = .ok (.sipush 400, 3) := by decide +kernel
theorem dX12_book_22 : decode cX12_book 22 = .ok (.invokevirtual 224, 3) := by decide +kernel
theorem dX12_book_25 : decode cX12_book 25 = .ok (.aload_n 0, 1) := by decide +kernel
theorem dX12_book_26 : decode cX12_book 26 = .ok (.iconst 0, 1) := by decide +kernel
theorem dX12_book_27 : decode cX12_book 27 = .ok (.putfield 376, 3) := by decide +kernel
theorem dX12_book_30 : decode cX12_book 30 = .ok (.aload_n 0, 1) := by decide +kernel
theorem dX12_book_31 : decode cX12_book 31 = .ok (.getfield 30, 3) := by decide +kernel
theorem dX12_book_34 : decode cX12_book 34 = .ok (.ifCond .eq 31, 3) := by decide +kernel
theorem dX12_book_65 : decode cX12_book 65 = .ok (.aload_n 0, 1) := by decide +kernel
theorem dX12_book_66 : decode cX12_book 66 = .ok (.invokevirtual 364, 3) := by decide +kernel
theorem dX12_book_69 : decode cX12_book 69 = .ok (.iconst 0, 1) := by decide +kernel
theorem dX12_book_70 : decode cX12_book 70 = .ok (.istore_n 2, 1) := by decide +kernel
theorem dX12_book_71 : decode cX12_book 71 = .ok (.iconst 0, 1) := by decide +kernel
theorem dX12_book_72 : decode cX12_book 72 = .ok (.istore_n 3, 1) := by decide +kernel
theorem dX12_book_73 : decode cX12_book 73 = .ok (.iload_n 2, 1) := by decide +kernel
theorem dX12_book_74 : decode cX12_book 74 = .ok (.aload_n 0, 1) := by decide +kernel
theorem dX12_book_75 : decode cX12_book 75 = .ok (.getfield 376, 3) := by decide +kernel
theorem dX12_book_78 : decode cX12_book 78 = .ok (.if_icmp .ge 25, 3) := by decide +kernel
theorem dX12_book_103 : decode cX12_book 103 = .ok (.aload_n 0, 1) := by decide +kernel
theorem dX12_book_104 : decode cX12_book 104 = .ok (.getfield 163, 3) := by decide +kernel
theorem dX12_book_107 : decode cX12_book 107 = .ok (.iconst 0, 1) := by decide +kernel
theorem dX12_book_108 : decode cX12_book 108 = .ok (.iload_n 3, 1) := by decide +kernel
theorem dX12_book_109 : decode cX12_book 109 = .ok (.iastore, 1) := by decide +kernel
theorem dX12_book_110 : decode cX12_book 110 = .ok (.aload_n 0, 1) := by decide +kernel
theorem dX12_book_111 : decode cX12_book 111 = .ok (.getfield 163, 3) := by decide +kernel
theorem dX12_book_114 : decode cX12_book 114 = .ok (.iconst 1, 1) := by decide +kernel
theorem dX12_book_115 : decode cX12_book 115 = .ok (.iload_n 2, 1) := by decide +kernel
theorem dX12_book_116 : decode cX12_book 116 = .ok (.iastore, 1) := by decide +kernel
theorem dX12_book_117 : decode cX12_book 117 = .ok (.aload_n 0, 1) := by decide +kernel
theorem dX12_book_118 : decode cX12_book 118 = .ok (.getfield 163, 3) := by decide +kernel
theorem dX12_book_121 : decode cX12_book 121 = .ok (.iconst 2, 1) := by decide +kernel
theorem dX12_book_122 : decode cX12_book 122 = .ok (.aload_n 0, 1) := by decide +kernel
theorem dX12_book_123 : decode cX12_book 123 = .ok (.getfield 98, 3) := by decide +kernel
theorem dX12_book_126 : decode cX12_book 126 = .ok (.bipush 53, 2) := by decide +kernel
theorem dX12_book_128 : decode cX12_book 128 = .ok (.iaload, 1) := by decide +kernel
theorem dX12_book_129 : decode cX12_book 129 = .ok (.iastore, 1) := by decide +kernel
theorem dX12_book_130 : decode cX12_book 130 = .ok (.aload_n 0, 1) := by decide +kernel
theorem dX12_book_131 : decode cX12_book 131 = .ok (.getfield 163, 3) := by decide +kernel
theorem dX12_book_134 : decode cX12_book 134 = .ok (.iconst 3, 1) := by decide +kernel
theorem dX12_book_135 : decode cX12_book 135 = .ok (.aload_n 0, 1) := by decide +kernel
theorem dX12_book_136 : decode cX12_book 136 = .ok (.invokevirtual 258, 3) := by decide +kernel
theorem dX12_book_139 : decode cX12_book 139 = .ok (.iastore, 1) := by decide +kernel
theorem dX12_book_140 : decode cX12_book 140 = .ok (.aload_n 0, 1) := by decide +kernel
theorem dX12_book_141 : decode cX12_book 141 = .ok (.iconst 1, 1) := by decide +kernel
theorem dX12_book_142 : decode cX12_book 142 = .ok (.putfield 388, 3) := by decide +kernel
theorem dX12_book_145 : decode cX12_book 145 = .ok (.aload_n 0, 1) := by decide +kernel
theorem dX12_book_146 : decode cX12_book 146 = .ok (.iload_n 1, 1) := by decide +kernel
theorem dX12_book_147 : decode cX12_book 147 = .ok (.iconst 1, 1) := by decide +kernel
theorem dX12_book_148 : decode cX12_book 148 = .ok (.if_icmp .ne 11, 3) := by decide +kernel
theorem dX12_book_159 : decode cX12_book 159 = .ok (.iconst 0, 1) := by decide +kernel
theorem dX12_book_160 : decode cX12_book 160 = .ok (.invokevirtual 391, 3) := by decide +kernel
theorem G2006 : Cond.code ⟨"HookedCityModel", "stay", "(Z)V"⟩ prog_14_method_109_code 4 none ∈ GW := gw_i 2006 (by decide +kernel) rfl
theorem G2003 : Cond.methodLink "HookedCityModel" 391 ⟨"HookedCityModel", "stay", "(Z)V"⟩ ∈ GW := gw_i 2003 (by decide +kernel) rfl
theorem V_HookedCityModel_391 : VL "HookedCityModel" 391 yX12_stay cX12_stay 4 none 1 := ⟨G2006, G2003, G131, by decide +kernel, by decide +kernel, by decide +kernel⟩
theorem G2005 : Cond.instanceMethod ⟨"HookedCityModel", "stay", "(Z)V"⟩ ∈ GW := gw_i 2005 (by decide +kernel) rfl
theorem G108 : Cond.selects "HookedCityModel" ⟨"HookedCityModel", "stay", "(Z)V"⟩ ⟨"HookedCityModel", "stay", "(Z)V"⟩ ∈ GW := gw_i 108 (by decide +kernel) rfl
theorem dX12_book_163 : decode cX12_book 163 = .ok (.iload_n 3, 1) := by decide +kernel
theorem dX12_book_164 : decode cX12_book 164 = .ok (.ifCond .ne 7, 3) := by decide +kernel
theorem dX12_book_171 : decode cX12_book 171 = .ok (.iload_n 2, 1) := by decide +kernel
theorem dX12_book_172 : decode cX12_book 172 = .ok (.ireturn, 1) := by decide +kernel
theorem dX12_book_167 : decode cX12_book 167 = .ok (.iconst (-1), 1) := by decide +kernel
theorem dX12_book_168 : decode cX12_book 168 = .ok (.goto 4, 3) := by decide +kernel
theorem dX12_book_151 : decode cX12_book 151 = .ok (.iload_n 2, 1) := by decide +kernel
theorem dX12_book_152 : decode cX12_book 152 = .ok (.ifCond .le 7, 3) := by decide +kernel
theorem dX12_book_155 : decode cX12_book 155 = .ok (.iconst 1, 1) := by decide +kernel
theorem dX12_book_156 : decode cX12_book 156 = .ok (.goto 4, 3) := by decide +kernel
theorem dX12_book_81 : decode cX12_book 81 = .ok (.iload_n 3, 1) := by decide +kernel
theorem dX12_book_82 : decode cX12_book 82 = .ok (.ifCond .ne 21, 3) := by decide +kernel
theorem dX12_book_85 : decode cX12_book 85 = .ok (.aload_n 0, 1) := by decide +kernel
theorem dX12_book_86 : decode cX12_book 86 = .ok (.iconst 4, 1) := by decide +kernel
theorem dX12_book_87 : decode cX12_book 87 = .ok (.iload_n 2, 1) := by decide +kernel
theorem dX12_book_88 : decode cX12_book 88 = .ok (.imul, 1) := by decide +kernel
theorem dX12_book_89 : decode cX12_book 89 = .ok (.invokevirtual 385, 3) := by decide +kernel
theorem G2002 : Cond.code ⟨"HookedCityModel", "goBy", "(I)I"⟩ prog_14_method_107_code 4 (some .int) ∈ GW := gw_i 2002 (by decide +kernel) rfl
theorem G1999 : Cond.methodLink "HookedCityModel" 385 ⟨"HookedCityModel", "goBy", "(I)I"⟩ ∈ GW := gw_i 1999 (by decide +kernel) rfl
theorem V_HookedCityModel_385 : VL "HookedCityModel" 385 yX12_goBy cX12_goBy 4 (some .int) 1 := ⟨G2002, G1999, G131, by decide +kernel, by decide +kernel, by decide +kernel⟩
theorem G2001 : Cond.instanceMethod ⟨"HookedCityModel", "goBy", "(I)I"⟩ ∈ GW := gw_i 2001 (by decide +kernel) rfl
theorem G107 : Cond.selects "HookedCityModel" ⟨"HookedCityModel", "goBy", "(I)I"⟩ ⟨"HookedCityModel", "goBy", "(I)I"⟩ ∈ GW := gw_i 107 (by decide +kernel) rfl
theorem dX12_book_92 : decode cX12_book 92 = .ok (.istore_n 3, 1) := by decide +kernel
theorem dX12_book_93 : decode cX12_book 93 = .ok (.iload_n 3, 1) := by decide +kernel
theorem dX12_book_94 : decode cX12_book 94 = .ok (.ifCond .ne (-21), 3) := by decide +kernel
theorem dX12_book_97 : decode cX12_book 97 = .ok (.iinc 2 1, 3) := by decide +kernel
theorem dX12_book_100 : decode cX12_book 100 = .ok (.goto (-27), 3) := by decide +kernel
theorem dX12_book_37 : decode cX12_book 37 = .ok (.aload_n 0, 1) := by decide +kernel
theorem dX12_book_38 : decode cX12_book 38 = .ok (.invokevirtual 382, 3) := by decide +kernel
theorem G1986 : Cond.code ⟨"HookedCityModel", "readBookLine", "()Z"⟩ prog_14_method_106_code 4 (some .boolean) ∈ GW := gw_i 1986 (by decide +kernel) rfl
theorem G1983 : Cond.methodLink "HookedCityModel" 382 ⟨"HookedCityModel", "readBookLine", "()Z"⟩ ∈ GW := gw_i 1983 (by decide +kernel) rfl
theorem V_HookedCityModel_382 : VL "HookedCityModel" 382 yX12_readBookLine cX12_readBookLine 4 (some .boolean) 0 := ⟨G1986, G1983, G131, by decide +kernel, by decide +kernel, by decide +kernel⟩
theorem G1985 : Cond.instanceMethod ⟨"HookedCityModel", "readBookLine", "()Z"⟩ ∈ GW := gw_i 1985 (by decide +kernel) rfl
theorem G103 : Cond.selects "HookedCityModel" ⟨"HookedCityModel", "readBookLine", "()Z"⟩ ⟨"HookedCityModel", "readBookLine", "()Z"⟩ ∈ GW := gw_i 103 (by decide +kernel) rfl
theorem dX12_book_41 : decode cX12_book 41 = .ok (.ifCond .ne 11, 3) := by decide +kernel
theorem dX12_book_52 : decode cX12_book 52 = .ok (.aload_n 0, 1) := by decide +kernel
theorem dX12_book_53 : decode cX12_book 53 = .ok (.dup, 1) := by decide +kernel
theorem dX12_book_54 : decode cX12_book 54 = .ok (.getfield 376, 3) := by decide +kernel
theorem dX12_book_57 : decode cX12_book 57 = .ok (.iconst 1, 1) := by decide +kernel
theorem dX12_book_58 : decode cX12_book 58 = .ok (.iadd, 1) := by decide +kernel
theorem dX12_book_59 : decode cX12_book 59 = .ok (.putfield 376, 3) := by decide +kernel
theorem dX12_book_62 : decode cX12_book 62 = .ok (.goto (-32), 3) := by decide +kernel
theorem dX12_book_44 : decode cX12_book 44 = .ok (.bipush (-2), 2) := by decide +kernel
theorem dX12_book_46 : decode cX12_book 46 = .ok (.aload_n 0, 1) := by decide +kernel
theorem dX12_book_47 : decode cX12_book 47 = .ok (.getfield 69, 3) := by decide +kernel
theorem dX12_book_50 : decode cX12_book 50 = .ok (.isub, 1) := by decide +kernel
theorem dX12_book_51 : decode cX12_book 51 = .ok (.ireturn, 1) := by decide +kernel
set_option maxRecDepth 100000 in
set_option maxHeartbeats 4000000 in
theorem c130_X12_stay (l : Launch) (D : va_G) (T : Nat → ClassId) (sz : Nat) (a0 : Nat) (x0 : Int) (r0 : Int32) (a1 : Nat) (x1 : Int) (x2 : Int) (x3 : Int) (x4 : Int) (x5 : Int) (x6 : Int) (r1 : Int32) (x7 : Int) (x8 : Int) (x9 : Int) (y0 : Int64) (x10 : Int) (a2 : Nat) (a3 : Nat) (a4 : Nat) (a5 : Nat) (a6 : Nat) (a7 : Nat) (a8 : Nat) (a9 : Nat) (a10 : Nat) (a11 : Nat) (x11 : Int) (a12 : Nat) (a13 : Nat) (a14 : Nat) (a15 : Nat) (x12 : Int) (r2 : Int32) (r3 : Int32) (a16 : Nat) (x13 : Int) (x14 : Int) (a17 : Nat) (a18 : Nat) (x15 : Int) (a19 : Nat) (x16 : Int) (r4 : Int32) (a20 : Nat) (a21 : Nat) (x17 : Int) (r5 : Int32) (a22 : Nat) (x18 : Int) (x19 : Int) (x20 : Int) (x21 : Int) (f0 : Int → Int) (f1 : Int → Int) (f2 : Int → Int) (x0_a : (-2147483648) ≤ x0) (x0_b : x0 ≤ 2147483647) (x1_a : 0 ≤ x1) (x1_b : x1 ≤ 940) (x2_a : 0 ≤ x2) (x2_b : x2 ≤ 940) (x3_a : 0 ≤ x3) (x3_b : x3 ≤ 940) (x4_a : 0 ≤ x4) (x4_b : x4 ≤ 940) (x5_a : 0 ≤ x5) (x5_b : x5 ≤ 940) (x6_a : 0 ≤ x6) (x6_b : x6 ≤ 4) (x7_a : (-2147483648) ≤ x7) (x7_b : x7 ≤ 2147483647) (x8_a : (-2147483648) ≤ x8) (x8_b : x8 ≤ 2147483647) (x9_a : 0 ≤ x9) (x9_b : x9 ≤ 940) (x10_a : (-2147483648) ≤ x10) (x10_b : x10 ≤ 2147483647) (x11_a : 0 ≤ x11) (x11_b : x11 ≤ 8) (x12_a : 0 ≤ x12) (x12_b : x12 ≤ 9) (x13_a : (-1) ≤ x13) (x13_b : x13 ≤ 9) (x14_a : (-1) ≤ x14) (x14_b : x14 ≤ 8) (x15_a : 0 ≤ x15) (x15_b : x15 ≤ 9) (x16_a : 0 ≤ x16) (x16_b : x16 ≤ 64) (x17_a : 0 ≤ x17) (x17_b : x17 ≤ 40) (x18_a : 0 ≤ x18) (x18_b : x18 ≤ 40) (x19_a : 0 ≤ x19) (x19_b : x19 ≤ 20) (x20_a : 0 ≤ x20) (x20_b : x20 ≤ 8) (x21_a : 0 ≤ x21) (x21_b : x21 ≤ 39) (f0_h : nowI f0) (f1_h : FL f1) (f2_h : FL f2) (pp_s : snI f1 x11) (pp_a : soI f2 0) : Met l yX12_stay (Cond.code yX12_stay cX12_stay 4 none :: GW) (Rm 1 0 0) (cPre [.ref a0, .int (iI x0)] D T [(a0, .inr (11, [.int r0, .ref a1, .int (iI x1), .int (iI x2), .int (iI x3), .int (iI x4), .int (iI x5), .int (iI x6), .int r1, .int (iI x7), .int (iI x8), .int (iI x9), .long y0, .int (iI x10), .ref a2, .ref a3, .ref a4, .ref a5, .ref a6, .ref a7, .ref a8, .ref a9, .ref a10, .ref a11, .int (iI x11), .ref a12, .ref a13, .ref a14, .ref a15, .int (iI x12), .int r2, .int r3, .ref a16, .int (iI x13), .int (iI x14), .ref a17, .ref a18, .int (iI x15), .ref a19, .int (iI x16), .int r4, .ref a20, .ref a21, .int (iI x17), .int r5, .ref a22, .int (iI x18), .int (iI x19), .int (iI x20), .int (iI x21)])), (a2, .inl (T 0, 329, .inl (cI f0))), (a5, .inl (T 0, 272, .inl (cI f1))), (a6, .inl (T 0, 34, .inl (cI f2)))] sz) (qV D [(a0, .inr (11, [.int r0, .ref a1, .int (iI x1), .int (iI x2), .int (iI x3), .int (iI x4), .int (iI x5), .int (iI x6), .int r1, .int (iI x7), .int (iI x8), .int (iI x9), .long y0, .int (iI x10), .ref a2, .ref a3, .ref a4, .ref a5, .ref a6, .ref a7, .ref a8, .ref a9, .ref a10, .ref a11, .int (iI x11), .ref a12, .ref a13, .ref a14, .ref a15, .int (iI x12), .int r2, .int r3, .ref a16, .int (iI x13), .int (iI x14), .ref a17, .ref a18, .int (iI x15), .ref a19, .int (iI x16), .int r4, .ref a20, .ref a21, .int (iI x17), .int r5, .ref a22, .int (iI x18), .int (iI x19), .int (iI x20), .int (iI x21)])), (a2, .inl (T 0, 329, .inl (cI f0))), (a5, .inl (T 0, 272, .inl (cI f1))), (a6, .inl (T 0, 34, .inl (cI f2)))] sz (fun (u : Int × (Int → Int) × (Int → Int) × (Int → Int)) => 0 ≤ u.1 ∧ u.1 ≤ 8 ∧ nowI u.2.1 ∧ FL u.2.2.1 ∧ FL u.2.2.2 ∧ (snI u.2.2.1 u.1) ∧ (kp 53 f0 u.2.1)) (fun u => [(a0, .inr (11, [.int r0, .ref a1, .int (iI x1), .int (iI x2), .int (iI x3), .int (iI x4), .int (iI x5), .int (iI x6), .int r1, .int (iI x7), .int (iI x8), .int (iI x9), .long y0, .int (iI x10), .ref a2, .ref a3, .ref a4, .ref a5, .ref a6, .ref a7, .ref a8, .ref a9, .ref a10, .ref a11, .int (iI u.1), .ref a12, .ref a13, .ref a14, .ref a15, .int (iI x12), .int r2, .int r3, .ref a16, .int (iI x13), .int (iI x14), .ref a17, .ref a18, .int (iI x15), .ref a19, .int (iI x16), .int r4, .ref a20, .ref a21, .int (iI x17), .int r5, .ref a22, .int (iI x18), .int (iI x19), .int (iI x20), .int (iI x21)])), (a2, .inl (T 0, 329, .inl (cI u.2.1))), (a5, .inl (T 0, 272, .inl (cI u.2.2.1))), (a6, .inl (T 0, 34, .inl (cI u.2.2.2)))])) 0 0 (va_A [(a0, .inr (11, [.int r0, .ref a1, .int (iI x1), .int (iI x2), .int (iI x3), .int (iI x4), .int (iI x5), .int (iI x6), .int r1, .int (iI x7), .int (iI x8), .int (iI x9), .long y0, .int (iI x10), .ref a2, .ref a3, .ref a4, .ref a5, .ref a6, .ref a7, .ref a8, .ref a9, .ref a10, .ref a11, .int (iI x11), .ref a12, .ref a13, .ref a14, .ref a15, .int (iI x12), .int r2, .int r3, .ref a16, .int (iI x13), .int (iI x14), .ref a17, .ref a18, .int (iI x15), .ref a19, .int (iI x16), .int r4, .ref a20, .ref a21, .int (iI x17), .int r5, .ref a22, .int (iI x18), .int (iI x19), .int (iI x20), .int (iI x21)])), (a2, .inl (T 0, 329, .inl (cI f0))), (a5, .inl (T 0, 272, .inl (cI f1))), (a6, .inl (T 0, 34, .inl (cI f2)))] sz) := by
  refine e_V (by decide) (Nat.le_of_ble_eq_true rfl) ?_
  intro p e s m args below meth c A Q ls M hin w ret hl
  have hx := M.1.1
  have hb := M.1.2.1
  have hl : lv_has ls 4 [(0, .ref a0), (1, .int (iI x0))] := hl
  refine lv_iconst (v := iI 0) hx hb dX12_stay_0 (by decide +kernel) ?_
  refine lv_istore_n (lv' := [(2, .int (iI 0)), (0, .ref a0), (1, .int (iI x0))]) hx hb dX12_stay_1 rfl hl (by decide) rfl (fun ls hl => ?_)
  have w := WD.eq (ws' := [(a0, .inr (11, [.int r0, .ref a1, .int (iI x1), .int (iI x2), .int (iI x3), .int (iI x4), .int (iI x5), .int (iI x6), .int r1, .int (iI x7), .int (iI x8), .int (iI x9), .long y0, .int (iI x10), .ref a2, .ref a3, .ref a4, .ref a5, .ref a6, .ref a7, .ref a8, .ref a9, .ref a10, .ref a11, .int (iI x11), .ref a12, .ref a13, .ref a14, .ref a15, .int (iI x12), .int r2, .int r3, .ref a16, .int (iI x13), .int (iI x14), .ref a17, .ref a18, .int (iI x15), .ref a19, .int (iI x16), .int r4, .ref a20, .ref a21, .int (iI x17), .int r5, .ref a22, .int (iI x18), .int (iI x19), .int (iI x20), .int (iI x21)])), (a2, .inl (T 0, 329, .inl (cI (cpz f2 f0 0 53 0)))), (a5, .inl (T 0, 272, .inl (cI f1))), (a6, .inl (T 0, 34, .inl (cI (cpz f0 f2 53 0 0))))]) (by rw [cpz_0 (c := f2) (d := f0) (sp := 0) (dp := 53) (n := 0) (by decide), cpz_0 (c := f0) (d := f2) (sp := 53) (dp := 0) (n := 0) (by decide)]) w
  have loop1 : ∀ (k1 : Nat) (z1 : Int) (H : Heap) (locs : List Loc) (ls : Array Slot), 0 ≤ z1 → z1 ≤ 34 → ((34 - z1) : Int).toNat < k1 → WD D A s.heap [(a0, .inr (11, [.int r0, .ref a1, .int (iI x1), .int (iI x2), .int (iI x3), .int (iI x4), .int (iI x5), .int (iI x6), .int r1, .int (iI x7), .int (iI x8), .int (iI x9), .long y0, .int (iI x10), .ref a2, .ref a3, .ref a4, .ref a5, .ref a6, .ref a7, .ref a8, .ref a9, .ref a10, .ref a11, .int (iI x11), .ref a12, .ref a13, .ref a14, .ref a15, .int (iI x12), .int r2, .int r3, .ref a16, .int (iI x13), .int (iI x14), .ref a17, .ref a18, .int (iI x15), .ref a19, .int (iI x16), .int r4, .ref a20, .ref a21, .int (iI x17), .int r5, .ref a22, .int (iI x18), .int (iI x19), .int (iI x20), .int (iI x21)])), (a2, .inl (T 0, 329, .inl (cI (cpz f2 f0 0 53 z1)))), (a5, .inl (T 0, 272, .inl (cI f1))), (a6, .inl (T 0, 34, .inl (cI (cpz f0 f2 53 0 z1))))] H locs → lv_has ls 4 [(2, .int (iI z1)), (0, .ref a0), (1, .int (iI x0))] → W p l e (Rm 1 0 0) s m args below meth c H locs 0 0 Q (F0 m 2 ls []) := by
    intro k1
    induction k1 with
    | zero => intro z1 H locs ls z1_a z1_b hm; exact absurd hm (Nat.not_lt_zero _)
    | succ k1 ih1 =>
      intro z1 H locs ls z1_a z1_b hm1 w hl
      refine lv_iload_n hx hb dX12_stay_2 rfl (lv_at hl 0 rfl) ?_
      refine lv_bipush (v := iI 34) hx hb dX12_stay_3 (by decide +kernel) ?_
      refine lv_icmp_ge (tgt := 46) hx hb dX12_stay_5 (by decide) (fun c_2 => ?_) (fun c_2 => ?_)
      · replace c_2 := (iI_le (by decide) (by decide) (Int.le_trans (by decide) z1_a) (Int.le_trans z1_b (by decide))).mp c_2
        obtain rfl : z1 = 34 := by omega
        refine lv_iload_n hx hb dX12_stay_46 rfl (lv_at hl 2 rfl) ?_
        refine lv_if_ne (tgt := 51) hx hb dX12_stay_47 (by decide) (fun c_3 => ?_) (fun c_3 => ?_)
        · replace c_3 : ¬ x0 = 0 := fun h => c_3 ((iz_eq (Int.le_trans (by decide) x0_a) (Int.le_trans x0_b (by decide))).mpr h)
          refine lv_aload_n hx hb dX12_stay_51 rfl (lv_at hl 1 rfl) ?_
          refine k_V (ce := 0) (sl := 0) (rest := []) (wr := [(a6, .inl (T 0, 34, .inl (cI (cpz f0 f2 53 0 34))))]) (r_V (f := 0) [0, 1, 2] M w V_HookedCityModel_284 G1804 G82 (c80_X12_snap l D T _ a0 r0 a1 x1 x2 x3 x4 x5 x6 r1 x7 x8 x9 y0 x10 a2 a3 a4 a5 a6 a7 a8 a9 a10 a11 x11 a12 a13 a14 a15 x12 r2 r3 a16 x13 x14 a17 a18 x15 a19 x16 r4 a20 a21 x17 r5 a22 x18 x19 x20 x21 (cpz f2 f0 0 53 34) f1 x1_a x1_b x2_a x2_b x3_a x3_b x4_a x4_b x5_a x5_b x6_a x6_b x7_a x7_b x8_a x8_b x9_a x9_b x10_a x10_b x11_a x11_b x12_a x12_b x13_a x13_b x14_a x14_b x15_a x15_b x16_a x16_b x17_a x17_b x18_a x18_b x19_a x19_b x20_a x20_b x21_a x21_b (now_cpu (n := 0) f0_h pp_a f2_h (by omega)) f1_h pp_s) 0 clX12 rfl rfl (by decide) rfl hl.1 rfl (Nat.le_of_ble_eq_true rfl) dX12_stay_52 (by decide) (by decide) (by decide) (by decide)) w [0, 1, 2] [3] rfl rfl (by decide) (by decide) rfl rfl (fun u H locs hp w => ?_)
          obtain ⟨z4, ff5⟩ := u
          have z4_a : 0 ≤ z4 := hp.1
          have z4_b : z4 ≤ 8 := hp.2.1
          have ff5_h : FL ff5 := hp.2.2.1
          have pq6 : snI ff5 z4 := hp.2.2.2
          have w : WD D A s.heap [(a6, .inl (T 0, 34, .inl (cI (cpz f0 f2 53 0 34)))), (a0, .inr (11, [.int r0, .ref a1, .int (iI x1), .int (iI x2), .int (iI x3), .int (iI x4), .int (iI x5), .int (iI x6), .int r1, .int (iI x7), .int (iI x8), .int (iI x9), .long y0, .int (iI x10), .ref a2, .ref a3, .ref a4, .ref a5, .ref a6, .ref a7, .ref a8, .ref a9, .ref a10, .ref a11, .int (iI z4), .ref a12, .ref a13, .ref a14, .ref a15, .int (iI x12), .int r2, .int r3, .ref a16, .int (iI x13), .int (iI x14), .ref a17, .ref a18, .int (iI x15), .ref a19, .int (iI x16), .int r4, .ref a20, .ref a21, .int (iI x17), .int r5, .ref a22, .int (iI x18), .int (iI x19), .int (iI x20), .int (iI x21)])), (a2, .inl (T 0, 329, .inl (cI (cpz f2 f0 0 53 34)))), (a5, .inl (T 0, 272, .inl (cI ff5)))] H locs := w
          refine lv_aload_n hx hb dX12_stay_55 rfl (lv_at hl 1 rfl) ?_
          refine k_V (ce := 0) (sl := 0) (rest := []) (wr := [(a5, .inl (T 0, 272, .inl (cI ff5)))]) (r_V (f := 0) [1, 2, 0] M w V_HookedCityModel_367 G1977 G102 (c118_X12_takeBack l D T _ a0 r0 a1 x1 x2 x3 x4 x5 x6 r1 x7 x8 x9 y0 x10 a2 a3 a4 a5 a6 a7 a8 a9 a10 a11 z4 a12 a13 a14 a15 x12 r2 r3 a16 x13 x14 a17 a18 x15 a19 x16 r4 a20 a21 x17 r5 a22 x18 x19 x20 x21 (cpz f2 f0 0 53 34) (cpz f0 f2 53 0 34) x1_a x1_b x2_a x2_b x3_a x3_b x4_a x4_b x5_a x5_b x6_a x6_b x7_a x7_b x8_a x8_b x9_a x9_b x10_a x10_b z4_a z4_b x12_a x12_b x13_a x13_b x14_a x14_b x15_a x15_b x16_a x16_b x17_a x17_b x18_a x18_b x19_a x19_b x20_a x20_b x21_a x21_b (now_cpu (n := 0) f0_h pp_a f2_h (by omega)) (FL_cp f0_h.1 f2_h) (so_cp (now_so f0_h))) 1 clX12 rfl rfl (by decide) rfl hl.1 rfl (Nat.le_of_ble_eq_true rfl) dX12_stay_56 (by decide) (by decide) (by decide) (by decide)) w [1, 2, 0] [3] rfl rfl (by decide) (by decide) rfl rfl (fun ff7 H locs hp w => ?_)
          have ff7_h : nowI ff7 := hp.1
          have pq8 : kp 53 (cpz f2 f0 0 53 34) ff7 := hp.2
          have w : WD D A s.heap [(a5, .inl (T 0, 272, .inl (cI ff5))), (a0, .inr (11, [.int r0, .ref a1, .int (iI x1), .int (iI x2), .int (iI x3), .int (iI x4), .int (iI x5), .int (iI x6), .int r1, .int (iI x7), .int (iI x8), .int (iI x9), .long y0, .int (iI x10), .ref a2, .ref a3, .ref a4, .ref a5, .ref a6, .ref a7, .ref a8, .ref a9, .ref a10, .ref a11, .int (iI z4), .ref a12, .ref a13, .ref a14, .ref a15, .int (iI x12), .int r2, .int r3, .ref a16, .int (iI x13), .int (iI x14), .ref a17, .ref a18, .int (iI x15), .ref a19, .int (iI x16), .int r4, .ref a20, .ref a21, .int (iI x17), .int r5, .ref a22, .int (iI x18), .int (iI x19), .int (iI x20), .int (iI x21)])), (a2, .inl (T 0, 329, .inl (cI ff7))), (a6, .inl (T 0, 34, .inl (cI (cpz f0 f2 53 0 34))))] H locs := w
          exact ret (z4, ff7, ff5, (cpz f0 f2 53 0 34)) _ _ _ _ _ [1, 2, 0, 3] dX12_stay_59 ⟨z4_a, z4_b, ff7_h, ff5_h, (FL_cp f0_h.1 f2_h), (show snI ff5 z4 from pq6), (show kp 53 f0 ff7 from (kp_tr (kp_cp kp_rfl (by omega)) pq8))⟩ w (by decide) rfl
        · replace c_3 := (iz_eq (Int.le_trans (by decide) x0_a) (Int.le_trans x0_b (by decide))).mp c_3
          exact ret (x11, (cpz f2 f0 0 53 34), f1, (cpz f0 f2 53 0 34)) _ _ _ _ _ [0, 1, 2, 3] dX12_stay_50 ⟨x11_a, x11_b, (now_cpu (n := 0) f0_h pp_a f2_h (by omega)), f1_h, (FL_cp f0_h.1 f2_h), (show snI f1 x11 from pp_s), (show kp 53 f0 (cpz f2 f0 0 53 34) from (kp_cp kp_rfl (by omega)))⟩ w (by decide) rfl
      · replace c_2 : z1 < 34 := Int.not_le.mp (fun h => c_2 ((iI_le (by decide) (by decide) (Int.le_trans (by decide) z1_a) (Int.le_trans z1_b (by decide))).mpr h))
        refine lv_aload_n hx hb dX12_stay_8 rfl (lv_at hl 1 rfl) ?_
        refine r_get (v := .ref a2) M w 0 14 clX12 rfl (by decide) G1477 rfl rfl dX12_stay_9 ?_
        refine lv_bipush (v := iI 53) hx hb dX12_stay_12 (by decide +kernel) ?_
        refine lv_iload_n hx hb dX12_stay_14 rfl (lv_at hl 0 rfl) ?_
        refine r_iadd (v := iI (53 + z1)) M (iI_add _ _) dX12_stay_15 ?_
        refine r_iald (v := iI ((cpz f2 f0 0 53 z1) (53 + z1))) M w 1 rfl (iI_in (by omega) (by omega) (by decide)) (cI_at (by omega) (by omega)) dX12_stay_16 ?_
        have hh9 : (-2147483648) ≤ ((cpz f2 f0 0 53 z1) (53 + z1)) ∧ ((cpz f2 f0 0 53 z1) (53 + z1)) ≤ 2147483647 := (FL_cp f2_h f0_h.1) (53 + z1)
        refine lv_istore_n (lv' := [(3, .int (iI ((cpz f2 f0 0 53 z1) (53 + z1)))), (2, .int (iI z1)), (0, .ref a0), (1, .int (iI x0))]) hx hb dX12_stay_17 rfl hl (by decide) rfl (fun ls hl => ?_)
        refine lv_aload_n hx hb dX12_stay_18 rfl (lv_at hl 2 rfl) ?_
        refine r_get (v := .ref a2) M w 0 14 clX12 rfl (by decide) G1477 rfl rfl dX12_stay_19 ?_
        refine lv_bipush (v := iI 53) hx hb dX12_stay_22 (by decide +kernel) ?_
        refine lv_iload_n hx hb dX12_stay_24 rfl (lv_at hl 1 rfl) ?_
        refine r_iadd (v := iI (53 + z1)) M (iI_add _ _) dX12_stay_25 ?_
        refine lv_aload_n hx hb dX12_stay_26 rfl (lv_at hl 2 rfl) ?_
        refine r_get (v := .ref a6) M w 0 18 clX12 rfl (by decide) G1481 rfl rfl dX12_stay_27 ?_
        refine lv_iload_n hx hb dX12_stay_30 rfl (lv_at hl 1 rfl) ?_
        refine r_iald (v := iI ((cpz f0 f2 53 0 z1) z1)) M w 3 rfl (iI_in (by omega) (by omega) (by decide)) (cI_at (by omega) (by omega)) dX12_stay_31 ?_
        have hh10 : (-2147483648) ≤ ((cpz f0 f2 53 0 z1) z1) ∧ ((cpz f0 f2 53 0 z1) z1) ≤ 2147483647 := (FL_cp f0_h.1 f2_h) z1
        refine r_iast (ws' := [(a0, .inr (11, [.int r0, .ref a1, .int (iI x1), .int (iI x2), .int (iI x3), .int (iI x4), .int (iI x5), .int (iI x6), .int r1, .int (iI x7), .int (iI x8), .int (iI x9), .long y0, .int (iI x10), .ref a2, .ref a3, .ref a4, .ref a5, .ref a6, .ref a7, .ref a8, .ref a9, .ref a10, .ref a11, .int (iI x11), .ref a12, .ref a13, .ref a14, .ref a15, .int (iI x12), .int r2, .int r3, .ref a16, .int (iI x13), .int (iI x14), .ref a17, .ref a18, .int (iI x15), .ref a19, .int (iI x16), .int r4, .ref a20, .ref a21, .int (iI x17), .int r5, .ref a22, .int (iI x18), .int (iI x19), .int (iI x20), .int (iI x21)])), (a2, .inl (T 0, 329, .inl (cI (upz (cpz f2 f0 0 53 z1) (53 + z1) ((cpz f0 f2 53 0 z1) z1))))), (a5, .inl (T 0, 272, .inl (cI f1))), (a6, .inl (T 0, 34, .inl (cI (cpz f0 f2 53 0 z1))))]) M w 1 rfl (iI_in (by omega) (by omega) (by decide)) (by rw [cI_up (by omega) (by omega)]; rfl) dX12_stay_32 (fun H locs w => ?_)
        refine lv_aload_n hx hb dX12_stay_33 rfl (lv_at hl 2 rfl) ?_
        refine r_get (v := .ref a6) M w 0 18 clX12 rfl (by decide) G1481 rfl rfl dX12_stay_34 ?_
        refine lv_iload_n hx hb dX12_stay_37 rfl (lv_at hl 1 rfl) ?_
        refine lv_iload_n hx hb dX12_stay_38 rfl (lv_at hl 0 rfl) ?_
        refine r_iast (ws' := [(a0, .inr (11, [.int r0, .ref a1, .int (iI x1), .int (iI x2), .int (iI x3), .int (iI x4), .int (iI x5), .int (iI x6), .int r1, .int (iI x7), .int (iI x8), .int (iI x9), .long y0, .int (iI x10), .ref a2, .ref a3, .ref a4, .ref a5, .ref a6, .ref a7, .ref a8, .ref a9, .ref a10, .ref a11, .int (iI x11), .ref a12, .ref a13, .ref a14, .ref a15, .int (iI x12), .int r2, .int r3, .ref a16, .int (iI x13), .int (iI x14), .ref a17, .ref a18, .int (iI x15), .ref a19, .int (iI x16), .int r4, .ref a20, .ref a21, .int (iI x17), .int r5, .ref a22, .int (iI x18), .int (iI x19), .int (iI x20), .int (iI x21)])), (a2, .inl (T 0, 329, .inl (cI (upz (cpz f2 f0 0 53 z1) (53 + z1) ((cpz f0 f2 53 0 z1) z1))))), (a5, .inl (T 0, 272, .inl (cI f1))), (a6, .inl (T 0, 34, .inl (cI (upz (cpz f0 f2 53 0 z1) z1 ((cpz f2 f0 0 53 z1) (53 + z1))))))]) M w 3 rfl (iI_in (by omega) (by omega) (by decide)) (by rw [cI_up (by omega) (by omega)]; rfl) dX12_stay_39 (fun H locs w => ?_)
        refine lv_iinc (v := iI (z1 + 1)) (lv' := [(2, .int (iI (z1 + 1))), (3, .int (iI ((cpz f2 f0 0 53 z1) (53 + z1)))), (0, .ref a0), (1, .int (iI x0))]) hx hb dX12_stay_40 hl (k := 1) rfl (ii_inc (by decide +kernel)) (by decide) rfl (fun ls hl => ?_)
        refine lv_goto (tgt := 2) hx hb dX12_stay_43 (by decide) ?_
        have w := WD.eq (ws' := [(a0, .inr (11, [.int r0, .ref a1, .int (iI x1), .int (iI x2), .int (iI x3), .int (iI x4), .int (iI x5), .int (iI x6), .int r1, .int (iI x7), .int (iI x8), .int (iI x9), .long y0, .int (iI x10), .ref a2, .ref a3, .ref a4, .ref a5, .ref a6, .ref a7, .ref a8, .ref a9, .ref a10, .ref a11, .int (iI x11), .ref a12, .ref a13, .ref a14, .ref a15, .int (iI x12), .int r2, .int r3, .ref a16, .int (iI x13), .int (iI x14), .ref a17, .ref a18, .int (iI x15), .ref a19, .int (iI x16), .int r4, .ref a20, .ref a21, .int (iI x17), .int r5, .ref a22, .int (iI x18), .int (iI x19), .int (iI x20), .int (iI x21)])), (a2, .inl (T 0, 329, .inl (cI (cpz f2 f0 0 53 (z1 + 1))))), (a5, .inl (T 0, 272, .inl (cI f1))), (a6, .inl (T 0, 34, .inl (cI (cpz f0 f2 53 0 (z1 + 1)))))]) (by rw [← cpz_t (c := f2) (d := f0) (sp := 0) (dp := 53) (k := z1) (k' := (z1 + 1)) (i := (53 + z1)) (x := ((cpz f0 f2 53 0 z1) z1)) (by omega) (by omega) (by omega) ((cpz_o (by omega)).trans (congrArg f2 (by omega))), ← cpz_t (c := f0) (d := f2) (sp := 53) (dp := 0) (k := z1) (k' := (z1 + 1)) (i := z1) (x := ((cpz f2 f0 0 53 z1) (53 + z1))) (by omega) (by omega) (by omega) ((cpz_o (by omega)).trans (congrArg f0 (by omega)))]) w
        exact ih1 (z1 + 1) _ _ _ (by omega) (by omega) (by omega) w (lv_sub hl [0, 2, 3] rfl)
  exact loop1 ((34 : Int).toNat + 1) 0 _ _ _ (by decide) (by decide) (Nat.lt_succ_self _) w (lv_sub hl [0, 1, 2] rfl)
set_option maxRecDepth 100000 in
set_option maxHeartbeats 4000000 in
theorem c131_X12_readPersonName (l : Launch) (D : va_G) (T : Nat → ClassId) (sz : Nat) (a0 : Nat) (r0 : Int32) (a1 : Nat) (x0 : Int) (x1 : Int) (x2 : Int) (x3 : Int) (x4 : Int) (x5 : Int) (r1 : Int32) (x6 : Int) (x7 : Int) (x8 : Int) (y0 : Int64) (x9 : Int) (a2 : Nat) (a3 : Nat) (a4 : Nat) (a5 : Nat) (a6 : Nat) (a7 : Nat) (a8 : Nat) (a9 : Nat) (a10 : Nat) (a11 : Nat) (x10 : Int) (a12 : Nat) (a13 : Nat) (a14 : Nat) (a15 : Nat) (x11 : Int) (r2 : Int32) (r3 : Int32) (a16 : Nat) (x12 : Int) (x13 : Int) (a17 : Nat) (a18 : Nat) (x14 : Int) (a19 : Nat) (x15 : Int) (r4 : Int32) (a20 : Nat) (a21 : Nat) (x16 : Int) (r5 : Int32) (a22 : Nat) (x17 : Int) (x18 : Int) (x19 : Int) (x20 : Int) (f0 : Int → Int) (f1 : Int → Int) (h0 : Nat → Int64) (x0_a : 0 ≤ x0) (x0_b : x0 ≤ 940) (x1_a : 0 ≤ x1) (x1_b : x1 ≤ 940) (x2_a : 0 ≤ x2) (x2_b : x2 ≤ 940) (x3_a : 0 ≤ x3) (x3_b : x3 ≤ 940) (x4_a : 0 ≤ x4) (x4_b : x4 ≤ 940) (x5_a : 0 ≤ x5) (x5_b : x5 ≤ 4) (x6_a : (-2147483648) ≤ x6) (x6_b : x6 ≤ 2147483647) (x7_a : (-2147483648) ≤ x7) (x7_b : x7 ≤ 2147483647) (x8_a : 0 ≤ x8) (x8_b : x8 ≤ 940) (x9_a : (-2147483648) ≤ x9) (x9_b : x9 ≤ 2147483647) (x10_a : 0 ≤ x10) (x10_b : x10 ≤ 8) (x11_a : 0 ≤ x11) (x11_b : x11 ≤ 9) (x12_a : (-1) ≤ x12) (x12_b : x12 ≤ 9) (x13_a : (-1) ≤ x13) (x13_b : x13 ≤ 8) (x14_a : 0 ≤ x14) (x14_b : x14 ≤ 9) (x15_a : 0 ≤ x15) (x15_b : x15 ≤ 64) (x16_a : 0 ≤ x16) (x16_b : x16 ≤ 40) (x17_a : 0 ≤ x17) (x17_b : x17 ≤ 40) (x18_a : 0 ≤ x18) (x18_b : x18 ≤ 20) (x19_a : 0 ≤ x19) (x19_b : x19 ≤ 8) (x20_a : 0 ≤ x20) (x20_b : x20 ≤ 39) (f0_h : rng 0 255 f0) (f1_h : nowI f1) : Met l yX12_readPersonName (Cond.code yX12_readPersonName cX12_readPersonName 1 (some .boolean) :: GW) (Rm 3 0 0) (cPre [.ref a0] D T [(a0, .inr (11, [.int r0, .ref a1, .int (iI x0), .int (iI x1), .int (iI x2), .int (iI x3), .int (iI x4), .int (iI x5), .int r1, .int (iI x6), .int (iI x7), .int (iI x8), .long y0, .int (iI x9), .ref a2, .ref a3, .ref a4, .ref a5, .ref a6, .ref a7, .ref a8, .ref a9, .ref a10, .ref a11, .int (iI x10), .ref a12, .ref a13, .ref a14, .ref a15, .int (iI x11), .int r2, .int r3, .ref a16, .int (iI x12), .int (iI x13), .ref a17, .ref a18, .int (iI x14), .ref a19, .int (iI x15), .int r4, .ref a20, .ref a21, .int (iI x16), .int r5, .ref a22, .int (iI x17), .int (iI x18), .int (iI x19), .int (iI x20)])), (a1, .inl (T 0, 940, .inl (cI f0))), (a2, .inl (T 0, 329, .inl (cI f1))), (a7, .inl (T 1, 12, .inr (.inl h0)))] sz) (qI D [(a0, .inr (11, [.int r0, .ref a1, .int (iI x0), .int (iI x1), .int (iI x2), .int (iI x3), .int (iI x4), .int (iI x5), .int r1, .int (iI x6), .int (iI x7), .int (iI x8), .long y0, .int (iI x9), .ref a2, .ref a3, .ref a4, .ref a5, .ref a6, .ref a7, .ref a8, .ref a9, .ref a10, .ref a11, .int (iI x10), .ref a12, .ref a13, .ref a14, .ref a15, .int (iI x11), .int r2, .int r3, .ref a16, .int (iI x12), .int (iI x13), .ref a17, .ref a18, .int (iI x14), .ref a19, .int (iI x15), .int r4, .ref a20, .ref a21, .int (iI x16), .int r5, .ref a22, .int (iI x17), .int (iI x18), .int (iI x19), .int (iI x20)])), (a1, .inl (T 0, 940, .inl (cI f0))), (a2, .inl (T 0, 329, .inl (cI f1))), (a7, .inl (T 1, 12, .inr (.inl h0)))] sz (fun (v : Int32) (u : Int × Int × Int × Int × Int32 × Int × Int × Int × Int64 × Int) => iI u.1 = v ∧ 0 ≤ u.1 ∧ u.1 ≤ 1 ∧ 0 ≤ u.2.1 ∧ u.2.1 ≤ 940 ∧ 0 ≤ u.2.2.1 ∧ u.2.2.1 ≤ 940 ∧ 0 ≤ u.2.2.2.1 ∧ u.2.2.2.1 ≤ 4 ∧ (-2147483648) ≤ u.2.2.2.2.2.1 ∧ u.2.2.2.2.2.1 ≤ 2147483647 ∧ (-2147483648) ≤ u.2.2.2.2.2.2.1 ∧ u.2.2.2.2.2.2.1 ≤ 2147483647 ∧ 0 ≤ u.2.2.2.2.2.2.2.1 ∧ u.2.2.2.2.2.2.2.1 ≤ 940 ∧ (-2147483648) ≤ u.2.2.2.2.2.2.2.2.2 ∧ u.2.2.2.2.2.2.2.2.2 ≤ 2147483647 ∧ 0 ≤ (u.2.1 - x3) ∧ 0 ≤ ((((u.2.1 - x3) - u.2.2.2.1) + 4) - u.1) ∧ 0 ≤ ((u.2.2.2.2.2.2.2.2.2 + 4294967296) - (u.1 * 4294967296)) ∧ 0 ≤ (((8 - u.2.2.2.2.2.2.2.2.2) + 4294967296) - (u.1 * 4294967296)) ∧ (∀ x : Tk × Int × Int, gT x x5 x4 x3 y0 r1 x6 → RV ((sOne (fun _ => f1 0) h0) x) u.1 u.2.2.2.2.2.2.1 u.2.2.2.2.2.2.2.1 u.2.2.2.2.2.2.2.2.2 ∧ (u.1 = 1 → gT (nx f0 x1 x2 x) u.2.2.2.1 u.2.2.1 u.2.1 u.2.2.2.2.2.2.2.2.1 u.2.2.2.2.1 u.2.2.2.2.2.1)) ∧ (kpB u.1 x7 u.2.2.2.2.2.2.1)) (fun u => [(a0, .inr (11, [.int r0, .ref a1, .int (iI x0), .int (iI x1), .int (iI x2), .int (iI u.2.1), .int (iI u.2.2.1), .int (iI u.2.2.2.1), .int u.2.2.2.2.1, .int (iI u.2.2.2.2.2.1), .int (iI u.2.2.2.2.2.2.1), .int (iI u.2.2.2.2.2.2.2.1), .long u.2.2.2.2.2.2.2.2.1, .int (iI u.2.2.2.2.2.2.2.2.2), .ref a2, .ref a3, .ref a4, .ref a5, .ref a6, .ref a7, .ref a8, .ref a9, .ref a10, .ref a11, .int (iI x10), .ref a12, .ref a13, .ref a14, .ref a15, .int (iI x11), .int r2, .int r3, .ref a16, .int (iI x12), .int (iI x13), .ref a17, .ref a18, .int (iI x14), .ref a19, .int (iI x15), .int r4, .ref a20, .ref a21, .int (iI x16), .int r5, .ref a22, .int (iI x17), .int (iI x18), .int (iI x19), .int (iI x20)])), (a1, .inl (T 0, 940, .inl (cI f0))), (a2, .inl (T 0, 329, .inl (cI f1))), (a7, .inl (T 1, 12, .inr (.inl h0)))])) 0 0 (va_A [(a0, .inr (11, [.int r0, .ref a1, .int (iI x0), .int (iI x1), .int (iI x2), .int (iI x3), .int (iI x4), .int (iI x5), .int r1, .int (iI x6), .int (iI x7), .int (iI x8), .long y0, .int (iI x9), .ref a2, .ref a3, .ref a4, .ref a5, .ref a6, .ref a7, .ref a8, .ref a9, .ref a10, .ref a11, .int (iI x10), .ref a12, .ref a13, .ref a14, .ref a15, .int (iI x11), .int r2, .int r3, .ref a16, .int (iI x12), .int (iI x13), .ref a17, .ref a18, .int (iI x14), .ref a19, .int (iI x15), .int r4, .ref a20, .ref a21, .int (iI x16), .int r5, .ref a22, .int (iI x17), .int (iI x18), .int (iI x19), .int (iI x20)])), (a1, .inl (T 0, 940, .inl (cI f0))), (a2, .inl (T 0, 329, .inl (cI f1))), (a7, .inl (T 1, 12, .inr (.inl h0)))] sz) := by
  refine e_Z (by decide) (Nat.le_of_ble_eq_true rfl) ?_
  intro p e s m args below meth c A Q ls M hin w ret hl
  have hx := M.1.1
  have hb := M.1.2.1
  have hl : lv_has ls 1 [(0, .ref a0)] := hl
  refine lv_aload_n hx hb dX12_readPersonName_0 rfl (lv_at hl 0 rfl) ?_
  refine k_I (ce := 0) (sl := 0) (rest := []) (wr := [(a1, .inl (T 0, 940, .inl (cI f0))), (a2, .inl (T 0, 329, .inl (cI f1))), (a7, .inl (T 1, 12, .inr (.inl h0)))]) (r_V (f := 2) [0] M w V_HookedCityModel_175 G1675 G57 (c44_X12_isName l D T _ a0 r0 a1 x0 x1 x2 x3 x4 x5 r1 x6 x7 x8 y0 x9 a2 a3 a4 a5 a6 a7 a8 a9 a10 a11 x10 a12 a13 a14 a15 x11 r2 r3 a16 x12 x13 a17 a18 x14 a19 x15 r4 a20 a21 x16 r5 a22 x17 x18 x19 x20 x0_a x0_b x1_a x1_b x2_a x2_b x3_a x3_b x4_a x4_b x5_a x5_b x6_a x6_b x7_a x7_b x8_a x8_b x9_a x9_b x10_a x10_b x11_a x11_b x12_a x12_b x13_a x13_b x14_a x14_b x15_a x15_b x16_a x16_b x17_a x17_b x18_a x18_b x19_a x19_b x20_a x20_b) 0 clX12 rfl rfl (by decide) rfl hl.1 rfl (Nat.le_of_ble_eq_true rfl) dX12_readPersonName_1 (by decide) (by decide) (by decide) (by decide)) w [0] [1, 2, 3] rfl rfl (by decide) (by decide) rfl rfl (fun v z1 H locs hp w => ?_)
  have hv : iI z1 = v := hp.1
  subst hv
  have z1_a : 0 ≤ z1 := hp.2.1
  have z1_b : z1 ≤ 1 := hp.2.2.1
  have pq2 : nmQ z1 x5 y0 := hp.2.2.2
  have w : WD D A s.heap [(a1, .inl (T 0, 940, .inl (cI f0))), (a2, .inl (T 0, 329, .inl (cI f1))), (a7, .inl (T 1, 12, .inr (.inl h0))), (a0, .inr (11, [.int r0, .ref a1, .int (iI x0), .int (iI x1), .int (iI x2), .int (iI x3), .int (iI x4), .int (iI x5), .int r1, .int (iI x6), .int (iI x7), .int (iI x8), .long y0, .int (iI x9), .ref a2, .ref a3, .ref a4, .ref a5, .ref a6, .ref a7, .ref a8, .ref a9, .ref a10, .ref a11, .int (iI x10), .ref a12, .ref a13, .ref a14, .ref a15, .int (iI x11), .int r2, .int r3, .ref a16, .int (iI x12), .int (iI x13), .ref a17, .ref a18, .int (iI x14), .ref a19, .int (iI x15), .int r4, .ref a20, .ref a21, .int (iI x16), .int r5, .ref a22, .int (iI x17), .int (iI x18), .int (iI x19), .int (iI x20)]))] H locs := w
  refine lv_if_ne (tgt := 13) hx hb dX12_readPersonName_4 (by decide) (fun c_3 => ?_) (fun c_3 => ?_)
  · replace c_3 : ¬ z1 = 0 := fun h => c_3 ((iz_eq (Int.le_trans (by decide) z1_a) (Int.le_trans z1_b (by decide))).mpr h)
    refine lv_aload_n hx hb dX12_readPersonName_13 rfl (lv_at hl 0 rfl) ?_
    refine lv_aload_n hx hb dX12_readPersonName_14 rfl (lv_at hl 0 rfl) ?_
    refine r_get (v := .ref a7) M w 3 19 clX12 rfl (by decide) G1482 rfl rfl dX12_readPersonName_15 ?_
    refine lv_iconst (v := iI 0) hx hb dX12_readPersonName_18 (by decide +kernel) ?_
    refine lv_aload_n hx hb dX12_readPersonName_19 rfl (lv_at hl 0 rfl) ?_
    refine r_get (v := .ref a2) M w 3 14 clX12 rfl (by decide) G1477 rfl rfl dX12_readPersonName_20 ?_
    refine lv_iconst (v := iI 0) hx hb dX12_readPersonName_23 (by decide +kernel) ?_
    refine r_iald (v := iI (f1 0)) M w 1 rfl (iI_in (by decide) (by decide) (by decide)) (cI_at (by omega) (by omega)) dX12_readPersonName_24 ?_
    have hh4 : (-2147483648) ≤ (f1 0) ∧ (f1 0) ≤ 2147483647 := f1_h.1 0
    have hh5 : 0 ≤ (f1 0) ∧ (f1 0) ≤ 9 := (f1_h.2.1 0).1 (by omega)
    refine lv_aload_n hx hb dX12_readPersonName_25 rfl (lv_at hl 0 rfl) ?_
    refine r_get (v := .long y0) M w 3 12 clX12 rfl (by decide) G1475 rfl rfl dX12_readPersonName_26 ?_
    refine k_I (ce := 0) (sl := 0) (rest := [.ref a0]) (wr := [(a1, .inl (T 0, 940, .inl (cI f0))), (a2, .inl (T 0, 329, .inl (cI f1))), (a0, .inr (11, [.int r0, .ref a1, .int (iI x0), .int (iI x1), .int (iI x2), .int (iI x3), .int (iI x4), .int (iI x5), .int r1, .int (iI x6), .int (iI x7), .int (iI x8), .long y0, .int (iI x9), .ref a2, .ref a3, .ref a4, .ref a5, .ref a6, .ref a7, .ref a8, .ref a9, .ref a10, .ref a11, .int (iI x10), .ref a12, .ref a13, .ref a14, .ref a15, .int (iI x11), .int r2, .int r3, .ref a16, .int (iI x12), .int (iI x13), .ref a17, .ref a18, .int (iI x14), .ref a19, .int (iI x15), .int r4, .ref a20, .ref a21, .int (iI x16), .int r5, .ref a22, .int (iI x17), .int (iI x18), .int (iI x19), .int (iI x20)]))]) (r_S (f := 0) [2] M w V_HookedCityModel_179 G1678 (c51_X12_findIn l D T _ a7 (f1 0) y0 h0 (by omega) (by omega)) rfl (by decide) rfl hl.1 rfl (Nat.le_of_ble_eq_true rfl) dX12_readPersonName_29 (by decide) (by decide) (by decide) (by decide)) w [2] [0, 1, 3] rfl rfl (by decide) (by decide) rfl rfl (fun v z6 H locs hp w => ?_)
    have hv : iI z6 = v := hp.1
    subst hv
    have z6_a : (-1) ≤ z6 := hp.2.1
    have z6_b : z6 ≤ 8 := hp.2.2.1
    have ee7 : 0 ≤ (((f1 0) - z6) - 1) := hp.2.2.2.1
    have pq8 : z6 = FI h0 0 (f1 0) y0 := hp.2.2.2.2
    have w : WD D A s.heap [(a1, .inl (T 0, 940, .inl (cI f0))), (a2, .inl (T 0, 329, .inl (cI f1))), (a0, .inr (11, [.int r0, .ref a1, .int (iI x0), .int (iI x1), .int (iI x2), .int (iI x3), .int (iI x4), .int (iI x5), .int r1, .int (iI x6), .int (iI x7), .int (iI x8), .long y0, .int (iI x9), .ref a2, .ref a3, .ref a4, .ref a5, .ref a6, .ref a7, .ref a8, .ref a9, .ref a10, .ref a11, .int (iI x10), .ref a12, .ref a13, .ref a14, .ref a15, .int (iI x11), .int r2, .int r3, .ref a16, .int (iI x12), .int (iI x13), .ref a17, .ref a18, .int (iI x14), .ref a19, .int (iI x15), .int r4, .ref a20, .ref a21, .int (iI x16), .int r5, .ref a22, .int (iI x17), .int (iI x18), .int (iI x19), .int (iI x20)])), (a7, .inl (T 1, 12, .inr (.inl h0)))] H locs := w
    refine r_put (ws' := [(a1, .inl (T 0, 940, .inl (cI f0))), (a2, .inl (T 0, 329, .inl (cI f1))), (a0, .inr (11, [.int r0, .ref a1, .int (iI x0), .int (iI x1), .int (iI x2), .int (iI x3), .int (iI x4), .int (iI x5), .int r1, .int (iI x6), .int (iI x7), .int (iI x8), .long y0, .int (iI z6), .ref a2, .ref a3, .ref a4, .ref a5, .ref a6, .ref a7, .ref a8, .ref a9, .ref a10, .ref a11, .int (iI x10), .ref a12, .ref a13, .ref a14, .ref a15, .int (iI x11), .int r2, .int r3, .ref a16, .int (iI x12), .int (iI x13), .ref a17, .ref a18, .int (iI x14), .ref a19, .int (iI x15), .int r4, .ref a20, .ref a21, .int (iI x16), .int r5, .ref a22, .int (iI x17), .int (iI x18), .int (iI x19), .int (iI x20)])), (a7, .inl (T 1, 12, .inr (.inl h0)))]) M w 2 13 clX12 rfl (by decide) G1476 rfl rfl rfl rfl (Nat.le_of_ble_eq_true rfl) rfl dX12_readPersonName_32 (fun H locs w => ?_)
    refine lv_aload_n hx hb dX12_readPersonName_35 rfl (lv_at hl 0 rfl) ?_
    refine r_get (v := .int (iI z6)) M w 2 13 clX12 rfl (by decide) G1476 rfl rfl dX12_readPersonName_36 ?_
    refine lv_iconst (v := iI (-1)) hx hb dX12_readPersonName_39 (by decide +kernel) ?_
    refine lv_icmp_ne (tgt := 49) hx hb dX12_readPersonName_40 (by decide) (fun c_9 => ?_) (fun c_9 => ?_)
    · replace c_9 : ¬ z6 = (-1) := fun h => c_9 ((iI_eq (Int.le_trans (by decide) z6_a) (Int.le_trans z6_b (by decide)) (by decide) (by decide)).mpr h)
      refine lv_aload_n hx hb dX12_readPersonName_49 rfl (lv_at hl 0 rfl) ?_
      refine k_V (ce := 0) (sl := 0) (rest := []) (wr := [(a2, .inl (T 0, 329, .inl (cI f1))), (a7, .inl (T 1, 12, .inr (.inl h0)))]) (r_V (f := 1) [2, 0] M w V_HookedCityModel_82 G1629 G49 (c12_X12_go l D T _ a0 r0 a1 x0 x1 x2 x3 x4 x5 r1 x6 x7 x8 y0 z6 a2 a3 a4 a5 a6 a7 a8 a9 a10 a11 x10 a12 a13 a14 a15 x11 r2 r3 a16 x12 x13 a17 a18 x14 a19 x15 r4 a20 a21 x16 r5 a22 x17 x18 x19 x20 f0 x0_a x0_b x1_a x1_b x2_a x2_b x3_a x3_b x4_a x4_b x5_a x5_b x6_a x6_b x7_a x7_b x8_a x8_b (by omega) (by omega) x10_a x10_b x11_a x11_b x12_a x12_b x13_a x13_b x14_a x14_b x15_a x15_b x16_a x16_b x17_a x17_b x18_a x18_b x19_a x19_b x20_a x20_b f0_h) 2 clX12 rfl rfl (by decide) rfl hl.1 rfl (Nat.le_of_ble_eq_true rfl) dX12_readPersonName_50 (by decide) (by decide) (by decide) (by decide)) w [2, 0] [1, 3] rfl rfl (by decide) (by decide) rfl rfl (fun u H locs hp w => ?_)
      obtain ⟨z10, z11, z12, fr13, z14, fy15⟩ := u
      have z10_a : 0 ≤ z10 := hp.1
      have z10_b : z10 ≤ 940 := hp.2.1
      have z11_a : 0 ≤ z11 := hp.2.2.1
      have z11_b : z11 ≤ 940 := hp.2.2.2.1
      have z12_a : 0 ≤ z12 := hp.2.2.2.2.1
      have z12_b : z12 ≤ 4 := hp.2.2.2.2.2.1
      have z14_a : (-2147483648) ≤ z14 := hp.2.2.2.2.2.2.1
      have z14_b : z14 ≤ 2147483647 := hp.2.2.2.2.2.2.2.1
      have ee16 : 0 ≤ (z10 - x3) := hp.2.2.2.2.2.2.2.2.1
      have ee17 : 0 ≤ (((z10 - x3) - z12) + 3) := hp.2.2.2.2.2.2.2.2.2.1
      have pq18 : gT (tkAt f0 x1 x2 x3) z12 z11 z10 fy15 fr13 z14 := hp.2.2.2.2.2.2.2.2.2.2
      have w : WD D A s.heap [(a2, .inl (T 0, 329, .inl (cI f1))), (a7, .inl (T 1, 12, .inr (.inl h0))), (a0, .inr (11, [.int r0, .ref a1, .int (iI x0), .int (iI x1), .int (iI x2), .int (iI z10), .int (iI z11), .int (iI z12), .int fr13, .int (iI z14), .int (iI x7), .int (iI x8), .long fy15, .int (iI z6), .ref a2, .ref a3, .ref a4, .ref a5, .ref a6, .ref a7, .ref a8, .ref a9, .ref a10, .ref a11, .int (iI x10), .ref a12, .ref a13, .ref a14, .ref a15, .int (iI x11), .int r2, .int r3, .ref a16, .int (iI x12), .int (iI x13), .ref a17, .ref a18, .int (iI x14), .ref a19, .int (iI x15), .int r4, .ref a20, .ref a21, .int (iI x16), .int r5, .ref a22, .int (iI x17), .int (iI x18), .int (iI x19), .int (iI x20)])), (a1, .inl (T 0, 940, .inl (cI f0)))] H locs := w
      refine lv_iconst (v := iI 1) hx hb dX12_readPersonName_53 (by decide +kernel) ?_
      exact ret _ (1, z10, z11, z12, fr13, z14, x7, x8, fy15, z6) _ _ _ _ _ [2, 3, 0, 1] dX12_readPersonName_54 (by decide +kernel) ⟨rfl, (show (0 : Int) ≤ 1 from by decide), (show (1 : Int) ≤ 1 from by decide), z10_a, z10_b, z11_a, z11_b, z12_a, z12_b, z14_a, z14_b, x7_a, x7_b, x8_a, x8_b, (show (-2147483648) ≤ z6 from by omega), (show z6 ≤ 2147483647 from by omega), (show 0 ≤ (z10 - x3) from by omega), (show 0 ≤ ((((z10 - x3) - z12) + 4) - 1) from by omega), (show 0 ≤ ((z6 + 4294967296) - (1 * 4294967296)) from by omega), (show 0 ≤ (((8 - z6) + 4294967296) - (1 * 4294967296)) from by omega), (show ∀ x : Tk × Int × Int, gT x x5 x4 x3 y0 r1 x6 → RV ((sOne (fun _ => f1 0) h0) x) 1 x7 x8 z6 ∧ (1 = 1 → gT (nx f0 x1 x2 x) z12 z11 z10 fy15 fr13 z14) from (fun x g => ⟨one_C pq2 (by omega) pq8 (by omega) x g, fun _ => gT_nx g pq18⟩)), (show kpB 1 x7 x7 from (fun hr => by omega))⟩ w (by decide) rfl
    · replace c_9 := (iI_eq (Int.le_trans (by decide) z6_a) (Int.le_trans z6_b (by decide)) (by decide) (by decide)).mp c_9
      refine lv_aload_n hx hb dX12_readPersonName_43 rfl (lv_at hl 0 rfl) ?_
      refine lv_iconst (v := iI 3) hx hb dX12_readPersonName_44 (by decide +kernel) ?_
      refine k_I (ce := 0) (sl := 0) (rest := []) (wr := [(a1, .inl (T 0, 940, .inl (cI f0))), (a2, .inl (T 0, 329, .inl (cI f1))), (a7, .inl (T 1, 12, .inr (.inl h0)))]) (r_V (f := 0) [2] M w V_HookedCityModel_72 G1667 G55 (c45_X12_bad l D T _ a0 3 r0 a1 x0 x1 x2 x3 x4 x5 r1 x6 x7 x8 y0 z6 a2 a3 a4 a5 a6 a7 a8 a9 a10 a11 x10 a12 a13 a14 a15 x11 r2 r3 a16 x12 x13 a17 a18 x14 a19 x15 r4 a20 a21 x16 r5 a22 x17 x18 x19 x20 (by decide) (by decide) x0_a x0_b x1_a x1_b x2_a x2_b x3_a x3_b x4_a x4_b x5_a x5_b x6_a x6_b x7_a x7_b x8_a x8_b (by omega) (by omega) x10_a x10_b x11_a x11_b x12_a x12_b x13_a x13_b x14_a x14_b x15_a x15_b x16_a x16_b x17_a x17_b x18_a x18_b x19_a x19_b x20_a x20_b) 2 clX12 rfl rfl (by decide) rfl hl.1 rfl (Nat.le_of_ble_eq_true rfl) dX12_readPersonName_45 (by decide) (by decide) (by decide) (by decide)) w [2] [0, 1, 3] rfl rfl (by decide) (by decide) rfl rfl (fun v u H locs hp w => ?_)
      obtain ⟨z19, z20, z21⟩ := u
      have hv : iI z19 = v := hp.1
      subst hv
      have z19_a : 0 ≤ z19 := hp.2.1
      have z19_b : z19 ≤ 1 := hp.2.2.1
      have z20_a : (-2147483648) ≤ z20 := hp.2.2.2.1
      have z20_b : z20 ≤ 2147483647 := hp.2.2.2.2.1
      have z21_a : 0 ≤ z21 := hp.2.2.2.2.2.1
      have z21_b : z21 ≤ 940 := hp.2.2.2.2.2.2.1
      have pq22 : baQ x5 3 z20 := hp.2.2.2.2.2.2.2.1
      have pq23 : z21 = x4 := hp.2.2.2.2.2.2.2.2.1
      have w : WD D A s.heap [(a1, .inl (T 0, 940, .inl (cI f0))), (a2, .inl (T 0, 329, .inl (cI f1))), (a7, .inl (T 1, 12, .inr (.inl h0))), (a0, .inr (11, [.int r0, .ref a1, .int (iI x0), .int (iI x1), .int (iI x2), .int (iI x3), .int (iI x4), .int (iI x5), .int r1, .int (iI x6), .int (iI z20), .int (iI z21), .long y0, .int (iI z6), .ref a2, .ref a3, .ref a4, .ref a5, .ref a6, .ref a7, .ref a8, .ref a9, .ref a10, .ref a11, .int (iI x10), .ref a12, .ref a13, .ref a14, .ref a15, .int (iI x11), .int r2, .int r3, .ref a16, .int (iI x12), .int (iI x13), .ref a17, .ref a18, .int (iI x14), .ref a19, .int (iI x15), .int r4, .ref a20, .ref a21, .int (iI x16), .int r5, .ref a22, .int (iI x17), .int (iI x18), .int (iI x19), .int (iI x20)]))] H locs := w
      rcases hp.2.2.2.2.2.2.2.2.2 with hr
      · subst hr
        exact ret _ (0, x3, x4, x5, r1, x6, z20, z21, y0, z6) _ _ _ _ _ [3, 0, 1, 2] dX12_readPersonName_48 (by decide +kernel) ⟨rfl, (show (0 : Int) ≤ 0 from by decide), (show (0 : Int) ≤ 1 from by decide), x3_a, x3_b, x4_a, x4_b, x5_a, x5_b, x6_a, x6_b, z20_a, z20_b, z21_a, z21_b, (show (-2147483648) ≤ z6 from by omega), (show z6 ≤ 2147483647 from by omega), (show 0 ≤ (x3 - x3) from by omega), (show 0 ≤ ((((x3 - x3) - x5) + 4) - 0) from by omega), (show 0 ≤ ((z6 + 4294967296) - (0 * 4294967296)) from by omega), (show 0 ≤ (((8 - z6) + 4294967296) - (0 * 4294967296)) from by omega), (show ∀ x : Tk × Int × Int, gT x x5 x4 x3 y0 r1 x6 → RV ((sOne (fun _ => f1 0) h0) x) 0 z20 z21 z6 ∧ (0 = 1 → gT (nx f0 x1 x2 x) x5 x4 x3 y0 r1 x6) from (fun x g => ⟨one_B pq2 (by omega) pq8 (by omega) pq22 pq23 x g, fun e => absurd e (by decide)⟩)), (show kpB 0 x7 z20 from (fun e => absurd e (by decide)))⟩ w (by decide) rfl
  · replace c_3 := (iz_eq (Int.le_trans (by decide) z1_a) (Int.le_trans z1_b (by decide))).mp c_3
    refine lv_aload_n hx hb dX12_readPersonName_7 rfl (lv_at hl 0 rfl) ?_
    refine lv_iconst (v := iI 1) hx hb dX12_readPersonName_8 (by decide +kernel) ?_
    refine k_I (ce := 0) (sl := 0) (rest := []) (wr := [(a1, .inl (T 0, 940, .inl (cI f0))), (a2, .inl (T 0, 329, .inl (cI f1))), (a7, .inl (T 1, 12, .inr (.inl h0)))]) (r_V (f := 0) [3] M w V_HookedCityModel_72 G1667 G55 (c45_X12_bad l D T _ a0 1 r0 a1 x0 x1 x2 x3 x4 x5 r1 x6 x7 x8 y0 x9 a2 a3 a4 a5 a6 a7 a8 a9 a10 a11 x10 a12 a13 a14 a15 x11 r2 r3 a16 x12 x13 a17 a18 x14 a19 x15 r4 a20 a21 x16 r5 a22 x17 x18 x19 x20 (by decide) (by decide) x0_a x0_b x1_a x1_b x2_a x2_b x3_a x3_b x4_a x4_b x5_a x5_b x6_a x6_b x7_a x7_b x8_a x8_b x9_a x9_b x10_a x10_b x11_a x11_b x12_a x12_b x13_a x13_b x14_a x14_b x15_a x15_b x16_a x16_b x17_a x17_b x18_a x18_b x19_a x19_b x20_a x20_b) 3 clX12 rfl rfl (by decide) rfl hl.1 rfl (Nat.le_of_ble_eq_true rfl) dX12_readPersonName_9 (by decide) (by decide) (by decide) (by decide)) w [3] [0, 1, 2] rfl rfl (by decide) (by decide) rfl rfl (fun v u H locs hp w => ?_)
    obtain ⟨z24, z25, z26⟩ := u
    have hv : iI z24 = v := hp.1
    subst hv
    have z24_a : 0 ≤ z24 := hp.2.1
    have z24_b : z24 ≤ 1 := hp.2.2.1
    have z25_a : (-2147483648) ≤ z25 := hp.2.2.2.1
    have z25_b : z25 ≤ 2147483647 := hp.2.2.2.2.1
    have z26_a : 0 ≤ z26 := hp.2.2.2.2.2.1
    have z26_b : z26 ≤ 940 := hp.2.2.2.2.2.2.1
    have pq27 : baQ x5 1 z25 := hp.2.2.2.2.2.2.2.1
    have pq28 : z26 = x4 := hp.2.2.2.2.2.2.2.2.1
    have w : WD D A s.heap [(a1, .inl (T 0, 940, .inl (cI f0))), (a2, .inl (T 0, 329, .inl (cI f1))), (a7, .inl (T 1, 12, .inr (.inl h0))), (a0, .inr (11, [.int r0, .ref a1, .int (iI x0), .int (iI x1), .int (iI x2), .int (iI x3), .int (iI x4), .int (iI x5), .int r1, .int (iI x6), .int (iI z25), .int (iI z26), .long y0, .int (iI x9), .ref a2, .ref a3, .ref a4, .ref a5, .ref a6, .ref a7, .ref a8, .ref a9, .ref a10, .ref a11, .int (iI x10), .ref a12, .ref a13, .ref a14, .ref a15, .int (iI x11), .int r2, .int r3, .ref a16, .int (iI x12), .int (iI x13), .ref a17, .ref a18, .int (iI x14), .ref a19, .int (iI x15), .int r4, .ref a20, .ref a21, .int (iI x16), .int r5, .ref a22, .int (iI x17), .int (iI x18), .int (iI x19), .int (iI x20)]))] H locs := w
    rcases hp.2.2.2.2.2.2.2.2.2 with hr
    · subst hr
      exact ret _ (0, x3, x4, x5, r1, x6, z25, z26, y0, x9) _ _ _ _ _ [3, 0, 1, 2] dX12_readPersonName_12 (by decide +kernel) ⟨rfl, (show (0 : Int) ≤ 0 from by decide), (show (0 : Int) ≤ 1 from by decide), x3_a, x3_b, x4_a, x4_b, x5_a, x5_b, x6_a, x6_b, z25_a, z25_b, z26_a, z26_b, x9_a, x9_b, (show 0 ≤ (x3 - x3) from by omega), (show 0 ≤ ((((x3 - x3) - x5) + 4) - 0) from by omega), (show 0 ≤ ((x9 + 4294967296) - (0 * 4294967296)) from by omega), (show 0 ≤ (((8 - x9) + 4294967296) - (0 * 4294967296)) from by omega), (show ∀ x : Tk × Int × Int, gT x x5 x4 x3 y0 r1 x6 → RV ((sOne (fun _ => f1 0) h0) x) 0 z25 z26 x9 ∧ (0 = 1 → gT (nx f0 x1 x2 x) x5 x4 x3 y0 r1 x6) from (fun x g => ⟨one_A pq2 (by omega) pq27 pq28 x g, fun e => absurd e (by decide)⟩)), (show kpB 0 x7 z25 from (fun e => absurd e (by decide)))⟩ w (by decide) rfl
set_option maxRecDepth 100000 in
set_option maxHeartbeats 4000000 in
theorem c132_X12_keep (l : Launch) (D : va_G) (T : Nat → ClassId) (sz : Nat) (a0 : Nat) (x0 : Int) (x1 : Int) (r0 : Int32) (a1 : Nat) (x2 : Int) (x3 : Int) (x4 : Int) (x5 : Int) (x6 : Int) (x7 : Int) (r1 : Int32) (x8 : Int) (x9 : Int) (x10 : Int) (y0 : Int64) (x11 : Int) (a2 : Nat) (a3 : Nat) (a4 : Nat) (a5 : Nat) (a6 : Nat) (a7 : Nat) (a8 : Nat) (a9 : Nat) (a10 : Nat) (a11 : Nat) (x12 : Int) (a12 : Nat) (a13 : Nat) (a14 : Nat) (a15 : Nat) (x13 : Int) (r2 : Int32) (r3 : Int32) (a16 : Nat) (x14 : Int) (x15 : Int) (a17 : Nat) (a18 : Nat) (x16 : Int) (a19 : Nat) (x17 : Int) (r4 : Int32) (a20 : Nat) (a21 : Nat) (x18 : Int) (r5 : Int32) (a22 : Nat) (x19 : Int) (x20 : Int) (x21 : Int) (x22 : Int) (f0 : Int → Int) (x0_a : 0 ≤ x0) (x0_b : x0 ≤ 159) (x1_a : 0 ≤ x1) (x1_b : x1 ≤ 1) (x2_a : 0 ≤ x2) (x2_b : x2 ≤ 940) (x3_a : 0 ≤ x3) (x3_b : x3 ≤ 940) (x4_a : 0 ≤ x4) (x4_b : x4 ≤ 940) (x5_a : 0 ≤ x5) (x5_b : x5 ≤ 940) (x6_a : 0 ≤ x6) (x6_b : x6 ≤ 940) (x7_a : 0 ≤ x7) (x7_b : x7 ≤ 4) (x8_a : (-2147483648) ≤ x8) (x8_b : x8 ≤ 2147483647) (x9_a : (-2147483648) ≤ x9) (x9_b : x9 ≤ 2147483647) (x10_a : 0 ≤ x10) (x10_b : x10 ≤ 940) (x11_a : (-2147483648) ≤ x11) (x11_b : x11 ≤ 2147483647) (x12_a : 0 ≤ x12) (x12_b : x12 ≤ 8) (x13_a : 0 ≤ x13) (x13_b : x13 ≤ 9) (x14_a : (-1) ≤ x14) (x14_b : x14 ≤ 9) (x15_a : (-1) ≤ x15) (x15_b : x15 ≤ 8) (x16_a : 0 ≤ x16) (x16_b : x16 ≤ 9) (x17_a : 0 ≤ x17) (x17_b : x17 ≤ 64) (x18_a : 0 ≤ x18) (x18_b : x18 ≤ 40) (x19_a : 0 ≤ x19) (x19_b : x19 ≤ 40) (x20_a : 0 ≤ x20) (x20_b : x20 ≤ 20) (x21_a : 0 ≤ x21) (x21_b : x21 ≤ 8) (x22_a : 0 ≤ x22) (x22_b : x22 ≤ 39) (f0_h : lnI f0) (pp_v : x1 = 1 → lnI (upz f0 x0 x11)) : Met l yX12_keep (Cond.code yX12_keep cX12_keep 3 (some .boolean) :: GW) (Rm 0 0 0) (cPre [.ref a0, .int (iI x0), .int (iI x1)] D T [(a0, .inr (11, [.int r0, .ref a1, .int (iI x2), .int (iI x3), .int (iI x4), .int (iI x5), .int (iI x6), .int (iI x7), .int r1, .int (iI x8), .int (iI x9), .int (iI x10), .long y0, .int (iI x11), .ref a2, .ref a3, .ref a4, .ref a5, .ref a6, .ref a7, .ref a8, .ref a9, .ref a10, .ref a11, .int (iI x12), .ref a12, .ref a13, .ref a14, .ref a15, .int (iI x13), .int r2, .int r3, .ref a16, .int (iI x14), .int (iI x15), .ref a17, .ref a18, .int (iI x16), .ref a19, .int (iI x17), .int r4, .ref a20, .ref a21, .int (iI x18), .int r5, .ref a22, .int (iI x19), .int (iI x20), .int (iI x21), .int (iI x22)])), (a20, .inl (T 0, 160, .inl (cI f0)))] sz) (qI D [(a0, .inr (11, [.int r0, .ref a1, .int (iI x2), .int (iI x3), .int (iI x4), .int (iI x5), .int (iI x6), .int (iI x7), .int r1, .int (iI x8), .int (iI x9), .int (iI x10), .long y0, .int (iI x11), .ref a2, .ref a3, .ref a4, .ref a5, .ref a6, .ref a7, .ref a8, .ref a9, .ref a10, .ref a11, .int (iI x12), .ref a12, .ref a13, .ref a14, .ref a15, .int (iI x13), .int r2, .int r3, .ref a16, .int (iI x14), .int (iI x15), .ref a17, .ref a18, .int (iI x16), .ref a19, .int (iI x17), .int r4, .ref a20, .ref a21, .int (iI x18), .int r5, .ref a22, .int (iI x19), .int (iI x20), .int (iI x21), .int (iI x22)])), (a20, .inl (T 0, 160, .inl (cI f0)))] sz (fun (v : Int32) (u : Int × (Int → Int)) => iI u.1 = v ∧ 0 ≤ u.1 ∧ u.1 ≤ 1 ∧ lnI u.2 ∧ 0 ≤ (x1 - u.1) ∧ 0 ≤ (u.1 - x1) ∧ (∀ j : Int, ¬ j = x0 → u.2 j = f0 j)) (fun u => [(a0, .inr (11, [.int r0, .ref a1, .int (iI x2), .int (iI x3), .int (iI x4), .int (iI x5), .int (iI x6), .int (iI x7), .int r1, .int (iI x8), .int (iI x9), .int (iI x10), .long y0, .int (iI x11), .ref a2, .ref a3, .ref a4, .ref a5, .ref a6, .ref a7, .ref a8, .ref a9, .ref a10, .ref a11, .int (iI x12), .ref a12, .ref a13, .ref a14, .ref a15, .int (iI x13), .int r2, .int r3, .ref a16, .int (iI x14), .int (iI x15), .ref a17, .ref a18, .int (iI x16), .ref a19, .int (iI x17), .int r4, .ref a20, .ref a21, .int (iI x18), .int r5, .ref a22, .int (iI x19), .int (iI x20), .int (iI x21), .int (iI x22)])), (a20, .inl (T 0, 160, .inl (cI u.2)))])) 0 0 (va_A [(a0, .inr (11, [.int r0, .ref a1, .int (iI x2), .int (iI x3), .int (iI x4), .int (iI x5), .int (iI x6), .int (iI x7), .int r1, .int (iI x8), .int (iI x9), .int (iI x10), .long y0, .int (iI x11), .ref a2, .ref a3, .ref a4, .ref a5, .ref a6, .ref a7, .ref a8, .ref a9, .ref a10, .ref a11, .int (iI x12), .ref a12, .ref a13, .ref a14, .ref a15, .int (iI x13), .int r2, .int r3, .ref a16, .int (iI x14), .int (iI x15), .ref a17, .ref a18, .int (iI x16), .ref a19, .int (iI x17), .int r4, .ref a20, .ref a21, .int (iI x18), .int r5, .ref a22, .int (iI x19), .int (iI x20), .int (iI x21), .int (iI x22)])), (a20, .inl (T 0, 160, .inl (cI f0)))] sz) := by
  refine e_Z (by decide) (Nat.le_of_ble_eq_true rfl) ?_
  intro p e s m args below meth c A Q ls M hin w ret hl
  have hx := M.1.1
  have hb := M.1.2.1
  have hl : lv_has ls 3 [(0, .ref a0), (1, .int (iI x0)), (2, .int (iI x1))] := hl
  refine lv_iload_n hx hb dX12_keep_0 rfl (lv_at hl 2 rfl) ?_
  refine lv_if_eq (tgt := 14) hx hb dX12_keep_1 (by decide) (fun c_1 => ?_) (fun c_1 => ?_)
  · replace c_1 := (iz_eq (Int.le_trans (by decide) x1_a) (Int.le_trans x1_b (by decide))).mp c_1
    refine lv_iload_n hx hb dX12_keep_14 rfl (lv_at hl 2 rfl) ?_
    exact ret _ (x1, f0) _ _ _ _ _ [0, 1] dX12_keep_15 (nb_n (by omega) (by omega)) ⟨rfl, x1_a, x1_b, f0_h, (show 0 ≤ (x1 - x1) from by omega), (show 0 ≤ (x1 - x1) from by omega), (show ∀ j : Int, ¬ j = x0 → f0 j = f0 j from (fun _ _ => rfl))⟩ w (by decide) rfl
  · replace c_1 : ¬ x1 = 0 := fun h => c_1 ((iz_eq (Int.le_trans (by decide) x1_a) (Int.le_trans x1_b (by decide))).mpr h)
    refine lv_aload_n hx hb dX12_keep_4 rfl (lv_at hl 0 rfl) ?_
    refine r_get (v := .ref a20) M w 0 41 clX12 rfl (by decide) G1504 rfl rfl dX12_keep_5 ?_
    refine lv_iload_n hx hb dX12_keep_8 rfl (lv_at hl 1 rfl) ?_
    refine lv_aload_n hx hb dX12_keep_9 rfl (lv_at hl 0 rfl) ?_
    refine r_get (v := .int (iI x11)) M w 0 13 clX12 rfl (by decide) G1476 rfl rfl dX12_keep_10 ?_
    refine r_iast (ws' := [(a0, .inr (11, [.int r0, .ref a1, .int (iI x2), .int (iI x3), .int (iI x4), .int (iI x5), .int (iI x6), .int (iI x7), .int r1, .int (iI x8), .int (iI x9), .int (iI x10), .long y0, .int (iI x11), .ref a2, .ref a3, .ref a4, .ref a5, .ref a6, .ref a7, .ref a8, .ref a9, .ref a10, .ref a11, .int (iI x12), .ref a12, .ref a13, .ref a14, .ref a15, .int (iI x13), .int r2, .int r3, .ref a16, .int (iI x14), .int (iI x15), .ref a17, .ref a18, .int (iI x16), .ref a19, .int (iI x17), .int r4, .ref a20, .ref a21, .int (iI x18), .int r5, .ref a22, .int (iI x19), .int (iI x20), .int (iI x21), .int (iI x22)])), (a20, .inl (T 0, 160, .inl (cI (upz f0 x0 x11))))]) M w 1 rfl (iI_in (by omega) (by omega) (by decide)) (by rw [cI_up (by omega) (by omega)]; rfl) dX12_keep_13 (fun H locs w => ?_)
    refine lv_iload_n hx hb dX12_keep_14 rfl (lv_at hl 2 rfl) ?_
    exact ret _ (x1, (upz f0 x0 x11)) _ _ _ _ _ [0, 1] dX12_keep_15 (nb_n (by omega) (by omega)) ⟨rfl, x1_a, x1_b, (pp_v (by omega)), (show 0 ≤ (x1 - x1) from by omega), (show 0 ≤ (x1 - x1) from by omega), (show ∀ j : Int, ¬ j = x0 → (upz f0 x0 x11) j = f0 j from (fun j hj => upz_n hj))⟩ w (by decide) rfl
set_option maxRecDepth 100000 in
set_option maxHeartbeats 4000000 in
theorem c133_X12_readDoes (l : Launch) (D : va_G) (T : Nat → ClassId) (sz : Nat) (a0 : Nat) (x0 : Int) (r0 : Int32) (a1 : Nat) (x1 : Int) (x2 : Int) (x3 : Int) (x4 : Int) (x5 : Int) (x6 : Int) (r1 : Int32) (x7 : Int) (x8 : Int) (x9 : Int) (y0 : Int64) (x10 : Int) (a2 : Nat) (a3 : Nat) (a4 : Nat) (a5 : Nat) (a6 : Nat) (a7 : Nat) (a8 : Nat) (a9 : Nat) (a10 : Nat) (a11 : Nat) (x11 : Int) (a12 : Nat) (a13 : Nat) (a14 : Nat) (a15 : Nat) (x12 : Int) (r2 : Int32) (r3 : Int32) (a16 : Nat) (x13 : Int) (x14 : Int) (a17 : Nat) (a18 : Nat) (x15 : Int) (a19 : Nat) (x16 : Int) (r4 : Int32) (a20 : Nat) (a21 : Nat) (x17 : Int) (r5 : Int32) (a22 : Nat) (x18 : Int) (x19 : Int) (x20 : Int) (x21 : Int) (f0 : Int → Int) (f1 : Int → Int) (h0 : Nat → Int64) (f2 : Int → Int) (x0_a : 0 ≤ x0) (x0_b : x0 ≤ 156) (x1_a : 0 ≤ x1) (x1_b : x1 ≤ 940) (x2_a : 0 ≤ x2) (x2_b : x2 ≤ 940) (x3_a : 0 ≤ x3) (x3_b : x3 ≤ 940) (x4_a : 0 ≤ x4) (x4_b : x4 ≤ 940) (x5_a : 0 ≤ x5) (x5_b : x5 ≤ 940) (x6_a : 0 ≤ x6) (x6_b : x6 ≤ 4) (x7_a : (-2147483648) ≤ x7) (x7_b : x7 ≤ 2147483647) (x8_a : (-2147483648) ≤ x8) (x8_b : x8 ≤ 2147483647) (x9_a : 0 ≤ x9) (x9_b : x9 ≤ 940) (x10_a : (-2147483648) ≤ x10) (x10_b : x10 ≤ 2147483647) (x11_a : 0 ≤ x11) (x11_b : x11 ≤ 8) (x12_a : 0 ≤ x12) (x12_b : x12 ≤ 9) (x13_a : (-1) ≤ x13) (x13_b : x13 ≤ 9) (x14_a : (-1) ≤ x14) (x14_b : x14 ≤ 8) (x15_a : 0 ≤ x15) (x15_b : x15 ≤ 9) (x16_a : 0 ≤ x16) (x16_b : x16 ≤ 64) (x17_a : 0 ≤ x17) (x17_b : x17 ≤ 40) (x18_a : 0 ≤ x18) (x18_b : x18 ≤ 40) (x19_a : 0 ≤ x19) (x19_b : x19 ≤ 20) (x20_a : 0 ≤ x20) (x20_b : x20 ≤ 8) (x21_a : 0 ≤ x21) (x21_b : x21 ≤ 39) (f0_h : rng 0 255 f0) (f1_h : nowI f1) (f2_h : lnI f2) (pp_x : 0 ≤ f2 (x0 + 1) ∧ f2 (x0 + 1) ≤ 2) (pr_0 : 0 ≤ (x0 - (x17 * 4))) (pr_1 : 0 ≤ ((x17 * 4) - x0)) (pr_2 : 0 ≤ (39 - x17)) : Met l yX12_readDoes (Cond.code yX12_readDoes cX12_readDoes 2 (some .boolean) :: GW) (Rm 4 0 0) (cPre [.ref a0, .int (iI x0)] D T [(a0, .inr (11, [.int r0, .ref a1, .int (iI x1), .int (iI x2), .int (iI x3), .int (iI x4), .int (iI x5), .int (iI x6), .int r1, .int (iI x7), .int (iI x8), .int (iI x9), .long y0, .int (iI x10), .ref a2, .ref a3, .ref a4, .ref a5, .ref a6, .ref a7, .ref a8, .ref a9, .ref a10, .ref a11, .int (iI x11), .ref a12, .ref a13, .ref a14, .ref a15, .int (iI x12), .int r2, .int r3, .ref a16, .int (iI x13), .int (iI x14), .ref a17, .ref a18, .int (iI x15), .ref a19, .int (iI x16), .int r4, .ref a20, .ref a21, .int (iI x17), .int r5, .ref a22, .int (iI x18), .int (iI x19), .int (iI x20), .int (iI x21)])), (a1, .inl (T 0, 940, .inl (cI f0))), (a2, .inl (T 0, 329, .inl (cI f1))), (a7, .inl (T 1, 12, .inr (.inl h0))), (a20, .inl (T 0, 160, .inl (cI f2)))] sz) (qI D [(a0, .inr (11, [.int r0, .ref a1, .int (iI x1), .int (iI x2), .int (iI x3), .int (iI x4), .int (iI x5), .int (iI x6), .int r1, .int (iI x7), .int (iI x8), .int (iI x9), .long y0, .int (iI x10), .ref a2, .ref a3, .ref a4, .ref a5, .ref a6, .ref a7, .ref a8, .ref a9, .ref a10, .ref a11, .int (iI x11), .ref a12, .ref a13, .ref a14, .ref a15, .int (iI x12), .int r2, .int r3, .ref a16, .int (iI x13), .int (iI x14), .ref a17, .ref a18, .int (iI x15), .ref a19, .int (iI x16), .int r4, .ref a20, .ref a21, .int (iI x17), .int r5, .ref a22, .int (iI x18), .int (iI x19), .int (iI x20), .int (iI x21)])), (a1, .inl (T 0, 940, .inl (cI f0))), (a2, .inl (T 0, 329, .inl (cI f1))), (a7, .inl (T 1, 12, .inr (.inl h0))), (a20, .inl (T 0, 160, .inl (cI f2)))] sz (fun (v : Int32) (u : Int × Int × Int × Int × Int32 × Int × Int × Int × Int64 × Int × (Int → Int)) => iI u.1 = v ∧ 0 ≤ u.1 ∧ u.1 ≤ 1 ∧ 0 ≤ u.2.1 ∧ u.2.1 ≤ 940 ∧ 0 ≤ u.2.2.1 ∧ u.2.2.1 ≤ 940 ∧ 0 ≤ u.2.2.2.1 ∧ u.2.2.2.1 ≤ 4 ∧ (-2147483648) ≤ u.2.2.2.2.2.1 ∧ u.2.2.2.2.2.1 ≤ 2147483647 ∧ (-2147483648) ≤ u.2.2.2.2.2.2.1 ∧ u.2.2.2.2.2.2.1 ≤ 2147483647 ∧ 0 ≤ u.2.2.2.2.2.2.2.1 ∧ u.2.2.2.2.2.2.2.1 ≤ 940 ∧ (-2147483648) ≤ u.2.2.2.2.2.2.2.2.2.1 ∧ u.2.2.2.2.2.2.2.2.2.1 ≤ 2147483647 ∧ lnI u.2.2.2.2.2.2.2.2.2.2 ∧ 0 ≤ (u.2.1 - x4) ∧ 0 ≤ ((((u.2.1 - x4) - u.2.2.2.1) + 4) - u.1) ∧ (kpB u.1 x8 u.2.2.2.2.2.2.1) ∧ (∀ x : Tk × Int × Int, gT x x6 x5 x4 y0 r1 x7 → RS (bkD f0 x2 x3 (sOne (fun _ => f1 0) h0) (x, x17)) u.1 u.2.2.2.2.2.2.1 u.2.2.2.2.2.2.2.1 (fun y => gT y u.2.2.2.1 u.2.2.1 u.2.1 u.2.2.2.2.2.2.2.2.1 u.2.2.2.2.1 u.2.2.2.2.2.1) x17)) (fun u => [(a0, .inr (11, [.int r0, .ref a1, .int (iI x1), .int (iI x2), .int (iI x3), .int (iI u.2.1), .int (iI u.2.2.1), .int (iI u.2.2.2.1), .int u.2.2.2.2.1, .int (iI u.2.2.2.2.2.1), .int (iI u.2.2.2.2.2.2.1), .int (iI u.2.2.2.2.2.2.2.1), .long u.2.2.2.2.2.2.2.2.1, .int (iI u.2.2.2.2.2.2.2.2.2.1), .ref a2, .ref a3, .ref a4, .ref a5, .ref a6, .ref a7, .ref a8, .ref a9, .ref a10, .ref a11, .int (iI x11), .ref a12, .ref a13, .ref a14, .ref a15, .int (iI x12), .int r2, .int r3, .ref a16, .int (iI x13), .int (iI x14), .ref a17, .ref a18, .int (iI x15), .ref a19, .int (iI x16), .int r4, .ref a20, .ref a21, .int (iI x17), .int r5, .ref a22, .int (iI x18), .int (iI x19), .int (iI x20), .int (iI x21)])), (a1, .inl (T 0, 940, .inl (cI f0))), (a2, .inl (T 0, 329, .inl (cI f1))), (a7, .inl (T 1, 12, .inr (.inl h0))), (a20, .inl (T 0, 160, .inl (cI u.2.2.2.2.2.2.2.2.2.2)))])) 0 0 (va_A [(a0, .inr (11, [.int r0, .ref a1, .int (iI x1), .int (iI x2), .int (iI x3), .int (iI x4), .int (iI x5), .int (iI x6), .int r1, .int (iI x7), .int (iI x8), .int (iI x9), .long y0, .int (iI x10), .ref a2, .ref a3, .ref a4, .ref a5, .ref a6, .ref a7, .ref a8, .ref a9, .ref a10, .ref a11, .int (iI x11), .ref a12, .ref a13, .ref a14, .ref a15, .int (iI x12), .int r2, .int r3, .ref a16, .int (iI x13), .int (iI x14), .ref a17, .ref a18, .int (iI x15), .ref a19, .int (iI x16), .int r4, .ref a20, .ref a21, .int (iI x17), .int r5, .ref a22, .int (iI x18), .int (iI x19), .int (iI x20), .int (iI x21)])), (a1, .inl (T 0, 940, .inl (cI f0))), (a2, .inl (T 0, 329, .inl (cI f1))), (a7, .inl (T 1, 12, .inr (.inl h0))), (a20, .inl (T 0, 160, .inl (cI f2)))] sz) := by
  refine e_Z (by decide) (Nat.le_of_ble_eq_true rfl) ?_
  intro p e s m args below meth c A Q ls M hin w ret hl
  have hx := M.1.1
  have hb := M.1.2.1
  have hl : lv_has ls 2 [(0, .ref a0), (1, .int (iI x0))] := hl
  refine lv_aload_n hx hb dX12_readDoes_0 rfl (lv_at hl 0 rfl) ?_
  refine lv_bipush (v := iI 11) hx hb dX12_readDoes_1 (by decide +kernel) ?_
  refine k_I (ce := 0) (sl := 0) (rest := []) (wr := [(a1, .inl (T 0, 940, .inl (cI f0))), (a2, .inl (T 0, 329, .inl (cI f1))), (a7, .inl (T 1, 12, .inr (.inl h0))), (a20, .inl (T 0, 160, .inl (cI f2)))]) (r_V (f := 2) [0] M w V_HookedCityModel_183 G1649 G52 (c42_X12_isWord l D T _ a0 11 r0 a1 x1 x2 x3 x4 x5 x6 r1 x7 x8 x9 y0 x10 a2 a3 a4 a5 a6 a7 a8 a9 a10 a11 x11 a12 a13 a14 a15 x12 r2 r3 a16 x13 x14 a17 a18 x15 a19 x16 r4 a20 a21 x17 r5 a22 x18 x19 x20 x21 (by decide) (by decide) x1_a x1_b x2_a x2_b x3_a x3_b x4_a x4_b x5_a x5_b x6_a x6_b x7_a x7_b x8_a x8_b x9_a x9_b x10_a x10_b x11_a x11_b x12_a x12_b x13_a x13_b x14_a x14_b x15_a x15_b x16_a x16_b x17_a x17_b x18_a x18_b x19_a x19_b x20_a x20_b x21_a x21_b) 0 clX12 rfl rfl (by decide) rfl hl.1 rfl (Nat.le_of_ble_eq_true rfl) dX12_readDoes_3 (by decide) (by decide) (by decide) (by decide)) w [0] [1, 2, 3, 4] rfl rfl (by decide) (by decide) rfl rfl (fun v z1 H locs hp w => ?_)
  have hv : iI z1 = v := hp.1
  subst hv
  have z1_a : 0 ≤ z1 := hp.2.1
  have z1_b : z1 ≤ 1 := hp.2.2.1
  have pq2 : wdQ z1 x6 y0 (wrdZ 11) := hp.2.2.2
  have w : WD D A s.heap [(a1, .inl (T 0, 940, .inl (cI f0))), (a2, .inl (T 0, 329, .inl (cI f1))), (a7, .inl (T 1, 12, .inr (.inl h0))), (a20, .inl (T 0, 160, .inl (cI f2))), (a0, .inr (11, [.int r0, .ref a1, .int (iI x1), .int (iI x2), .int (iI x3), .int (iI x4), .int (iI x5), .int (iI x6), .int r1, .int (iI x7), .int (iI x8), .int (iI x9), .long y0, .int (iI x10), .ref a2, .ref a3, .ref a4, .ref a5, .ref a6, .ref a7, .ref a8, .ref a9, .ref a10, .ref a11, .int (iI x11), .ref a12, .ref a13, .ref a14, .ref a15, .int (iI x12), .int r2, .int r3, .ref a16, .int (iI x13), .int (iI x14), .ref a17, .ref a18, .int (iI x15), .ref a19, .int (iI x16), .int r4, .ref a20, .ref a21, .int (iI x17), .int r5, .ref a22, .int (iI x18), .int (iI x19), .int (iI x20), .int (iI x21)]))] H locs := w
  refine lv_if_ne (tgt := 24) hx hb dX12_readDoes_6 (by decide) (fun c_3 => ?_) (fun c_3 => ?_)
  · replace c_3 : ¬ z1 = 0 := fun h => c_3 ((iz_eq (Int.le_trans (by decide) z1_a) (Int.le_trans z1_b (by decide))).mpr h)
    refine lv_aload_n hx hb dX12_readDoes_24 rfl (lv_at hl 0 rfl) ?_
    refine r_get (v := .ref a20) M w 4 41 clX12 rfl (by decide) G1504 rfl rfl dX12_readDoes_25 ?_
    refine lv_iload_n hx hb dX12_readDoes_28 rfl (lv_at hl 1 rfl) ?_
    refine lv_aload_n hx hb dX12_readDoes_29 rfl (lv_at hl 0 rfl) ?_
    refine lv_bipush (v := iI 11) hx hb dX12_readDoes_30 (by decide +kernel) ?_
    refine k_I (ce := 0) (sl := 0) (rest := [.int (iI x0), .ref a20]) (wr := [(a1, .inl (T 0, 940, .inl (cI f0))), (a2, .inl (T 0, 329, .inl (cI f1))), (a7, .inl (T 1, 12, .inr (.inl h0))), (a20, .inl (T 0, 160, .inl (cI f2)))]) (r_V (f := 2) [4] M w V_HookedCityModel_183 G1649 G52 (c42_X12_isWord l D T _ a0 11 r0 a1 x1 x2 x3 x4 x5 x6 r1 x7 x8 x9 y0 x10 a2 a3 a4 a5 a6 a7 a8 a9 a10 a11 x11 a12 a13 a14 a15 x12 r2 r3 a16 x13 x14 a17 a18 x15 a19 x16 r4 a20 a21 x17 r5 a22 x18 x19 x20 x21 (by decide) (by decide) x1_a x1_b x2_a x2_b x3_a x3_b x4_a x4_b x5_a x5_b x6_a x6_b x7_a x7_b x8_a x8_b x9_a x9_b x10_a x10_b x11_a x11_b x12_a x12_b x13_a x13_b x14_a x14_b x15_a x15_b x16_a x16_b x17_a x17_b x18_a x18_b x19_a x19_b x20_a x20_b x21_a x21_b) 4 clX12 rfl rfl (by decide) rfl hl.1 rfl (Nat.le_of_ble_eq_true rfl) dX12_readDoes_32 (by decide) (by decide) (by decide) (by decide)) w [4] [0, 1, 2, 3] rfl rfl (by decide) (by decide) rfl rfl (fun v z4 H locs hp w => ?_)
    have hv : iI z4 = v := hp.1
    subst hv
    have z4_a : 0 ≤ z4 := hp.2.1
    have z4_b : z4 ≤ 1 := hp.2.2.1
    have pq5 : wdQ z4 x6 y0 (wrdZ 11) := hp.2.2.2
    have w : WD D A s.heap [(a1, .inl (T 0, 940, .inl (cI f0))), (a2, .inl (T 0, 329, .inl (cI f1))), (a7, .inl (T 1, 12, .inr (.inl h0))), (a20, .inl (T 0, 160, .inl (cI f2))), (a0, .inr (11, [.int r0, .ref a1, .int (iI x1), .int (iI x2), .int (iI x3), .int (iI x4), .int (iI x5), .int (iI x6), .int r1, .int (iI x7), .int (iI x8), .int (iI x9), .long y0, .int (iI x10), .ref a2, .ref a3, .ref a4, .ref a5, .ref a6, .ref a7, .ref a8, .ref a9, .ref a10, .ref a11, .int (iI x11), .ref a12, .ref a13, .ref a14, .ref a15, .int (iI x12), .int r2, .int r3, .ref a16, .int (iI x13), .int (iI x14), .ref a17, .ref a18, .int (iI x15), .ref a19, .int (iI x16), .int r4, .ref a20, .ref a21, .int (iI x17), .int r5, .ref a22, .int (iI x18), .int (iI x19), .int (iI x20), .int (iI x21)]))] H locs := w
    refine lv_if_eq (tgt := 42) hx hb dX12_readDoes_35 (by decide) (fun c_6 => ?_) (fun c_6 => ?_)
    · replace c_6 := (iz_eq (Int.le_trans (by decide) z4_a) (Int.le_trans z4_b (by decide))).mp c_6
      refine lv_iconst (v := iI 1) hx hb dX12_readDoes_42 (by decide +kernel) ?_
      refine r_iast (ws' := [(a1, .inl (T 0, 940, .inl (cI f0))), (a2, .inl (T 0, 329, .inl (cI f1))), (a7, .inl (T 1, 12, .inr (.inl h0))), (a20, .inl (T 0, 160, .inl (cI (upz f2 x0 1)))), (a0, .inr (11, [.int r0, .ref a1, .int (iI x1), .int (iI x2), .int (iI x3), .int (iI x4), .int (iI x5), .int (iI x6), .int r1, .int (iI x7), .int (iI x8), .int (iI x9), .long y0, .int (iI x10), .ref a2, .ref a3, .ref a4, .ref a5, .ref a6, .ref a7, .ref a8, .ref a9, .ref a10, .ref a11, .int (iI x11), .ref a12, .ref a13, .ref a14, .ref a15, .int (iI x12), .int r2, .int r3, .ref a16, .int (iI x13), .int (iI x14), .ref a17, .ref a18, .int (iI x15), .ref a19, .int (iI x16), .int r4, .ref a20, .ref a21, .int (iI x17), .int r5, .ref a22, .int (iI x18), .int (iI x19), .int (iI x20), .int (iI x21)]))]) M w 3 rfl (iI_in (by omega) (by omega) (by decide)) (by rw [cI_up (by omega) (by omega)]; rfl) dX12_readDoes_43 (fun H locs w => ?_)
      refine lv_aload_n hx hb dX12_readDoes_44 rfl (lv_at hl 0 rfl) ?_
      refine k_V (ce := 0) (sl := 0) (rest := []) (wr := [(a2, .inl (T 0, 329, .inl (cI f1))), (a7, .inl (T 1, 12, .inr (.inl h0))), (a20, .inl (T 0, 160, .inl (cI (upz f2 x0 1))))]) (r_V (f := 1) [4, 0] M w V_HookedCityModel_82 G1629 G49 (c12_X12_go l D T _ a0 r0 a1 x1 x2 x3 x4 x5 x6 r1 x7 x8 x9 y0 x10 a2 a3 a4 a5 a6 a7 a8 a9 a10 a11 x11 a12 a13 a14 a15 x12 r2 r3 a16 x13 x14 a17 a18 x15 a19 x16 r4 a20 a21 x17 r5 a22 x18 x19 x20 x21 f0 x1_a x1_b x2_a x2_b x3_a x3_b x4_a x4_b x5_a x5_b x6_a x6_b x7_a x7_b x8_a x8_b x9_a x9_b x10_a x10_b x11_a x11_b x12_a x12_b x13_a x13_b x14_a x14_b x15_a x15_b x16_a x16_b x17_a x17_b x18_a x18_b x19_a x19_b x20_a x20_b x21_a x21_b f0_h) 4 clX12 rfl rfl (by decide) rfl hl.1 rfl (Nat.le_of_ble_eq_true rfl) dX12_readDoes_45 (by decide) (by decide) (by decide) (by decide)) w [4, 0] [1, 2, 3] rfl rfl (by decide) (by decide) rfl rfl (fun u H locs hp w => ?_)
      obtain ⟨z7, z8, z9, fr10, z11, fy12⟩ := u
      have z7_a : 0 ≤ z7 := hp.1
      have z7_b : z7 ≤ 940 := hp.2.1
      have z8_a : 0 ≤ z8 := hp.2.2.1
      have z8_b : z8 ≤ 940 := hp.2.2.2.1
      have z9_a : 0 ≤ z9 := hp.2.2.2.2.1
      have z9_b : z9 ≤ 4 := hp.2.2.2.2.2.1
      have z11_a : (-2147483648) ≤ z11 := hp.2.2.2.2.2.2.1
      have z11_b : z11 ≤ 2147483647 := hp.2.2.2.2.2.2.2.1
      have ee13 : 0 ≤ (z7 - x4) := hp.2.2.2.2.2.2.2.2.1
      have ee14 : 0 ≤ (((z7 - x4) - z9) + 3) := hp.2.2.2.2.2.2.2.2.2.1
      have pq15 : gT (tkAt f0 x2 x3 x4) z9 z8 z7 fy12 fr10 z11 := hp.2.2.2.2.2.2.2.2.2.2
      have w : WD D A s.heap [(a2, .inl (T 0, 329, .inl (cI f1))), (a7, .inl (T 1, 12, .inr (.inl h0))), (a20, .inl (T 0, 160, .inl (cI (upz f2 x0 1)))), (a0, .inr (11, [.int r0, .ref a1, .int (iI x1), .int (iI x2), .int (iI x3), .int (iI z7), .int (iI z8), .int (iI z9), .int fr10, .int (iI z11), .int (iI x8), .int (iI x9), .long fy12, .int (iI x10), .ref a2, .ref a3, .ref a4, .ref a5, .ref a6, .ref a7, .ref a8, .ref a9, .ref a10, .ref a11, .int (iI x11), .ref a12, .ref a13, .ref a14, .ref a15, .int (iI x12), .int r2, .int r3, .ref a16, .int (iI x13), .int (iI x14), .ref a17, .ref a18, .int (iI x15), .ref a19, .int (iI x16), .int r4, .ref a20, .ref a21, .int (iI x17), .int r5, .ref a22, .int (iI x18), .int (iI x19), .int (iI x20), .int (iI x21)])), (a1, .inl (T 0, 940, .inl (cI f0)))] H locs := w
      refine lv_aload_n hx hb dX12_readDoes_48 rfl (lv_at hl 0 rfl) ?_
      refine lv_iload_n hx hb dX12_readDoes_49 rfl (lv_at hl 1 rfl) ?_
      refine lv_iconst (v := iI 2) hx hb dX12_readDoes_50 (by decide +kernel) ?_
      refine r_iadd (v := iI (x0 + 2)) M (iI_add _ _) dX12_readDoes_51 ?_
      refine lv_aload_n hx hb dX12_readDoes_52 rfl (lv_at hl 0 rfl) ?_
      refine k_I (ce := 0) (sl := 0) (rest := [.int (iI (x0 + 2)), .ref a0]) (wr := [(a20, .inl (T 0, 160, .inl (cI (upz f2 x0 1))))]) (r_V (f := 3) [3, 4, 0, 1] M w V_HookedCityModel_370 G1989 G104 (c131_X12_readPersonName l D T _ a0 r0 a1 x1 x2 x3 z7 z8 z9 fr10 z11 x8 x9 fy12 x10 a2 a3 a4 a5 a6 a7 a8 a9 a10 a11 x11 a12 a13 a14 a15 x12 r2 r3 a16 x13 x14 a17 a18 x15 a19 x16 r4 a20 a21 x17 r5 a22 x18 x19 x20 x21 f0 f1 h0 x1_a x1_b x2_a x2_b x3_a x3_b z7_a z7_b z8_a z8_b z9_a z9_b z11_a z11_b x8_a x8_b x9_a x9_b x10_a x10_b x11_a x11_b x12_a x12_b x13_a x13_b x14_a x14_b x15_a x15_b x16_a x16_b x17_a x17_b x18_a x18_b x19_a x19_b x20_a x20_b x21_a x21_b f0_h f1_h) 3 clX12 rfl rfl (by decide) rfl hl.1 rfl (Nat.le_of_ble_eq_true rfl) dX12_readDoes_53 (by decide) (by decide) (by decide) (by decide)) w [3, 4, 0, 1] [2] rfl rfl (by decide) (by decide) rfl rfl (fun v u H locs hp w => ?_)
      obtain ⟨z16, z17, z18, z19, fr20, z21, z22, z23, fy24, z25⟩ := u
      have hv : iI z16 = v := hp.1
      subst hv
      have z16_a : 0 ≤ z16 := hp.2.1
      have z16_b : z16 ≤ 1 := hp.2.2.1
      have z17_a : 0 ≤ z17 := hp.2.2.2.1
      have z17_b : z17 ≤ 940 := hp.2.2.2.2.1
      have z18_a : 0 ≤ z18 := hp.2.2.2.2.2.1
      have z18_b : z18 ≤ 940 := hp.2.2.2.2.2.2.1
      have z19_a : 0 ≤ z19 := hp.2.2.2.2.2.2.2.1
      have z19_b : z19 ≤ 4 := hp.2.2.2.2.2.2.2.2.1
      have z21_a : (-2147483648) ≤ z21 := hp.2.2.2.2.2.2.2.2.2.1
      have z21_b : z21 ≤ 2147483647 := hp.2.2.2.2.2.2.2.2.2.2.1
      have z22_a : (-2147483648) ≤ z22 := hp.2.2.2.2.2.2.2.2.2.2.2.1
      have z22_b : z22 ≤ 2147483647 := hp.2.2.2.2.2.2.2.2.2.2.2.2.1
      have z23_a : 0 ≤ z23 := hp.2.2.2.2.2.2.2.2.2.2.2.2.2.1
      have z23_b : z23 ≤ 940 := hp.2.2.2.2.2.2.2.2.2.2.2.2.2.2.1
      have z25_a : (-2147483648) ≤ z25 := hp.2.2.2.2.2.2.2.2.2.2.2.2.2.2.2.1
      have z25_b : z25 ≤ 2147483647 := hp.2.2.2.2.2.2.2.2.2.2.2.2.2.2.2.2.1
      have ee26 : 0 ≤ (z17 - z7) := hp.2.2.2.2.2.2.2.2.2.2.2.2.2.2.2.2.2.1
      have ee27 : 0 ≤ ((((z17 - z7) - z19) + 4) - z16) := hp.2.2.2.2.2.2.2.2.2.2.2.2.2.2.2.2.2.2.1
      have ee28 : 0 ≤ ((z25 + 4294967296) - (z16 * 4294967296)) := hp.2.2.2.2.2.2.2.2.2.2.2.2.2.2.2.2.2.2.2.1
      have ee29 : 0 ≤ (((8 - z25) + 4294967296) - (z16 * 4294967296)) := hp.2.2.2.2.2.2.2.2.2.2.2.2.2.2.2.2.2.2.2.2.1
      have pq30 : ∀ x : Tk × Int × Int, gT x z9 z8 z7 fy12 fr10 z11 → RV ((sOne (fun _ => f1 0) h0) x) z16 z22 z23 z25 ∧ (z16 = 1 → gT (nx f0 x2 x3 x) z19 z18 z17 fy24 fr20 z21) := hp.2.2.2.2.2.2.2.2.2.2.2.2.2.2.2.2.2.2.2.2.2.1
      have pq31 : kpB z16 x8 z22 := hp.2.2.2.2.2.2.2.2.2.2.2.2.2.2.2.2.2.2.2.2.2.2
      have w : WD D A s.heap [(a20, .inl (T 0, 160, .inl (cI (upz f2 x0 1)))), (a0, .inr (11, [.int r0, .ref a1, .int (iI x1), .int (iI x2), .int (iI x3), .int (iI z17), .int (iI z18), .int (iI z19), .int fr20, .int (iI z21), .int (iI z22), .int (iI z23), .long fy24, .int (iI z25), .ref a2, .ref a3, .ref a4, .ref a5, .ref a6, .ref a7, .ref a8, .ref a9, .ref a10, .ref a11, .int (iI x11), .ref a12, .ref a13, .ref a14, .ref a15, .int (iI x12), .int r2, .int r3, .ref a16, .int (iI x13), .int (iI x14), .ref a17, .ref a18, .int (iI x15), .ref a19, .int (iI x16), .int r4, .ref a20, .ref a21, .int (iI x17), .int r5, .ref a22, .int (iI x18), .int (iI x19), .int (iI x20), .int (iI x21)])), (a1, .inl (T 0, 940, .inl (cI f0))), (a2, .inl (T 0, 329, .inl (cI f1))), (a7, .inl (T 1, 12, .inr (.inl h0)))] H locs := w
      refine k_I (ce := 0) (sl := 0) (rest := []) (wr := [(a1, .inl (T 0, 940, .inl (cI f0))), (a2, .inl (T 0, 329, .inl (cI f1))), (a7, .inl (T 1, 12, .inr (.inl h0)))]) (r_V (f := 0) [1, 0] M w V_HookedCityModel_373 G1993 G105 (c132_X12_keep l D T _ a0 (x0 + 2) z16 r0 a1 x1 x2 x3 z17 z18 z19 fr20 z21 z22 z23 fy24 z25 a2 a3 a4 a5 a6 a7 a8 a9 a10 a11 x11 a12 a13 a14 a15 x12 r2 r3 a16 x13 x14 a17 a18 x15 a19 x16 r4 a20 a21 x17 r5 a22 x18 x19 x20 x21 (upz f2 x0 1) (by omega) (by omega) z16_a z16_b x1_a x1_b x2_a x2_b x3_a x3_b z17_a z17_b z18_a z18_b z19_a z19_b z21_a z21_b z22_a z22_b z23_a z23_b z25_a z25_b x11_a x11_b x12_a x12_b x13_a x13_b x14_a x14_b x15_a x15_b x16_a x16_b x17_a x17_b x18_a x18_b x19_a x19_b x20_a x20_b x21_a x21_b (ln_op f2_h (n := x17) (by omega) (by omega) (by omega) (by decide) (by decide) pp_x) (fun h => ln_p (ln_op f2_h (n := x17) (by omega) (by omega) (by omega) (by decide) (by decide) pp_x) (n := x17) (by omega) (by omega) (by omega) (by omega) (by omega))) 1 clX12 rfl rfl (by decide) rfl hl.1 rfl (Nat.le_of_ble_eq_true rfl) dX12_readDoes_56 (by decide) (by decide) (by decide) (by decide)) w [1, 0] [2, 3, 4] rfl rfl (by decide) (by decide) rfl rfl (fun v u H locs hp w => ?_)
      obtain ⟨z32, ff33⟩ := u
      have hv : iI z32 = v := hp.1
      subst hv
      have z32_a : 0 ≤ z32 := hp.2.1
      have z32_b : z32 ≤ 1 := hp.2.2.1
      have ff33_h : lnI ff33 := hp.2.2.2.1
      have ee34 : 0 ≤ (z16 - z32) := hp.2.2.2.2.1
      have ee35 : 0 ≤ (z32 - z16) := hp.2.2.2.2.2.1
      have pq36 : ∀ j : Int, ¬ j = (x0 + 2) → ff33 j = (upz f2 x0 1) j := hp.2.2.2.2.2.2
      have w : WD D A s.heap [(a1, .inl (T 0, 940, .inl (cI f0))), (a2, .inl (T 0, 329, .inl (cI f1))), (a7, .inl (T 1, 12, .inr (.inl h0))), (a0, .inr (11, [.int r0, .ref a1, .int (iI x1), .int (iI x2), .int (iI x3), .int (iI z17), .int (iI z18), .int (iI z19), .int fr20, .int (iI z21), .int (iI z22), .int (iI z23), .long fy24, .int (iI z25), .ref a2, .ref a3, .ref a4, .ref a5, .ref a6, .ref a7, .ref a8, .ref a9, .ref a10, .ref a11, .int (iI x11), .ref a12, .ref a13, .ref a14, .ref a15, .int (iI x12), .int r2, .int r3, .ref a16, .int (iI x13), .int (iI x14), .ref a17, .ref a18, .int (iI x15), .ref a19, .int (iI x16), .int r4, .ref a20, .ref a21, .int (iI x17), .int r5, .ref a22, .int (iI x18), .int (iI x19), .int (iI x20), .int (iI x21)])), (a20, .inl (T 0, 160, .inl (cI ff33)))] H locs := w
      refine lv_if_eq (tgt := 90) hx hb dX12_readDoes_59 (by decide) (fun c_37 => ?_) (fun c_37 => ?_)
      · replace c_37 := (iz_eq (Int.le_trans (by decide) z32_a) (Int.le_trans z32_b (by decide))).mp c_37
        refine lv_iconst (v := iI 0) hx hb dX12_readDoes_90 (by decide +kernel) ?_
        exact ret _ (0, z17, z18, z19, fr20, z21, z22, z23, fy24, z25, ff33) _ _ _ _ _ [3, 0, 1, 2, 4] dX12_readDoes_91 (by decide +kernel) ⟨rfl, (show (0 : Int) ≤ 0 from by decide), (show (0 : Int) ≤ 1 from by decide), z17_a, z17_b, z18_a, z18_b, z19_a, z19_b, z21_a, z21_b, z22_a, z22_b, z23_a, z23_b, z25_a, z25_b, ff33_h, (show 0 ≤ (z17 - x4) from by omega), (show 0 ≤ ((((z17 - x4) - z19) + 4) - 0) from by omega), (show kpB 0 x8 z22 from (fun e => absurd e (by decide))), (show ∀ x : Tk × Int × Int, gT x x6 x5 x4 y0 r1 x7 → RS (bkD f0 x2 x3 (sOne (fun _ => f1 0) h0) (x, x17)) 0 z22 z23 (fun y => gT y z19 z18 z17 fy24 fr20 z21) x17 from (fun x g => absurd (wd_1 g (k := 11) pq2 (by omega)) (wd_0 g (k := 11) pq5 (by omega))))⟩ w (by decide) rfl
      · replace c_37 : ¬ z32 = 0 := fun h => c_37 ((iz_eq (Int.le_trans (by decide) z32_a) (Int.le_trans z32_b (by decide))).mpr h)
        refine lv_aload_n hx hb dX12_readDoes_62 rfl (lv_at hl 0 rfl) ?_
        refine r_get (v := .ref a20) M w 3 41 clX12 rfl (by decide) G1504 rfl rfl dX12_readDoes_63 ?_
        refine lv_iload_n hx hb dX12_readDoes_66 rfl (lv_at hl 1 rfl) ?_
        refine r_iald (v := iI (ff33 x0)) M w 4 rfl (iI_in (by omega) (by omega) (by decide)) (cI_at (by omega) (by omega)) dX12_readDoes_67 ?_
        have hh38 : (-2147483648) ≤ (ff33 x0) ∧ (ff33 x0) ≤ 2147483647 := ff33_h.1 x0
        refine lv_iconst (v := iI 1) hx hb dX12_readDoes_68 (by decide +kernel) ?_
        refine lv_icmp_eq (tgt := 86) hx hb dX12_readDoes_69 (by decide) (fun c_39 => ?_) (fun c_39 => ?_)
        · replace c_39 := (iI_eq (by omega) (by omega) (by decide) (by decide)).mp c_39
          refine lv_iconst (v := iI 1) hx hb dX12_readDoes_86 (by decide +kernel) ?_
          refine lv_goto (tgt := 91) hx hb dX12_readDoes_87 (by decide) ?_
          exact ret _ (1, z17, z18, z19, fr20, z21, z22, z23, fy24, z25, ff33) _ _ _ _ _ [3, 0, 1, 2, 4] dX12_readDoes_91 (by decide +kernel) ⟨rfl, (show (0 : Int) ≤ 1 from by decide), (show (1 : Int) ≤ 1 from by decide), z17_a, z17_b, z18_a, z18_b, z19_a, z19_b, z21_a, z21_b, z22_a, z22_b, z23_a, z23_b, z25_a, z25_b, ff33_h, (show 0 ≤ (z17 - x4) from by omega), (show 0 ≤ ((((z17 - x4) - z19) + 4) - 1) from by omega), (show kpB 1 x8 z22 from (fun hr => by have y3 := pq31 (by omega); omega)), (show ∀ x : Tk × Int × Int, gT x x6 x5 x4 y0 r1 x7 → RS (bkD f0 x2 x3 (sOne (fun _ => f1 0) h0) (x, x17)) 1 z22 z23 (fun y => gT y z19 z18 z17 fy24 fr20 z21) x17 from (fun x g => absurd (wd_1 g (k := 11) pq2 (by omega)) (wd_0 g (k := 11) pq5 (by omega))))⟩ w (by decide) rfl
        · replace c_39 : ¬ (ff33 x0) = 1 := fun h => c_39 ((iI_eq (by omega) (by omega) (by decide) (by decide)).mpr h)
          refine lv_aload_n hx hb dX12_readDoes_72 rfl (lv_at hl 0 rfl) ?_
          refine lv_iload_n hx hb dX12_readDoes_73 rfl (lv_at hl 1 rfl) ?_
          refine lv_iconst (v := iI 3) hx hb dX12_readDoes_74 (by decide +kernel) ?_
          refine r_iadd (v := iI (x0 + 3)) M (iI_add _ _) dX12_readDoes_75 ?_
          refine lv_aload_n hx hb dX12_readDoes_76 rfl (lv_at hl 0 rfl) ?_
          refine k_I (ce := 0) (sl := 0) (rest := [.int (iI (x0 + 3)), .ref a0]) (wr := [(a20, .inl (T 0, 160, .inl (cI ff33)))]) (r_V (f := 3) [3, 0, 1, 2] M w V_HookedCityModel_370 G1989 G104 (c131_X12_readPersonName l D T _ a0 r0 a1 x1 x2 x3 z17 z18 z19 fr20 z21 z22 z23 fy24 z25 a2 a3 a4 a5 a6 a7 a8 a9 a10 a11 x11 a12 a13 a14 a15 x12 r2 r3 a16 x13 x14 a17 a18 x15 a19 x16 r4 a20 a21 x17 r5 a22 x18 x19 x20 x21 f0 f1 h0 x1_a x1_b x2_a x2_b x3_a x3_b z17_a z17_b z18_a z18_b z19_a z19_b z21_a z21_b z22_a z22_b z23_a z23_b z25_a z25_b x11_a x11_b x12_a x12_b x13_a x13_b x14_a x14_b x15_a x15_b x16_a x16_b x17_a x17_b x18_a x18_b x19_a x19_b x20_a x20_b x21_a x21_b f0_h f1_h) 3 clX12 rfl rfl (by decide) rfl hl.1 rfl (Nat.le_of_ble_eq_true rfl) dX12_readDoes_77 (by decide) (by decide) (by decide) (by decide)) w [3, 0, 1, 2] [4] rfl rfl (by decide) (by decide) rfl rfl (fun v u H locs hp w => ?_)
          obtain ⟨z40, z41, z42, z43, fr44, z45, z46, z47, fy48, z49⟩ := u
          have hv : iI z40 = v := hp.1
          subst hv
          have z40_a : 0 ≤ z40 := hp.2.1
          have z40_b : z40 ≤ 1 := hp.2.2.1
          have z41_a : 0 ≤ z41 := hp.2.2.2.1
          have z41_b : z41 ≤ 940 := hp.2.2.2.2.1
          have z42_a : 0 ≤ z42 := hp.2.2.2.2.2.1
          have z42_b : z42 ≤ 940 := hp.2.2.2.2.2.2.1
          have z43_a : 0 ≤ z43 := hp.2.2.2.2.2.2.2.1
          have z43_b : z43 ≤ 4 := hp.2.2.2.2.2.2.2.2.1
          have z45_a : (-2147483648) ≤ z45 := hp.2.2.2.2.2.2.2.2.2.1
          have z45_b : z45 ≤ 2147483647 := hp.2.2.2.2.2.2.2.2.2.2.1
          have z46_a : (-2147483648) ≤ z46 := hp.2.2.2.2.2.2.2.2.2.2.2.1
          have z46_b : z46 ≤ 2147483647 := hp.2.2.2.2.2.2.2.2.2.2.2.2.1
          have z47_a : 0 ≤ z47 := hp.2.2.2.2.2.2.2.2.2.2.2.2.2.1
          have z47_b : z47 ≤ 940 := hp.2.2.2.2.2.2.2.2.2.2.2.2.2.2.1
          have z49_a : (-2147483648) ≤ z49 := hp.2.2.2.2.2.2.2.2.2.2.2.2.2.2.2.1
          have z49_b : z49 ≤ 2147483647 := hp.2.2.2.2.2.2.2.2.2.2.2.2.2.2.2.2.1
          have ee50 : 0 ≤ (z41 - z17) := hp.2.2.2.2.2.2.2.2.2.2.2.2.2.2.2.2.2.1
          have ee51 : 0 ≤ ((((z41 - z17) - z43) + 4) - z40) := hp.2.2.2.2.2.2.2.2.2.2.2.2.2.2.2.2.2.2.1
          have ee52 : 0 ≤ ((z49 + 4294967296) - (z40 * 4294967296)) := hp.2.2.2.2.2.2.2.2.2.2.2.2.2.2.2.2.2.2.2.1
          have ee53 : 0 ≤ (((8 - z49) + 4294967296) - (z40 * 4294967296)) := hp.2.2.2.2.2.2.2.2.2.2.2.2.2.2.2.2.2.2.2.2.1
          have pq54 : ∀ x : Tk × Int × Int, gT x z19 z18 z17 fy24 fr20 z21 → RV ((sOne (fun _ => f1 0) h0) x) z40 z46 z47 z49 ∧ (z40 = 1 → gT (nx f0 x2 x3 x) z43 z42 z41 fy48 fr44 z45) := hp.2.2.2.2.2.2.2.2.2.2.2.2.2.2.2.2.2.2.2.2.2.1
          have pq55 : kpB z40 z22 z46 := hp.2.2.2.2.2.2.2.2.2.2.2.2.2.2.2.2.2.2.2.2.2.2
          have w : WD D A s.heap [(a20, .inl (T 0, 160, .inl (cI ff33))), (a0, .inr (11, [.int r0, .ref a1, .int (iI x1), .int (iI x2), .int (iI x3), .int (iI z41), .int (iI z42), .int (iI z43), .int fr44, .int (iI z45), .int (iI z46), .int (iI z47), .long fy48, .int (iI z49), .ref a2, .ref a3, .ref a4, .ref a5, .ref a6, .ref a7, .ref a8, .ref a9, .ref a10, .ref a11, .int (iI x11), .ref a12, .ref a13, .ref a14, .ref a15, .int (iI x12), .int r2, .int r3, .ref a16, .int (iI x13), .int (iI x14), .ref a17, .ref a18, .int (iI x15), .ref a19, .int (iI x16), .int r4, .ref a20, .ref a21, .int (iI x17), .int r5, .ref a22, .int (iI x18), .int (iI x19), .int (iI x20), .int (iI x21)])), (a1, .inl (T 0, 940, .inl (cI f0))), (a2, .inl (T 0, 329, .inl (cI f1))), (a7, .inl (T 1, 12, .inr (.inl h0)))] H locs := w
          refine k_I (ce := 0) (sl := 0) (rest := []) (wr := [(a1, .inl (T 0, 940, .inl (cI f0))), (a2, .inl (T 0, 329, .inl (cI f1))), (a7, .inl (T 1, 12, .inr (.inl h0)))]) (r_V (f := 0) [1, 0] M w V_HookedCityModel_373 G1993 G105 (c132_X12_keep l D T _ a0 (x0 + 3) z40 r0 a1 x1 x2 x3 z41 z42 z43 fr44 z45 z46 z47 fy48 z49 a2 a3 a4 a5 a6 a7 a8 a9 a10 a11 x11 a12 a13 a14 a15 x12 r2 r3 a16 x13 x14 a17 a18 x15 a19 x16 r4 a20 a21 x17 r5 a22 x18 x19 x20 x21 ff33 (by omega) (by omega) z40_a z40_b x1_a x1_b x2_a x2_b x3_a x3_b z41_a z41_b z42_a z42_b z43_a z43_b z45_a z45_b z46_a z46_b z47_a z47_b z49_a z49_b x11_a x11_b x12_a x12_b x13_a x13_b x14_a x14_b x15_a x15_b x16_a x16_b x17_a x17_b x18_a x18_b x19_a x19_b x20_a x20_b x21_a x21_b ff33_h (fun h => ln_q ff33_h (n := x17) (by omega) (by omega) (by omega) (by omega) (by omega))) 1 clX12 rfl rfl (by decide) rfl hl.1 rfl (Nat.le_of_ble_eq_true rfl) dX12_readDoes_80 (by decide) (by decide) (by decide) (by decide)) w [1, 0] [2, 3, 4] rfl rfl (by decide) (by decide) rfl rfl (fun v u H locs hp w => ?_)
          obtain ⟨z56, ff57⟩ := u
          have hv : iI z56 = v := hp.1
          subst hv
          have z56_a : 0 ≤ z56 := hp.2.1
          have z56_b : z56 ≤ 1 := hp.2.2.1
          have ff57_h : lnI ff57 := hp.2.2.2.1
          have ee58 : 0 ≤ (z40 - z56) := hp.2.2.2.2.1
          have ee59 : 0 ≤ (z56 - z40) := hp.2.2.2.2.2.1
          have pq60 : ∀ j : Int, ¬ j = (x0 + 3) → ff57 j = ff33 j := hp.2.2.2.2.2.2
          have w : WD D A s.heap [(a1, .inl (T 0, 940, .inl (cI f0))), (a2, .inl (T 0, 329, .inl (cI f1))), (a7, .inl (T 1, 12, .inr (.inl h0))), (a0, .inr (11, [.int r0, .ref a1, .int (iI x1), .int (iI x2), .int (iI x3), .int (iI z41), .int (iI z42), .int (iI z43), .int fr44, .int (iI z45), .int (iI z46), .int (iI z47), .long fy48, .int (iI z49), .ref a2, .ref a3, .ref a4, .ref a5, .ref a6, .ref a7, .ref a8, .ref a9, .ref a10, .ref a11, .int (iI x11), .ref a12, .ref a13, .ref a14, .ref a15, .int (iI x12), .int r2, .int r3, .ref a16, .int (iI x13), .int (iI x14), .ref a17, .ref a18, .int (iI x15), .ref a19, .int (iI x16), .int r4, .ref a20, .ref a21, .int (iI x17), .int r5, .ref a22, .int (iI x18), .int (iI x19), .int (iI x20), .int (iI x21)])), (a20, .inl (T 0, 160, .inl (cI ff57)))] H locs := w
          refine lv_if_eq (tgt := 90) hx hb dX12_readDoes_83 (by decide) (fun c_61 => ?_) (fun c_61 => ?_)
          · replace c_61 := (iz_eq (Int.le_trans (by decide) z56_a) (Int.le_trans z56_b (by decide))).mp c_61
            refine lv_iconst (v := iI 0) hx hb dX12_readDoes_90 (by decide +kernel) ?_
            exact ret _ (0, z41, z42, z43, fr44, z45, z46, z47, fy48, z49, ff57) _ _ _ _ _ [3, 0, 1, 2, 4] dX12_readDoes_91 (by decide +kernel) ⟨rfl, (show (0 : Int) ≤ 0 from by decide), (show (0 : Int) ≤ 1 from by decide), z41_a, z41_b, z42_a, z42_b, z43_a, z43_b, z45_a, z45_b, z46_a, z46_b, z47_a, z47_b, z49_a, z49_b, ff57_h, (show 0 ≤ (z41 - x4) from by omega), (show 0 ≤ ((((z41 - x4) - z43) + 4) - 0) from by omega), (show kpB 0 x8 z46 from (fun e => absurd e (by decide))), (show ∀ x : Tk × Int × Int, gT x x6 x5 x4 y0 r1 x7 → RS (bkD f0 x2 x3 (sOne (fun _ => f1 0) h0) (x, x17)) 0 z46 z47 (fun y => gT y z43 z42 z41 fy48 fr44 z45) x17 from (fun x g => absurd (wd_1 g (k := 11) pq2 (by omega)) (wd_0 g (k := 11) pq5 (by omega))))⟩ w (by decide) rfl
          · replace c_61 : ¬ z56 = 0 := fun h => c_61 ((iz_eq (Int.le_trans (by decide) z56_a) (Int.le_trans z56_b (by decide))).mpr h)
            refine lv_iconst (v := iI 1) hx hb dX12_readDoes_86 (by decide +kernel) ?_
            refine lv_goto (tgt := 91) hx hb dX12_readDoes_87 (by decide) ?_
            exact ret _ (1, z41, z42, z43, fr44, z45, z46, z47, fy48, z49, ff57) _ _ _ _ _ [3, 0, 1, 2, 4] dX12_readDoes_91 (by decide +kernel) ⟨rfl, (show (0 : Int) ≤ 1 from by decide), (show (1 : Int) ≤ 1 from by decide), z41_a, z41_b, z42_a, z42_b, z43_a, z43_b, z45_a, z45_b, z46_a, z46_b, z47_a, z47_b, z49_a, z49_b, ff57_h, (show 0 ≤ (z41 - x4) from by omega), (show 0 ≤ ((((z41 - x4) - z43) + 4) - 1) from by omega), (show kpB 1 x8 z46 from (fun hr => by have y3 := pq31 (by omega); have y5 := pq55 (by omega); omega)), (show ∀ x : Tk × Int × Int, gT x x6 x5 x4 y0 r1 x7 → RS (bkD f0 x2 x3 (sOne (fun _ => f1 0) h0) (x, x17)) 1 z46 z47 (fun y => gT y z43 z42 z41 fy48 fr44 z45) x17 from (fun x g => absurd (wd_1 g (k := 11) pq2 (by omega)) (wd_0 g (k := 11) pq5 (by omega))))⟩ w (by decide) rfl
    · replace c_6 : ¬ z4 = 0 := fun h => c_6 ((iz_eq (Int.le_trans (by decide) z4_a) (Int.le_trans z4_b (by decide))).mpr h)
      refine lv_iconst (v := iI 0) hx hb dX12_readDoes_38 (by decide +kernel) ?_
      refine lv_goto (tgt := 43) hx hb dX12_readDoes_39 (by decide) ?_
      refine r_iast (ws' := [(a1, .inl (T 0, 940, .inl (cI f0))), (a2, .inl (T 0, 329, .inl (cI f1))), (a7, .inl (T 1, 12, .inr (.inl h0))), (a20, .inl (T 0, 160, .inl (cI (upz f2 x0 0)))), (a0, .inr (11, [.int r0, .ref a1, .int (iI x1), .int (iI x2), .int (iI x3), .int (iI x4), .int (iI x5), .int (iI x6), .int r1, .int (iI x7), .int (iI x8), .int (iI x9), .long y0, .int (iI x10), .ref a2, .ref a3, .ref a4, .ref a5, .ref a6, .ref a7, .ref a8, .ref a9, .ref a10, .ref a11, .int (iI x11), .ref a12, .ref a13, .ref a14, .ref a15, .int (iI x12), .int r2, .int r3, .ref a16, .int (iI x13), .int (iI x14), .ref a17, .ref a18, .int (iI x15), .ref a19, .int (iI x16), .int r4, .ref a20, .ref a21, .int (iI x17), .int r5, .ref a22, .int (iI x18), .int (iI x19), .int (iI x20), .int (iI x21)]))]) M w 3 rfl (iI_in (by omega) (by omega) (by decide)) (by rw [cI_up (by omega) (by omega)]; rfl) dX12_readDoes_43 (fun H locs w => ?_)
      refine lv_aload_n hx hb dX12_readDoes_44 rfl (lv_at hl 0 rfl) ?_
      refine k_V (ce := 0) (sl := 0) (rest := []) (wr := [(a2, .inl (T 0, 329, .inl (cI f1))), (a7, .inl (T 1, 12, .inr (.inl h0))), (a20, .inl (T 0, 160, .inl (cI (upz f2 x0 0))))]) (r_V (f := 1) [4, 0] M w V_HookedCityModel_82 G1629 G49 (c12_X12_go l D T _ a0 r0 a1 x1 x2 x3 x4 x5 x6 r1 x7 x8 x9 y0 x10 a2 a3 a4 a5 a6 a7 a8 a9 a10 a11 x11 a12 a13 a14 a15 x12 r2 r3 a16 x13 x14 a17 a18 x15 a19 x16 r4 a20 a21 x17 r5 a22 x18 x19 x20 x21 f0 x1_a x1_b x2_a x2_b x3_a x3_b x4_a x4_b x5_a x5_b x6_a x6_b x7_a x7_b x8_a x8_b x9_a x9_b x10_a x10_b x11_a x11_b x12_a x12_b x13_a x13_b x14_a x14_b x15_a x15_b x16_a x16_b x17_a x17_b x18_a x18_b x19_a x19_b x20_a x20_b x21_a x21_b f0_h) 4 clX12 rfl rfl (by decide) rfl hl.1 rfl (Nat.le_of_ble_eq_true rfl) dX12_readDoes_45 (by decide) (by decide) (by decide) (by decide)) w [4, 0] [1, 2, 3] rfl rfl (by decide) (by decide) rfl rfl (fun u H locs hp w => ?_)
      obtain ⟨z62, z63, z64, fr65, z66, fy67⟩ := u
      have z62_a : 0 ≤ z62 := hp.1
      have z62_b : z62 ≤ 940 := hp.2.1
      have z63_a : 0 ≤ z63 := hp.2.2.1
      have z63_b : z63 ≤ 940 := hp.2.2.2.1
      have z64_a : 0 ≤ z64 := hp.2.2.2.2.1
      have z64_b : z64 ≤ 4 := hp.2.2.2.2.2.1
      have z66_a : (-2147483648) ≤ z66 := hp.2.2.2.2.2.2.1
      have z66_b : z66 ≤ 2147483647 := hp.2.2.2.2.2.2.2.1
      have ee68 : 0 ≤ (z62 - x4) := hp.2.2.2.2.2.2.2.2.1
      have ee69 : 0 ≤ (((z62 - x4) - z64) + 3) := hp.2.2.2.2.2.2.2.2.2.1
      have pq70 : gT (tkAt f0 x2 x3 x4) z64 z63 z62 fy67 fr65 z66 := hp.2.2.2.2.2.2.2.2.2.2
      have w : WD D A s.heap [(a2, .inl (T 0, 329, .inl (cI f1))), (a7, .inl (T 1, 12, .inr (.inl h0))), (a20, .inl (T 0, 160, .inl (cI (upz f2 x0 0)))), (a0, .inr (11, [.int r0, .ref a1, .int (iI x1), .int (iI x2), .int (iI x3), .int (iI z62), .int (iI z63), .int (iI z64), .int fr65, .int (iI z66), .int (iI x8), .int (iI x9), .long fy67, .int (iI x10), .ref a2, .ref a3, .ref a4, .ref a5, .ref a6, .ref a7, .ref a8, .ref a9, .ref a10, .ref a11, .int (iI x11), .ref a12, .ref a13, .ref a14, .ref a15, .int (iI x12), .int r2, .int r3, .ref a16, .int (iI x13), .int (iI x14), .ref a17, .ref a18, .int (iI x15), .ref a19, .int (iI x16), .int r4, .ref a20, .ref a21, .int (iI x17), .int r5, .ref a22, .int (iI x18), .int (iI x19), .int (iI x20), .int (iI x21)])), (a1, .inl (T 0, 940, .inl (cI f0)))] H locs := w
      refine lv_aload_n hx hb dX12_readDoes_48 rfl (lv_at hl 0 rfl) ?_
      refine lv_iload_n hx hb dX12_readDoes_49 rfl (lv_at hl 1 rfl) ?_
      refine lv_iconst (v := iI 2) hx hb dX12_readDoes_50 (by decide +kernel) ?_
      refine r_iadd (v := iI (x0 + 2)) M (iI_add _ _) dX12_readDoes_51 ?_
      refine lv_aload_n hx hb dX12_readDoes_52 rfl (lv_at hl 0 rfl) ?_
      refine k_I (ce := 0) (sl := 0) (rest := [.int (iI (x0 + 2)), .ref a0]) (wr := [(a20, .inl (T 0, 160, .inl (cI (upz f2 x0 0))))]) (r_V (f := 3) [3, 4, 0, 1] M w V_HookedCityModel_370 G1989 G104 (c131_X12_readPersonName l D T _ a0 r0 a1 x1 x2 x3 z62 z63 z64 fr65 z66 x8 x9 fy67 x10 a2 a3 a4 a5 a6 a7 a8 a9 a10 a11 x11 a12 a13 a14 a15 x12 r2 r3 a16 x13 x14 a17 a18 x15 a19 x16 r4 a20 a21 x17 r5 a22 x18 x19 x20 x21 f0 f1 h0 x1_a x1_b x2_a x2_b x3_a x3_b z62_a z62_b z63_a z63_b z64_a z64_b z66_a z66_b x8_a x8_b x9_a x9_b x10_a x10_b x11_a x11_b x12_a x12_b x13_a x13_b x14_a x14_b x15_a x15_b x16_a x16_b x17_a x17_b x18_a x18_b x19_a x19_b x20_a x20_b x21_a x21_b f0_h f1_h) 3 clX12 rfl rfl (by decide) rfl hl.1 rfl (Nat.le_of_ble_eq_true rfl) dX12_readDoes_53 (by decide) (by decide) (by decide) (by decide)) w [3, 4, 0, 1] [2] rfl rfl (by decide) (by decide) rfl rfl (fun v u H locs hp w => ?_)
      obtain ⟨z71, z72, z73, z74, fr75, z76, z77, z78, fy79, z80⟩ := u
      have hv : iI z71 = v := hp.1
      subst hv
      have z71_a : 0 ≤ z71 := hp.2.1
      have z71_b : z71 ≤ 1 := hp.2.2.1
      have z72_a : 0 ≤ z72 := hp.2.2.2.1
      have z72_b : z72 ≤ 940 := hp.2.2.2.2.1
      have z73_a : 0 ≤ z73 := hp.2.2.2.2.2.1
      have z73_b : z73 ≤ 940 := hp.2.2.2.2.2.2.1
      have z74_a : 0 ≤ z74 := hp.2.2.2.2.2.2.2.1
      have z74_b : z74 ≤ 4 := hp.2.2.2.2.2.2.2.2.1
      have z76_a : (-2147483648) ≤ z76 := hp.2.2.2.2.2.2.2.2.2.1
      have z76_b : z76 ≤ 2147483647 := hp.2.2.2.2.2.2.2.2.2.2.1
      have z77_a : (-2147483648) ≤ z77 := hp.2.2.2.2.2.2.2.2.2.2.2.1
      have z77_b : z77 ≤ 2147483647 := hp.2.2.2.2.2.2.2.2.2.2.2.2.1
      have z78_a : 0 ≤ z78 := hp.2.2.2.2.2.2.2.2.2.2.2.2.2.1
      have z78_b : z78 ≤ 940 := hp.2.2.2.2.2.2.2.2.2.2.2.2.2.2.1
      have z80_a : (-2147483648) ≤ z80 := hp.2.2.2.2.2.2.2.2.2.2.2.2.2.2.2.1
      have z80_b : z80 ≤ 2147483647 := hp.2.2.2.2.2.2.2.2.2.2.2.2.2.2.2.2.1
      have ee81 : 0 ≤ (z72 - z62) := hp.2.2.2.2.2.2.2.2.2.2.2.2.2.2.2.2.2.1
      have ee82 : 0 ≤ ((((z72 - z62) - z74) + 4) - z71) := hp.2.2.2.2.2.2.2.2.2.2.2.2.2.2.2.2.2.2.1
      have ee83 : 0 ≤ ((z80 + 4294967296) - (z71 * 4294967296)) := hp.2.2.2.2.2.2.2.2.2.2.2.2.2.2.2.2.2.2.2.1
      have ee84 : 0 ≤ (((8 - z80) + 4294967296) - (z71 * 4294967296)) := hp.2.2.2.2.2.2.2.2.2.2.2.2.2.2.2.2.2.2.2.2.1
      have pq85 : ∀ x : Tk × Int × Int, gT x z64 z63 z62 fy67 fr65 z66 → RV ((sOne (fun _ => f1 0) h0) x) z71 z77 z78 z80 ∧ (z71 = 1 → gT (nx f0 x2 x3 x) z74 z73 z72 fy79 fr75 z76) := hp.2.2.2.2.2.2.2.2.2.2.2.2.2.2.2.2.2.2.2.2.2.1
      have pq86 : kpB z71 x8 z77 := hp.2.2.2.2.2.2.2.2.2.2.2.2.2.2.2.2.2.2.2.2.2.2
      have w : WD D A s.heap [(a20, .inl (T 0, 160, .inl (cI (upz f2 x0 0)))), (a0, .inr (11, [.int r0, .ref a1, .int (iI x1), .int (iI x2), .int (iI x3), .int (iI z72), .int (iI z73), .int (iI z74), .int fr75, .int (iI z76), .int (iI z77), .int (iI z78), .long fy79, .int (iI z80), .ref a2, .ref a3, .ref a4, .ref a5, .ref a6, .ref a7, .ref a8, .ref a9, .ref a10, .ref a11, .int (iI x11), .ref a12, .ref a13, .ref a14, .ref a15, .int (iI x12), .int r2, .int r3, .ref a16, .int (iI x13), .int (iI x14), .ref a17, .ref a18, .int (iI x15), .ref a19, .int (iI x16), .int r4, .ref a20, .ref a21, .int (iI x17), .int r5, .ref a22, .int (iI x18), .int (iI x19), .int (iI x20), .int (iI x21)])), (a1, .inl (T 0, 940, .inl (cI f0))), (a2, .inl (T 0, 329, .inl (cI f1))), (a7, .inl (T 1, 12, .inr (.inl h0)))] H locs := w
      refine k_I (ce := 0) (sl := 0) (rest := []) (wr := [(a1, .inl (T 0, 940, .inl (cI f0))), (a2, .inl (T 0, 329, .inl (cI f1))), (a7, .inl (T 1, 12, .inr (.inl h0)))]) (r_V (f := 0) [1, 0] M w V_HookedCityModel_373 G1993 G105 (c132_X12_keep l D T _ a0 (x0 + 2) z71 r0 a1 x1 x2 x3 z72 z73 z74 fr75 z76 z77 z78 fy79 z80 a2 a3 a4 a5 a6 a7 a8 a9 a10 a11 x11 a12 a13 a14 a15 x12 r2 r3 a16 x13 x14 a17 a18 x15 a19 x16 r4 a20 a21 x17 r5 a22 x18 x19 x20 x21 (upz f2 x0 0) (by omega) (by omega) z71_a z71_b x1_a x1_b x2_a x2_b x3_a x3_b z72_a z72_b z73_a z73_b z74_a z74_b z76_a z76_b z77_a z77_b z78_a z78_b z80_a z80_b x11_a x11_b x12_a x12_b x13_a x13_b x14_a x14_b x15_a x15_b x16_a x16_b x17_a x17_b x18_a x18_b x19_a x19_b x20_a x20_b x21_a x21_b (ln_op f2_h (n := x17) (by omega) (by omega) (by omega) (by decide) (by decide) pp_x) (fun h => ln_p (ln_op f2_h (n := x17) (by omega) (by omega) (by omega) (by decide) (by decide) pp_x) (n := x17) (by omega) (by omega) (by omega) (by omega) (by omega))) 1 clX12 rfl rfl (by decide) rfl hl.1 rfl (Nat.le_of_ble_eq_true rfl) dX12_readDoes_56 (by decide) (by decide) (by decide) (by decide)) w [1, 0] [2, 3, 4] rfl rfl (by decide) (by decide) rfl rfl (fun v u H locs hp w => ?_)
      obtain ⟨z87, ff88⟩ := u
      have hv : iI z87 = v := hp.1
      subst hv
      have z87_a : 0 ≤ z87 := hp.2.1
      have z87_b : z87 ≤ 1 := hp.2.2.1
      have ff88_h : lnI ff88 := hp.2.2.2.1
      have ee89 : 0 ≤ (z71 - z87) := hp.2.2.2.2.1
      have ee90 : 0 ≤ (z87 - z71) := hp.2.2.2.2.2.1
      have pq91 : ∀ j : Int, ¬ j = (x0 + 2) → ff88 j = (upz f2 x0 0) j := hp.2.2.2.2.2.2
      have w : WD D A s.heap [(a1, .inl (T 0, 940, .inl (cI f0))), (a2, .inl (T 0, 329, .inl (cI f1))), (a7, .inl (T 1, 12, .inr (.inl h0))), (a0, .inr (11, [.int r0, .ref a1, .int (iI x1), .int (iI x2), .int (iI x3), .int (iI z72), .int (iI z73), .int (iI z74), .int fr75, .int (iI z76), .int (iI z77), .int (iI z78), .long fy79, .int (iI z80), .ref a2, .ref a3, .ref a4, .ref a5, .ref a6, .ref a7, .ref a8, .ref a9, .ref a10, .ref a11, .int (iI x11), .ref a12, .ref a13, .ref a14, .ref a15, .int (iI x12), .int r2, .int r3, .ref a16, .int (iI x13), .int (iI x14), .ref a17, .ref a18, .int (iI x15), .ref a19, .int (iI x16), .int r4, .ref a20, .ref a21, .int (iI x17), .int r5, .ref a22, .int (iI x18), .int (iI x19), .int (iI x20), .int (iI x21)])), (a20, .inl (T 0, 160, .inl (cI ff88)))] H locs := w
      refine lv_if_eq (tgt := 90) hx hb dX12_readDoes_59 (by decide) (fun c_92 => ?_) (fun c_92 => ?_)
      · replace c_92 := (iz_eq (Int.le_trans (by decide) z87_a) (Int.le_trans z87_b (by decide))).mp c_92
        refine lv_iconst (v := iI 0) hx hb dX12_readDoes_90 (by decide +kernel) ?_
        exact ret _ (0, z72, z73, z74, fr75, z76, z77, z78, fy79, z80, ff88) _ _ _ _ _ [3, 0, 1, 2, 4] dX12_readDoes_91 (by decide +kernel) ⟨rfl, (show (0 : Int) ≤ 0 from by decide), (show (0 : Int) ≤ 1 from by decide), z72_a, z72_b, z73_a, z73_b, z74_a, z74_b, z76_a, z76_b, z77_a, z77_b, z78_a, z78_b, z80_a, z80_b, ff88_h, (show 0 ≤ (z72 - x4) from by omega), (show 0 ≤ ((((z72 - x4) - z74) + 4) - 0) from by omega), (show kpB 0 x8 z77 from (fun e => absurd e (by decide))), (show ∀ x : Tk × Int × Int, gT x x6 x5 x4 y0 r1 x7 → RS (bkD f0 x2 x3 (sOne (fun _ => f1 0) h0) (x, x17)) 0 z77 z78 (fun y => gT y z74 z73 z72 fy79 fr75 z76) x17 from (by intro x g; have k9 := pq91 x0 (by omega); rw [upz_s] at k9; exact bd_b (wd_1 g (k := 11) pq5 (by omega)) (bnS_0 (bp_0 (pq85 _ (gT_nx g pq70)).1 (by omega) (on' := 0) (G := fun _ => True)) rfl)))⟩ w (by decide) rfl
      · replace c_92 : ¬ z87 = 0 := fun h => c_92 ((iz_eq (Int.le_trans (by decide) z87_a) (Int.le_trans z87_b (by decide))).mpr h)
        refine lv_aload_n hx hb dX12_readDoes_62 rfl (lv_at hl 0 rfl) ?_
        refine r_get (v := .ref a20) M w 3 41 clX12 rfl (by decide) G1504 rfl rfl dX12_readDoes_63 ?_
        refine lv_iload_n hx hb dX12_readDoes_66 rfl (lv_at hl 1 rfl) ?_
        refine r_iald (v := iI (ff88 x0)) M w 4 rfl (iI_in (by omega) (by omega) (by decide)) (cI_at (by omega) (by omega)) dX12_readDoes_67 ?_
        have hh93 : (-2147483648) ≤ (ff88 x0) ∧ (ff88 x0) ≤ 2147483647 := ff88_h.1 x0
        refine lv_iconst (v := iI 1) hx hb dX12_readDoes_68 (by decide +kernel) ?_
        refine lv_icmp_eq (tgt := 86) hx hb dX12_readDoes_69 (by decide) (fun c_94 => ?_) (fun c_94 => ?_)
        · replace c_94 := (iI_eq (by omega) (by omega) (by decide) (by decide)).mp c_94
          refine lv_iconst (v := iI 1) hx hb dX12_readDoes_86 (by decide +kernel) ?_
          refine lv_goto (tgt := 91) hx hb dX12_readDoes_87 (by decide) ?_
          exact ret _ (1, z72, z73, z74, fr75, z76, z77, z78, fy79, z80, ff88) _ _ _ _ _ [3, 0, 1, 2, 4] dX12_readDoes_91 (by decide +kernel) ⟨rfl, (show (0 : Int) ≤ 1 from by decide), (show (1 : Int) ≤ 1 from by decide), z72_a, z72_b, z73_a, z73_b, z74_a, z74_b, z76_a, z76_b, z77_a, z77_b, z78_a, z78_b, z80_a, z80_b, ff88_h, (show 0 ≤ (z72 - x4) from by omega), (show 0 ≤ ((((z72 - x4) - z74) + 4) - 1) from by omega), (show kpB 1 x8 z77 from (fun hr => by have y3 := pq86 (by omega); omega)), (show ∀ x : Tk × Int × Int, gT x x6 x5 x4 y0 r1 x7 → RS (bkD f0 x2 x3 (sOne (fun _ => f1 0) h0) (x, x17)) 1 z77 z78 (fun y => gT y z74 z73 z72 fy79 fr75 z76) x17 from (by have k9 := pq91 x0 (by omega); rw [upz_s] at k9; exfalso; omega))⟩ w (by decide) rfl
        · replace c_94 : ¬ (ff88 x0) = 1 := fun h => c_94 ((iI_eq (by omega) (by omega) (by decide) (by decide)).mpr h)
          refine lv_aload_n hx hb dX12_readDoes_72 rfl (lv_at hl 0 rfl) ?_
          refine lv_iload_n hx hb dX12_readDoes_73 rfl (lv_at hl 1 rfl) ?_
          refine lv_iconst (v := iI 3) hx hb dX12_readDoes_74 (by decide +kernel) ?_
          refine r_iadd (v := iI (x0 + 3)) M (iI_add _ _) dX12_readDoes_75 ?_
          refine lv_aload_n hx hb dX12_readDoes_76 rfl (lv_at hl 0 rfl) ?_
          refine k_I (ce := 0) (sl := 0) (rest := [.int (iI (x0 + 3)), .ref a0]) (wr := [(a20, .inl (T 0, 160, .inl (cI ff88)))]) (r_V (f := 3) [3, 0, 1, 2] M w V_HookedCityModel_370 G1989 G104 (c131_X12_readPersonName l D T _ a0 r0 a1 x1 x2 x3 z72 z73 z74 fr75 z76 z77 z78 fy79 z80 a2 a3 a4 a5 a6 a7 a8 a9 a10 a11 x11 a12 a13 a14 a15 x12 r2 r3 a16 x13 x14 a17 a18 x15 a19 x16 r4 a20 a21 x17 r5 a22 x18 x19 x20 x21 f0 f1 h0 x1_a x1_b x2_a x2_b x3_a x3_b z72_a z72_b z73_a z73_b z74_a z74_b z76_a z76_b z77_a z77_b z78_a z78_b z80_a z80_b x11_a x11_b x12_a x12_b x13_a x13_b x14_a x14_b x15_a x15_b x16_a x16_b x17_a x17_b x18_a x18_b x19_a x19_b x20_a x20_b x21_a x21_b f0_h f1_h) 3 clX12 rfl rfl (by decide) rfl hl.1 rfl (Nat.le_of_ble_eq_true rfl) dX12_readDoes_77 (by decide) (by decide) (by decide) (by decide)) w [3, 0, 1, 2] [4] rfl rfl (by decide) (by decide) rfl rfl (fun v u H locs hp w => ?_)
          obtain ⟨z95, z96, z97, z98, fr99, z100, z101, z102, fy103, z104⟩ := u
          have hv : iI z95 = v := hp.1
          subst hv
          have z95_a : 0 ≤ z95 := hp.2.1
          have z95_b : z95 ≤ 1 := hp.2.2.1
          have z96_a : 0 ≤ z96 := hp.2.2.2.1
          have z96_b : z96 ≤ 940 := hp.2.2.2.2.1
          have z97_a : 0 ≤ z97 := hp.2.2.2.2.2.1
          have z97_b : z97 ≤ 940 := hp.2.2.2.2.2.2.1
          have z98_a : 0 ≤ z98 := hp.2.2.2.2.2.2.2.1
          have z98_b : z98 ≤ 4 := hp.2.2.2.2.2.2.2.2.1
          have z100_a : (-2147483648) ≤ z100 := hp.2.2.2.2.2.2.2.2.2.1
          have z100_b : z100 ≤ 2147483647 := hp.2.2.2.2.2.2.2.2.2.2.1
          have z101_a : (-2147483648) ≤ z101 := hp.2.2.2.2.2.2.2.2.2.2.2.1
          have z101_b : z101 ≤ 2147483647 := hp.2.2.2.2.2.2.2.2.2.2.2.2.1
          have z102_a : 0 ≤ z102 := hp.2.2.2.2.2.2.2.2.2.2.2.2.2.1
          have z102_b : z102 ≤ 940 := hp.2.2.2.2.2.2.2.2.2.2.2.2.2.2.1
          have z104_a : (-2147483648) ≤ z104 := hp.2.2.2.2.2.2.2.2.2.2.2.2.2.2.2.1
          have z104_b : z104 ≤ 2147483647 := hp.2.2.2.2.2.2.2.2.2.2.2.2.2.2.2.2.1
          have ee105 : 0 ≤ (z96 - z72) := hp.2.2.2.2.2.2.2.2.2.2.2.2.2.2.2.2.2.1
          have ee106 : 0 ≤ ((((z96 - z72) - z98) + 4) - z95) := hp.2.2.2.2.2.2.2.2.2.2.2.2.2.2.2.2.2.2.1
          have ee107 : 0 ≤ ((z104 + 4294967296) - (z95 * 4294967296)) := hp.2.2.2.2.2.2.2.2.2.2.2.2.2.2.2.2.2.2.2.1
          have ee108 : 0 ≤ (((8 - z104) + 4294967296) - (z95 * 4294967296)) := hp.2.2.2.2.2.2.2.2.2.2.2.2.2.2.2.2.2.2.2.2.1
          have pq109 : ∀ x : Tk × Int × Int, gT x z74 z73 z72 fy79 fr75 z76 → RV ((sOne (fun _ => f1 0) h0) x) z95 z101 z102 z104 ∧ (z95 = 1 → gT (nx f0 x2 x3 x) z98 z97 z96 fy103 fr99 z100) := hp.2.2.2.2.2.2.2.2.2.2.2.2.2.2.2.2.2.2.2.2.2.1
          have pq110 : kpB z95 z77 z101 := hp.2.2.2.2.2.2.2.2.2.2.2.2.2.2.2.2.2.2.2.2.2.2
          have w : WD D A s.heap [(a20, .inl (T 0, 160, .inl (cI ff88))), (a0, .inr (11, [.int r0, .ref a1, .int (iI x1), .int (iI x2), .int (iI x3), .int (iI z96), .int (iI z97), .int (iI z98), .int fr99, .int (iI z100), .int (iI z101), .int (iI z102), .long fy103, .int (iI z104), .ref a2, .ref a3, .ref a4, .ref a5, .ref a6, .ref a7, .ref a8, .ref a9, .ref a10, .ref a11, .int (iI x11), .ref a12, .ref a13, .ref a14, .ref a15, .int (iI x12), .int r2, .int r3, .ref a16, .int (iI x13), .int (iI x14), .ref a17, .ref a18, .int (iI x15), .ref a19, .int (iI x16), .int r4, .ref a20, .ref a21, .int (iI x17), .int r5, .ref a22, .int (iI x18), .int (iI x19), .int (iI x20), .int (iI x21)])), (a1, .inl (T 0, 940, .inl (cI f0))), (a2, .inl (T 0, 329, .inl (cI f1))), (a7, .inl (T 1, 12, .inr (.inl h0)))] H locs := w
          refine k_I (ce := 0) (sl := 0) (rest := []) (wr := [(a1, .inl (T 0, 940, .inl (cI f0))), (a2, .inl (T 0, 329, .inl (cI f1))), (a7, .inl (T 1, 12, .inr (.inl h0)))]) (r_V (f := 0) [1, 0] M w V_HookedCityModel_373 G1993 G105 (c132_X12_keep l D T _ a0 (x0 + 3) z95 r0 a1 x1 x2 x3 z96 z97 z98 fr99 z100 z101 z102 fy103 z104 a2 a3 a4 a5 a6 a7 a8 a9 a10 a11 x11 a12 a13 a14 a15 x12 r2 r3 a16 x13 x14 a17 a18 x15 a19 x16 r4 a20 a21 x17 r5 a22 x18 x19 x20 x21 ff88 (by omega) (by omega) z95_a z95_b x1_a x1_b x2_a x2_b x3_a x3_b z96_a z96_b z97_a z97_b z98_a z98_b z100_a z100_b z101_a z101_b z102_a z102_b z104_a z104_b x11_a x11_b x12_a x12_b x13_a x13_b x14_a x14_b x15_a x15_b x16_a x16_b x17_a x17_b x18_a x18_b x19_a x19_b x20_a x20_b x21_a x21_b ff88_h (fun h => ln_q ff88_h (n := x17) (by omega) (by omega) (by omega) (by omega) (by omega))) 1 clX12 rfl rfl (by decide) rfl hl.1 rfl (Nat.le_of_ble_eq_true rfl) dX12_readDoes_80 (by decide) (by decide) (by decide) (by decide)) w [1, 0] [2, 3, 4] rfl rfl (by decide) (by decide) rfl rfl (fun v u H locs hp w => ?_)
          obtain ⟨z111, ff112⟩ := u
          have hv : iI z111 = v := hp.1
          subst hv
          have z111_a : 0 ≤ z111 := hp.2.1
          have z111_b : z111 ≤ 1 := hp.2.2.1
          have ff112_h : lnI ff112 := hp.2.2.2.1
          have ee113 : 0 ≤ (z95 - z111) := hp.2.2.2.2.1
          have ee114 : 0 ≤ (z111 - z95) := hp.2.2.2.2.2.1
          have pq115 : ∀ j : Int, ¬ j = (x0 + 3) → ff112 j = ff88 j := hp.2.2.2.2.2.2
          have w : WD D A s.heap [(a1, .inl (T 0, 940, .inl (cI f0))), (a2, .inl (T 0, 329, .inl (cI f1))), (a7, .inl (T 1, 12, .inr (.inl h0))), (a0, .inr (11, [.int r0, .ref a1, .int (iI x1), .int (iI x2), .int (iI x3), .int (iI z96), .int (iI z97), .int (iI z98), .int fr99, .int (iI z100), .int (iI z101), .int (iI z102), .long fy103, .int (iI z104), .ref a2, .ref a3, .ref a4, .ref a5, .ref a6, .ref a7, .ref a8, .ref a9, .ref a10, .ref a11, .int (iI x11), .ref a12, .ref a13, .ref a14, .ref a15, .int (iI x12), .int r2, .int r3, .ref a16, .int (iI x13), .int (iI x14), .ref a17, .ref a18, .int (iI x15), .ref a19, .int (iI x16), .int r4, .ref a20, .ref a21, .int (iI x17), .int r5, .ref a22, .int (iI x18), .int (iI x19), .int (iI x20), .int (iI x21)])), (a20, .inl (T 0, 160, .inl (cI ff112)))] H locs := w
          refine lv_if_eq (tgt := 90) hx hb dX12_readDoes_83 (by decide) (fun c_116 => ?_) (fun c_116 => ?_)
          · replace c_116 := (iz_eq (Int.le_trans (by decide) z111_a) (Int.le_trans z111_b (by decide))).mp c_116
            refine lv_iconst (v := iI 0) hx hb dX12_readDoes_90 (by decide +kernel) ?_
            exact ret _ (0, z96, z97, z98, fr99, z100, z101, z102, fy103, z104, ff112) _ _ _ _ _ [3, 0, 1, 2, 4] dX12_readDoes_91 (by decide +kernel) ⟨rfl, (show (0 : Int) ≤ 0 from by decide), (show (0 : Int) ≤ 1 from by decide), z96_a, z96_b, z97_a, z97_b, z98_a, z98_b, z100_a, z100_b, z101_a, z101_b, z102_a, z102_b, z104_a, z104_b, ff112_h, (show 0 ≤ (z96 - x4) from by omega), (show 0 ≤ ((((z96 - x4) - z98) + 4) - 0) from by omega), (show kpB 0 x8 z101 from (fun e => absurd e (by decide))), (show ∀ x : Tk × Int × Int, gT x x6 x5 x4 y0 r1 x7 → RS (bkD f0 x2 x3 (sOne (fun _ => f1 0) h0) (x, x17)) 0 z101 z102 (fun y => gT y z98 z97 z96 fy103 fr99 z100) x17 from (by intro x g; have k9 := pq91 x0 (by omega); rw [upz_s] at k9; exact bd_b (wd_1 g (k := 11) pq5 (by omega)) (bnS_1 (bp_1 (pq85 _ (gT_nx g pq70)).1 (by omega) (G := fun y => y = nx f0 x2 x3 _) rfl (fa' := 0) (pl' := 0)) rfl (fun y hy => by rw [hy]; exact bp_0 (pq109 _ ((pq85 _ (gT_nx g pq70)).2 (by omega))).1 (by omega)))))⟩ w (by decide) rfl
          · replace c_116 : ¬ z111 = 0 := fun h => c_116 ((iz_eq (Int.le_trans (by decide) z111_a) (Int.le_trans z111_b (by decide))).mpr h)
            refine lv_iconst (v := iI 1) hx hb dX12_readDoes_86 (by decide +kernel) ?_
            refine lv_goto (tgt := 91) hx hb dX12_readDoes_87 (by decide) ?_
            exact ret _ (1, z96, z97, z98, fr99, z100, z101, z102, fy103, z104, ff112) _ _ _ _ _ [3, 0, 1, 2, 4] dX12_readDoes_91 (by decide +kernel) ⟨rfl, (show (0 : Int) ≤ 1 from by decide), (show (1 : Int) ≤ 1 from by decide), z96_a, z96_b, z97_a, z97_b, z98_a, z98_b, z100_a, z100_b, z101_a, z101_b, z102_a, z102_b, z104_a, z104_b, ff112_h, (show 0 ≤ (z96 - x4) from by omega), (show 0 ≤ ((((z96 - x4) - z98) + 4) - 1) from by omega), (show kpB 1 x8 z101 from (fun hr => by have y3 := pq86 (by omega); have y5 := pq110 (by omega); omega)), (show ∀ x : Tk × Int × Int, gT x x6 x5 x4 y0 r1 x7 → RS (bkD f0 x2 x3 (sOne (fun _ => f1 0) h0) (x, x17)) 1 z101 z102 (fun y => gT y z98 z97 z96 fy103 fr99 z100) x17 from (by intro x g; have k9 := pq91 x0 (by omega); rw [upz_s] at k9; exact bd_b (wd_1 g (k := 11) pq5 (by omega)) (bnS_1 (bp_1 (pq85 _ (gT_nx g pq70)).1 (by omega) (G := fun y => y = nx f0 x2 x3 _) rfl (fa' := 0) (pl' := 0)) rfl (fun y hy => by rw [hy]; exact bp_1 (pq109 _ ((pq85 _ (gT_nx g pq70)).2 (by omega))).1 (by omega) ((pq109 _ ((pq85 _ (gT_nx g pq70)).2 (by omega))).2 (by omega))))))⟩ w (by decide) rfl
  · replace c_3 := (iz_eq (Int.le_trans (by decide) z1_a) (Int.le_trans z1_b (by decide))).mp c_3
    refine lv_aload_n hx hb dX12_readDoes_9 rfl (lv_at hl 0 rfl) ?_
    refine lv_bipush (v := iI 12) hx hb dX12_readDoes_10 (by decide +kernel) ?_
    refine k_I (ce := 0) (sl := 0) (rest := []) (wr := [(a1, .inl (T 0, 940, .inl (cI f0))), (a2, .inl (T 0, 329, .inl (cI f1))), (a7, .inl (T 1, 12, .inr (.inl h0))), (a20, .inl (T 0, 160, .inl (cI f2)))]) (r_V (f := 2) [4] M w V_HookedCityModel_183 G1649 G52 (c42_X12_isWord l D T _ a0 12 r0 a1 x1 x2 x3 x4 x5 x6 r1 x7 x8 x9 y0 x10 a2 a3 a4 a5 a6 a7 a8 a9 a10 a11 x11 a12 a13 a14 a15 x12 r2 r3 a16 x13 x14 a17 a18 x15 a19 x16 r4 a20 a21 x17 r5 a22 x18 x19 x20 x21 (by decide) (by decide) x1_a x1_b x2_a x2_b x3_a x3_b x4_a x4_b x5_a x5_b x6_a x6_b x7_a x7_b x8_a x8_b x9_a x9_b x10_a x10_b x11_a x11_b x12_a x12_b x13_a x13_b x14_a x14_b x15_a x15_b x16_a x16_b x17_a x17_b x18_a x18_b x19_a x19_b x20_a x20_b x21_a x21_b) 4 clX12 rfl rfl (by decide) rfl hl.1 rfl (Nat.le_of_ble_eq_true rfl) dX12_readDoes_12 (by decide) (by decide) (by decide) (by decide)) w [4] [0, 1, 2, 3] rfl rfl (by decide) (by decide) rfl rfl (fun v z117 H locs hp w => ?_)
    have hv : iI z117 = v := hp.1
    subst hv
    have z117_a : 0 ≤ z117 := hp.2.1
    have z117_b : z117 ≤ 1 := hp.2.2.1
    have pq118 : wdQ z117 x6 y0 (wrdZ 12) := hp.2.2.2
    have w : WD D A s.heap [(a1, .inl (T 0, 940, .inl (cI f0))), (a2, .inl (T 0, 329, .inl (cI f1))), (a7, .inl (T 1, 12, .inr (.inl h0))), (a20, .inl (T 0, 160, .inl (cI f2))), (a0, .inr (11, [.int r0, .ref a1, .int (iI x1), .int (iI x2), .int (iI x3), .int (iI x4), .int (iI x5), .int (iI x6), .int r1, .int (iI x7), .int (iI x8), .int (iI x9), .long y0, .int (iI x10), .ref a2, .ref a3, .ref a4, .ref a5, .ref a6, .ref a7, .ref a8, .ref a9, .ref a10, .ref a11, .int (iI x11), .ref a12, .ref a13, .ref a14, .ref a15, .int (iI x12), .int r2, .int r3, .ref a16, .int (iI x13), .int (iI x14), .ref a17, .ref a18, .int (iI x15), .ref a19, .int (iI x16), .int r4, .ref a20, .ref a21, .int (iI x17), .int r5, .ref a22, .int (iI x18), .int (iI x19), .int (iI x20), .int (iI x21)]))] H locs := w
    refine lv_if_ne (tgt := 24) hx hb dX12_readDoes_15 (by decide) (fun c_119 => ?_) (fun c_119 => ?_)
    · replace c_119 : ¬ z117 = 0 := fun h => c_119 ((iz_eq (Int.le_trans (by decide) z117_a) (Int.le_trans z117_b (by decide))).mpr h)
      refine lv_aload_n hx hb dX12_readDoes_24 rfl (lv_at hl 0 rfl) ?_
      refine r_get (v := .ref a20) M w 4 41 clX12 rfl (by decide) G1504 rfl rfl dX12_readDoes_25 ?_
      refine lv_iload_n hx hb dX12_readDoes_28 rfl (lv_at hl 1 rfl) ?_
      refine lv_aload_n hx hb dX12_readDoes_29 rfl (lv_at hl 0 rfl) ?_
      refine lv_bipush (v := iI 11) hx hb dX12_readDoes_30 (by decide +kernel) ?_
      refine k_I (ce := 0) (sl := 0) (rest := [.int (iI x0), .ref a20]) (wr := [(a1, .inl (T 0, 940, .inl (cI f0))), (a2, .inl (T 0, 329, .inl (cI f1))), (a7, .inl (T 1, 12, .inr (.inl h0))), (a20, .inl (T 0, 160, .inl (cI f2)))]) (r_V (f := 2) [4] M w V_HookedCityModel_183 G1649 G52 (c42_X12_isWord l D T _ a0 11 r0 a1 x1 x2 x3 x4 x5 x6 r1 x7 x8 x9 y0 x10 a2 a3 a4 a5 a6 a7 a8 a9 a10 a11 x11 a12 a13 a14 a15 x12 r2 r3 a16 x13 x14 a17 a18 x15 a19 x16 r4 a20 a21 x17 r5 a22 x18 x19 x20 x21 (by decide) (by decide) x1_a x1_b x2_a x2_b x3_a x3_b x4_a x4_b x5_a x5_b x6_a x6_b x7_a x7_b x8_a x8_b x9_a x9_b x10_a x10_b x11_a x11_b x12_a x12_b x13_a x13_b x14_a x14_b x15_a x15_b x16_a x16_b x17_a x17_b x18_a x18_b x19_a x19_b x20_a x20_b x21_a x21_b) 4 clX12 rfl rfl (by decide) rfl hl.1 rfl (Nat.le_of_ble_eq_true rfl) dX12_readDoes_32 (by decide) (by decide) (by decide) (by decide)) w [4] [0, 1, 2, 3] rfl rfl (by decide) (by decide) rfl rfl (fun v z120 H locs hp w => ?_)
      have hv : iI z120 = v := hp.1
      subst hv
      have z120_a : 0 ≤ z120 := hp.2.1
      have z120_b : z120 ≤ 1 := hp.2.2.1
      have pq121 : wdQ z120 x6 y0 (wrdZ 11) := hp.2.2.2
      have w : WD D A s.heap [(a1, .inl (T 0, 940, .inl (cI f0))), (a2, .inl (T 0, 329, .inl (cI f1))), (a7, .inl (T 1, 12, .inr (.inl h0))), (a20, .inl (T 0, 160, .inl (cI f2))), (a0, .inr (11, [.int r0, .ref a1, .int (iI x1), .int (iI x2), .int (iI x3), .int (iI x4), .int (iI x5), .int (iI x6), .int r1, .int (iI x7), .int (iI x8), .int (iI x9), .long y0, .int (iI x10), .ref a2, .ref a3, .ref a4, .ref a5, .ref a6, .ref a7, .ref a8, .ref a9, .ref a10, .ref a11, .int (iI x11), .ref a12, .ref a13, .ref a14, .ref a15, .int (iI x12), .int r2, .int r3, .ref a16, .int (iI x13), .int (iI x14), .ref a17, .ref a18, .int (iI x15), .ref a19, .int (iI x16), .int r4, .ref a20, .ref a21, .int (iI x17), .int r5, .ref a22, .int (iI x18), .int (iI x19), .int (iI x20), .int (iI x21)]))] H locs := w
      refine lv_if_eq (tgt := 42) hx hb dX12_readDoes_35 (by decide) (fun c_122 => ?_) (fun c_122 => ?_)
      · replace c_122 := (iz_eq (Int.le_trans (by decide) z120_a) (Int.le_trans z120_b (by decide))).mp c_122
        refine lv_iconst (v := iI 1) hx hb dX12_readDoes_42 (by decide +kernel) ?_
        refine r_iast (ws' := [(a1, .inl (T 0, 940, .inl (cI f0))), (a2, .inl (T 0, 329, .inl (cI f1))), (a7, .inl (T 1, 12, .inr (.inl h0))), (a20, .inl (T 0, 160, .inl (cI (upz f2 x0 1)))), (a0, .inr (11, [.int r0, .ref a1, .int (iI x1), .int (iI x2), .int (iI x3), .int (iI x4), .int (iI x5), .int (iI x6), .int r1, .int (iI x7), .int (iI x8), .int (iI x9), .long y0, .int (iI x10), .ref a2, .ref a3, .ref a4, .ref a5, .ref a6, .ref a7, .ref a8, .ref a9, .ref a10, .ref a11, .int (iI x11), .ref a12, .ref a13, .ref a14, .ref a15, .int (iI x12), .int r2, .int r3, .ref a16, .int (iI x13), .int (iI x14), .ref a17, .ref a18, .int (iI x15), .ref a19, .int (iI x16), .int r4, .ref a20, .ref a21, .int (iI x17), .int r5, .ref a22, .int (iI x18), .int (iI x19), .int (iI x20), .int (iI x21)]))]) M w 3 rfl (iI_in (by omega) (by omega) (by decide)) (by rw [cI_up (by omega) (by omega)]; rfl) dX12_readDoes_43 (fun H locs w => ?_)
        refine lv_aload_n hx hb dX12_readDoes_44 rfl (lv_at hl 0 rfl) ?_
        refine k_V (ce := 0) (sl := 0) (rest := []) (wr := [(a2, .inl (T 0, 329, .inl (cI f1))), (a7, .inl (T 1, 12, .inr (.inl h0))), (a20, .inl (T 0, 160, .inl (cI (upz f2 x0 1))))]) (r_V (f := 1) [4, 0] M w V_HookedCityModel_82 G1629 G49 (c12_X12_go l D T _ a0 r0 a1 x1 x2 x3 x4 x5 x6 r1 x7 x8 x9 y0 x10 a2 a3 a4 a5 a6 a7 a8 a9 a10 a11 x11 a12 a13 a14 a15 x12 r2 r3 a16 x13 x14 a17 a18 x15 a19 x16 r4 a20 a21 x17 r5 a22 x18 x19 x20 x21 f0 x1_a x1_b x2_a x2_b x3_a x3_b x4_a x4_b x5_a x5_b x6_a x6_b x7_a x7_b x8_a x8_b x9_a x9_b x10_a x10_b x11_a x11_b x12_a x12_b x13_a x13_b x14_a x14_b x15_a x15_b x16_a x16_b x17_a x17_b x18_a x18_b x19_a x19_b x20_a x20_b x21_a x21_b f0_h) 4 clX12 rfl rfl (by decide) rfl hl.1 rfl (Nat.le_of_ble_eq_true rfl) dX12_readDoes_45 (by decide) (by decide) (by decide) (by decide)) w [4, 0] [1, 2, 3] rfl rfl (by decide) (by decide) rfl rfl (fun u H locs hp w => ?_)
        obtain ⟨z123, z124, z125, fr126, z127, fy128⟩ := u
        have z123_a : 0 ≤ z123 := hp.1
        have z123_b : z123 ≤ 940 := hp.2.1
        have z124_a : 0 ≤ z124 := hp.2.2.1
        have z124_b : z124 ≤ 940 := hp.2.2.2.1
        have z125_a : 0 ≤ z125 := hp.2.2.2.2.1
        have z125_b : z125 ≤ 4 := hp.2.2.2.2.2.1
        have z127_a : (-2147483648) ≤ z127 := hp.2.2.2.2.2.2.1
        have z127_b : z127 ≤ 2147483647 := hp.2.2.2.2.2.2.2.1
        have ee129 : 0 ≤ (z123 - x4) := hp.2.2.2.2.2.2.2.2.1
        have ee130 : 0 ≤ (((z123 - x4) - z125) + 3) := hp.2.2.2.2.2.2.2.2.2.1
        have pq131 : gT (tkAt f0 x2 x3 x4) z125 z124 z123 fy128 fr126 z127 := hp.2.2.2.2.2.2.2.2.2.2
        have w : WD D A s.heap [(a2, .inl (T 0, 329, .inl (cI f1))), (a7, .inl (T 1, 12, .inr (.inl h0))), (a20, .inl (T 0, 160, .inl (cI (upz f2 x0 1)))), (a0, .inr (11, [.int r0, .ref a1, .int (iI x1), .int (iI x2), .int (iI x3), .int (iI z123), .int (iI z124), .int (iI z125), .int fr126, .int (iI z127), .int (iI x8), .int (iI x9), .long fy128, .int (iI x10), .ref a2, .ref a3, .ref a4, .ref a5, .ref a6, .ref a7, .ref a8, .ref a9, .ref a10, .ref a11, .int (iI x11), .ref a12, .ref a13, .ref a14, .ref a15, .int (iI x12), .int r2, .int r3, .ref a16, .int (iI x13), .int (iI x14), .ref a17, .ref a18, .int (iI x15), .ref a19, .int (iI x16), .int r4, .ref a20, .ref a21, .int (iI x17), .int r5, .ref a22, .int (iI x18), .int (iI x19), .int (iI x20), .int (iI x21)])), (a1, .inl (T 0, 940, .inl (cI f0)))] H locs := w
        refine lv_aload_n hx hb dX12_readDoes_48 rfl (lv_at hl 0 rfl) ?_
        refine lv_iload_n hx hb dX12_readDoes_49 rfl (lv_at hl 1 rfl) ?_
        refine lv_iconst (v := iI 2) hx hb dX12_readDoes_50 (by decide +kernel) ?_
        refine r_iadd (v := iI (x0 + 2)) M (iI_add _ _) dX12_readDoes_51 ?_
        refine lv_aload_n hx hb dX12_readDoes_52 rfl (lv_at hl 0 rfl) ?_
        refine k_I (ce := 0) (sl := 0) (rest := [.int (iI (x0 + 2)), .ref a0]) (wr := [(a20, .inl (T 0, 160, .inl (cI (upz f2 x0 1))))]) (r_V (f := 3) [3, 4, 0, 1] M w V_HookedCityModel_370 G1989 G104 (c131_X12_readPersonName l D T _ a0 r0 a1 x1 x2 x3 z123 z124 z125 fr126 z127 x8 x9 fy128 x10 a2 a3 a4 a5 a6 a7 a8 a9 a10 a11 x11 a12 a13 a14 a15 x12 r2 r3 a16 x13 x14 a17 a18 x15 a19 x16 r4 a20 a21 x17 r5 a22 x18 x19 x20 x21 f0 f1 h0 x1_a x1_b x2_a x2_b x3_a x3_b z123_a z123_b z124_a z124_b z125_a z125_b z127_a z127_b x8_a x8_b x9_a x9_b x10_a x10_b x11_a x11_b x12_a x12_b x13_a x13_b x14_a x14_b x15_a x15_b x16_a x16_b x17_a x17_b x18_a x18_b x19_a x19_b x20_a x20_b x21_a x21_b f0_h f1_h) 3 clX12 rfl rfl (by decide) rfl hl.1 rfl (Nat.le_of_ble_eq_true rfl) dX12_readDoes_53 (by decide) (by decide) (by decide) (by decide)) w [3, 4, 0, 1] [2] rfl rfl (by decide) (by decide) rfl rfl (fun v u H locs hp w => ?_)
        obtain ⟨z132, z133, z134, z135, fr136, z137, z138, z139, fy140, z141⟩ := u
        have hv : iI z132 = v := hp.1
        subst hv
        have z132_a : 0 ≤ z132 := hp.2.1
        have z132_b : z132 ≤ 1 := hp.2.2.1
        have z133_a : 0 ≤ z133 := hp.2.2.2.1
        have z133_b : z133 ≤ 940 := hp.2.2.2.2.1
        have z134_a : 0 ≤ z134 := hp.2.2.2.2.2.1
        have z134_b : z134 ≤ 940 := hp.2.2.2.2.2.2.1
        have z135_a : 0 ≤ z135 := hp.2.2.2.2.2.2.2.1
        have z135_b : z135 ≤ 4 := hp.2.2.2.2.2.2.2.2.1
        have z137_a : (-2147483648) ≤ z137 := hp.2.2.2.2.2.2.2.2.2.1
        have z137_b : z137 ≤ 2147483647 := hp.2.2.2.2.2.2.2.2.2.2.1
        have z138_a : (-2147483648) ≤ z138 := hp.2.2.2.2.2.2.2.2.2.2.2.1
        have z138_b : z138 ≤ 2147483647 := hp.2.2.2.2.2.2.2.2.2.2.2.2.1
        have z139_a : 0 ≤ z139 := hp.2.2.2.2.2.2.2.2.2.2.2.2.2.1
        have z139_b : z139 ≤ 940 := hp.2.2.2.2.2.2.2.2.2.2.2.2.2.2.1
        have z141_a : (-2147483648) ≤ z141 := hp.2.2.2.2.2.2.2.2.2.2.2.2.2.2.2.1
        have z141_b : z141 ≤ 2147483647 := hp.2.2.2.2.2.2.2.2.2.2.2.2.2.2.2.2.1
        have ee142 : 0 ≤ (z133 - z123) := hp.2.2.2.2.2.2.2.2.2.2.2.2.2.2.2.2.2.1
        have ee143 : 0 ≤ ((((z133 - z123) - z135) + 4) - z132) := hp.2.2.2.2.2.2.2.2.2.2.2.2.2.2.2.2.2.2.1
        have ee144 : 0 ≤ ((z141 + 4294967296) - (z132 * 4294967296)) := hp.2.2.2.2.2.2.2.2.2.2.2.2.2.2.2.2.2.2.2.1
        have ee145 : 0 ≤ (((8 - z141) + 4294967296) - (z132 * 4294967296)) := hp.2.2.2.2.2.2.2.2.2.2.2.2.2.2.2.2.2.2.2.2.1
        have pq146 : ∀ x : Tk × Int × Int, gT x z125 z124 z123 fy128 fr126 z127 → RV ((sOne (fun _ => f1 0) h0) x) z132 z138 z139 z141 ∧ (z132 = 1 → gT (nx f0 x2 x3 x) z135 z134 z133 fy140 fr136 z137) := hp.2.2.2.2.2.2.2.2.2.2.2.2.2.2.2.2.2.2.2.2.2.1
        have pq147 : kpB z132 x8 z138 := hp.2.2.2.2.2.2.2.2.2.2.2.2.2.2.2.2.2.2.2.2.2.2
        have w : WD D A s.heap [(a20, .inl (T 0, 160, .inl (cI (upz f2 x0 1)))), (a0, .inr (11, [.int r0, .ref a1, .int (iI x1), .int (iI x2), .int (iI x3), .int (iI z133), .int (iI z134), .int (iI z135), .int fr136, .int (iI z137), .int (iI z138), .int (iI z139), .long fy140, .int (iI z141), .ref a2, .ref a3, .ref a4, .ref a5, .ref a6, .ref a7, .ref a8, .ref a9, .ref a10, .ref a11, .int (iI x11), .ref a12, .ref a13, .ref a14, .ref a15, .int (iI x12), .int r2, .int r3, .ref a16, .int (iI x13), .int (iI x14), .ref a17, .ref a18, .int (iI x15), .ref a19, .int (iI x16), .int r4, .ref a20, .ref a21, .int (iI x17), .int r5, .ref a22, .int (iI x18), .int (iI x19), .int (iI x20), .int (iI x21)])), (a1, .inl (T 0, 940, .inl (cI f0))), (a2, .inl (T 0, 329, .inl (cI f1))), (a7, .inl (T 1, 12, .inr (.inl h0)))] H locs := w
        refine k_I (ce := 0) (sl := 0) (rest := []) (wr := [(a1, .inl (T 0, 940, .inl (cI f0))), (a2, .inl (T 0, 329, .inl (cI f1))), (a7, .inl (T 1, 12, .inr (.inl h0)))]) (r_V (f := 0) [1, 0] M w V_HookedCityModel_373 G1993 G105 (c132_X12_keep l D T _ a0 (x0 + 2) z132 r0 a1 x1 x2 x3 z133 z134 z135 fr136 z137 z138 z139 fy140 z141 a2 a3 a4 a5 a6 a7 a8 a9 a10 a11 x11 a12 a13 a14 a15 x12 r2 r3 a16 x13 x14 a17 a18 x15 a19 x16 r4 a20 a21 x17 r5 a22 x18 x19 x20 x21 (upz f2 x0 1) (by omega) (by omega) z132_a z132_b x1_a x1_b x2_a x2_b x3_a x3_b z133_a z133_b z134_a z134_b z135_a z135_b z137_a z137_b z138_a z138_b z139_a z139_b z141_a z141_b x11_a x11_b x12_a x12_b x13_a x13_b x14_a x14_b x15_a x15_b x16_a x16_b x17_a x17_b x18_a x18_b x19_a x19_b x20_a x20_b x21_a x21_b (ln_op f2_h (n := x17) (by omega) (by omega) (by omega) (by decide) (by decide) pp_x) (fun h => ln_p (ln_op f2_h (n := x17) (by omega) (by omega) (by omega) (by decide) (by decide) pp_x) (n := x17) (by omega) (by omega) (by omega) (by omega) (by omega))) 1 clX12 rfl rfl (by decide) rfl hl.1 rfl (Nat.le_of_ble_eq_true rfl) dX12_readDoes_56 (by decide) (by decide) (by decide) (by decide)) w [1, 0] [2, 3, 4] rfl rfl (by decide) (by decide) rfl rfl (fun v u H locs hp w => ?_)
        obtain ⟨z148, ff149⟩ := u
        have hv : iI z148 = v := hp.1
        subst hv
        have z148_a : 0 ≤ z148 := hp.2.1
        have z148_b : z148 ≤ 1 := hp.2.2.1
        have ff149_h : lnI ff149 := hp.2.2.2.1
        have ee150 : 0 ≤ (z132 - z148) := hp.2.2.2.2.1
        have ee151 : 0 ≤ (z148 - z132) := hp.2.2.2.2.2.1
        have pq152 : ∀ j : Int, ¬ j = (x0 + 2) → ff149 j = (upz f2 x0 1) j := hp.2.2.2.2.2.2
        have w : WD D A s.heap [(a1, .inl (T 0, 940, .inl (cI f0))), (a2, .inl (T 0, 329, .inl (cI f1))), (a7, .inl (T 1, 12, .inr (.inl h0))), (a0, .inr (11, [.int r0, .ref a1, .int (iI x1), .int (iI x2), .int (iI x3), .int (iI z133), .int (iI z134), .int (iI z135), .int fr136, .int (iI z137), .int (iI z138), .int (iI z139), .long fy140, .int (iI z141), .ref a2, .ref a3, .ref a4, .ref a5, .ref a6, .ref a7, .ref a8, .ref a9, .ref a10, .ref a11, .int (iI x11), .ref a12, .ref a13, .ref a14, .ref a15, .int (iI x12), .int r2, .int r3, .ref a16, .int (iI x13), .int (iI x14), .ref a17, .ref a18, .int (iI x15), .ref a19, .int (iI x16), .int r4, .ref a20, .ref a21, .int (iI x17), .int r5, .ref a22, .int (iI x18), .int (iI x19), .int (iI x20), .int (iI x21)])), (a20, .inl (T 0, 160, .inl (cI ff149)))] H locs := w
        refine lv_if_eq (tgt := 90) hx hb dX12_readDoes_59 (by decide) (fun c_153 => ?_) (fun c_153 => ?_)
        · replace c_153 := (iz_eq (Int.le_trans (by decide) z148_a) (Int.le_trans z148_b (by decide))).mp c_153
          refine lv_iconst (v := iI 0) hx hb dX12_readDoes_90 (by decide +kernel) ?_
          exact ret _ (0, z133, z134, z135, fr136, z137, z138, z139, fy140, z141, ff149) _ _ _ _ _ [3, 0, 1, 2, 4] dX12_readDoes_91 (by decide +kernel) ⟨rfl, (show (0 : Int) ≤ 0 from by decide), (show (0 : Int) ≤ 1 from by decide), z133_a, z133_b, z134_a, z134_b, z135_a, z135_b, z137_a, z137_b, z138_a, z138_b, z139_a, z139_b, z141_a, z141_b, ff149_h, (show 0 ≤ (z133 - x4) from by omega), (show 0 ≤ ((((z133 - x4) - z135) + 4) - 0) from by omega), (show kpB 0 x8 z138 from (fun e => absurd e (by decide))), (show ∀ x : Tk × Int × Int, gT x x6 x5 x4 y0 r1 x7 → RS (bkD f0 x2 x3 (sOne (fun _ => f1 0) h0) (x, x17)) 0 z138 z139 (fun y => gT y z135 z134 z133 fy140 fr136 z137) x17 from (by intro x g; have k9 := pq152 x0 (by omega); rw [upz_s] at k9; exact bd_l (wd_0 g (k := 11) pq121 (by omega)) (wd_1 g (k := 12) pq118 (by omega)) (bp_0 (pq146 _ (gT_nx g pq131)).1 (by omega))))⟩ w (by decide) rfl
        · replace c_153 : ¬ z148 = 0 := fun h => c_153 ((iz_eq (Int.le_trans (by decide) z148_a) (Int.le_trans z148_b (by decide))).mpr h)
          refine lv_aload_n hx hb dX12_readDoes_62 rfl (lv_at hl 0 rfl) ?_
          refine r_get (v := .ref a20) M w 3 41 clX12 rfl (by decide) G1504 rfl rfl dX12_readDoes_63 ?_
          refine lv_iload_n hx hb dX12_readDoes_66 rfl (lv_at hl 1 rfl) ?_
          refine r_iald (v := iI (ff149 x0)) M w 4 rfl (iI_in (by omega) (by omega) (by decide)) (cI_at (by omega) (by omega)) dX12_readDoes_67 ?_
          have hh154 : (-2147483648) ≤ (ff149 x0) ∧ (ff149 x0) ≤ 2147483647 := ff149_h.1 x0
          refine lv_iconst (v := iI 1) hx hb dX12_readDoes_68 (by decide +kernel) ?_
          refine lv_icmp_eq (tgt := 86) hx hb dX12_readDoes_69 (by decide) (fun c_155 => ?_) (fun c_155 => ?_)
          · replace c_155 := (iI_eq (by omega) (by omega) (by decide) (by decide)).mp c_155
            refine lv_iconst (v := iI 1) hx hb dX12_readDoes_86 (by decide +kernel) ?_
            refine lv_goto (tgt := 91) hx hb dX12_readDoes_87 (by decide) ?_
            exact ret _ (1, z133, z134, z135, fr136, z137, z138, z139, fy140, z141, ff149) _ _ _ _ _ [3, 0, 1, 2, 4] dX12_readDoes_91 (by decide +kernel) ⟨rfl, (show (0 : Int) ≤ 1 from by decide), (show (1 : Int) ≤ 1 from by decide), z133_a, z133_b, z134_a, z134_b, z135_a, z135_b, z137_a, z137_b, z138_a, z138_b, z139_a, z139_b, z141_a, z141_b, ff149_h, (show 0 ≤ (z133 - x4) from by omega), (show 0 ≤ ((((z133 - x4) - z135) + 4) - 1) from by omega), (show kpB 1 x8 z138 from (fun hr => by have y4 := pq147 (by omega); omega)), (show ∀ x : Tk × Int × Int, gT x x6 x5 x4 y0 r1 x7 → RS (bkD f0 x2 x3 (sOne (fun _ => f1 0) h0) (x, x17)) 1 z138 z139 (fun y => gT y z135 z134 z133 fy140 fr136 z137) x17 from (by intro x g; have k9 := pq152 x0 (by omega); rw [upz_s] at k9; exact bd_l (wd_0 g (k := 11) pq121 (by omega)) (wd_1 g (k := 12) pq118 (by omega)) (bp_1 (pq146 _ (gT_nx g pq131)).1 (by omega) ((pq146 _ (gT_nx g pq131)).2 (by omega)))))⟩ w (by decide) rfl
          · replace c_155 : ¬ (ff149 x0) = 1 := fun h => c_155 ((iI_eq (by omega) (by omega) (by decide) (by decide)).mpr h)
            refine lv_aload_n hx hb dX12_readDoes_72 rfl (lv_at hl 0 rfl) ?_
            refine lv_iload_n hx hb dX12_readDoes_73 rfl (lv_at hl 1 rfl) ?_
            refine lv_iconst (v := iI 3) hx hb dX12_readDoes_74 (by decide +kernel) ?_
            refine r_iadd (v := iI (x0 + 3)) M (iI_add _ _) dX12_readDoes_75 ?_
            refine lv_aload_n hx hb dX12_readDoes_76 rfl (lv_at hl 0 rfl) ?_
            refine k_I (ce := 0) (sl := 0) (rest := [.int (iI (x0 + 3)), .ref a0]) (wr := [(a20, .inl (T 0, 160, .inl (cI ff149)))]) (r_V (f := 3) [3, 0, 1, 2] M w V_HookedCityModel_370 G1989 G104 (c131_X12_readPersonName l D T _ a0 r0 a1 x1 x2 x3 z133 z134 z135 fr136 z137 z138 z139 fy140 z141 a2 a3 a4 a5 a6 a7 a8 a9 a10 a11 x11 a12 a13 a14 a15 x12 r2 r3 a16 x13 x14 a17 a18 x15 a19 x16 r4 a20 a21 x17 r5 a22 x18 x19 x20 x21 f0 f1 h0 x1_a x1_b x2_a x2_b x3_a x3_b z133_a z133_b z134_a z134_b z135_a z135_b z137_a z137_b z138_a z138_b z139_a z139_b z141_a z141_b x11_a x11_b x12_a x12_b x13_a x13_b x14_a x14_b x15_a x15_b x16_a x16_b x17_a x17_b x18_a x18_b x19_a x19_b x20_a x20_b x21_a x21_b f0_h f1_h) 3 clX12 rfl rfl (by decide) rfl hl.1 rfl (Nat.le_of_ble_eq_true rfl) dX12_readDoes_77 (by decide) (by decide) (by decide) (by decide)) w [3, 0, 1, 2] [4] rfl rfl (by decide) (by decide) rfl rfl (fun v u H locs hp w => ?_)
            obtain ⟨z156, z157, z158, z159, fr160, z161, z162, z163, fy164, z165⟩ := u
            have hv : iI z156 = v := hp.1
            subst hv
            have z156_a : 0 ≤ z156 := hp.2.1
            have z156_b : z156 ≤ 1 := hp.2.2.1
            have z157_a : 0 ≤ z157 := hp.2.2.2.1
            have z157_b : z157 ≤ 940 := hp.2.2.2.2.1
            have z158_a : 0 ≤ z158 := hp.2.2.2.2.2.1
            have z158_b : z158 ≤ 940 := hp.2.2.2.2.2.2.1
            have z159_a : 0 ≤ z159 := hp.2.2.2.2.2.2.2.1
            have z159_b : z159 ≤ 4 := hp.2.2.2.2.2.2.2.2.1
            have z161_a : (-2147483648) ≤ z161 := hp.2.2.2.2.2.2.2.2.2.1
            have z161_b : z161 ≤ 2147483647 := hp.2.2.2.2.2.2.2.2.2.2.1
            have z162_a : (-2147483648) ≤ z162 := hp.2.2.2.2.2.2.2.2.2.2.2.1
            have z162_b : z162 ≤ 2147483647 := hp.2.2.2.2.2.2.2.2.2.2.2.2.1
            have z163_a : 0 ≤ z163 := hp.2.2.2.2.2.2.2.2.2.2.2.2.2.1
            have z163_b : z163 ≤ 940 := hp.2.2.2.2.2.2.2.2.2.2.2.2.2.2.1
            have z165_a : (-2147483648) ≤ z165 := hp.2.2.2.2.2.2.2.2.2.2.2.2.2.2.2.1
            have z165_b : z165 ≤ 2147483647 := hp.2.2.2.2.2.2.2.2.2.2.2.2.2.2.2.2.1
            have ee166 : 0 ≤ (z157 - z133) := hp.2.2.2.2.2.2.2.2.2.2.2.2.2.2.2.2.2.1
            have ee167 : 0 ≤ ((((z157 - z133) - z159) + 4) - z156) := hp.2.2.2.2.2.2.2.2.2.2.2.2.2.2.2.2.2.2.1
            have ee168 : 0 ≤ ((z165 + 4294967296) - (z156 * 4294967296)) := hp.2.2.2.2.2.2.2.2.2.2.2.2.2.2.2.2.2.2.2.1
            have ee169 : 0 ≤ (((8 - z165) + 4294967296) - (z156 * 4294967296)) := hp.2.2.2.2.2.2.2.2.2.2.2.2.2.2.2.2.2.2.2.2.1
            have pq170 : ∀ x : Tk × Int × Int, gT x z135 z134 z133 fy140 fr136 z137 → RV ((sOne (fun _ => f1 0) h0) x) z156 z162 z163 z165 ∧ (z156 = 1 → gT (nx f0 x2 x3 x) z159 z158 z157 fy164 fr160 z161) := hp.2.2.2.2.2.2.2.2.2.2.2.2.2.2.2.2.2.2.2.2.2.1
            have pq171 : kpB z156 z138 z162 := hp.2.2.2.2.2.2.2.2.2.2.2.2.2.2.2.2.2.2.2.2.2.2
            have w : WD D A s.heap [(a20, .inl (T 0, 160, .inl (cI ff149))), (a0, .inr (11, [.int r0, .ref a1, .int (iI x1), .int (iI x2), .int (iI x3), .int (iI z157), .int (iI z158), .int (iI z159), .int fr160, .int (iI z161), .int (iI z162), .int (iI z163), .long fy164, .int (iI z165), .ref a2, .ref a3, .ref a4, .ref a5, .ref a6, .ref a7, .ref a8, .ref a9, .ref a10, .ref a11, .int (iI x11), .ref a12, .ref a13, .ref a14, .ref a15, .int (iI x12), .int r2, .int r3, .ref a16, .int (iI x13), .int (iI x14), .ref a17, .ref a18, .int (iI x15), .ref a19, .int (iI x16), .int r4, .ref a20, .ref a21, .int (iI x17), .int r5, .ref a22, .int (iI x18), .int (iI x19), .int (iI x20), .int (iI x21)])), (a1, .inl (T 0, 940, .inl (cI f0))), (a2, .inl (T 0, 329, .inl (cI f1))), (a7, .inl (T 1, 12, .inr (.inl h0)))] H locs := w
            refine k_I (ce := 0) (sl := 0) (rest := []) (wr := [(a1, .inl (T 0, 940, .inl (cI f0))), (a2, .inl (T 0, 329, .inl (cI f1))), (a7, .inl (T 1, 12, .inr (.inl h0)))]) (r_V (f := 0) [1, 0] M w V_HookedCityModel_373 G1993 G105 (c132_X12_keep l D T _ a0 (x0 + 3) z156 r0 a1 x1 x2 x3 z157 z158 z159 fr160 z161 z162 z163 fy164 z165 a2 a3 a4 a5 a6 a7 a8 a9 a10 a11 x11 a12 a13 a14 a15 x12 r2 r3 a16 x13 x14 a17 a18 x15 a19 x16 r4 a20 a21 x17 r5 a22 x18 x19 x20 x21 ff149 (by omega) (by omega) z156_a z156_b x1_a x1_b x2_a x2_b x3_a x3_b z157_a z157_b z158_a z158_b z159_a z159_b z161_a z161_b z162_a z162_b z163_a z163_b z165_a z165_b x11_a x11_b x12_a x12_b x13_a x13_b x14_a x14_b x15_a x15_b x16_a x16_b x17_a x17_b x18_a x18_b x19_a x19_b x20_a x20_b x21_a x21_b ff149_h (fun h => ln_q ff149_h (n := x17) (by omega) (by omega) (by omega) (by omega) (by omega))) 1 clX12 rfl rfl (by decide) rfl hl.1 rfl (Nat.le_of_ble_eq_true rfl) dX12_readDoes_80 (by decide) (by decide) (by decide) (by decide)) w [1, 0] [2, 3, 4] rfl rfl (by decide) (by decide) rfl rfl (fun v u H locs hp w => ?_)
            obtain ⟨z172, ff173⟩ := u
            have hv : iI z172 = v := hp.1
            subst hv
            have z172_a : 0 ≤ z172 := hp.2.1
            have z172_b : z172 ≤ 1 := hp.2.2.1
            have ff173_h : lnI ff173 := hp.2.2.2.1
            have ee174 : 0 ≤ (z156 - z172) := hp.2.2.2.2.1
            have ee175 : 0 ≤ (z172 - z156) := hp.2.2.2.2.2.1
            have pq176 : ∀ j : Int, ¬ j = (x0 + 3) → ff173 j = ff149 j := hp.2.2.2.2.2.2
            have w : WD D A s.heap [(a1, .inl (T 0, 940, .inl (cI f0))), (a2, .inl (T 0, 329, .inl (cI f1))), (a7, .inl (T 1, 12, .inr (.inl h0))), (a0, .inr (11, [.int r0, .ref a1, .int (iI x1), .int (iI x2), .int (iI x3), .int (iI z157), .int (iI z158), .int (iI z159), .int fr160, .int (iI z161), .int (iI z162), .int (iI z163), .long fy164, .int (iI z165), .ref a2, .ref a3, .ref a4, .ref a5, .ref a6, .ref a7, .ref a8, .ref a9, .ref a10, .ref a11, .int (iI x11), .ref a12, .ref a13, .ref a14, .ref a15, .int (iI x12), .int r2, .int r3, .ref a16, .int (iI x13), .int (iI x14), .ref a17, .ref a18, .int (iI x15), .ref a19, .int (iI x16), .int r4, .ref a20, .ref a21, .int (iI x17), .int r5, .ref a22, .int (iI x18), .int (iI x19), .int (iI x20), .int (iI x21)])), (a20, .inl (T 0, 160, .inl (cI ff173)))] H locs := w
            refine lv_if_eq (tgt := 90) hx hb dX12_readDoes_83 (by decide) (fun c_177 => ?_) (fun c_177 => ?_)
            · replace c_177 := (iz_eq (Int.le_trans (by decide) z172_a) (Int.le_trans z172_b (by decide))).mp c_177
              refine lv_iconst (v := iI 0) hx hb dX12_readDoes_90 (by decide +kernel) ?_
              exact ret _ (0, z157, z158, z159, fr160, z161, z162, z163, fy164, z165, ff173) _ _ _ _ _ [3, 0, 1, 2, 4] dX12_readDoes_91 (by decide +kernel) ⟨rfl, (show (0 : Int) ≤ 0 from by decide), (show (0 : Int) ≤ 1 from by decide), z157_a, z157_b, z158_a, z158_b, z159_a, z159_b, z161_a, z161_b, z162_a, z162_b, z163_a, z163_b, z165_a, z165_b, ff173_h, (show 0 ≤ (z157 - x4) from by omega), (show 0 ≤ ((((z157 - x4) - z159) + 4) - 0) from by omega), (show kpB 0 x8 z162 from (fun e => absurd e (by decide))), (show ∀ x : Tk × Int × Int, gT x x6 x5 x4 y0 r1 x7 → RS (bkD f0 x2 x3 (sOne (fun _ => f1 0) h0) (x, x17)) 0 z162 z163 (fun y => gT y z159 z158 z157 fy164 fr160 z161) x17 from (by have k9 := pq152 x0 (by omega); rw [upz_s] at k9; exfalso; omega))⟩ w (by decide) rfl
            · replace c_177 : ¬ z172 = 0 := fun h => c_177 ((iz_eq (Int.le_trans (by decide) z172_a) (Int.le_trans z172_b (by decide))).mpr h)
              refine lv_iconst (v := iI 1) hx hb dX12_readDoes_86 (by decide +kernel) ?_
              refine lv_goto (tgt := 91) hx hb dX12_readDoes_87 (by decide) ?_
              exact ret _ (1, z157, z158, z159, fr160, z161, z162, z163, fy164, z165, ff173) _ _ _ _ _ [3, 0, 1, 2, 4] dX12_readDoes_91 (by decide +kernel) ⟨rfl, (show (0 : Int) ≤ 1 from by decide), (show (1 : Int) ≤ 1 from by decide), z157_a, z157_b, z158_a, z158_b, z159_a, z159_b, z161_a, z161_b, z162_a, z162_b, z163_a, z163_b, z165_a, z165_b, ff173_h, (show 0 ≤ (z157 - x4) from by omega), (show 0 ≤ ((((z157 - x4) - z159) + 4) - 1) from by omega), (show kpB 1 x8 z162 from (fun hr => by have y4 := pq147 (by omega); have y6 := pq171 (by omega); omega)), (show ∀ x : Tk × Int × Int, gT x x6 x5 x4 y0 r1 x7 → RS (bkD f0 x2 x3 (sOne (fun _ => f1 0) h0) (x, x17)) 1 z162 z163 (fun y => gT y z159 z158 z157 fy164 fr160 z161) x17 from (by have k9 := pq152 x0 (by omega); rw [upz_s] at k9; exfalso; omega))⟩ w (by decide) rfl
      · replace c_122 : ¬ z120 = 0 := fun h => c_122 ((iz_eq (Int.le_trans (by decide) z120_a) (Int.le_trans z120_b (by decide))).mpr h)
        refine lv_iconst (v := iI 0) hx hb dX12_readDoes_38 (by decide +kernel) ?_
        refine lv_goto (tgt := 43) hx hb dX12_readDoes_39 (by decide) ?_
        refine r_iast (ws' := [(a1, .inl (T 0, 940, .inl (cI f0))), (a2, .inl (T 0, 329, .inl (cI f1))), (a7, .inl (T 1, 12, .inr (.inl h0))), (a20, .inl (T 0, 160, .inl (cI (upz f2 x0 0)))), (a0, .inr (11, [.int r0, .ref a1, .int (iI x1), .int (iI x2), .int (iI x3), .int (iI x4), .int (iI x5), .int (iI x6), .int r1, .int (iI x7), .int (iI x8), .int (iI x9), .long y0, .int (iI x10), .ref a2, .ref a3, .ref a4, .ref a5, .ref a6, .ref a7, .ref a8, .ref a9, .ref a10, .ref a11, .int (iI x11), .ref a12, .ref a13, .ref a14, .ref a15, .int (iI x12), .int r2, .int r3, .ref a16, .int (iI x13), .int (iI x14), .ref a17, .ref a18, .int (iI x15), .ref a19, .int (iI x16), .int r4, .ref a20, .ref a21, .int (iI x17), .int r5, .ref a22, .int (iI x18), .int (iI x19), .int (iI x20), .int (iI x21)]))]) M w 3 rfl (iI_in (by omega) (by omega) (by decide)) (by rw [cI_up (by omega) (by omega)]; rfl) dX12_readDoes_43 (fun H locs w => ?_)
        refine lv_aload_n hx hb dX12_readDoes_44 rfl (lv_at hl 0 rfl) ?_
        refine k_V (ce := 0) (sl := 0) (rest := []) (wr := [(a2, .inl (T 0, 329, .inl (cI f1))), (a7, .inl (T 1, 12, .inr (.inl h0))), (a20, .inl (T 0, 160, .inl (cI (upz f2 x0 0))))]) (r_V (f := 1) [4, 0] M w V_HookedCityModel_82 G1629 G49 (c12_X12_go l D T _ a0 r0 a1 x1 x2 x3 x4 x5 x6 r1 x7 x8 x9 y0 x10 a2 a3 a4 a5 a6 a7 a8 a9 a10 a11 x11 a12 a13 a14 a15 x12 r2 r3 a16 x13 x14 a17 a18 x15 a19 x16 r4 a20 a21 x17 r5 a22 x18 x19 x20 x21 f0 x1_a x1_b x2_a x2_b x3_a x3_b x4_a x4_b x5_a x5_b x6_a x6_b x7_a x7_b x8_a x8_b x9_a x9_b x10_a x10_b x11_a x11_b x12_a x12_b x13_a x13_b x14_a x14_b x15_a x15_b x16_a x16_b x17_a x17_b x18_a x18_b x19_a x19_b x20_a x20_b x21_a x21_b f0_h) 4 clX12 rfl rfl (by decide) rfl hl.1 rfl (Nat.le_of_ble_eq_true rfl) dX12_readDoes_45 (by decide) (by decide) (by decide) (by decide)) w [4, 0] [1, 2, 3] rfl rfl (by decide) (by decide) rfl rfl (fun u H locs hp w => ?_)
        obtain ⟨z178, z179, z180, fr181, z182, fy183⟩ := u
        have z178_a : 0 ≤ z178 := hp.1
        have z178_b : z178 ≤ 940 := hp.2.1
        have z179_a : 0 ≤ z179 := hp.2.2.1
        have z179_b : z179 ≤ 940 := hp.2.2.2.1
        have z180_a : 0 ≤ z180 := hp.2.2.2.2.1
        have z180_b : z180 ≤ 4 := hp.2.2.2.2.2.1
        have z182_a : (-2147483648) ≤ z182 := hp.2.2.2.2.2.2.1
        have z182_b : z182 ≤ 2147483647 := hp.2.2.2.2.2.2.2.1
        have ee184 : 0 ≤ (z178 - x4) := hp.2.2.2.2.2.2.2.2.1
        have ee185 : 0 ≤ (((z178 - x4) - z180) + 3) := hp.2.2.2.2.2.2.2.2.2.1
        have pq186 : gT (tkAt f0 x2 x3 x4) z180 z179 z178 fy183 fr181 z182 := hp.2.2.2.2.2.2.2.2.2.2
        have w : WD D A s.heap [(a2, .inl (T 0, 329, .inl (cI f1))), (a7, .inl (T 1, 12, .inr (.inl h0))), (a20, .inl (T 0, 160, .inl (cI (upz f2 x0 0)))), (a0, .inr (11, [.int r0, .ref a1, .int (iI x1), .int (iI x2), .int (iI x3), .int (iI z178), .int (iI z179), .int (iI z180), .int fr181, .int (iI z182), .int (iI x8), .int (iI x9), .long fy183, .int (iI x10), .ref a2, .ref a3, .ref a4, .ref a5, .ref a6, .ref a7, .ref a8, .ref a9, .ref a10, .ref a11, .int (iI x11), .ref a12, .ref a13, .ref a14, .ref a15, .int (iI x12), .int r2, .int r3, .ref a16, .int (iI x13), .int (iI x14), .ref a17, .ref a18, .int (iI x15), .ref a19, .int (iI x16), .int r4, .ref a20, .ref a21, .int (iI x17), .int r5, .ref a22, .int (iI x18), .int (iI x19), .int (iI x20), .int (iI x21)])), (a1, .inl (T 0, 940, .inl (cI f0)))] H locs := w
        refine lv_aload_n hx hb dX12_readDoes_48 rfl (lv_at hl 0 rfl) ?_
        refine lv_iload_n hx hb dX12_readDoes_49 rfl (lv_at hl 1 rfl) ?_
        refine lv_iconst (v := iI 2) hx hb dX12_readDoes_50 (by decide +kernel) ?_
        refine r_iadd (v := iI (x0 + 2)) M (iI_add _ _) dX12_readDoes_51 ?_
        refine lv_aload_n hx hb dX12_readDoes_52 rfl (lv_at hl 0 rfl) ?_
        refine k_I (ce := 0) (sl := 0) (rest := [.int (iI (x0 + 2)), .ref a0]) (wr := [(a20, .inl (T 0, 160, .inl (cI (upz f2 x0 0))))]) (r_V (f := 3) [3, 4, 0, 1] M w V_HookedCityModel_370 G1989 G104 (c131_X12_readPersonName l D T _ a0 r0 a1 x1 x2 x3 z178 z179 z180 fr181 z182 x8 x9 fy183 x10 a2 a3 a4 a5 a6 a7 a8 a9 a10 a11 x11 a12 a13 a14 a15 x12 r2 r3 a16 x13 x14 a17 a18 x15 a19 x16 r4 a20 a21 x17 r5 a22 x18 x19 x20 x21 f0 f1 h0 x1_a x1_b x2_a x2_b x3_a x3_b z178_a z178_b z179_a z179_b z180_a z180_b z182_a z182_b x8_a x8_b x9_a x9_b x10_a x10_b x11_a x11_b x12_a x12_b x13_a x13_b x14_a x14_b x15_a x15_b x16_a x16_b x17_a x17_b x18_a x18_b x19_a x19_b x20_a x20_b x21_a x21_b f0_h f1_h) 3 clX12 rfl rfl (by decide) rfl hl.1 rfl (Nat.le_of_ble_eq_true rfl) dX12_readDoes_53 (by decide) (by decide) (by decide) (by decide)) w [3, 4, 0, 1] [2] rfl rfl (by decide) (by decide) rfl rfl (fun v u H locs hp w => ?_)
        obtain ⟨z187, z188, z189, z190, fr191, z192, z193, z194, fy195, z196⟩ := u
        have hv : iI z187 = v := hp.1
        subst hv
        have z187_a : 0 ≤ z187 := hp.2.1
        have z187_b : z187 ≤ 1 := hp.2.2.1
        have z188_a : 0 ≤ z188 := hp.2.2.2.1
        have z188_b : z188 ≤ 940 := hp.2.2.2.2.1
        have z189_a : 0 ≤ z189 := hp.2.2.2.2.2.1
        have z189_b : z189 ≤ 940 := hp.2.2.2.2.2.2.1
        have z190_a : 0 ≤ z190 := hp.2.2.2.2.2.2.2.1
        have z190_b : z190 ≤ 4 := hp.2.2.2.2.2.2.2.2.1
        have z192_a : (-2147483648) ≤ z192 := hp.2.2.2.2.2.2.2.2.2.1
        have z192_b : z192 ≤ 2147483647 := hp.2.2.2.2.2.2.2.2.2.2.1
        have z193_a : (-2147483648) ≤ z193 := hp.2.2.2.2.2.2.2.2.2.2.2.1
        have z193_b : z193 ≤ 2147483647 := hp.2.2.2.2.2.2.2.2.2.2.2.2.1
        have z194_a : 0 ≤ z194 := hp.2.2.2.2.2.2.2.2.2.2.2.2.2.1
        have z194_b : z194 ≤ 940 := hp.2.2.2.2.2.2.2.2.2.2.2.2.2.2.1
        have z196_a : (-2147483648) ≤ z196 := hp.2.2.2.2.2.2.2.2.2.2.2.2.2.2.2.1
        have z196_b : z196 ≤ 2147483647 := hp.2.2.2.2.2.2.2.2.2.2.2.2.2.2.2.2.1
        have ee197 : 0 ≤ (z188 - z178) := hp.2.2.2.2.2.2.2.2.2.2.2.2.2.2.2.2.2.1
        have ee198 : 0 ≤ ((((z188 - z178) - z190) + 4) - z187) := hp.2.2.2.2.2.2.2.2.2.2.2.2.2.2.2.2.2.2.1
        have ee199 : 0 ≤ ((z196 + 4294967296) - (z187 * 4294967296)) := hp.2.2.2.2.2.2.2.2.2.2.2.2.2.2.2.2.2.2.2.1
        have ee200 : 0 ≤ (((8 - z196) + 4294967296) - (z187 * 4294967296)) := hp.2.2.2.2.2.2.2.2.2.2.2.2.2.2.2.2.2.2.2.2.1
        have pq201 : ∀ x : Tk × Int × Int, gT x z180 z179 z178 fy183 fr181 z182 → RV ((sOne (fun _ => f1 0) h0) x) z187 z193 z194 z196 ∧ (z187 = 1 → gT (nx f0 x2 x3 x) z190 z189 z188 fy195 fr191 z192) := hp.2.2.2.2.2.2.2.2.2.2.2.2.2.2.2.2.2.2.2.2.2.1
        have pq202 : kpB z187 x8 z193 := hp.2.2.2.2.2.2.2.2.2.2.2.2.2.2.2.2.2.2.2.2.2.2
        have w : WD D A s.heap [(a20, .inl (T 0, 160, .inl (cI (upz f2 x0 0)))), (a0, .inr (11, [.int r0, .ref a1, .int (iI x1), .int (iI x2), .int (iI x3), .int (iI z188), .int (iI z189), .int (iI z190), .int fr191, .int (iI z192), .int (iI z193), .int (iI z194), .long fy195, .int (iI z196), .ref a2, .ref a3, .ref a4, .ref a5, .ref a6, .ref a7, .ref a8, .ref a9, .ref a10, .ref a11, .int (iI x11), .ref a12, .ref a13, .ref a14, .ref a15, .int (iI x12), .int r2, .int r3, .ref a16, .int (iI x13), .int (iI x14), .ref a17, .ref a18, .int (iI x15), .ref a19, .int (iI x16), .int r4, .ref a20, .ref a21, .int (iI x17), .int r5, .ref a22, .int (iI x18), .int (iI x19), .int (iI x20), .int (iI x21)])), (a1, .inl (T 0, 940, .inl (cI f0))), (a2, .inl (T 0, 329, .inl (cI f1))), (a7, .inl (T 1, 12, .inr (.inl h0)))] H locs := w
        refine k_I (ce := 0) (sl := 0) (rest := []) (wr := [(a1, .inl (T 0, 940, .inl (cI f0))), (a2, .inl (T 0, 329, .inl (cI f1))), (a7, .inl (T 1, 12, .inr (.inl h0)))]) (r_V (f := 0) [1, 0] M w V_HookedCityModel_373 G1993 G105 (c132_X12_keep l D T _ a0 (x0 + 2) z187 r0 a1 x1 x2 x3 z188 z189 z190 fr191 z192 z193 z194 fy195 z196 a2 a3 a4 a5 a6 a7 a8 a9 a10 a11 x11 a12 a13 a14 a15 x12 r2 r3 a16 x13 x14 a17 a18 x15 a19 x16 r4 a20 a21 x17 r5 a22 x18 x19 x20 x21 (upz f2 x0 0) (by omega) (by omega) z187_a z187_b x1_a x1_b x2_a x2_b x3_a x3_b z188_a z188_b z189_a z189_b z190_a z190_b z192_a z192_b z193_a z193_b z194_a z194_b z196_a z196_b x11_a x11_b x12_a x12_b x13_a x13_b x14_a x14_b x15_a x15_b x16_a x16_b x17_a x17_b x18_a x18_b x19_a x19_b x20_a x20_b x21_a x21_b (ln_op f2_h (n := x17) (by omega) (by omega) (by omega) (by decide) (by decide) pp_x) (fun h => ln_p (ln_op f2_h (n := x17) (by omega) (by omega) (by omega) (by decide) (by decide) pp_x) (n := x17) (by omega) (by omega) (by omega) (by omega) (by omega))) 1 clX12 rfl rfl (by decide) rfl hl.1 rfl (Nat.le_of_ble_eq_true rfl) dX12_readDoes_56 (by decide) (by decide) (by decide) (by decide)) w [1, 0] [2, 3, 4] rfl rfl (by decide) (by decide) rfl rfl (fun v u H locs hp w => ?_)
        obtain ⟨z203, ff204⟩ := u
        have hv : iI z203 = v := hp.1
        subst hv
        have z203_a : 0 ≤ z203 := hp.2.1
        have z203_b : z203 ≤ 1 := hp.2.2.1
        have ff204_h : lnI ff204 := hp.2.2.2.1
        have ee205 : 0 ≤ (z187 - z203) := hp.2.2.2.2.1
        have ee206 : 0 ≤ (z203 - z187) := hp.2.2.2.2.2.1
        have pq207 : ∀ j : Int, ¬ j = (x0 + 2) → ff204 j = (upz f2 x0 0) j := hp.2.2.2.2.2.2
        have w : WD D A s.heap [(a1, .inl (T 0, 940, .inl (cI f0))), (a2, .inl (T 0, 329, .inl (cI f1))), (a7, .inl (T 1, 12, .inr (.inl h0))), (a0, .inr (11, [.int r0, .ref a1, .int (iI x1), .int (iI x2), .int (iI x3), .int (iI z188), .int (iI z189), .int (iI z190), .int fr191, .int (iI z192), .int (iI z193), .int (iI z194), .long fy195, .int (iI z196), .ref a2, .ref a3, .ref a4, .ref a5, .ref a6, .ref a7, .ref a8, .ref a9, .ref a10, .ref a11, .int (iI x11), .ref a12, .ref a13, .ref a14, .ref a15, .int (iI x12), .int r2, .int r3, .ref a16, .int (iI x13), .int (iI x14), .ref a17, .ref a18, .int (iI x15), .ref a19, .int (iI x16), .int r4, .ref a20, .ref a21, .int (iI x17), .int r5, .ref a22, .int (iI x18), .int (iI x19), .int (iI x20), .int (iI x21)])), (a20, .inl (T 0, 160, .inl (cI ff204)))] H locs := w
        refine lv_if_eq (tgt := 90) hx hb dX12_readDoes_59 (by decide) (fun c_208 => ?_) (fun c_208 => ?_)
        · replace c_208 := (iz_eq (Int.le_trans (by decide) z203_a) (Int.le_trans z203_b (by decide))).mp c_208
          refine lv_iconst (v := iI 0) hx hb dX12_readDoes_90 (by decide +kernel) ?_
          exact ret _ (0, z188, z189, z190, fr191, z192, z193, z194, fy195, z196, ff204) _ _ _ _ _ [3, 0, 1, 2, 4] dX12_readDoes_91 (by decide +kernel) ⟨rfl, (show (0 : Int) ≤ 0 from by decide), (show (0 : Int) ≤ 1 from by decide), z188_a, z188_b, z189_a, z189_b, z190_a, z190_b, z192_a, z192_b, z193_a, z193_b, z194_a, z194_b, z196_a, z196_b, ff204_h, (show 0 ≤ (z188 - x4) from by omega), (show 0 ≤ ((((z188 - x4) - z190) + 4) - 0) from by omega), (show kpB 0 x8 z193 from (fun e => absurd e (by decide))), (show ∀ x : Tk × Int × Int, gT x x6 x5 x4 y0 r1 x7 → RS (bkD f0 x2 x3 (sOne (fun _ => f1 0) h0) (x, x17)) 0 z193 z194 (fun y => gT y z190 z189 z188 fy195 fr191 z192) x17 from (fun x g => absurd (wd_1 g (k := 11) pq121 (by omega)) (wd_0 g (k := 11) pq2 (by omega))))⟩ w (by decide) rfl
        · replace c_208 : ¬ z203 = 0 := fun h => c_208 ((iz_eq (Int.le_trans (by decide) z203_a) (Int.le_trans z203_b (by decide))).mpr h)
          refine lv_aload_n hx hb dX12_readDoes_62 rfl (lv_at hl 0 rfl) ?_
          refine r_get (v := .ref a20) M w 3 41 clX12 rfl (by decide) G1504 rfl rfl dX12_readDoes_63 ?_
          refine lv_iload_n hx hb dX12_readDoes_66 rfl (lv_at hl 1 rfl) ?_
          refine r_iald (v := iI (ff204 x0)) M w 4 rfl (iI_in (by omega) (by omega) (by decide)) (cI_at (by omega) (by omega)) dX12_readDoes_67 ?_
          have hh209 : (-2147483648) ≤ (ff204 x0) ∧ (ff204 x0) ≤ 2147483647 := ff204_h.1 x0
          refine lv_iconst (v := iI 1) hx hb dX12_readDoes_68 (by decide +kernel) ?_
          refine lv_icmp_eq (tgt := 86) hx hb dX12_readDoes_69 (by decide) (fun c_210 => ?_) (fun c_210 => ?_)
          · replace c_210 := (iI_eq (by omega) (by omega) (by decide) (by decide)).mp c_210
            refine lv_iconst (v := iI 1) hx hb dX12_readDoes_86 (by decide +kernel) ?_
            refine lv_goto (tgt := 91) hx hb dX12_readDoes_87 (by decide) ?_
            exact ret _ (1, z188, z189, z190, fr191, z192, z193, z194, fy195, z196, ff204) _ _ _ _ _ [3, 0, 1, 2, 4] dX12_readDoes_91 (by decide +kernel) ⟨rfl, (show (0 : Int) ≤ 1 from by decide), (show (1 : Int) ≤ 1 from by decide), z188_a, z188_b, z189_a, z189_b, z190_a, z190_b, z192_a, z192_b, z193_a, z193_b, z194_a, z194_b, z196_a, z196_b, ff204_h, (show 0 ≤ (z188 - x4) from by omega), (show 0 ≤ ((((z188 - x4) - z190) + 4) - 1) from by omega), (show kpB 1 x8 z193 from (fun hr => by have y4 := pq202 (by omega); omega)), (show ∀ x : Tk × Int × Int, gT x x6 x5 x4 y0 r1 x7 → RS (bkD f0 x2 x3 (sOne (fun _ => f1 0) h0) (x, x17)) 1 z193 z194 (fun y => gT y z190 z189 z188 fy195 fr191 z192) x17 from (fun x g => absurd (wd_1 g (k := 11) pq121 (by omega)) (wd_0 g (k := 11) pq2 (by omega))))⟩ w (by decide) rfl
          · replace c_210 : ¬ (ff204 x0) = 1 := fun h => c_210 ((iI_eq (by omega) (by omega) (by decide) (by decide)).mpr h)
            refine lv_aload_n hx hb dX12_readDoes_72 rfl (lv_at hl 0 rfl) ?_
            refine lv_iload_n hx hb dX12_readDoes_73 rfl (lv_at hl 1 rfl) ?_
            refine lv_iconst (v := iI 3) hx hb dX12_readDoes_74 (by decide +kernel) ?_
            refine r_iadd (v := iI (x0 + 3)) M (iI_add _ _) dX12_readDoes_75 ?_
            refine lv_aload_n hx hb dX12_readDoes_76 rfl (lv_at hl 0 rfl) ?_
            refine k_I (ce := 0) (sl := 0) (rest := [.int (iI (x0 + 3)), .ref a0]) (wr := [(a20, .inl (T 0, 160, .inl (cI ff204)))]) (r_V (f := 3) [3, 0, 1, 2] M w V_HookedCityModel_370 G1989 G104 (c131_X12_readPersonName l D T _ a0 r0 a1 x1 x2 x3 z188 z189 z190 fr191 z192 z193 z194 fy195 z196 a2 a3 a4 a5 a6 a7 a8 a9 a10 a11 x11 a12 a13 a14 a15 x12 r2 r3 a16 x13 x14 a17 a18 x15 a19 x16 r4 a20 a21 x17 r5 a22 x18 x19 x20 x21 f0 f1 h0 x1_a x1_b x2_a x2_b x3_a x3_b z188_a z188_b z189_a z189_b z190_a z190_b z192_a z192_b z193_a z193_b z194_a z194_b z196_a z196_b x11_a x11_b x12_a x12_b x13_a x13_b x14_a x14_b x15_a x15_b x16_a x16_b x17_a x17_b x18_a x18_b x19_a x19_b x20_a x20_b x21_a x21_b f0_h f1_h) 3 clX12 rfl rfl (by decide) rfl hl.1 rfl (Nat.le_of_ble_eq_true rfl) dX12_readDoes_77 (by decide) (by decide) (by decide) (by decide)) w [3, 0, 1, 2] [4] rfl rfl (by decide) (by decide) rfl rfl (fun v u H locs hp w => ?_)
            obtain ⟨z211, z212, z213, z214, fr215, z216, z217, z218, fy219, z220⟩ := u
            have hv : iI z211 = v := hp.1
            subst hv
            have z211_a : 0 ≤ z211 := hp.2.1
            have z211_b : z211 ≤ 1 := hp.2.2.1
            have z212_a : 0 ≤ z212 := hp.2.2.2.1
            have z212_b : z212 ≤ 940 := hp.2.2.2.2.1
            have z213_a : 0 ≤ z213 := hp.2.2.2.2.2.1
            have z213_b : z213 ≤ 940 := hp.2.2.2.2.2.2.1
            have z214_a : 0 ≤ z214 := hp.2.2.2.2.2.2.2.1
            have z214_b : z214 ≤ 4 := hp.2.2.2.2.2.2.2.2.1
            have z216_a : (-2147483648) ≤ z216 := hp.2.2.2.2.2.2.2.2.2.1
            have z216_b : z216 ≤ 2147483647 := hp.2.2.2.2.2.2.2.2.2.2.1
            have z217_a : (-2147483648) ≤ z217 := hp.2.2.2.2.2.2.2.2.2.2.2.1
            have z217_b : z217 ≤ 2147483647 := hp.2.2.2.2.2.2.2.2.2.2.2.2.1
            have z218_a : 0 ≤ z218 := hp.2.2.2.2.2.2.2.2.2.2.2.2.2.1
            have z218_b : z218 ≤ 940 := hp.2.2.2.2.2.2.2.2.2.2.2.2.2.2.1
            have z220_a : (-2147483648) ≤ z220 := hp.2.2.2.2.2.2.2.2.2.2.2.2.2.2.2.1
            have z220_b : z220 ≤ 2147483647 := hp.2.2.2.2.2.2.2.2.2.2.2.2.2.2.2.2.1
            have ee221 : 0 ≤ (z212 - z188) := hp.2.2.2.2.2.2.2.2.2.2.2.2.2.2.2.2.2.1
            have ee222 : 0 ≤ ((((z212 - z188) - z214) + 4) - z211) := hp.2.2.2.2.2.2.2.2.2.2.2.2.2.2.2.2.2.2.1
            have ee223 : 0 ≤ ((z220 + 4294967296) - (z211 * 4294967296)) := hp.2.2.2.2.2.2.2.2.2.2.2.2.2.2.2.2.2.2.2.1
            have ee224 : 0 ≤ (((8 - z220) + 4294967296) - (z211 * 4294967296)) := hp.2.2.2.2.2.2.2.2.2.2.2.2.2.2.2.2.2.2.2.2.1
            have pq225 : ∀ x : Tk × Int × Int, gT x z190 z189 z188 fy195 fr191 z192 → RV ((sOne (fun _ => f1 0) h0) x) z211 z217 z218 z220 ∧ (z211 = 1 → gT (nx f0 x2 x3 x) z214 z213 z212 fy219 fr215 z216) := hp.2.2.2.2.2.2.2.2.2.2.2.2.2.2.2.2.2.2.2.2.2.1
            have pq226 : kpB z211 z193 z217 := hp.2.2.2.2.2.2.2.2.2.2.2.2.2.2.2.2.2.2.2.2.2.2
            have w : WD D A s.heap [(a20, .inl (T 0, 160, .inl (cI ff204))), (a0, .inr (11, [.int r0, .ref a1, .int (iI x1), .int (iI x2), .int (iI x3), .int (iI z212), .int (iI z213), .int (iI z214), .int fr215, .int (iI z216), .int (iI z217), .int (iI z218), .long fy219, .int (iI z220), .ref a2, .ref a3, .ref a4, .ref a5, .ref a6, .ref a7, .ref a8, .ref a9, .ref a10, .ref a11, .int (iI x11), .ref a12, .ref a13, .ref a14, .ref a15, .int (iI x12), .int r2, .int r3, .ref a16, .int (iI x13), .int (iI x14), .ref a17, .ref a18, .int (iI x15), .ref a19, .int (iI x16), .int r4, .ref a20, .ref a21, .int (iI x17), .int r5, .ref a22, .int (iI x18), .int (iI x19), .int (iI x20), .int (iI x21)])), (a1, .inl (T 0, 940, .inl (cI f0))), (a2, .inl (T 0, 329, .inl (cI f1))), (a7, .inl (T 1, 12, .inr (.inl h0)))] H locs := w
            refine k_I (ce := 0) (sl := 0) (rest := []) (wr := [(a1, .inl (T 0, 940, .inl (cI f0))), (a2, .inl (T 0, 329, .inl (cI f1))), (a7, .inl (T 1, 12, .inr (.inl h0)))]) (r_V (f := 0) [1, 0] M w V_HookedCityModel_373 G1993 G105 (c132_X12_keep l D T _ a0 (x0 + 3) z211 r0 a1 x1 x2 x3 z212 z213 z214 fr215 z216 z217 z218 fy219 z220 a2 a3 a4 a5 a6 a7 a8 a9 a10 a11 x11 a12 a13 a14 a15 x12 r2 r3 a16 x13 x14 a17 a18 x15 a19 x16 r4 a20 a21 x17 r5 a22 x18 x19 x20 x21 ff204 (by omega) (by omega) z211_a z211_b x1_a x1_b x2_a x2_b x3_a x3_b z212_a z212_b z213_a z213_b z214_a z214_b z216_a z216_b z217_a z217_b z218_a z218_b z220_a z220_b x11_a x11_b x12_a x12_b x13_a x13_b x14_a x14_b x15_a x15_b x16_a x16_b x17_a x17_b x18_a x18_b x19_a x19_b x20_a x20_b x21_a x21_b ff204_h (fun h => ln_q ff204_h (n := x17) (by omega) (by omega) (by omega) (by omega) (by omega))) 1 clX12 rfl rfl (by decide) rfl hl.1 rfl (Nat.le_of_ble_eq_true rfl) dX12_readDoes_80 (by decide) (by decide) (by decide) (by decide)) w [1, 0] [2, 3, 4] rfl rfl (by decide) (by decide) rfl rfl (fun v u H locs hp w => ?_)
            obtain ⟨z227, ff228⟩ := u
            have hv : iI z227 = v := hp.1
            subst hv
            have z227_a : 0 ≤ z227 := hp.2.1
            have z227_b : z227 ≤ 1 := hp.2.2.1
            have ff228_h : lnI ff228 := hp.2.2.2.1
            have ee229 : 0 ≤ (z211 - z227) := hp.2.2.2.2.1
            have ee230 : 0 ≤ (z227 - z211) := hp.2.2.2.2.2.1
            have pq231 : ∀ j : Int, ¬ j = (x0 + 3) → ff228 j = ff204 j := hp.2.2.2.2.2.2
            have w : WD D A s.heap [(a1, .inl (T 0, 940, .inl (cI f0))), (a2, .inl (T 0, 329, .inl (cI f1))), (a7, .inl (T 1, 12, .inr (.inl h0))), (a0, .inr (11, [.int r0, .ref a1, .int (iI x1), .int (iI x2), .int (iI x3), .int (iI z212), .int (iI z213), .int (iI z214), .int fr215, .int (iI z216), .int (iI z217), .int (iI z218), .long fy219, .int (iI z220), .ref a2, .ref a3, .ref a4, .ref a5, .ref a6, .ref a7, .ref a8, .ref a9, .ref a10, .ref a11, .int (iI x11), .ref a12, .ref a13, .ref a14, .ref a15, .int (iI x12), .int r2, .int r3, .ref a16, .int (iI x13), .int (iI x14), .ref a17, .ref a18, .int (iI x15), .ref a19, .int (iI x16), .int r4, .ref a20, .ref a21, .int (iI x17), .int r5, .ref a22, .int (iI x18), .int (iI x19), .int (iI x20), .int (iI x21)])), (a20, .inl (T 0, 160, .inl (cI ff228)))] H locs := w
            refine lv_if_eq (tgt := 90) hx hb dX12_readDoes_83 (by decide) (fun c_232 => ?_) (fun c_232 => ?_)
            · replace c_232 := (iz_eq (Int.le_trans (by decide) z227_a) (Int.le_trans z227_b (by decide))).mp c_232
              refine lv_iconst (v := iI 0) hx hb dX12_readDoes_90 (by decide +kernel) ?_
              exact ret _ (0, z212, z213, z214, fr215, z216, z217, z218, fy219, z220, ff228) _ _ _ _ _ [3, 0, 1, 2, 4] dX12_readDoes_91 (by decide +kernel) ⟨rfl, (show (0 : Int) ≤ 0 from by decide), (show (0 : Int) ≤ 1 from by decide), z212_a, z212_b, z213_a, z213_b, z214_a, z214_b, z216_a, z216_b, z217_a, z217_b, z218_a, z218_b, z220_a, z220_b, ff228_h, (show 0 ≤ (z212 - x4) from by omega), (show 0 ≤ ((((z212 - x4) - z214) + 4) - 0) from by omega), (show kpB 0 x8 z217 from (fun e => absurd e (by decide))), (show ∀ x : Tk × Int × Int, gT x x6 x5 x4 y0 r1 x7 → RS (bkD f0 x2 x3 (sOne (fun _ => f1 0) h0) (x, x17)) 0 z217 z218 (fun y => gT y z214 z213 z212 fy219 fr215 z216) x17 from (fun x g => absurd (wd_1 g (k := 11) pq121 (by omega)) (wd_0 g (k := 11) pq2 (by omega))))⟩ w (by decide) rfl
            · replace c_232 : ¬ z227 = 0 := fun h => c_232 ((iz_eq (Int.le_trans (by decide) z227_a) (Int.le_trans z227_b (by decide))).mpr h)
              refine lv_iconst (v := iI 1) hx hb dX12_readDoes_86 (by decide +kernel) ?_
              refine lv_goto (tgt := 91) hx hb dX12_readDoes_87 (by decide) ?_
              exact ret _ (1, z212, z213, z214, fr215, z216, z217, z218, fy219, z220, ff228) _ _ _ _ _ [3, 0, 1, 2, 4] dX12_readDoes_91 (by decide +kernel) ⟨rfl, (show (0 : Int) ≤ 1 from by decide), (show (1 : Int) ≤ 1 from by decide), z212_a, z212_b, z213_a, z213_b, z214_a, z214_b, z216_a, z216_b, z217_a, z217_b, z218_a, z218_b, z220_a, z220_b, ff228_h, (show 0 ≤ (z212 - x4) from by omega), (show 0 ≤ ((((z212 - x4) - z214) + 4) - 1) from by omega), (show kpB 1 x8 z217 from (fun hr => by have y4 := pq202 (by omega); have y6 := pq226 (by omega); omega)), (show ∀ x : Tk × Int × Int, gT x x6 x5 x4 y0 r1 x7 → RS (bkD f0 x2 x3 (sOne (fun _ => f1 0) h0) (x, x17)) 1 z217 z218 (fun y => gT y z214 z213 z212 fy219 fr215 z216) x17 from (fun x g => absurd (wd_1 g (k := 11) pq121 (by omega)) (wd_0 g (k := 11) pq2 (by omega))))⟩ w (by decide) rfl
    · replace c_119 := (iz_eq (Int.le_trans (by decide) z117_a) (Int.le_trans z117_b (by decide))).mp c_119
      refine lv_aload_n hx hb dX12_readDoes_18 rfl (lv_at hl 0 rfl) ?_
      refine lv_iconst (v := iI 1) hx hb dX12_readDoes_19 (by decide +kernel) ?_
      refine k_I (ce := 0) (sl := 0) (rest := []) (wr := [(a1, .inl (T 0, 940, .inl (cI f0))), (a2, .inl (T 0, 329, .inl (cI f1))), (a7, .inl (T 1, 12, .inr (.inl h0))), (a20, .inl (T 0, 160, .inl (cI f2)))]) (r_V (f := 0) [4] M w V_HookedCityModel_72 G1667 G55 (c45_X12_bad l D T _ a0 1 r0 a1 x1 x2 x3 x4 x5 x6 r1 x7 x8 x9 y0 x10 a2 a3 a4 a5 a6 a7 a8 a9 a10 a11 x11 a12 a13 a14 a15 x12 r2 r3 a16 x13 x14 a17 a18 x15 a19 x16 r4 a20 a21 x17 r5 a22 x18 x19 x20 x21 (by decide) (by decide) x1_a x1_b x2_a x2_b x3_a x3_b x4_a x4_b x5_a x5_b x6_a x6_b x7_a x7_b x8_a x8_b x9_a x9_b x10_a x10_b x11_a x11_b x12_a x12_b x13_a x13_b x14_a x14_b x15_a x15_b x16_a x16_b x17_a x17_b x18_a x18_b x19_a x19_b x20_a x20_b x21_a x21_b) 4 clX12 rfl rfl (by decide) rfl hl.1 rfl (Nat.le_of_ble_eq_true rfl) dX12_readDoes_20 (by decide) (by decide) (by decide) (by decide)) w [4] [0, 1, 2, 3] rfl rfl (by decide) (by decide) rfl rfl (fun v u H locs hp w => ?_)
      obtain ⟨z233, z234, z235⟩ := u
      have hv : iI z233 = v := hp.1
      subst hv
      have z233_a : 0 ≤ z233 := hp.2.1
      have z233_b : z233 ≤ 1 := hp.2.2.1
      have z234_a : (-2147483648) ≤ z234 := hp.2.2.2.1
      have z234_b : z234 ≤ 2147483647 := hp.2.2.2.2.1
      have z235_a : 0 ≤ z235 := hp.2.2.2.2.2.1
      have z235_b : z235 ≤ 940 := hp.2.2.2.2.2.2.1
      have pq236 : baQ x6 1 z234 := hp.2.2.2.2.2.2.2.1
      have pq237 : z235 = x5 := hp.2.2.2.2.2.2.2.2.1
      have w : WD D A s.heap [(a1, .inl (T 0, 940, .inl (cI f0))), (a2, .inl (T 0, 329, .inl (cI f1))), (a7, .inl (T 1, 12, .inr (.inl h0))), (a20, .inl (T 0, 160, .inl (cI f2))), (a0, .inr (11, [.int r0, .ref a1, .int (iI x1), .int (iI x2), .int (iI x3), .int (iI x4), .int (iI x5), .int (iI x6), .int r1, .int (iI x7), .int (iI z234), .int (iI z235), .long y0, .int (iI x10), .ref a2, .ref a3, .ref a4, .ref a5, .ref a6, .ref a7, .ref a8, .ref a9, .ref a10, .ref a11, .int (iI x11), .ref a12, .ref a13, .ref a14, .ref a15, .int (iI x12), .int r2, .int r3, .ref a16, .int (iI x13), .int (iI x14), .ref a17, .ref a18, .int (iI x15), .ref a19, .int (iI x16), .int r4, .ref a20, .ref a21, .int (iI x17), .int r5, .ref a22, .int (iI x18), .int (iI x19), .int (iI x20), .int (iI x21)]))] H locs := w
      rcases hp.2.2.2.2.2.2.2.2.2 with hr
      · subst hr
        exact ret _ (0, x4, x5, x6, r1, x7, z234, z235, y0, x10, f2) _ _ _ _ _ [4, 0, 1, 2, 3] dX12_readDoes_23 (by decide +kernel) ⟨rfl, (show (0 : Int) ≤ 0 from by decide), (show (0 : Int) ≤ 1 from by decide), x4_a, x4_b, x5_a, x5_b, x6_a, x6_b, x7_a, x7_b, z234_a, z234_b, z235_a, z235_b, x10_a, x10_b, f2_h, (show 0 ≤ (x4 - x4) from by omega), (show 0 ≤ ((((x4 - x4) - x6) + 4) - 0) from by omega), (show kpB 0 x8 z234 from (fun e => absurd e (by decide))), (show ∀ x : Tk × Int × Int, gT x x6 x5 x4 y0 r1 x7 → RS (bkD f0 x2 x3 (sOne (fun _ => f1 0) h0) (x, x17)) 0 z234 z235 (fun y => gT y x6 x5 x4 y0 r1 x7) x17 from (fun x g => bd_n (wd_0 g (k := 11) pq2 (by omega)) (wd_0 g (k := 12) pq118 (by omega)) (by have e9 := pq236; unfold baQ at e9; omega) (pq237.trans g.1)))⟩ w (by decide) rfl
set_option maxRecDepth 100000 in
set_option maxHeartbeats 4000000 in
theorem c134_X12_readBookLine (l : Launch) (D : va_G) (T : Nat → ClassId) (sz : Nat) (a0 : Nat) (r0 : Int32) (a1 : Nat) (x0 : Int) (x1 : Int) (x2 : Int) (x3 : Int) (x4 : Int) (x5 : Int) (r1 : Int32) (x6 : Int) (x7 : Int) (x8 : Int) (y0 : Int64) (x9 : Int) (a2 : Nat) (a3 : Nat) (a4 : Nat) (a5 : Nat) (a6 : Nat) (a7 : Nat) (a8 : Nat) (a9 : Nat) (a10 : Nat) (a11 : Nat) (x10 : Int) (a12 : Nat) (a13 : Nat) (a14 : Nat) (a15 : Nat) (x11 : Int) (r2 : Int32) (r3 : Int32) (a16 : Nat) (x12 : Int) (x13 : Int) (a17 : Nat) (a18 : Nat) (x14 : Int) (a19 : Nat) (x15 : Int) (r4 : Int32) (a20 : Nat) (a21 : Nat) (x16 : Int) (r5 : Int32) (a22 : Nat) (x17 : Int) (x18 : Int) (x19 : Int) (x20 : Int) (f0 : Int → Int) (f1 : Int → Int) (h0 : Nat → Int64) (f2 : Int → Int) (x0_a : 0 ≤ x0) (x0_b : x0 ≤ 940) (x1_a : 0 ≤ x1) (x1_b : x1 ≤ 940) (x2_a : 0 ≤ x2) (x2_b : x2 ≤ 940) (x3_a : 0 ≤ x3) (x3_b : x3 ≤ 940) (x4_a : 0 ≤ x4) (x4_b : x4 ≤ 940) (x5_a : 0 ≤ x5) (x5_b : x5 ≤ 4) (x6_a : (-2147483648) ≤ x6) (x6_b : x6 ≤ 2147483647) (x7_a : (-2147483648) ≤ x7) (x7_b : x7 ≤ 2147483647) (x8_a : 0 ≤ x8) (x8_b : x8 ≤ 940) (x9_a : (-2147483648) ≤ x9) (x9_b : x9 ≤ 2147483647) (x10_a : 0 ≤ x10) (x10_b : x10 ≤ 8) (x11_a : 0 ≤ x11) (x11_b : x11 ≤ 9) (x12_a : (-1) ≤ x12) (x12_b : x12 ≤ 9) (x13_a : (-1) ≤ x13) (x13_b : x13 ≤ 8) (x14_a : 0 ≤ x14) (x14_b : x14 ≤ 9) (x15_a : 0 ≤ x15) (x15_b : x15 ≤ 64) (x16_a : 0 ≤ x16) (x16_b : x16 ≤ 40) (x17_a : 0 ≤ x17) (x17_b : x17 ≤ 40) (x18_a : 0 ≤ x18) (x18_b : x18 ≤ 20) (x19_a : 0 ≤ x19) (x19_b : x19 ≤ 8) (x20_a : 0 ≤ x20) (x20_b : x20 ≤ 39) (f0_h : rng 0 255 f0) (f1_h : nowI f1) (f2_h : lnI f2) : Met l yX12_readBookLine (Cond.code yX12_readBookLine cX12_readBookLine 4 (some .boolean) :: GW) (Rm 5 0 0) (cPre [.ref a0] D T [(a0, .inr (11, [.int r0, .ref a1, .int (iI x0), .int (iI x1), .int (iI x2), .int (iI x3), .int (iI x4), .int (iI x5), .int r1, .int (iI x6), .int (iI x7), .int (iI x8), .long y0, .int (iI x9), .ref a2, .ref a3, .ref a4, .ref a5, .ref a6, .ref a7, .ref a8, .ref a9, .ref a10, .ref a11, .int (iI x10), .ref a12, .ref a13, .ref a14, .ref a15, .int (iI x11), .int r2, .int r3, .ref a16, .int (iI x12), .int (iI x13), .ref a17, .ref a18, .int (iI x14), .ref a19, .int (iI x15), .int r4, .ref a20, .ref a21, .int (iI x16), .int r5, .ref a22, .int (iI x17), .int (iI x18), .int (iI x19), .int (iI x20)])), (a1, .inl (T 0, 940, .inl (cI f0))), (a2, .inl (T 0, 329, .inl (cI f1))), (a7, .inl (T 1, 12, .inr (.inl h0))), (a20, .inl (T 0, 160, .inl (cI f2)))] sz) (qI D [(a0, .inr (11, [.int r0, .ref a1, .int (iI x0), .int (iI x1), .int (iI x2), .int (iI x3), .int (iI x4), .int (iI x5), .int r1, .int (iI x6), .int (iI x7), .int (iI x8), .long y0, .int (iI x9), .ref a2, .ref a3, .ref a4, .ref a5, .ref a6, .ref a7, .ref a8, .ref a9, .ref a10, .ref a11, .int (iI x10), .ref a12, .ref a13, .ref a14, .ref a15, .int (iI x11), .int r2, .int r3, .ref a16, .int (iI x12), .int (iI x13), .ref a17, .ref a18, .int (iI x14), .ref a19, .int (iI x15), .int r4, .ref a20, .ref a21, .int (iI x16), .int r5, .ref a22, .int (iI x17), .int (iI x18), .int (iI x19), .int (iI x20)])), (a1, .inl (T 0, 940, .inl (cI f0))), (a2, .inl (T 0, 329, .inl (cI f1))), (a7, .inl (T 1, 12, .inr (.inl h0))), (a20, .inl (T 0, 160, .inl (cI f2)))] sz (fun (v : Int32) (u : Int × Int × Int × Int × Int32 × Int × Int × Int × Int64 × Int × (Int → Int)) => iI u.1 = v ∧ 0 ≤ u.1 ∧ u.1 ≤ 1 ∧ 0 ≤ u.2.1 ∧ u.2.1 ≤ 940 ∧ 0 ≤ u.2.2.1 ∧ u.2.2.1 ≤ 940 ∧ 0 ≤ u.2.2.2.1 ∧ u.2.2.2.1 ≤ 4 ∧ (-2147483648) ≤ u.2.2.2.2.2.1 ∧ u.2.2.2.2.2.1 ≤ 2147483647 ∧ (-2147483648) ≤ u.2.2.2.2.2.2.1 ∧ u.2.2.2.2.2.2.1 ≤ 2147483647 ∧ 0 ≤ u.2.2.2.2.2.2.2.1 ∧ u.2.2.2.2.2.2.2.1 ≤ 940 ∧ (-2147483648) ≤ u.2.2.2.2.2.2.2.2.2.1 ∧ u.2.2.2.2.2.2.2.2.2.1 ≤ 2147483647 ∧ lnI u.2.2.2.2.2.2.2.2.2.2 ∧ 0 ≤ ((u.2.1 - x3) - u.1) ∧ 0 ≤ ((79 - x16) - (u.1 * 40)) ∧ (kpB u.1 x7 u.2.2.2.2.2.2.1) ∧ (∀ x : Tk × Int × Int, gT x x5 x4 x3 y0 r1 x6 → RS (bkM f0 x1 x2 (sOne (fun _ => f1 0) h0) (sMn h0 (f1 1)) (x, x16)) u.1 u.2.2.2.2.2.2.1 u.2.2.2.2.2.2.2.1 (fun y => gT y u.2.2.2.1 u.2.2.1 u.2.1 u.2.2.2.2.2.2.2.2.1 u.2.2.2.2.1 u.2.2.2.2.2.1) (x16 + 1))) (fun u => [(a0, .inr (11, [.int r0, .ref a1, .int (iI x0), .int (iI x1), .int (iI x2), .int (iI u.2.1), .int (iI u.2.2.1), .int (iI u.2.2.2.1), .int u.2.2.2.2.1, .int (iI u.2.2.2.2.2.1), .int (iI u.2.2.2.2.2.2.1), .int (iI u.2.2.2.2.2.2.2.1), .long u.2.2.2.2.2.2.2.2.1, .int (iI u.2.2.2.2.2.2.2.2.2.1), .ref a2, .ref a3, .ref a4, .ref a5, .ref a6, .ref a7, .ref a8, .ref a9, .ref a10, .ref a11, .int (iI x10), .ref a12, .ref a13, .ref a14, .ref a15, .int (iI x11), .int r2, .int r3, .ref a16, .int (iI x12), .int (iI x13), .ref a17, .ref a18, .int (iI x14), .ref a19, .int (iI x15), .int r4, .ref a20, .ref a21, .int (iI x16), .int r5, .ref a22, .int (iI x17), .int (iI x18), .int (iI x19), .int (iI x20)])), (a1, .inl (T 0, 940, .inl (cI f0))), (a2, .inl (T 0, 329, .inl (cI f1))), (a7, .inl (T 1, 12, .inr (.inl h0))), (a20, .inl (T 0, 160, .inl (cI u.2.2.2.2.2.2.2.2.2.2)))])) 0 0 (va_A [(a0, .inr (11, [.int r0, .ref a1, .int (iI x0), .int (iI x1), .int (iI x2), .int (iI x3), .int (iI x4), .int (iI x5), .int r1, .int (iI x6), .int (iI x7), .int (iI x8), .long y0, .int (iI x9), .ref a2, .ref a3, .ref a4, .ref a5, .ref a6, .ref a7, .ref a8, .ref a9, .ref a10, .ref a11, .int (iI x10), .ref a12, .ref a13, .ref a14, .ref a15, .int (iI x11), .int r2, .int r3, .ref a16, .int (iI x12), .int (iI x13), .ref a17, .ref a18, .int (iI x14), .ref a19, .int (iI x15), .int r4, .ref a20, .ref a21, .int (iI x16), .int r5, .ref a22, .int (iI x17), .int (iI x18), .int (iI x19), .int (iI x20)])), (a1, .inl (T 0, 940, .inl (cI f0))), (a2, .inl (T 0, 329, .inl (cI f1))), (a7, .inl (T 1, 12, .inr (.inl h0))), (a20, .inl (T 0, 160, .inl (cI f2)))] sz) := by
  refine e_Z (by decide) (Nat.le_of_ble_eq_true rfl) ?_
  intro p e s m args below meth c A Q ls M hin w ret hl
  have hx := M.1.1
  have hb := M.1.2.1
  have hl : lv_has ls 4 [(0, .ref a0)] := hl
  refine lv_aload_n hx hb dX12_readBookLine_0 rfl (lv_at hl 0 rfl) ?_
  refine lv_bipush (v := iI 13) hx hb dX12_readBookLine_1 (by decide +kernel) ?_
  refine k_I (ce := 0) (sl := 0) (rest := []) (wr := [(a1, .inl (T 0, 940, .inl (cI f0))), (a2, .inl (T 0, 329, .inl (cI f1))), (a7, .inl (T 1, 12, .inr (.inl h0))), (a20, .inl (T 0, 160, .inl (cI f2)))]) (r_V (f := 2) [0] M w V_HookedCityModel_183 G1649 G52 (c42_X12_isWord l D T _ a0 13 r0 a1 x0 x1 x2 x3 x4 x5 r1 x6 x7 x8 y0 x9 a2 a3 a4 a5 a6 a7 a8 a9 a10 a11 x10 a12 a13 a14 a15 x11 r2 r3 a16 x12 x13 a17 a18 x14 a19 x15 r4 a20 a21 x16 r5 a22 x17 x18 x19 x20 (by decide) (by decide) x0_a x0_b x1_a x1_b x2_a x2_b x3_a x3_b x4_a x4_b x5_a x5_b x6_a x6_b x7_a x7_b x8_a x8_b x9_a x9_b x10_a x10_b x11_a x11_b x12_a x12_b x13_a x13_b x14_a x14_b x15_a x15_b x16_a x16_b x17_a x17_b x18_a x18_b x19_a x19_b x20_a x20_b) 0 clX12 rfl rfl (by decide) rfl hl.1 rfl (Nat.le_of_ble_eq_true rfl) dX12_readBookLine_3 (by decide) (by decide) (by decide) (by decide)) w [0] [1, 2, 3, 4] rfl rfl (by decide) (by decide) rfl rfl (fun v z1 H locs hp w => ?_)
  have hv : iI z1 = v := hp.1
  subst hv
  have z1_a : 0 ≤ z1 := hp.2.1
  have z1_b : z1 ≤ 1 := hp.2.2.1
  have pq2 : wdQ z1 x5 y0 (wrdZ 13) := hp.2.2.2
  have w : WD D A s.heap [(a1, .inl (T 0, 940, .inl (cI f0))), (a2, .inl (T 0, 329, .inl (cI f1))), (a7, .inl (T 1, 12, .inr (.inl h0))), (a20, .inl (T 0, 160, .inl (cI f2))), (a0, .inr (11, [.int r0, .ref a1, .int (iI x0), .int (iI x1), .int (iI x2), .int (iI x3), .int (iI x4), .int (iI x5), .int r1, .int (iI x6), .int (iI x7), .int (iI x8), .long y0, .int (iI x9), .ref a2, .ref a3, .ref a4, .ref a5, .ref a6, .ref a7, .ref a8, .ref a9, .ref a10, .ref a11, .int (iI x10), .ref a12, .ref a13, .ref a14, .ref a15, .int (iI x11), .int r2, .int r3, .ref a16, .int (iI x12), .int (iI x13), .ref a17, .ref a18, .int (iI x14), .ref a19, .int (iI x15), .int r4, .ref a20, .ref a21, .int (iI x16), .int r5, .ref a22, .int (iI x17), .int (iI x18), .int (iI x19), .int (iI x20)]))] H locs := w
  refine lv_istore_n (lv' := [(1, .int (iI z1)), (0, .ref a0)]) hx hb dX12_readBookLine_6 rfl hl (by decide) rfl (fun ls hl => ?_)
  refine lv_aload_n hx hb dX12_readBookLine_7 rfl (lv_at hl 1 rfl) ?_
  refine lv_bipush (v := iI 14) hx hb dX12_readBookLine_8 (by decide +kernel) ?_
  refine k_I (ce := 0) (sl := 0) (rest := []) (wr := [(a1, .inl (T 0, 940, .inl (cI f0))), (a2, .inl (T 0, 329, .inl (cI f1))), (a7, .inl (T 1, 12, .inr (.inl h0))), (a20, .inl (T 0, 160, .inl (cI f2)))]) (r_V (f := 2) [4] M w V_HookedCityModel_183 G1649 G52 (c42_X12_isWord l D T _ a0 14 r0 a1 x0 x1 x2 x3 x4 x5 r1 x6 x7 x8 y0 x9 a2 a3 a4 a5 a6 a7 a8 a9 a10 a11 x10 a12 a13 a14 a15 x11 r2 r3 a16 x12 x13 a17 a18 x14 a19 x15 r4 a20 a21 x16 r5 a22 x17 x18 x19 x20 (by decide) (by decide) x0_a x0_b x1_a x1_b x2_a x2_b x3_a x3_b x4_a x4_b x5_a x5_b x6_a x6_b x7_a x7_b x8_a x8_b x9_a x9_b x10_a x10_b x11_a x11_b x12_a x12_b x13_a x13_b x14_a x14_b x15_a x15_b x16_a x16_b x17_a x17_b x18_a x18_b x19_a x19_b x20_a x20_b) 4 clX12 rfl rfl (by decide) rfl hl.1 rfl (Nat.le_of_ble_eq_true rfl) dX12_readBookLine_10 (by decide) (by decide) (by decide) (by decide)) w [4] [0, 1, 2, 3] rfl rfl (by decide) (by decide) rfl rfl (fun v z3 H locs hp w => ?_)
  have hv : iI z3 = v := hp.1
  subst hv
  have z3_a : 0 ≤ z3 := hp.2.1
  have z3_b : z3 ≤ 1 := hp.2.2.1
  have pq4 : wdQ z3 x5 y0 (wrdZ 14) := hp.2.2.2
  have w : WD D A s.heap [(a1, .inl (T 0, 940, .inl (cI f0))), (a2, .inl (T 0, 329, .inl (cI f1))), (a7, .inl (T 1, 12, .inr (.inl h0))), (a20, .inl (T 0, 160, .inl (cI f2))), (a0, .inr (11, [.int r0, .ref a1, .int (iI x0), .int (iI x1), .int (iI x2), .int (iI x3), .int (iI x4), .int (iI x5), .int r1, .int (iI x6), .int (iI x7), .int (iI x8), .long y0, .int (iI x9), .ref a2, .ref a3, .ref a4, .ref a5, .ref a6, .ref a7, .ref a8, .ref a9, .ref a10, .ref a11, .int (iI x10), .ref a12, .ref a13, .ref a14, .ref a15, .int (iI x11), .int r2, .int r3, .ref a16, .int (iI x12), .int (iI x13), .ref a17, .ref a18, .int (iI x14), .ref a19, .int (iI x15), .int r4, .ref a20, .ref a21, .int (iI x16), .int r5, .ref a22, .int (iI x17), .int (iI x18), .int (iI x19), .int (iI x20)]))] H locs := w
  refine lv_istore_n (lv' := [(2, .int (iI z3)), (1, .int (iI z1)), (0, .ref a0)]) hx hb dX12_readBookLine_13 rfl hl (by decide) rfl (fun ls hl => ?_)
  refine lv_iload_n hx hb dX12_readBookLine_14 rfl (lv_at hl 1 rfl) ?_
  refine lv_if_ne (tgt := 64) hx hb dX12_readBookLine_15 (by decide) (fun c_5 => ?_) (fun c_5 => ?_)
  · replace c_5 : ¬ z1 = 0 := fun h => c_5 ((iz_eq (Int.le_trans (by decide) z1_a) (Int.le_trans z1_b (by decide))).mpr h)
    refine lv_aload_n hx hb dX12_readBookLine_64 rfl (lv_at hl 2 rfl) ?_
    refine r_get (v := .int (iI x16)) M w 4 43 clX12 rfl (by decide) G1506 rfl rfl dX12_readBookLine_65 ?_
    refine lv_bipush (v := iI 40) hx hb dX12_readBookLine_68 (by decide +kernel) ?_
    refine lv_icmp_ne (tgt := 79) hx hb dX12_readBookLine_70 (by decide) (fun c_6 => ?_) (fun c_6 => ?_)
    · replace c_6 : ¬ x16 = 40 := fun h => c_6 ((iI_eq (Int.le_trans (by decide) x16_a) (Int.le_trans x16_b (by decide)) (by decide) (by decide)).mpr h)
      refine lv_iconst (v := iI 4) hx hb dX12_readBookLine_79 (by decide +kernel) ?_
      refine lv_aload_n hx hb dX12_readBookLine_80 rfl (lv_at hl 2 rfl) ?_
      refine r_get (v := .int (iI x16)) M w 4 43 clX12 rfl (by decide) G1506 rfl rfl dX12_readBookLine_81 ?_
      refine r_imul (v := iI (4 * x16)) M (iI_mul _ _) dX12_readBookLine_84 ?_
      refine lv_istore_n (lv' := [(3, .int (iI (4 * x16))), (2, .int (iI z3)), (1, .int (iI z1)), (0, .ref a0)]) hx hb dX12_readBookLine_85 rfl hl (by decide) rfl (fun ls hl => ?_)
      refine lv_aload_n hx hb dX12_readBookLine_86 rfl (lv_at hl 3 rfl) ?_
      refine r_get (v := .ref a20) M w 4 41 clX12 rfl (by decide) G1504 rfl rfl dX12_readBookLine_87 ?_
      refine lv_iload_n hx hb dX12_readBookLine_90 rfl (lv_at hl 0 rfl) ?_
      refine lv_iload_n hx hb dX12_readBookLine_91 rfl (lv_at hl 2 rfl) ?_
      refine lv_if_eq (tgt := 99) hx hb dX12_readBookLine_92 (by decide) (fun c_7 => ?_) (fun c_7 => ?_)
      · replace c_7 := (iz_eq (Int.le_trans (by decide) z1_a) (Int.le_trans z1_b (by decide))).mp c_7
        exfalso; omega
      · replace c_7 : ¬ z1 = 0 := fun h => c_7 ((iz_eq (Int.le_trans (by decide) z1_a) (Int.le_trans z1_b (by decide))).mpr h)
        refine lv_iconst (v := iI 2) hx hb dX12_readBookLine_95 (by decide +kernel) ?_
        refine lv_goto (tgt := 100) hx hb dX12_readBookLine_96 (by decide) ?_
        refine r_iast (ws' := [(a1, .inl (T 0, 940, .inl (cI f0))), (a2, .inl (T 0, 329, .inl (cI f1))), (a7, .inl (T 1, 12, .inr (.inl h0))), (a20, .inl (T 0, 160, .inl (cI (upz f2 (4 * x16) 2)))), (a0, .inr (11, [.int r0, .ref a1, .int (iI x0), .int (iI x1), .int (iI x2), .int (iI x3), .int (iI x4), .int (iI x5), .int r1, .int (iI x6), .int (iI x7), .int (iI x8), .long y0, .int (iI x9), .ref a2, .ref a3, .ref a4, .ref a5, .ref a6, .ref a7, .ref a8, .ref a9, .ref a10, .ref a11, .int (iI x10), .ref a12, .ref a13, .ref a14, .ref a15, .int (iI x11), .int r2, .int r3, .ref a16, .int (iI x12), .int (iI x13), .ref a17, .ref a18, .int (iI x14), .ref a19, .int (iI x15), .int r4, .ref a20, .ref a21, .int (iI x16), .int r5, .ref a22, .int (iI x17), .int (iI x18), .int (iI x19), .int (iI x20)]))]) M w 3 rfl (iI_in (by omega) (by omega) (by decide)) (by rw [cI_up (by omega) (by omega)]; rfl) dX12_readBookLine_100 (fun H locs w => ?_)
        refine lv_aload_n hx hb dX12_readBookLine_101 rfl (lv_at hl 3 rfl) ?_
        refine r_get (v := .ref a20) M w 4 41 clX12 rfl (by decide) G1504 rfl rfl dX12_readBookLine_102 ?_
        refine lv_iload_n hx hb dX12_readBookLine_105 rfl (lv_at hl 0 rfl) ?_
        refine lv_iconst (v := iI 1) hx hb dX12_readBookLine_106 (by decide +kernel) ?_
        refine r_iadd (v := iI ((4 * x16) + 1)) M (iI_add _ _) dX12_readBookLine_107 ?_
        refine lv_iload_n hx hb dX12_readBookLine_108 rfl (lv_at hl 2 rfl) ?_
        refine lv_if_ne (tgt := 116) hx hb dX12_readBookLine_109 (by decide) (fun c_8 => ?_) (fun c_8 => ?_)
        · replace c_8 : ¬ z1 = 0 := fun h => c_8 ((iz_eq (Int.le_trans (by decide) z1_a) (Int.le_trans z1_b (by decide))).mpr h)
          refine lv_iconst (v := iI 0) hx hb dX12_readBookLine_116 (by decide +kernel) ?_
          refine lv_goto (tgt := 139) hx hb dX12_readBookLine_117 (by decide) ?_
          refine r_iast (ws' := [(a1, .inl (T 0, 940, .inl (cI f0))), (a2, .inl (T 0, 329, .inl (cI f1))), (a7, .inl (T 1, 12, .inr (.inl h0))), (a20, .inl (T 0, 160, .inl (cI (upz (upz f2 (4 * x16) 2) ((4 * x16) + 1) 0)))), (a0, .inr (11, [.int r0, .ref a1, .int (iI x0), .int (iI x1), .int (iI x2), .int (iI x3), .int (iI x4), .int (iI x5), .int r1, .int (iI x6), .int (iI x7), .int (iI x8), .long y0, .int (iI x9), .ref a2, .ref a3, .ref a4, .ref a5, .ref a6, .ref a7, .ref a8, .ref a9, .ref a10, .ref a11, .int (iI x10), .ref a12, .ref a13, .ref a14, .ref a15, .int (iI x11), .int r2, .int r3, .ref a16, .int (iI x12), .int (iI x13), .ref a17, .ref a18, .int (iI x14), .ref a19, .int (iI x15), .int r4, .ref a20, .ref a21, .int (iI x16), .int r5, .ref a22, .int (iI x17), .int (iI x18), .int (iI x19), .int (iI x20)]))]) M w 3 rfl (iI_in (by omega) (by omega) (by decide)) (by rw [cI_up (by omega) (by omega)]; rfl) dX12_readBookLine_139 (fun H locs w => ?_)
          refine lv_aload_n hx hb dX12_readBookLine_140 rfl (lv_at hl 3 rfl) ?_
          refine r_get (v := .ref a20) M w 4 41 clX12 rfl (by decide) G1504 rfl rfl dX12_readBookLine_141 ?_
          refine lv_iload_n hx hb dX12_readBookLine_144 rfl (lv_at hl 0 rfl) ?_
          refine lv_iconst (v := iI 2) hx hb dX12_readBookLine_145 (by decide +kernel) ?_
          refine r_iadd (v := iI ((4 * x16) + 2)) M (iI_add _ _) dX12_readBookLine_146 ?_
          refine lv_iconst (v := iI 0) hx hb dX12_readBookLine_147 (by decide +kernel) ?_
          refine r_iast (ws' := [(a1, .inl (T 0, 940, .inl (cI f0))), (a2, .inl (T 0, 329, .inl (cI f1))), (a7, .inl (T 1, 12, .inr (.inl h0))), (a20, .inl (T 0, 160, .inl (cI (upz (upz (upz f2 (4 * x16) 2) ((4 * x16) + 1) 0) ((4 * x16) + 2) 0)))), (a0, .inr (11, [.int r0, .ref a1, .int (iI x0), .int (iI x1), .int (iI x2), .int (iI x3), .int (iI x4), .int (iI x5), .int r1, .int (iI x6), .int (iI x7), .int (iI x8), .long y0, .int (iI x9), .ref a2, .ref a3, .ref a4, .ref a5, .ref a6, .ref a7, .ref a8, .ref a9, .ref a10, .ref a11, .int (iI x10), .ref a12, .ref a13, .ref a14, .ref a15, .int (iI x11), .int r2, .int r3, .ref a16, .int (iI x12), .int (iI x13), .ref a17, .ref a18, .int (iI x14), .ref a19, .int (iI x15), .int r4, .ref a20, .ref a21, .int (iI x16), .int r5, .ref a22, .int (iI x17), .int (iI x18), .int (iI x19), .int (iI x20)]))]) M w 3 rfl (iI_in (by omega) (by omega) (by decide)) (by rw [cI_up (by omega) (by omega)]; rfl) dX12_readBookLine_148 (fun H locs w => ?_)
          refine lv_aload_n hx hb dX12_readBookLine_149 rfl (lv_at hl 3 rfl) ?_
          refine r_get (v := .ref a20) M w 4 41 clX12 rfl (by decide) G1504 rfl rfl dX12_readBookLine_150 ?_
          refine lv_iload_n hx hb dX12_readBookLine_153 rfl (lv_at hl 0 rfl) ?_
          refine lv_iconst (v := iI 3) hx hb dX12_readBookLine_154 (by decide +kernel) ?_
          refine r_iadd (v := iI ((4 * x16) + 3)) M (iI_add _ _) dX12_readBookLine_155 ?_
          refine lv_iconst (v := iI 0) hx hb dX12_readBookLine_156 (by decide +kernel) ?_
          refine r_iast (ws' := [(a1, .inl (T 0, 940, .inl (cI f0))), (a2, .inl (T 0, 329, .inl (cI f1))), (a7, .inl (T 1, 12, .inr (.inl h0))), (a20, .inl (T 0, 160, .inl (cI (upz (upz (upz (upz f2 (4 * x16) 2) ((4 * x16) + 1) 0) ((4 * x16) + 2) 0) ((4 * x16) + 3) 0)))), (a0, .inr (11, [.int r0, .ref a1, .int (iI x0), .int (iI x1), .int (iI x2), .int (iI x3), .int (iI x4), .int (iI x5), .int r1, .int (iI x6), .int (iI x7), .int (iI x8), .long y0, .int (iI x9), .ref a2, .ref a3, .ref a4, .ref a5, .ref a6, .ref a7, .ref a8, .ref a9, .ref a10, .ref a11, .int (iI x10), .ref a12, .ref a13, .ref a14, .ref a15, .int (iI x11), .int r2, .int r3, .ref a16, .int (iI x12), .int (iI x13), .ref a17, .ref a18, .int (iI x14), .ref a19, .int (iI x15), .int r4, .ref a20, .ref a21, .int (iI x16), .int r5, .ref a22, .int (iI x17), .int (iI x18), .int (iI x19), .int (iI x20)]))]) M w 3 rfl (iI_in (by omega) (by omega) (by decide)) (by rw [cI_up (by omega) (by omega)]; rfl) dX12_readBookLine_157 (fun H locs w => ?_)
          refine lv_aload_n hx hb dX12_readBookLine_158 rfl (lv_at hl 3 rfl) ?_
          refine k_V (ce := 0) (sl := 0) (rest := []) (wr := [(a2, .inl (T 0, 329, .inl (cI f1))), (a7, .inl (T 1, 12, .inr (.inl h0))), (a20, .inl (T 0, 160, .inl (cI (upz (upz (upz (upz f2 (4 * x16) 2) ((4 * x16) + 1) 0) ((4 * x16) + 2) 0) ((4 * x16) + 3) 0))))]) (r_V (f := 1) [4, 0] M w V_HookedCityModel_82 G1629 G49 (c12_X12_go l D T _ a0 r0 a1 x0 x1 x2 x3 x4 x5 r1 x6 x7 x8 y0 x9 a2 a3 a4 a5 a6 a7 a8 a9 a10 a11 x10 a12 a13 a14 a15 x11 r2 r3 a16 x12 x13 a17 a18 x14 a19 x15 r4 a20 a21 x16 r5 a22 x17 x18 x19 x20 f0 x0_a x0_b x1_a x1_b x2_a x2_b x3_a x3_b x4_a x4_b x5_a x5_b x6_a x6_b x7_a x7_b x8_a x8_b x9_a x9_b x10_a x10_b x11_a x11_b x12_a x12_b x13_a x13_b x14_a x14_b x15_a x15_b x16_a x16_b x17_a x17_b x18_a x18_b x19_a x19_b x20_a x20_b f0_h) 4 clX12 rfl rfl (by decide) rfl hl.1 rfl (Nat.le_of_ble_eq_true rfl) dX12_readBookLine_159 (by decide) (by decide) (by decide) (by decide)) w [4, 0] [1, 2, 3] rfl rfl (by decide) (by decide) rfl rfl (fun u H locs hp w => ?_)
          obtain ⟨z9, z10, z11, fr12, z13, fy14⟩ := u
          have z9_a : 0 ≤ z9 := hp.1
          have z9_b : z9 ≤ 940 := hp.2.1
          have z10_a : 0 ≤ z10 := hp.2.2.1
          have z10_b : z10 ≤ 940 := hp.2.2.2.1
          have z11_a : 0 ≤ z11 := hp.2.2.2.2.1
          have z11_b : z11 ≤ 4 := hp.2.2.2.2.2.1
          have z13_a : (-2147483648) ≤ z13 := hp.2.2.2.2.2.2.1
          have z13_b : z13 ≤ 2147483647 := hp.2.2.2.2.2.2.2.1
          have ee15 : 0 ≤ (z9 - x3) := hp.2.2.2.2.2.2.2.2.1
          have ee16 : 0 ≤ (((z9 - x3) - z11) + 3) := hp.2.2.2.2.2.2.2.2.2.1
          have pq17 : gT (tkAt f0 x1 x2 x3) z11 z10 z9 fy14 fr12 z13 := hp.2.2.2.2.2.2.2.2.2.2
          have w : WD D A s.heap [(a2, .inl (T 0, 329, .inl (cI f1))), (a7, .inl (T 1, 12, .inr (.inl h0))), (a20, .inl (T 0, 160, .inl (cI (upz (upz (upz (upz f2 (4 * x16) 2) ((4 * x16) + 1) 0) ((4 * x16) + 2) 0) ((4 * x16) + 3) 0)))), (a0, .inr (11, [.int r0, .ref a1, .int (iI x0), .int (iI x1), .int (iI x2), .int (iI z9), .int (iI z10), .int (iI z11), .int fr12, .int (iI z13), .int (iI x7), .int (iI x8), .long fy14, .int (iI x9), .ref a2, .ref a3, .ref a4, .ref a5, .ref a6, .ref a7, .ref a8, .ref a9, .ref a10, .ref a11, .int (iI x10), .ref a12, .ref a13, .ref a14, .ref a15, .int (iI x11), .int r2, .int r3, .ref a16, .int (iI x12), .int (iI x13), .ref a17, .ref a18, .int (iI x14), .ref a19, .int (iI x15), .int r4, .ref a20, .ref a21, .int (iI x16), .int r5, .ref a22, .int (iI x17), .int (iI x18), .int (iI x19), .int (iI x20)])), (a1, .inl (T 0, 940, .inl (cI f0)))] H locs := w
          refine lv_iload_n hx hb dX12_readBookLine_162 rfl (lv_at hl 2 rfl) ?_
          refine lv_if_eq (tgt := 193) hx hb dX12_readBookLine_163 (by decide) (fun c_18 => ?_) (fun c_18 => ?_)
          · replace c_18 := (iz_eq (Int.le_trans (by decide) z1_a) (Int.le_trans z1_b (by decide))).mp c_18
            exfalso; omega
          · replace c_18 : ¬ z1 = 0 := fun h => c_18 ((iz_eq (Int.le_trans (by decide) z1_a) (Int.le_trans z1_b (by decide))).mpr h)
            refine lv_aload_n hx hb dX12_readBookLine_166 rfl (lv_at hl 3 rfl) ?_
            refine lv_iload_n hx hb dX12_readBookLine_167 rfl (lv_at hl 0 rfl) ?_
            refine lv_iconst (v := iI 1) hx hb dX12_readBookLine_168 (by decide +kernel) ?_
            refine r_iadd (v := iI ((4 * x16) + 1)) M (iI_add _ _) dX12_readBookLine_169 ?_
            refine lv_aload_n hx hb dX12_readBookLine_170 rfl (lv_at hl 3 rfl) ?_
            refine k_I (ce := 0) (sl := 0) (rest := [.int (iI ((4 * x16) + 1)), .ref a0]) (wr := [(a20, .inl (T 0, 160, .inl (cI (upz (upz (upz (upz f2 (4 * x16) 2) ((4 * x16) + 1) 0) ((4 * x16) + 2) 0) ((4 * x16) + 3) 0))))]) (r_V (f := 3) [3, 4, 0, 1] M w V_HookedCityModel_370 G1989 G104 (c131_X12_readPersonName l D T _ a0 r0 a1 x0 x1 x2 z9 z10 z11 fr12 z13 x7 x8 fy14 x9 a2 a3 a4 a5 a6 a7 a8 a9 a10 a11 x10 a12 a13 a14 a15 x11 r2 r3 a16 x12 x13 a17 a18 x14 a19 x15 r4 a20 a21 x16 r5 a22 x17 x18 x19 x20 f0 f1 h0 x0_a x0_b x1_a x1_b x2_a x2_b z9_a z9_b z10_a z10_b z11_a z11_b z13_a z13_b x7_a x7_b x8_a x8_b x9_a x9_b x10_a x10_b x11_a x11_b x12_a x12_b x13_a x13_b x14_a x14_b x15_a x15_b x16_a x16_b x17_a x17_b x18_a x18_b x19_a x19_b x20_a x20_b f0_h f1_h) 3 clX12 rfl rfl (by decide) rfl hl.1 rfl (Nat.le_of_ble_eq_true rfl) dX12_readBookLine_171 (by decide) (by decide) (by decide) (by decide)) w [3, 4, 0, 1] [2] rfl rfl (by decide) (by decide) rfl rfl (fun v u H locs hp w => ?_)
            obtain ⟨z19, z20, z21, z22, fr23, z24, z25, z26, fy27, z28⟩ := u
            have hv : iI z19 = v := hp.1
            subst hv
            have z19_a : 0 ≤ z19 := hp.2.1
            have z19_b : z19 ≤ 1 := hp.2.2.1
            have z20_a : 0 ≤ z20 := hp.2.2.2.1
            have z20_b : z20 ≤ 940 := hp.2.2.2.2.1
            have z21_a : 0 ≤ z21 := hp.2.2.2.2.2.1
            have z21_b : z21 ≤ 940 := hp.2.2.2.2.2.2.1
            have z22_a : 0 ≤ z22 := hp.2.2.2.2.2.2.2.1
            have z22_b : z22 ≤ 4 := hp.2.2.2.2.2.2.2.2.1
            have z24_a : (-2147483648) ≤ z24 := hp.2.2.2.2.2.2.2.2.2.1
            have z24_b : z24 ≤ 2147483647 := hp.2.2.2.2.2.2.2.2.2.2.1
            have z25_a : (-2147483648) ≤ z25 := hp.2.2.2.2.2.2.2.2.2.2.2.1
            have z25_b : z25 ≤ 2147483647 := hp.2.2.2.2.2.2.2.2.2.2.2.2.1
            have z26_a : 0 ≤ z26 := hp.2.2.2.2.2.2.2.2.2.2.2.2.2.1
            have z26_b : z26 ≤ 940 := hp.2.2.2.2.2.2.2.2.2.2.2.2.2.2.1
            have z28_a : (-2147483648) ≤ z28 := hp.2.2.2.2.2.2.2.2.2.2.2.2.2.2.2.1
            have z28_b : z28 ≤ 2147483647 := hp.2.2.2.2.2.2.2.2.2.2.2.2.2.2.2.2.1
            have ee29 : 0 ≤ (z20 - z9) := hp.2.2.2.2.2.2.2.2.2.2.2.2.2.2.2.2.2.1
            have ee30 : 0 ≤ ((((z20 - z9) - z22) + 4) - z19) := hp.2.2.2.2.2.2.2.2.2.2.2.2.2.2.2.2.2.2.1
            have ee31 : 0 ≤ ((z28 + 4294967296) - (z19 * 4294967296)) := hp.2.2.2.2.2.2.2.2.2.2.2.2.2.2.2.2.2.2.2.1
            have ee32 : 0 ≤ (((8 - z28) + 4294967296) - (z19 * 4294967296)) := hp.2.2.2.2.2.2.2.2.2.2.2.2.2.2.2.2.2.2.2.2.1
            have pq33 : ∀ x : Tk × Int × Int, gT x z11 z10 z9 fy14 fr12 z13 → RV ((sOne (fun _ => f1 0) h0) x) z19 z25 z26 z28 ∧ (z19 = 1 → gT (nx f0 x1 x2 x) z22 z21 z20 fy27 fr23 z24) := hp.2.2.2.2.2.2.2.2.2.2.2.2.2.2.2.2.2.2.2.2.2.1
            have pq34 : kpB z19 x7 z25 := hp.2.2.2.2.2.2.2.2.2.2.2.2.2.2.2.2.2.2.2.2.2.2
            have w : WD D A s.heap [(a20, .inl (T 0, 160, .inl (cI (upz (upz (upz (upz f2 (4 * x16) 2) ((4 * x16) + 1) 0) ((4 * x16) + 2) 0) ((4 * x16) + 3) 0)))), (a0, .inr (11, [.int r0, .ref a1, .int (iI x0), .int (iI x1), .int (iI x2), .int (iI z20), .int (iI z21), .int (iI z22), .int fr23, .int (iI z24), .int (iI z25), .int (iI z26), .long fy27, .int (iI z28), .ref a2, .ref a3, .ref a4, .ref a5, .ref a6, .ref a7, .ref a8, .ref a9, .ref a10, .ref a11, .int (iI x10), .ref a12, .ref a13, .ref a14, .ref a15, .int (iI x11), .int r2, .int r3, .ref a16, .int (iI x12), .int (iI x13), .ref a17, .ref a18, .int (iI x14), .ref a19, .int (iI x15), .int r4, .ref a20, .ref a21, .int (iI x16), .int r5, .ref a22, .int (iI x17), .int (iI x18), .int (iI x19), .int (iI x20)])), (a1, .inl (T 0, 940, .inl (cI f0))), (a2, .inl (T 0, 329, .inl (cI f1))), (a7, .inl (T 1, 12, .inr (.inl h0)))] H locs := w
            refine k_I (ce := 0) (sl := 0) (rest := []) (wr := [(a1, .inl (T 0, 940, .inl (cI f0))), (a2, .inl (T 0, 329, .inl (cI f1))), (a7, .inl (T 1, 12, .inr (.inl h0)))]) (r_V (f := 0) [1, 0] M w V_HookedCityModel_373 G1993 G105 (c132_X12_keep l D T _ a0 ((4 * x16) + 1) z19 r0 a1 x0 x1 x2 z20 z21 z22 fr23 z24 z25 z26 fy27 z28 a2 a3 a4 a5 a6 a7 a8 a9 a10 a11 x10 a12 a13 a14 a15 x11 r2 r3 a16 x12 x13 a17 a18 x14 a19 x15 r4 a20 a21 x16 r5 a22 x17 x18 x19 x20 (upz (upz (upz (upz f2 (4 * x16) 2) ((4 * x16) + 1) 0) ((4 * x16) + 2) 0) ((4 * x16) + 3) 0) (by omega) (by omega) z19_a z19_b x0_a x0_b x1_a x1_b x2_a x2_b z20_a z20_b z21_a z21_b z22_a z22_b z24_a z24_b z25_a z25_b z26_a z26_b z28_a z28_b x10_a x10_b x11_a x11_b x12_a x12_b x13_a x13_b x14_a x14_b x15_a x15_b x16_a x16_b x17_a x17_b x18_a x18_b x19_a x19_b x20_a x20_b (ln_s f2_h (n := x16) (by omega) (by omega) (by unfold lok; omega) ⟨by omega, by omega⟩ rfl) (fun h => ln_x (ln_s f2_h (n := x16) (by omega) (by omega) (by unfold lok; omega) ⟨by omega, by omega⟩ rfl) (n := x16) (by omega) (by omega) (by omega) (by omega) (by omega) (Or.inr ⟨by rw [upz_n (by omega), upz_n (by omega), upz_n (by omega), upz_s], by omega, by omega⟩))) 1 clX12 rfl rfl (by decide) rfl hl.1 rfl (Nat.le_of_ble_eq_true rfl) dX12_readBookLine_174 (by decide) (by decide) (by decide) (by decide)) w [1, 0] [2, 3, 4] rfl rfl (by decide) (by decide) rfl rfl (fun v u H locs hp w => ?_)
            obtain ⟨z35, ff36⟩ := u
            have hv : iI z35 = v := hp.1
            subst hv
            have z35_a : 0 ≤ z35 := hp.2.1
            have z35_b : z35 ≤ 1 := hp.2.2.1
            have ff36_h : lnI ff36 := hp.2.2.2.1
            have ee37 : 0 ≤ (z19 - z35) := hp.2.2.2.2.1
            have ee38 : 0 ≤ (z35 - z19) := hp.2.2.2.2.2.1
            have pq39 : ∀ j : Int, ¬ j = ((4 * x16) + 1) → ff36 j = (upz (upz (upz (upz f2 (4 * x16) 2) ((4 * x16) + 1) 0) ((4 * x16) + 2) 0) ((4 * x16) + 3) 0) j := hp.2.2.2.2.2.2
            have w : WD D A s.heap [(a1, .inl (T 0, 940, .inl (cI f0))), (a2, .inl (T 0, 329, .inl (cI f1))), (a7, .inl (T 1, 12, .inr (.inl h0))), (a0, .inr (11, [.int r0, .ref a1, .int (iI x0), .int (iI x1), .int (iI x2), .int (iI z20), .int (iI z21), .int (iI z22), .int fr23, .int (iI z24), .int (iI z25), .int (iI z26), .long fy27, .int (iI z28), .ref a2, .ref a3, .ref a4, .ref a5, .ref a6, .ref a7, .ref a8, .ref a9, .ref a10, .ref a11, .int (iI x10), .ref a12, .ref a13, .ref a14, .ref a15, .int (iI x11), .int r2, .int r3, .ref a16, .int (iI x12), .int (iI x13), .ref a17, .ref a18, .int (iI x14), .ref a19, .int (iI x15), .int r4, .ref a20, .ref a21, .int (iI x16), .int r5, .ref a22, .int (iI x17), .int (iI x18), .int (iI x19), .int (iI x20)])), (a20, .inl (T 0, 160, .inl (cI ff36)))] H locs := w
            refine lv_if_eq (tgt := 191) hx hb dX12_readBookLine_177 (by decide) (fun c_40 => ?_) (fun c_40 => ?_)
            · replace c_40 := (iz_eq (Int.le_trans (by decide) z35_a) (Int.le_trans z35_b (by decide))).mp c_40
              refine lv_iconst (v := iI 0) hx hb dX12_readBookLine_191 (by decide +kernel) ?_
              exact ret _ (0, z20, z21, z22, fr23, z24, z25, z26, fy27, z28, ff36) _ _ _ _ _ [3, 0, 1, 2, 4] dX12_readBookLine_192 (by decide +kernel) ⟨rfl, (show (0 : Int) ≤ 0 from by decide), (show (0 : Int) ≤ 1 from by decide), z20_a, z20_b, z21_a, z21_b, z22_a, z22_b, z24_a, z24_b, z25_a, z25_b, z26_a, z26_b, z28_a, z28_b, ff36_h, (show 0 ≤ ((z20 - x3) - 0) from by omega), (show 0 ≤ ((79 - x16) - (0 * 40)) from by omega), (show kpB 0 x7 z25 from (fun e => absurd e (by decide))), (show ∀ x : Tk × Int × Int, gT x x5 x4 x3 y0 r1 x6 → RS (bkM f0 x1 x2 (sOne (fun _ => f1 0) h0) (sMn h0 (f1 1)) (x, x16)) 0 z25 z26 (fun y => gT y z22 z21 z20 fy27 fr23 z24) (x16 + 1) from (fun x g => bnS_0 (bl_m (wd_1 g (k := 13) pq2 (by omega)) (by omega) (bp_0 (pq33 _ (gT_nx g pq17)).1 (by omega))) (on := 0) (G := fun _ => True) rfl))⟩ w (by decide) rfl
            · replace c_40 : ¬ z35 = 0 := fun h => c_40 ((iz_eq (Int.le_trans (by decide) z35_a) (Int.le_trans z35_b (by decide))).mpr h)
              refine lv_aload_n hx hb dX12_readBookLine_180 rfl (lv_at hl 3 rfl) ?_
              refine k_I (ce := 0) (sl := 0) (rest := []) (wr := [(a2, .inl (T 0, 329, .inl (cI f1))), (a7, .inl (T 1, 12, .inr (.inl h0))), (a20, .inl (T 0, 160, .inl (cI ff36)))]) (r_V (f := 2) [3, 0] M w V_HookedCityModel_230 G1720 G66 (c47_X12_readEnd l D T _ a0 r0 a1 x0 x1 x2 z20 z21 z22 fr23 z24 z25 z26 fy27 z28 a2 a3 a4 a5 a6 a7 a8 a9 a10 a11 x10 a12 a13 a14 a15 x11 r2 r3 a16 x12 x13 a17 a18 x14 a19 x15 r4 a20 a21 x16 r5 a22 x17 x18 x19 x20 f0 x0_a x0_b x1_a x1_b x2_a x2_b z20_a z20_b z21_a z21_b z22_a z22_b z24_a z24_b z25_a z25_b z26_a z26_b z28_a z28_b x10_a x10_b x11_a x11_b x12_a x12_b x13_a x13_b x14_a x14_b x15_a x15_b x16_a x16_b x17_a x17_b x18_a x18_b x19_a x19_b x20_a x20_b f0_h) 3 clX12 rfl rfl (by decide) rfl hl.1 rfl (Nat.le_of_ble_eq_true rfl) dX12_readBookLine_181 (by decide) (by decide) (by decide) (by decide)) w [3, 0] [1, 2, 4] rfl rfl (by decide) (by decide) rfl rfl (fun v u H locs hp w => ?_)
              obtain ⟨z41, z42, z43, z44, fr45, z46, z47, z48, fy49⟩ := u
              have hv : iI z41 = v := hp.1
              subst hv
              have z41_a : 0 ≤ z41 := hp.2.1
              have z41_b : z41 ≤ 1 := hp.2.2.1
              have z42_a : 0 ≤ z42 := hp.2.2.2.1
              have z42_b : z42 ≤ 940 := hp.2.2.2.2.1
              have z43_a : 0 ≤ z43 := hp.2.2.2.2.2.1
              have z43_b : z43 ≤ 940 := hp.2.2.2.2.2.2.1
              have z44_a : 0 ≤ z44 := hp.2.2.2.2.2.2.2.1
              have z44_b : z44 ≤ 4 := hp.2.2.2.2.2.2.2.2.1
              have z46_a : (-2147483648) ≤ z46 := hp.2.2.2.2.2.2.2.2.2.1
              have z46_b : z46 ≤ 2147483647 := hp.2.2.2.2.2.2.2.2.2.2.1
              have z47_a : (-2147483648) ≤ z47 := hp.2.2.2.2.2.2.2.2.2.2.2.1
              have z47_b : z47 ≤ 2147483647 := hp.2.2.2.2.2.2.2.2.2.2.2.2.1
              have z48_a : 0 ≤ z48 := hp.2.2.2.2.2.2.2.2.2.2.2.2.2.1
              have z48_b : z48 ≤ 940 := hp.2.2.2.2.2.2.2.2.2.2.2.2.2.2.1
              have ee50 : 0 ≤ (z42 - z20) := hp.2.2.2.2.2.2.2.2.2.2.2.2.2.2.2.1
              have ee51 : 0 ≤ (z22 - (z41 * 4)) := hp.2.2.2.2.2.2.2.2.2.2.2.2.2.2.2.2.1
              have pq52 : ∀ x : Tk × Int × Int, gT x z22 z21 z20 fy27 fr23 z24 → enP f0 x1 x2 59 x z41 z47 z48 (fun y => gT y z44 z43 z42 fy49 fr45 z46) := hp.2.2.2.2.2.2.2.2.2.2.2.2.2.2.2.2.2.1
              have pq53 : kpB z41 z25 z47 := hp.2.2.2.2.2.2.2.2.2.2.2.2.2.2.2.2.2.2
              have w : WD D A s.heap [(a2, .inl (T 0, 329, .inl (cI f1))), (a7, .inl (T 1, 12, .inr (.inl h0))), (a20, .inl (T 0, 160, .inl (cI ff36))), (a0, .inr (11, [.int r0, .ref a1, .int (iI x0), .int (iI x1), .int (iI x2), .int (iI z42), .int (iI z43), .int (iI z44), .int fr45, .int (iI z46), .int (iI z47), .int (iI z48), .long fy49, .int (iI z28), .ref a2, .ref a3, .ref a4, .ref a5, .ref a6, .ref a7, .ref a8, .ref a9, .ref a10, .ref a11, .int (iI x10), .ref a12, .ref a13, .ref a14, .ref a15, .int (iI x11), .int r2, .int r3, .ref a16, .int (iI x12), .int (iI x13), .ref a17, .ref a18, .int (iI x14), .ref a19, .int (iI x15), .int r4, .ref a20, .ref a21, .int (iI x16), .int r5, .ref a22, .int (iI x17), .int (iI x18), .int (iI x19), .int (iI x20)])), (a1, .inl (T 0, 940, .inl (cI f0)))] H locs := w
              refine lv_if_eq (tgt := 191) hx hb dX12_readBookLine_184 (by decide) (fun c_54 => ?_) (fun c_54 => ?_)
              · replace c_54 := (iz_eq (Int.le_trans (by decide) z41_a) (Int.le_trans z41_b (by decide))).mp c_54
                refine lv_iconst (v := iI 0) hx hb dX12_readBookLine_191 (by decide +kernel) ?_
                exact ret _ (0, z42, z43, z44, fr45, z46, z47, z48, fy49, z28, ff36) _ _ _ _ _ [3, 4, 0, 1, 2] dX12_readBookLine_192 (by decide +kernel) ⟨rfl, (show (0 : Int) ≤ 0 from by decide), (show (0 : Int) ≤ 1 from by decide), z42_a, z42_b, z43_a, z43_b, z44_a, z44_b, z46_a, z46_b, z47_a, z47_b, z48_a, z48_b, z28_a, z28_b, ff36_h, (show 0 ≤ ((z42 - x3) - 0) from by omega), (show 0 ≤ ((79 - x16) - (0 * 40)) from by omega), (show kpB 0 x7 z47 from (fun e => absurd e (by decide))), (show ∀ x : Tk × Int × Int, gT x x5 x4 x3 y0 r1 x6 → RS (bkM f0 x1 x2 (sOne (fun _ => f1 0) h0) (sMn h0 (f1 1)) (x, x16)) 0 z47 z48 (fun y => gT y z44 z43 z42 fy49 fr45 z46) (x16 + 1) from (fun x g => RS_e (bnS_1 (bl_m (wd_1 g (k := 13) pq2 (by omega)) (by omega) (bp_1 (pq33 _ (gT_nx g pq17)).1 (by omega) ((pq33 _ (gT_nx g pq17)).2 (by omega)) (fa' := 0) (pl' := 0))) rfl (be_x pq52)) (by omega)))⟩ w (by decide) rfl
              · replace c_54 : ¬ z41 = 0 := fun h => c_54 ((iz_eq (Int.le_trans (by decide) z41_a) (Int.le_trans z41_b (by decide))).mpr h)
                refine lv_iconst (v := iI 1) hx hb dX12_readBookLine_187 (by decide +kernel) ?_
                refine lv_goto (tgt := 192) hx hb dX12_readBookLine_188 (by decide) ?_
                exact ret _ (1, z42, z43, z44, fr45, z46, z47, z48, fy49, z28, ff36) _ _ _ _ _ [3, 4, 0, 1, 2] dX12_readBookLine_192 (by decide +kernel) ⟨rfl, (show (0 : Int) ≤ 1 from by decide), (show (1 : Int) ≤ 1 from by decide), z42_a, z42_b, z43_a, z43_b, z44_a, z44_b, z46_a, z46_b, z47_a, z47_b, z48_a, z48_b, z28_a, z28_b, ff36_h, (show 0 ≤ ((z42 - x3) - 1) from by omega), (show 0 ≤ ((79 - x16) - (1 * 40)) from by omega), (show kpB 1 x7 z47 from (fun hr => by have y3 := pq34 (by omega); have y5 := pq53 (by omega); omega)), (show ∀ x : Tk × Int × Int, gT x x5 x4 x3 y0 r1 x6 → RS (bkM f0 x1 x2 (sOne (fun _ => f1 0) h0) (sMn h0 (f1 1)) (x, x16)) 1 z47 z48 (fun y => gT y z44 z43 z42 fy49 fr45 z46) (x16 + 1) from (fun x g => RS_e (bnS_1 (bl_m (wd_1 g (k := 13) pq2 (by omega)) (by omega) (bp_1 (pq33 _ (gT_nx g pq17)).1 (by omega) ((pq33 _ (gT_nx g pq17)).2 (by omega)) (fa' := 0) (pl' := 0))) rfl (be_x pq52)) (by omega)))⟩ w (by decide) rfl
        · replace c_8 := (iz_eq (Int.le_trans (by decide) z1_a) (Int.le_trans z1_b (by decide))).mp c_8
          exfalso; omega
    · replace c_6 := (iI_eq (Int.le_trans (by decide) x16_a) (Int.le_trans x16_b (by decide)) (by decide) (by decide)).mp c_6
      refine lv_aload_n hx hb dX12_readBookLine_73 rfl (lv_at hl 2 rfl) ?_
      refine lv_iconst (v := iI 4) hx hb dX12_readBookLine_74 (by decide +kernel) ?_
      refine k_I (ce := 0) (sl := 0) (rest := []) (wr := [(a1, .inl (T 0, 940, .inl (cI f0))), (a2, .inl (T 0, 329, .inl (cI f1))), (a7, .inl (T 1, 12, .inr (.inl h0))), (a20, .inl (T 0, 160, .inl (cI f2)))]) (r_V (f := 0) [4] M w V_HookedCityModel_72 G1667 G55 (c45_X12_bad l D T _ a0 4 r0 a1 x0 x1 x2 x3 x4 x5 r1 x6 x7 x8 y0 x9 a2 a3 a4 a5 a6 a7 a8 a9 a10 a11 x10 a12 a13 a14 a15 x11 r2 r3 a16 x12 x13 a17 a18 x14 a19 x15 r4 a20 a21 x16 r5 a22 x17 x18 x19 x20 (by decide) (by decide) x0_a x0_b x1_a x1_b x2_a x2_b x3_a x3_b x4_a x4_b x5_a x5_b x6_a x6_b x7_a x7_b x8_a x8_b x9_a x9_b x10_a x10_b x11_a x11_b x12_a x12_b x13_a x13_b x14_a x14_b x15_a x15_b x16_a x16_b x17_a x17_b x18_a x18_b x19_a x19_b x20_a x20_b) 4 clX12 rfl rfl (by decide) rfl hl.1 rfl (Nat.le_of_ble_eq_true rfl) dX12_readBookLine_75 (by decide) (by decide) (by decide) (by decide)) w [4] [0, 1, 2, 3] rfl rfl (by decide) (by decide) rfl rfl (fun v u H locs hp w => ?_)
      obtain ⟨z55, z56, z57⟩ := u
      have hv : iI z55 = v := hp.1
      subst hv
      have z55_a : 0 ≤ z55 := hp.2.1
      have z55_b : z55 ≤ 1 := hp.2.2.1
      have z56_a : (-2147483648) ≤ z56 := hp.2.2.2.1
      have z56_b : z56 ≤ 2147483647 := hp.2.2.2.2.1
      have z57_a : 0 ≤ z57 := hp.2.2.2.2.2.1
      have z57_b : z57 ≤ 940 := hp.2.2.2.2.2.2.1
      have pq58 : baQ x5 4 z56 := hp.2.2.2.2.2.2.2.1
      have pq59 : z57 = x4 := hp.2.2.2.2.2.2.2.2.1
      have w : WD D A s.heap [(a1, .inl (T 0, 940, .inl (cI f0))), (a2, .inl (T 0, 329, .inl (cI f1))), (a7, .inl (T 1, 12, .inr (.inl h0))), (a20, .inl (T 0, 160, .inl (cI f2))), (a0, .inr (11, [.int r0, .ref a1, .int (iI x0), .int (iI x1), .int (iI x2), .int (iI x3), .int (iI x4), .int (iI x5), .int r1, .int (iI x6), .int (iI z56), .int (iI z57), .long y0, .int (iI x9), .ref a2, .ref a3, .ref a4, .ref a5, .ref a6, .ref a7, .ref a8, .ref a9, .ref a10, .ref a11, .int (iI x10), .ref a12, .ref a13, .ref a14, .ref a15, .int (iI x11), .int r2, .int r3, .ref a16, .int (iI x12), .int (iI x13), .ref a17, .ref a18, .int (iI x14), .ref a19, .int (iI x15), .int r4, .ref a20, .ref a21, .int (iI x16), .int r5, .ref a22, .int (iI x17), .int (iI x18), .int (iI x19), .int (iI x20)]))] H locs := w
      rcases hp.2.2.2.2.2.2.2.2.2 with hr
      · subst hr
        exact ret _ (0, x3, x4, x5, r1, x6, z56, z57, y0, x9, f2) _ _ _ _ _ [4, 0, 1, 2, 3] dX12_readBookLine_78 (by decide +kernel) ⟨rfl, (show (0 : Int) ≤ 0 from by decide), (show (0 : Int) ≤ 1 from by decide), x3_a, x3_b, x4_a, x4_b, x5_a, x5_b, x6_a, x6_b, z56_a, z56_b, z57_a, z57_b, x9_a, x9_b, f2_h, (show 0 ≤ ((x3 - x3) - 0) from by omega), (show 0 ≤ ((79 - x16) - (0 * 40)) from by omega), (show kpB 0 x7 z56 from (fun e => absurd e (by decide))), (show ∀ x : Tk × Int × Int, gT x x5 x4 x3 y0 r1 x6 → RS (bkM f0 x1 x2 (sOne (fun _ => f1 0) h0) (sMn h0 (f1 1)) (x, x16)) 0 z56 z57 (fun y => gT y x5 x4 x3 y0 r1 x6) (x16 + 1) from (by intro x g; have hq9 : isW x.1 13 ∨ isW x.1 14 := (by by_cases c9 : z1 = 0; exact Or.inr (wd_1 g (k := 14) pq4 (by omega)); exact Or.inl (wd_1 g (k := 13) pq2 (by omega))); exact bnS_0 (G := fun _ => True) (on := 0) (bl_4 hq9 (by omega) (bad_w g (by rcases hq9 with h | h; exact wd_nb h; exact wd_nb h) pq58) (pq59.trans g.1)) rfl))⟩ w (by decide) rfl
  · replace c_5 := (iz_eq (Int.le_trans (by decide) z1_a) (Int.le_trans z1_b (by decide))).mp c_5
    refine lv_iload_n hx hb dX12_readBookLine_18 rfl (lv_at hl 0 rfl) ?_
    refine lv_if_ne (tgt := 64) hx hb dX12_readBookLine_19 (by decide) (fun c_60 => ?_) (fun c_60 => ?_)
    · replace c_60 : ¬ z3 = 0 := fun h => c_60 ((iz_eq (Int.le_trans (by decide) z3_a) (Int.le_trans z3_b (by decide))).mpr h)
      refine lv_aload_n hx hb dX12_readBookLine_64 rfl (lv_at hl 2 rfl) ?_
      refine r_get (v := .int (iI x16)) M w 4 43 clX12 rfl (by decide) G1506 rfl rfl dX12_readBookLine_65 ?_
      refine lv_bipush (v := iI 40) hx hb dX12_readBookLine_68 (by decide +kernel) ?_
      refine lv_icmp_ne (tgt := 79) hx hb dX12_readBookLine_70 (by decide) (fun c_61 => ?_) (fun c_61 => ?_)
      · replace c_61 : ¬ x16 = 40 := fun h => c_61 ((iI_eq (Int.le_trans (by decide) x16_a) (Int.le_trans x16_b (by decide)) (by decide) (by decide)).mpr h)
        refine lv_iconst (v := iI 4) hx hb dX12_readBookLine_79 (by decide +kernel) ?_
        refine lv_aload_n hx hb dX12_readBookLine_80 rfl (lv_at hl 2 rfl) ?_
        refine r_get (v := .int (iI x16)) M w 4 43 clX12 rfl (by decide) G1506 rfl rfl dX12_readBookLine_81 ?_
        refine r_imul (v := iI (4 * x16)) M (iI_mul _ _) dX12_readBookLine_84 ?_
        refine lv_istore_n (lv' := [(3, .int (iI (4 * x16))), (2, .int (iI z3)), (1, .int (iI z1)), (0, .ref a0)]) hx hb dX12_readBookLine_85 rfl hl (by decide) rfl (fun ls hl => ?_)
        refine lv_aload_n hx hb dX12_readBookLine_86 rfl (lv_at hl 3 rfl) ?_
        refine r_get (v := .ref a20) M w 4 41 clX12 rfl (by decide) G1504 rfl rfl dX12_readBookLine_87 ?_
        refine lv_iload_n hx hb dX12_readBookLine_90 rfl (lv_at hl 0 rfl) ?_
        refine lv_iload_n hx hb dX12_readBookLine_91 rfl (lv_at hl 2 rfl) ?_
        refine lv_if_eq (tgt := 99) hx hb dX12_readBookLine_92 (by decide) (fun c_62 => ?_) (fun c_62 => ?_)
        · replace c_62 := (iz_eq (Int.le_trans (by decide) z1_a) (Int.le_trans z1_b (by decide))).mp c_62
          refine lv_iconst (v := iI 3) hx hb dX12_readBookLine_99 (by decide +kernel) ?_
          refine r_iast (ws' := [(a1, .inl (T 0, 940, .inl (cI f0))), (a2, .inl (T 0, 329, .inl (cI f1))), (a7, .inl (T 1, 12, .inr (.inl h0))), (a20, .inl (T 0, 160, .inl (cI (upz f2 (4 * x16) 3)))), (a0, .inr (11, [.int r0, .ref a1, .int (iI x0), .int (iI x1), .int (iI x2), .int (iI x3), .int (iI x4), .int (iI x5), .int r1, .int (iI x6), .int (iI x7), .int (iI x8), .long y0, .int (iI x9), .ref a2, .ref a3, .ref a4, .ref a5, .ref a6, .ref a7, .ref a8, .ref a9, .ref a10, .ref a11, .int (iI x10), .ref a12, .ref a13, .ref a14, .ref a15, .int (iI x11), .int r2, .int r3, .ref a16, .int (iI x12), .int (iI x13), .ref a17, .ref a18, .int (iI x14), .ref a19, .int (iI x15), .int r4, .ref a20, .ref a21, .int (iI x16), .int r5, .ref a22, .int (iI x17), .int (iI x18), .int (iI x19), .int (iI x20)]))]) M w 3 rfl (iI_in (by omega) (by omega) (by decide)) (by rw [cI_up (by omega) (by omega)]; rfl) dX12_readBookLine_100 (fun H locs w => ?_)
          refine lv_aload_n hx hb dX12_readBookLine_101 rfl (lv_at hl 3 rfl) ?_
          refine r_get (v := .ref a20) M w 4 41 clX12 rfl (by decide) G1504 rfl rfl dX12_readBookLine_102 ?_
          refine lv_iload_n hx hb dX12_readBookLine_105 rfl (lv_at hl 0 rfl) ?_
          refine lv_iconst (v := iI 1) hx hb dX12_readBookLine_106 (by decide +kernel) ?_
          refine r_iadd (v := iI ((4 * x16) + 1)) M (iI_add _ _) dX12_readBookLine_107 ?_
          refine lv_iload_n hx hb dX12_readBookLine_108 rfl (lv_at hl 2 rfl) ?_
          refine lv_if_ne (tgt := 116) hx hb dX12_readBookLine_109 (by decide) (fun c_63 => ?_) (fun c_63 => ?_)
          · replace c_63 : ¬ z1 = 0 := fun h => c_63 ((iz_eq (Int.le_trans (by decide) z1_a) (Int.le_trans z1_b (by decide))).mpr h)
            exfalso; omega
          · replace c_63 := (iz_eq (Int.le_trans (by decide) z1_a) (Int.le_trans z1_b (by decide))).mp c_63
            refine lv_iload_n hx hb dX12_readBookLine_112 rfl (lv_at hl 1 rfl) ?_
            refine lv_if_eq (tgt := 120) hx hb dX12_readBookLine_113 (by decide) (fun c_64 => ?_) (fun c_64 => ?_)
            · replace c_64 := (iz_eq (Int.le_trans (by decide) z3_a) (Int.le_trans z3_b (by decide))).mp c_64
              exfalso; omega
            · replace c_64 : ¬ z3 = 0 := fun h => c_64 ((iz_eq (Int.le_trans (by decide) z3_a) (Int.le_trans z3_b (by decide))).mpr h)
              refine lv_iconst (v := iI 0) hx hb dX12_readBookLine_116 (by decide +kernel) ?_
              refine lv_goto (tgt := 139) hx hb dX12_readBookLine_117 (by decide) ?_
              refine r_iast (ws' := [(a1, .inl (T 0, 940, .inl (cI f0))), (a2, .inl (T 0, 329, .inl (cI f1))), (a7, .inl (T 1, 12, .inr (.inl h0))), (a20, .inl (T 0, 160, .inl (cI (upz (upz f2 (4 * x16) 3) ((4 * x16) + 1) 0)))), (a0, .inr (11, [.int r0, .ref a1, .int (iI x0), .int (iI x1), .int (iI x2), .int (iI x3), .int (iI x4), .int (iI x5), .int r1, .int (iI x6), .int (iI x7), .int (iI x8), .long y0, .int (iI x9), .ref a2, .ref a3, .ref a4, .ref a5, .ref a6, .ref a7, .ref a8, .ref a9, .ref a10, .ref a11, .int (iI x10), .ref a12, .ref a13, .ref a14, .ref a15, .int (iI x11), .int r2, .int r3, .ref a16, .int (iI x12), .int (iI x13), .ref a17, .ref a18, .int (iI x14), .ref a19, .int (iI x15), .int r4, .ref a20, .ref a21, .int (iI x16), .int r5, .ref a22, .int (iI x17), .int (iI x18), .int (iI x19), .int (iI x20)]))]) M w 3 rfl (iI_in (by omega) (by omega) (by decide)) (by rw [cI_up (by omega) (by omega)]; rfl) dX12_readBookLine_139 (fun H locs w => ?_)
              refine lv_aload_n hx hb dX12_readBookLine_140 rfl (lv_at hl 3 rfl) ?_
              refine r_get (v := .ref a20) M w 4 41 clX12 rfl (by decide) G1504 rfl rfl dX12_readBookLine_141 ?_
              refine lv_iload_n hx hb dX12_readBookLine_144 rfl (lv_at hl 0 rfl) ?_
              refine lv_iconst (v := iI 2) hx hb dX12_readBookLine_145 (by decide +kernel) ?_
              refine r_iadd (v := iI ((4 * x16) + 2)) M (iI_add _ _) dX12_readBookLine_146 ?_
              refine lv_iconst (v := iI 0) hx hb dX12_readBookLine_147 (by decide +kernel) ?_
              refine r_iast (ws' := [(a1, .inl (T 0, 940, .inl (cI f0))), (a2, .inl (T 0, 329, .inl (cI f1))), (a7, .inl (T 1, 12, .inr (.inl h0))), (a20, .inl (T 0, 160, .inl (cI (upz (upz (upz f2 (4 * x16) 3) ((4 * x16) + 1) 0) ((4 * x16) + 2) 0)))), (a0, .inr (11, [.int r0, .ref a1, .int (iI x0), .int (iI x1), .int (iI x2), .int (iI x3), .int (iI x4), .int (iI x5), .int r1, .int (iI x6), .int (iI x7), .int (iI x8), .long y0, .int (iI x9), .ref a2, .ref a3, .ref a4, .ref a5, .ref a6, .ref a7, .ref a8, .ref a9, .ref a10, .ref a11, .int (iI x10), .ref a12, .ref a13, .ref a14, .ref a15, .int (iI x11), .int r2, .int r3, .ref a16, .int (iI x12), .int (iI x13), .ref a17, .ref a18, .int (iI x14), .ref a19, .int (iI x15), .int r4, .ref a20, .ref a21, .int (iI x16), .int r5, .ref a22, .int (iI x17), .int (iI x18), .int (iI x19), .int (iI x20)]))]) M w 3 rfl (iI_in (by omega) (by omega) (by decide)) (by rw [cI_up (by omega) (by omega)]; rfl) dX12_readBookLine_148 (fun H locs w => ?_)
              refine lv_aload_n hx hb dX12_readBookLine_149 rfl (lv_at hl 3 rfl) ?_
              refine r_get (v := .ref a20) M w 4 41 clX12 rfl (by decide) G1504 rfl rfl dX12_readBookLine_150 ?_
              refine lv_iload_n hx hb dX12_readBookLine_153 rfl (lv_at hl 0 rfl) ?_
              refine lv_iconst (v := iI 3) hx hb dX12_readBookLine_154 (by decide +kernel) ?_
              refine r_iadd (v := iI ((4 * x16) + 3)) M (iI_add _ _) dX12_readBookLine_155 ?_
              refine lv_iconst (v := iI 0) hx hb dX12_readBookLine_156 (by decide +kernel) ?_
              refine r_iast (ws' := [(a1, .inl (T 0, 940, .inl (cI f0))), (a2, .inl (T 0, 329, .inl (cI f1))), (a7, .inl (T 1, 12, .inr (.inl h0))), (a20, .inl (T 0, 160, .inl (cI (upz (upz (upz (upz f2 (4 * x16) 3) ((4 * x16) + 1) 0) ((4 * x16) + 2) 0) ((4 * x16) + 3) 0)))), (a0, .inr (11, [.int r0, .ref a1, .int (iI x0), .int (iI x1), .int (iI x2), .int (iI x3), .int (iI x4), .int (iI x5), .int r1, .int (iI x6), .int (iI x7), .int (iI x8), .long y0, .int (iI x9), .ref a2, .ref a3, .ref a4, .ref a5, .ref a6, .ref a7, .ref a8, .ref a9, .ref a10, .ref a11, .int (iI x10), .ref a12, .ref a13, .ref a14, .ref a15, .int (iI x11), .int r2, .int r3, .ref a16, .int (iI x12), .int (iI x13), .ref a17, .ref a18, .int (iI x14), .ref a19, .int (iI x15), .int r4, .ref a20, .ref a21, .int (iI x16), .int r5, .ref a22, .int (iI x17), .int (iI x18), .int (iI x19), .int (iI x20)]))]) M w 3 rfl (iI_in (by omega) (by omega) (by decide)) (by rw [cI_up (by omega) (by omega)]; rfl) dX12_readBookLine_157 (fun H locs w => ?_)
              refine lv_aload_n hx hb dX12_readBookLine_158 rfl (lv_at hl 3 rfl) ?_
              refine k_V (ce := 0) (sl := 0) (rest := []) (wr := [(a2, .inl (T 0, 329, .inl (cI f1))), (a7, .inl (T 1, 12, .inr (.inl h0))), (a20, .inl (T 0, 160, .inl (cI (upz (upz (upz (upz f2 (4 * x16) 3) ((4 * x16) + 1) 0) ((4 * x16) + 2) 0) ((4 * x16) + 3) 0))))]) (r_V (f := 1) [4, 0] M w V_HookedCityModel_82 G1629 G49 (c12_X12_go l D T _ a0 r0 a1 x0 x1 x2 x3 x4 x5 r1 x6 x7 x8 y0 x9 a2 a3 a4 a5 a6 a7 a8 a9 a10 a11 x10 a12 a13 a14 a15 x11 r2 r3 a16 x12 x13 a17 a18 x14 a19 x15 r4 a20 a21 x16 r5 a22 x17 x18 x19 x20 f0 x0_a x0_b x1_a x1_b x2_a x2_b x3_a x3_b x4_a x4_b x5_a x5_b x6_a x6_b x7_a x7_b x8_a x8_b x9_a x9_b x10_a x10_b x11_a x11_b x12_a x12_b x13_a x13_b x14_a x14_b x15_a x15_b x16_a x16_b x17_a x17_b x18_a x18_b x19_a x19_b x20_a x20_b f0_h) 4 clX12 rfl rfl (by decide) rfl hl.1 rfl (Nat.le_of_ble_eq_true rfl) dX12_readBookLine_159 (by decide) (by decide) (by decide) (by decide)) w [4, 0] [1, 2, 3] rfl rfl (by decide) (by decide) rfl rfl (fun u H locs hp w => ?_)
              obtain ⟨z65, z66, z67, fr68, z69, fy70⟩ := u
              have z65_a : 0 ≤ z65 := hp.1
              have z65_b : z65 ≤ 940 := hp.2.1
              have z66_a : 0 ≤ z66 := hp.2.2.1
              have z66_b : z66 ≤ 940 := hp.2.2.2.1
              have z67_a : 0 ≤ z67 := hp.2.2.2.2.1
              have z67_b : z67 ≤ 4 := hp.2.2.2.2.2.1
              have z69_a : (-2147483648) ≤ z69 := hp.2.2.2.2.2.2.1
              have z69_b : z69 ≤ 2147483647 := hp.2.2.2.2.2.2.2.1
              have ee71 : 0 ≤ (z65 - x3) := hp.2.2.2.2.2.2.2.2.1
              have ee72 : 0 ≤ (((z65 - x3) - z67) + 3) := hp.2.2.2.2.2.2.2.2.2.1
              have pq73 : gT (tkAt f0 x1 x2 x3) z67 z66 z65 fy70 fr68 z69 := hp.2.2.2.2.2.2.2.2.2.2
              have w : WD D A s.heap [(a2, .inl (T 0, 329, .inl (cI f1))), (a7, .inl (T 1, 12, .inr (.inl h0))), (a20, .inl (T 0, 160, .inl (cI (upz (upz (upz (upz f2 (4 * x16) 3) ((4 * x16) + 1) 0) ((4 * x16) + 2) 0) ((4 * x16) + 3) 0)))), (a0, .inr (11, [.int r0, .ref a1, .int (iI x0), .int (iI x1), .int (iI x2), .int (iI z65), .int (iI z66), .int (iI z67), .int fr68, .int (iI z69), .int (iI x7), .int (iI x8), .long fy70, .int (iI x9), .ref a2, .ref a3, .ref a4, .ref a5, .ref a6, .ref a7, .ref a8, .ref a9, .ref a10, .ref a11, .int (iI x10), .ref a12, .ref a13, .ref a14, .ref a15, .int (iI x11), .int r2, .int r3, .ref a16, .int (iI x12), .int (iI x13), .ref a17, .ref a18, .int (iI x14), .ref a19, .int (iI x15), .int r4, .ref a20, .ref a21, .int (iI x16), .int r5, .ref a22, .int (iI x17), .int (iI x18), .int (iI x19), .int (iI x20)])), (a1, .inl (T 0, 940, .inl (cI f0)))] H locs := w
              refine lv_iload_n hx hb dX12_readBookLine_162 rfl (lv_at hl 2 rfl) ?_
              refine lv_if_eq (tgt := 193) hx hb dX12_readBookLine_163 (by decide) (fun c_74 => ?_) (fun c_74 => ?_)
              · replace c_74 := (iz_eq (Int.le_trans (by decide) z1_a) (Int.le_trans z1_b (by decide))).mp c_74
                refine lv_iload_n hx hb dX12_readBookLine_193 rfl (lv_at hl 1 rfl) ?_
                refine lv_if_eq (tgt := 217) hx hb dX12_readBookLine_194 (by decide) (fun c_75 => ?_) (fun c_75 => ?_)
                · replace c_75 := (iz_eq (Int.le_trans (by decide) z3_a) (Int.le_trans z3_b (by decide))).mp c_75
                  exfalso; omega
                · replace c_75 : ¬ z3 = 0 := fun h => c_75 ((iz_eq (Int.le_trans (by decide) z3_a) (Int.le_trans z3_b (by decide))).mpr h)
                  refine lv_aload_n hx hb dX12_readBookLine_197 rfl (lv_at hl 3 rfl) ?_
                  refine lv_iload_n hx hb dX12_readBookLine_198 rfl (lv_at hl 0 rfl) ?_
                  refine lv_iconst (v := iI 1) hx hb dX12_readBookLine_199 (by decide +kernel) ?_
                  refine r_iadd (v := iI ((4 * x16) + 1)) M (iI_add _ _) dX12_readBookLine_200 ?_
                  refine lv_aload_n hx hb dX12_readBookLine_201 rfl (lv_at hl 3 rfl) ?_
                  refine lv_iconst (v := iI 1) hx hb dX12_readBookLine_202 (by decide +kernel) ?_
                  refine lv_bipush (v := iI 60) hx hb dX12_readBookLine_203 (by decide +kernel) ?_
                  refine k_I (ce := 0) (sl := 0) (rest := [.int (iI ((4 * x16) + 1)), .ref a0]) (wr := [(a2, .inl (T 0, 329, .inl (cI f1))), (a7, .inl (T 1, 12, .inr (.inl h0))), (a20, .inl (T 0, 160, .inl (cI (upz (upz (upz (upz f2 (4 * x16) 3) ((4 * x16) + 1) 0) ((4 * x16) + 2) 0) ((4 * x16) + 3) 0))))]) (r_V (f := 2) [3, 4] M w V_HookedCityModel_200 G1690 G60 (c46_X12_readNumber l D T _ a0 1 60 r0 a1 x0 x1 x2 z65 z66 z67 fr68 z69 x7 x8 fy70 x9 a2 a3 a4 a5 a6 a7 a8 a9 a10 a11 x10 a12 a13 a14 a15 x11 r2 r3 a16 x12 x13 a17 a18 x14 a19 x15 r4 a20 a21 x16 r5 a22 x17 x18 x19 x20 f0 (by decide) (by decide) (by decide) (by decide) x0_a x0_b x1_a x1_b x2_a x2_b z65_a z65_b z66_a z66_b z67_a z67_b z69_a z69_b x7_a x7_b x8_a x8_b x9_a x9_b x10_a x10_b x11_a x11_b x12_a x12_b x13_a x13_b x14_a x14_b x15_a x15_b x16_a x16_b x17_a x17_b x18_a x18_b x19_a x19_b x20_a x20_b f0_h) 3 clX12 rfl rfl (by decide) rfl hl.1 rfl (Nat.le_of_ble_eq_true rfl) dX12_readBookLine_205 (by decide) (by decide) (by decide) (by decide)) w [3, 4] [0, 1, 2] rfl rfl (by decide) (by decide) rfl rfl (fun v u H locs hp w => ?_)
                  obtain ⟨z76, z77, z78, z79, fr80, z81, z82, z83, fy84, z85⟩ := u
                  have hv : iI z76 = v := hp.1
                  subst hv
                  have z76_a : 0 ≤ z76 := hp.2.1
                  have z76_b : z76 ≤ 1 := hp.2.2.1
                  have z77_a : 0 ≤ z77 := hp.2.2.2.1
                  have z77_b : z77 ≤ 940 := hp.2.2.2.2.1
                  have z78_a : 0 ≤ z78 := hp.2.2.2.2.2.1
                  have z78_b : z78 ≤ 940 := hp.2.2.2.2.2.2.1
                  have z79_a : 0 ≤ z79 := hp.2.2.2.2.2.2.2.1
                  have z79_b : z79 ≤ 4 := hp.2.2.2.2.2.2.2.2.1
                  have z81_a : (-2147483648) ≤ z81 := hp.2.2.2.2.2.2.2.2.2.1
                  have z81_b : z81 ≤ 2147483647 := hp.2.2.2.2.2.2.2.2.2.2.1
                  have z82_a : (-2147483648) ≤ z82 := hp.2.2.2.2.2.2.2.2.2.2.2.1
                  have z82_b : z82 ≤ 2147483647 := hp.2.2.2.2.2.2.2.2.2.2.2.2.1
                  have z83_a : 0 ≤ z83 := hp.2.2.2.2.2.2.2.2.2.2.2.2.2.1
                  have z83_b : z83 ≤ 940 := hp.2.2.2.2.2.2.2.2.2.2.2.2.2.2.1
                  have z85_a : (-2147483648) ≤ z85 := hp.2.2.2.2.2.2.2.2.2.2.2.2.2.2.2.1
                  have z85_b : z85 ≤ 2147483647 := hp.2.2.2.2.2.2.2.2.2.2.2.2.2.2.2.2.1
                  have ee86 : 0 ≤ (z77 - z65) := hp.2.2.2.2.2.2.2.2.2.2.2.2.2.2.2.2.2.1
                  have ee87 : 0 ≤ ((((z77 - z65) - z79) + 4) - z76) := hp.2.2.2.2.2.2.2.2.2.2.2.2.2.2.2.2.2.2.1
                  have ee88 : 0 ≤ (((z85 - 1) + 4294967296) - (z76 * 4294967296)) := hp.2.2.2.2.2.2.2.2.2.2.2.2.2.2.2.2.2.2.2.1
                  have ee89 : 0 ≤ (((60 - z85) + 4294967296) - (z76 * 4294967296)) := hp.2.2.2.2.2.2.2.2.2.2.2.2.2.2.2.2.2.2.2.2.1
                  have pq90 : ∀ x : Tk × Int × Int, gT x z67 z66 z65 fy70 fr68 z69 → RV (sNu 1 60 x) z76 z82 z83 z85 ∧ (z76 = 1 → gT (nx f0 x1 x2 x) z79 z78 z77 fy84 fr80 z81) := hp.2.2.2.2.2.2.2.2.2.2.2.2.2.2.2.2.2.2.2.2.2.1
                  have pq91 : kpB z76 x7 z82 := hp.2.2.2.2.2.2.2.2.2.2.2.2.2.2.2.2.2.2.2.2.2.2
                  have w : WD D A s.heap [(a2, .inl (T 0, 329, .inl (cI f1))), (a7, .inl (T 1, 12, .inr (.inl h0))), (a20, .inl (T 0, 160, .inl (cI (upz (upz (upz (upz f2 (4 * x16) 3) ((4 * x16) + 1) 0) ((4 * x16) + 2) 0) ((4 * x16) + 3) 0)))), (a0, .inr (11, [.int r0, .ref a1, .int (iI x0), .int (iI x1), .int (iI x2), .int (iI z77), .int (iI z78), .int (iI z79), .int fr80, .int (iI z81), .int (iI z82), .int (iI z83), .long fy84, .int (iI z85), .ref a2, .ref a3, .ref a4, .ref a5, .ref a6, .ref a7, .ref a8, .ref a9, .ref a10, .ref a11, .int (iI x10), .ref a12, .ref a13, .ref a14, .ref a15, .int (iI x11), .int r2, .int r3, .ref a16, .int (iI x12), .int (iI x13), .ref a17, .ref a18, .int (iI x14), .ref a19, .int (iI x15), .int r4, .ref a20, .ref a21, .int (iI x16), .int r5, .ref a22, .int (iI x17), .int (iI x18), .int (iI x19), .int (iI x20)])), (a1, .inl (T 0, 940, .inl (cI f0)))] H locs := w
                  refine k_I (ce := 0) (sl := 0) (rest := []) (wr := [(a2, .inl (T 0, 329, .inl (cI f1))), (a7, .inl (T 1, 12, .inr (.inl h0))), (a1, .inl (T 0, 940, .inl (cI f0)))]) (r_V (f := 0) [3, 2] M w V_HookedCityModel_373 G1993 G105 (c132_X12_keep l D T _ a0 ((4 * x16) + 1) z76 r0 a1 x0 x1 x2 z77 z78 z79 fr80 z81 z82 z83 fy84 z85 a2 a3 a4 a5 a6 a7 a8 a9 a10 a11 x10 a12 a13 a14 a15 x11 r2 r3 a16 x12 x13 a17 a18 x14 a19 x15 r4 a20 a21 x16 r5 a22 x17 x18 x19 x20 (upz (upz (upz (upz f2 (4 * x16) 3) ((4 * x16) + 1) 0) ((4 * x16) + 2) 0) ((4 * x16) + 3) 0) (by omega) (by omega) z76_a z76_b x0_a x0_b x1_a x1_b x2_a x2_b z77_a z77_b z78_a z78_b z79_a z79_b z81_a z81_b z82_a z82_b z83_a z83_b z85_a z85_b x10_a x10_b x11_a x11_b x12_a x12_b x13_a x13_b x14_a x14_b x15_a x15_b x16_a x16_b x17_a x17_b x18_a x18_b x19_a x19_b x20_a x20_b (ln_s f2_h (n := x16) (by omega) (by omega) (by unfold lok; omega) ⟨by omega, by omega⟩ rfl) (fun h => ln_x (ln_s f2_h (n := x16) (by omega) (by omega) (by unfold lok; omega) ⟨by omega, by omega⟩ rfl) (n := x16) (by omega) (by omega) (by omega) (by omega) (by omega) (Or.inl (by rw [upz_n (by omega), upz_n (by omega), upz_n (by omega), upz_s])))) 3 clX12 rfl rfl (by decide) rfl hl.1 rfl (Nat.le_of_ble_eq_true rfl) dX12_readBookLine_208 (by decide) (by decide) (by decide) (by decide)) w [3, 2] [0, 1, 4] rfl rfl (by decide) (by decide) rfl rfl (fun v u H locs hp w => ?_)
                  obtain ⟨z92, ff93⟩ := u
                  have hv : iI z92 = v := hp.1
                  subst hv
                  have z92_a : 0 ≤ z92 := hp.2.1
                  have z92_b : z92 ≤ 1 := hp.2.2.1
                  have ff93_h : lnI ff93 := hp.2.2.2.1
                  have ee94 : 0 ≤ (z76 - z92) := hp.2.2.2.2.1
                  have ee95 : 0 ≤ (z92 - z76) := hp.2.2.2.2.2.1
                  have pq96 : ∀ j : Int, ¬ j = ((4 * x16) + 1) → ff93 j = (upz (upz (upz (upz f2 (4 * x16) 3) ((4 * x16) + 1) 0) ((4 * x16) + 2) 0) ((4 * x16) + 3) 0) j := hp.2.2.2.2.2.2
                  have w : WD D A s.heap [(a2, .inl (T 0, 329, .inl (cI f1))), (a7, .inl (T 1, 12, .inr (.inl h0))), (a1, .inl (T 0, 940, .inl (cI f0))), (a0, .inr (11, [.int r0, .ref a1, .int (iI x0), .int (iI x1), .int (iI x2), .int (iI z77), .int (iI z78), .int (iI z79), .int fr80, .int (iI z81), .int (iI z82), .int (iI z83), .long fy84, .int (iI z85), .ref a2, .ref a3, .ref a4, .ref a5, .ref a6, .ref a7, .ref a8, .ref a9, .ref a10, .ref a11, .int (iI x10), .ref a12, .ref a13, .ref a14, .ref a15, .int (iI x11), .int r2, .int r3, .ref a16, .int (iI x12), .int (iI x13), .ref a17, .ref a18, .int (iI x14), .ref a19, .int (iI x15), .int r4, .ref a20, .ref a21, .int (iI x16), .int r5, .ref a22, .int (iI x17), .int (iI x18), .int (iI x19), .int (iI x20)])), (a20, .inl (T 0, 160, .inl (cI ff93)))] H locs := w
                  refine lv_if_eq (tgt := 236) hx hb dX12_readBookLine_211 (by decide) (fun c_97 => ?_) (fun c_97 => ?_)
                  · replace c_97 := (iz_eq (Int.le_trans (by decide) z92_a) (Int.le_trans z92_b (by decide))).mp c_97
                    refine lv_iconst (v := iI 0) hx hb dX12_readBookLine_236 (by decide +kernel) ?_
                    exact ret _ (0, z77, z78, z79, fr80, z81, z82, z83, fy84, z85, ff93) _ _ _ _ _ [3, 2, 0, 1, 4] dX12_readBookLine_237 (by decide +kernel) ⟨rfl, (show (0 : Int) ≤ 0 from by decide), (show (0 : Int) ≤ 1 from by decide), z77_a, z77_b, z78_a, z78_b, z79_a, z79_b, z81_a, z81_b, z82_a, z82_b, z83_a, z83_b, z85_a, z85_b, ff93_h, (show 0 ≤ ((z77 - x3) - 0) from by omega), (show 0 ≤ ((79 - x16) - (0 * 40)) from by omega), (show kpB 0 x7 z82 from (fun e => absurd e (by decide))), (show ∀ x : Tk × Int × Int, gT x x5 x4 x3 y0 r1 x6 → RS (bkM f0 x1 x2 (sOne (fun _ => f1 0) h0) (sMn h0 (f1 1)) (x, x16)) 0 z82 z83 (fun y => gT y z79 z78 z77 fy84 fr80 z81) (x16 + 1) from (fun x g => bnS_0 (bl_d (wd_0 g (k := 13) pq2 (by omega)) (wd_1 g (k := 14) pq4 (by omega)) (by omega) (by_0 (pq90 _ (gT_nx g pq73)).1 (by omega))) (on := 0) (G := fun _ => True) rfl))⟩ w (by decide) rfl
                  · replace c_97 : ¬ z92 = 0 := fun h => c_97 ((iz_eq (Int.le_trans (by decide) z92_a) (Int.le_trans z92_b (by decide))).mpr h)
                    refine lv_goto (tgt := 225) hx hb dX12_readBookLine_214 (by decide) ?_
                    refine lv_aload_n hx hb dX12_readBookLine_225 rfl (lv_at hl 3 rfl) ?_
                    refine k_I (ce := 0) (sl := 0) (rest := []) (wr := [(a2, .inl (T 0, 329, .inl (cI f1))), (a7, .inl (T 1, 12, .inr (.inl h0))), (a20, .inl (T 0, 160, .inl (cI ff93)))]) (r_V (f := 2) [3, 2] M w V_HookedCityModel_230 G1720 G66 (c47_X12_readEnd l D T _ a0 r0 a1 x0 x1 x2 z77 z78 z79 fr80 z81 z82 z83 fy84 z85 a2 a3 a4 a5 a6 a7 a8 a9 a10 a11 x10 a12 a13 a14 a15 x11 r2 r3 a16 x12 x13 a17 a18 x14 a19 x15 r4 a20 a21 x16 r5 a22 x17 x18 x19 x20 f0 x0_a x0_b x1_a x1_b x2_a x2_b z77_a z77_b z78_a z78_b z79_a z79_b z81_a z81_b z82_a z82_b z83_a z83_b z85_a z85_b x10_a x10_b x11_a x11_b x12_a x12_b x13_a x13_b x14_a x14_b x15_a x15_b x16_a x16_b x17_a x17_b x18_a x18_b x19_a x19_b x20_a x20_b f0_h) 3 clX12 rfl rfl (by decide) rfl hl.1 rfl (Nat.le_of_ble_eq_true rfl) dX12_readBookLine_226 (by decide) (by decide) (by decide) (by decide)) w [3, 2] [0, 1, 4] rfl rfl (by decide) (by decide) rfl rfl (fun v u H locs hp w => ?_)
                    obtain ⟨z98, z99, z100, z101, fr102, z103, z104, z105, fy106⟩ := u
                    have hv : iI z98 = v := hp.1
                    subst hv
                    have z98_a : 0 ≤ z98 := hp.2.1
                    have z98_b : z98 ≤ 1 := hp.2.2.1
                    have z99_a : 0 ≤ z99 := hp.2.2.2.1
                    have z99_b : z99 ≤ 940 := hp.2.2.2.2.1
                    have z100_a : 0 ≤ z100 := hp.2.2.2.2.2.1
                    have z100_b : z100 ≤ 940 := hp.2.2.2.2.2.2.1
                    have z101_a : 0 ≤ z101 := hp.2.2.2.2.2.2.2.1
                    have z101_b : z101 ≤ 4 := hp.2.2.2.2.2.2.2.2.1
                    have z103_a : (-2147483648) ≤ z103 := hp.2.2.2.2.2.2.2.2.2.1
                    have z103_b : z103 ≤ 2147483647 := hp.2.2.2.2.2.2.2.2.2.2.1
                    have z104_a : (-2147483648) ≤ z104 := hp.2.2.2.2.2.2.2.2.2.2.2.1
                    have z104_b : z104 ≤ 2147483647 := hp.2.2.2.2.2.2.2.2.2.2.2.2.1
                    have z105_a : 0 ≤ z105 := hp.2.2.2.2.2.2.2.2.2.2.2.2.2.1
                    have z105_b : z105 ≤ 940 := hp.2.2.2.2.2.2.2.2.2.2.2.2.2.2.1
                    have ee107 : 0 ≤ (z99 - z77) := hp.2.2.2.2.2.2.2.2.2.2.2.2.2.2.2.1
                    have ee108 : 0 ≤ (z79 - (z98 * 4)) := hp.2.2.2.2.2.2.2.2.2.2.2.2.2.2.2.2.1
                    have pq109 : ∀ x : Tk × Int × Int, gT x z79 z78 z77 fy84 fr80 z81 → enP f0 x1 x2 59 x z98 z104 z105 (fun y => gT y z101 z100 z99 fy106 fr102 z103) := hp.2.2.2.2.2.2.2.2.2.2.2.2.2.2.2.2.2.1
                    have pq110 : kpB z98 z82 z104 := hp.2.2.2.2.2.2.2.2.2.2.2.2.2.2.2.2.2.2
                    have w : WD D A s.heap [(a2, .inl (T 0, 329, .inl (cI f1))), (a7, .inl (T 1, 12, .inr (.inl h0))), (a20, .inl (T 0, 160, .inl (cI ff93))), (a0, .inr (11, [.int r0, .ref a1, .int (iI x0), .int (iI x1), .int (iI x2), .int (iI z99), .int (iI z100), .int (iI z101), .int fr102, .int (iI z103), .int (iI z104), .int (iI z105), .long fy106, .int (iI z85), .ref a2, .ref a3, .ref a4, .ref a5, .ref a6, .ref a7, .ref a8, .ref a9, .ref a10, .ref a11, .int (iI x10), .ref a12, .ref a13, .ref a14, .ref a15, .int (iI x11), .int r2, .int r3, .ref a16, .int (iI x12), .int (iI x13), .ref a17, .ref a18, .int (iI x14), .ref a19, .int (iI x15), .int r4, .ref a20, .ref a21, .int (iI x16), .int r5, .ref a22, .int (iI x17), .int (iI x18), .int (iI x19), .int (iI x20)])), (a1, .inl (T 0, 940, .inl (cI f0)))] H locs := w
                    refine lv_if_eq (tgt := 236) hx hb dX12_readBookLine_229 (by decide) (fun c_111 => ?_) (fun c_111 => ?_)
                    · replace c_111 := (iz_eq (Int.le_trans (by decide) z98_a) (Int.le_trans z98_b (by decide))).mp c_111
                      refine lv_iconst (v := iI 0) hx hb dX12_readBookLine_236 (by decide +kernel) ?_
                      exact ret _ (0, z99, z100, z101, fr102, z103, z104, z105, fy106, z85, ff93) _ _ _ _ _ [3, 4, 0, 1, 2] dX12_readBookLine_237 (by decide +kernel) ⟨rfl, (show (0 : Int) ≤ 0 from by decide), (show (0 : Int) ≤ 1 from by decide), z99_a, z99_b, z100_a, z100_b, z101_a, z101_b, z103_a, z103_b, z104_a, z104_b, z105_a, z105_b, z85_a, z85_b, ff93_h, (show 0 ≤ ((z99 - x3) - 0) from by omega), (show 0 ≤ ((79 - x16) - (0 * 40)) from by omega), (show kpB 0 x7 z104 from (fun e => absurd e (by decide))), (show ∀ x : Tk × Int × Int, gT x x5 x4 x3 y0 r1 x6 → RS (bkM f0 x1 x2 (sOne (fun _ => f1 0) h0) (sMn h0 (f1 1)) (x, x16)) 0 z104 z105 (fun y => gT y z101 z100 z99 fy106 fr102 z103) (x16 + 1) from (fun x g => RS_e (bnS_1 (bl_d (wd_0 g (k := 13) pq2 (by omega)) (wd_1 g (k := 14) pq4 (by omega)) (by omega) (by_1 (pq90 _ (gT_nx g pq73)).1 (by omega) ((pq90 _ (gT_nx g pq73)).2 (by omega)) (fa' := 0) (pl' := 0))) rfl (be_x pq109)) (by omega)))⟩ w (by decide) rfl
                    · replace c_111 : ¬ z98 = 0 := fun h => c_111 ((iz_eq (Int.le_trans (by decide) z98_a) (Int.le_trans z98_b (by decide))).mpr h)
                      refine lv_iconst (v := iI 1) hx hb dX12_readBookLine_232 (by decide +kernel) ?_
                      refine lv_goto (tgt := 237) hx hb dX12_readBookLine_233 (by decide) ?_
                      exact ret _ (1, z99, z100, z101, fr102, z103, z104, z105, fy106, z85, ff93) _ _ _ _ _ [3, 4, 0, 1, 2] dX12_readBookLine_237 (by decide +kernel) ⟨rfl, (show (0 : Int) ≤ 1 from by decide), (show (1 : Int) ≤ 1 from by decide), z99_a, z99_b, z100_a, z100_b, z101_a, z101_b, z103_a, z103_b, z104_a, z104_b, z105_a, z105_b, z85_a, z85_b, ff93_h, (show 0 ≤ ((z99 - x3) - 1) from by omega), (show 0 ≤ ((79 - x16) - (1 * 40)) from by omega), (show kpB 1 x7 z104 from (fun hr => by have y3 := pq91 (by omega); have y5 := pq110 (by omega); omega)), (show ∀ x : Tk × Int × Int, gT x x5 x4 x3 y0 r1 x6 → RS (bkM f0 x1 x2 (sOne (fun _ => f1 0) h0) (sMn h0 (f1 1)) (x, x16)) 1 z104 z105 (fun y => gT y z101 z100 z99 fy106 fr102 z103) (x16 + 1) from (fun x g => RS_e (bnS_1 (bl_d (wd_0 g (k := 13) pq2 (by omega)) (wd_1 g (k := 14) pq4 (by omega)) (by omega) (by_1 (pq90 _ (gT_nx g pq73)).1 (by omega) ((pq90 _ (gT_nx g pq73)).2 (by omega)) (fa' := 0) (pl' := 0))) rfl (be_x pq109)) (by omega)))⟩ w (by decide) rfl
              · replace c_74 : ¬ z1 = 0 := fun h => c_74 ((iz_eq (Int.le_trans (by decide) z1_a) (Int.le_trans z1_b (by decide))).mpr h)
                exfalso; omega
        · replace c_62 : ¬ z1 = 0 := fun h => c_62 ((iz_eq (Int.le_trans (by decide) z1_a) (Int.le_trans z1_b (by decide))).mpr h)
          exfalso; omega
      · replace c_61 := (iI_eq (Int.le_trans (by decide) x16_a) (Int.le_trans x16_b (by decide)) (by decide) (by decide)).mp c_61
        refine lv_aload_n hx hb dX12_readBookLine_73 rfl (lv_at hl 2 rfl) ?_
        refine lv_iconst (v := iI 4) hx hb dX12_readBookLine_74 (by decide +kernel) ?_
        refine k_I (ce := 0) (sl := 0) (rest := []) (wr := [(a1, .inl (T 0, 940, .inl (cI f0))), (a2, .inl (T 0, 329, .inl (cI f1))), (a7, .inl (T 1, 12, .inr (.inl h0))), (a20, .inl (T 0, 160, .inl (cI f2)))]) (r_V (f := 0) [4] M w V_HookedCityModel_72 G1667 G55 (c45_X12_bad l D T _ a0 4 r0 a1 x0 x1 x2 x3 x4 x5 r1 x6 x7 x8 y0 x9 a2 a3 a4 a5 a6 a7 a8 a9 a10 a11 x10 a12 a13 a14 a15 x11 r2 r3 a16 x12 x13 a17 a18 x14 a19 x15 r4 a20 a21 x16 r5 a22 x17 x18 x19 x20 (by decide) (by decide) x0_a x0_b x1_a x1_b x2_a x2_b x3_a x3_b x4_a x4_b x5_a x5_b x6_a x6_b x7_a x7_b x8_a x8_b x9_a x9_b x10_a x10_b x11_a x11_b x12_a x12_b x13_a x13_b x14_a x14_b x15_a x15_b x16_a x16_b x17_a x17_b x18_a x18_b x19_a x19_b x20_a x20_b) 4 clX12 rfl rfl (by decide) rfl hl.1 rfl (Nat.le_of_ble_eq_true rfl) dX12_readBookLine_75 (by decide) (by decide) (by decide) (by decide)) w [4] [0, 1, 2, 3] rfl rfl (by decide) (by decide) rfl rfl (fun v u H locs hp w => ?_)
        obtain ⟨z112, z113, z114⟩ := u
        have hv : iI z112 = v := hp.1
        subst hv
        have z112_a : 0 ≤ z112 := hp.2.1
        have z112_b : z112 ≤ 1 := hp.2.2.1
        have z113_a : (-2147483648) ≤ z113 := hp.2.2.2.1
        have z113_b : z113 ≤ 2147483647 := hp.2.2.2.2.1
        have z114_a : 0 ≤ z114 := hp.2.2.2.2.2.1
        have z114_b : z114 ≤ 940 := hp.2.2.2.2.2.2.1
        have pq115 : baQ x5 4 z113 := hp.2.2.2.2.2.2.2.1
        have pq116 : z114 = x4 := hp.2.2.2.2.2.2.2.2.1
        have w : WD D A s.heap [(a1, .inl (T 0, 940, .inl (cI f0))), (a2, .inl (T 0, 329, .inl (cI f1))), (a7, .inl (T 1, 12, .inr (.inl h0))), (a20, .inl (T 0, 160, .inl (cI f2))), (a0, .inr (11, [.int r0, .ref a1, .int (iI x0), .int (iI x1), .int (iI x2), .int (iI x3), .int (iI x4), .int (iI x5), .int r1, .int (iI x6), .int (iI z113), .int (iI z114), .long y0, .int (iI x9), .ref a2, .ref a3, .ref a4, .ref a5, .ref a6, .ref a7, .ref a8, .ref a9, .ref a10, .ref a11, .int (iI x10), .ref a12, .ref a13, .ref a14, .ref a15, .int (iI x11), .int r2, .int r3, .ref a16, .int (iI x12), .int (iI x13), .ref a17, .ref a18, .int (iI x14), .ref a19, .int (iI x15), .int r4, .ref a20, .ref a21, .int (iI x16), .int r5, .ref a22, .int (iI x17), .int (iI x18), .int (iI x19), .int (iI x20)]))] H locs := w
        rcases hp.2.2.2.2.2.2.2.2.2 with hr
        · subst hr
          exact ret _ (0, x3, x4, x5, r1, x6, z113, z114, y0, x9, f2) _ _ _ _ _ [4, 0, 1, 2, 3] dX12_readBookLine_78 (by decide +kernel) ⟨rfl, (show (0 : Int) ≤ 0 from by decide), (show (0 : Int) ≤ 1 from by decide), x3_a, x3_b, x4_a, x4_b, x5_a, x5_b, x6_a, x6_b, z113_a, z113_b, z114_a, z114_b, x9_a, x9_b, f2_h, (show 0 ≤ ((x3 - x3) - 0) from by omega), (show 0 ≤ ((79 - x16) - (0 * 40)) from by omega), (show kpB 0 x7 z113 from (fun e => absurd e (by decide))), (show ∀ x : Tk × Int × Int, gT x x5 x4 x3 y0 r1 x6 → RS (bkM f0 x1 x2 (sOne (fun _ => f1 0) h0) (sMn h0 (f1 1)) (x, x16)) 0 z113 z114 (fun y => gT y x5 x4 x3 y0 r1 x6) (x16 + 1) from (by intro x g; have hq9 : isW x.1 13 ∨ isW x.1 14 := (by by_cases c9 : z1 = 0; exact Or.inr (wd_1 g (k := 14) pq4 (by omega)); exact Or.inl (wd_1 g (k := 13) pq2 (by omega))); exact bnS_0 (G := fun _ => True) (on := 0) (bl_4 hq9 (by omega) (bad_w g (by rcases hq9 with h | h; exact wd_nb h; exact wd_nb h) pq115) (pq116.trans g.1)) rfl))⟩ w (by decide) rfl
    · replace c_60 := (iz_eq (Int.le_trans (by decide) z3_a) (Int.le_trans z3_b (by decide))).mp c_60
      refine lv_aload_n hx hb dX12_readBookLine_22 rfl (lv_at hl 2 rfl) ?_
      refine k_I (ce := 0) (sl := 0) (rest := []) (wr := [(a1, .inl (T 0, 940, .inl (cI f0))), (a2, .inl (T 0, 329, .inl (cI f1))), (a7, .inl (T 1, 12, .inr (.inl h0))), (a20, .inl (T 0, 160, .inl (cI f2)))]) (r_V (f := 2) [4] M w V_HookedCityModel_175 G1675 G57 (c44_X12_isName l D T _ a0 r0 a1 x0 x1 x2 x3 x4 x5 r1 x6 x7 x8 y0 x9 a2 a3 a4 a5 a6 a7 a8 a9 a10 a11 x10 a12 a13 a14 a15 x11 r2 r3 a16 x12 x13 a17 a18 x14 a19 x15 r4 a20 a21 x16 r5 a22 x17 x18 x19 x20 x0_a x0_b x1_a x1_b x2_a x2_b x3_a x3_b x4_a x4_b x5_a x5_b x6_a x6_b x7_a x7_b x8_a x8_b x9_a x9_b x10_a x10_b x11_a x11_b x12_a x12_b x13_a x13_b x14_a x14_b x15_a x15_b x16_a x16_b x17_a x17_b x18_a x18_b x19_a x19_b x20_a x20_b) 4 clX12 rfl rfl (by decide) rfl hl.1 rfl (Nat.le_of_ble_eq_true rfl) dX12_readBookLine_23 (by decide) (by decide) (by decide) (by decide)) w [4] [0, 1, 2, 3] rfl rfl (by decide) (by decide) rfl rfl (fun v z117 H locs hp w => ?_)
      have hv : iI z117 = v := hp.1
      subst hv
      have z117_a : 0 ≤ z117 := hp.2.1
      have z117_b : z117 ≤ 1 := hp.2.2.1
      have pq118 : nmQ z117 x5 y0 := hp.2.2.2
      have w : WD D A s.heap [(a1, .inl (T 0, 940, .inl (cI f0))), (a2, .inl (T 0, 329, .inl (cI f1))), (a7, .inl (T 1, 12, .inr (.inl h0))), (a20, .inl (T 0, 160, .inl (cI f2))), (a0, .inr (11, [.int r0, .ref a1, .int (iI x0), .int (iI x1), .int (iI x2), .int (iI x3), .int (iI x4), .int (iI x5), .int r1, .int (iI x6), .int (iI x7), .int (iI x8), .long y0, .int (iI x9), .ref a2, .ref a3, .ref a4, .ref a5, .ref a6, .ref a7, .ref a8, .ref a9, .ref a10, .ref a11, .int (iI x10), .ref a12, .ref a13, .ref a14, .ref a15, .int (iI x11), .int r2, .int r3, .ref a16, .int (iI x12), .int (iI x13), .ref a17, .ref a18, .int (iI x14), .ref a19, .int (iI x15), .int r4, .ref a20, .ref a21, .int (iI x16), .int r5, .ref a22, .int (iI x17), .int (iI x18), .int (iI x19), .int (iI x20)]))] H locs := w
      refine lv_if_ne (tgt := 35) hx hb dX12_readBookLine_26 (by decide) (fun c_119 => ?_) (fun c_119 => ?_)
      · replace c_119 : ¬ z117 = 0 := fun h => c_119 ((iz_eq (Int.le_trans (by decide) z117_a) (Int.le_trans z117_b (by decide))).mpr h)
        refine lv_aload_n hx hb dX12_readBookLine_35 rfl (lv_at hl 2 rfl) ?_
        refine r_get (v := .ref a7) M w 4 19 clX12 rfl (by decide) G1482 rfl rfl dX12_readBookLine_36 ?_
        refine lv_bipush (v := iI 9) hx hb dX12_readBookLine_39 (by decide +kernel) ?_
        refine lv_aload_n hx hb dX12_readBookLine_41 rfl (lv_at hl 2 rfl) ?_
        refine r_get (v := .ref a2) M w 4 14 clX12 rfl (by decide) G1477 rfl rfl dX12_readBookLine_42 ?_
        refine lv_iconst (v := iI 1) hx hb dX12_readBookLine_45 (by decide +kernel) ?_
        refine r_iald (v := iI (f1 1)) M w 1 rfl (iI_in (by decide) (by decide) (by decide)) (cI_at (by omega) (by omega)) dX12_readBookLine_46 ?_
        have hh120 : (-2147483648) ≤ (f1 1) ∧ (f1 1) ≤ 2147483647 := f1_h.1 1
        have hh121 : 0 ≤ (f1 1) ∧ (f1 1) ≤ 3 := (f1_h.2.1 1).2.1 (by omega)
        refine lv_aload_n hx hb dX12_readBookLine_47 rfl (lv_at hl 2 rfl) ?_
        refine r_get (v := .long y0) M w 4 12 clX12 rfl (by decide) G1475 rfl rfl dX12_readBookLine_48 ?_
        refine k_I (ce := 0) (sl := 0) (rest := []) (wr := [(a1, .inl (T 0, 940, .inl (cI f0))), (a2, .inl (T 0, 329, .inl (cI f1))), (a20, .inl (T 0, 160, .inl (cI f2))), (a0, .inr (11, [.int r0, .ref a1, .int (iI x0), .int (iI x1), .int (iI x2), .int (iI x3), .int (iI x4), .int (iI x5), .int r1, .int (iI x6), .int (iI x7), .int (iI x8), .long y0, .int (iI x9), .ref a2, .ref a3, .ref a4, .ref a5, .ref a6, .ref a7, .ref a8, .ref a9, .ref a10, .ref a11, .int (iI x10), .ref a12, .ref a13, .ref a14, .ref a15, .int (iI x11), .int r2, .int r3, .ref a16, .int (iI x12), .int (iI x13), .ref a17, .ref a18, .int (iI x14), .ref a19, .int (iI x15), .int r4, .ref a20, .ref a21, .int (iI x16), .int r5, .ref a22, .int (iI x17), .int (iI x18), .int (iI x19), .int (iI x20)]))]) (r_S (f := 0) [2] M w V_HookedCityModel_179 G1678 (c52_X12_findIn l D T _ a7 (f1 1) y0 h0 (by omega) (by omega)) rfl (by decide) rfl hl.1 rfl (Nat.le_of_ble_eq_true rfl) dX12_readBookLine_51 (by decide) (by decide) (by decide) (by decide)) w [2] [0, 1, 3, 4] rfl rfl (by decide) (by decide) rfl rfl (fun v z122 H locs hp w => ?_)
        have hv : iI z122 = v := hp.1
        subst hv
        have z122_a : (-1) ≤ z122 := hp.2.1
        have z122_b : z122 ≤ 2 := hp.2.2.1
        have ee123 : 0 ≤ (((f1 1) - z122) - 1) := hp.2.2.2.1
        have pq124 : z122 = FI h0 9 (f1 1) y0 := hp.2.2.2.2
        have w : WD D A s.heap [(a1, .inl (T 0, 940, .inl (cI f0))), (a2, .inl (T 0, 329, .inl (cI f1))), (a20, .inl (T 0, 160, .inl (cI f2))), (a0, .inr (11, [.int r0, .ref a1, .int (iI x0), .int (iI x1), .int (iI x2), .int (iI x3), .int (iI x4), .int (iI x5), .int r1, .int (iI x6), .int (iI x7), .int (iI x8), .long y0, .int (iI x9), .ref a2, .ref a3, .ref a4, .ref a5, .ref a6, .ref a7, .ref a8, .ref a9, .ref a10, .ref a11, .int (iI x10), .ref a12, .ref a13, .ref a14, .ref a15, .int (iI x11), .int r2, .int r3, .ref a16, .int (iI x12), .int (iI x13), .ref a17, .ref a18, .int (iI x14), .ref a19, .int (iI x15), .int r4, .ref a20, .ref a21, .int (iI x16), .int r5, .ref a22, .int (iI x17), .int (iI x18), .int (iI x19), .int (iI x20)])), (a7, .inl (T 1, 12, .inr (.inl h0)))] H locs := w
        refine lv_iconst (v := iI (-1)) hx hb dX12_readBookLine_54 (by decide +kernel) ?_
        refine lv_icmp_ne (tgt := 64) hx hb dX12_readBookLine_55 (by decide) (fun c_125 => ?_) (fun c_125 => ?_)
        · replace c_125 : ¬ z122 = (-1) := fun h => c_125 ((iI_eq (Int.le_trans (by decide) z122_a) (Int.le_trans z122_b (by decide)) (by decide) (by decide)).mpr h)
          refine lv_aload_n hx hb dX12_readBookLine_64 rfl (lv_at hl 2 rfl) ?_
          refine r_get (v := .int (iI x16)) M w 3 43 clX12 rfl (by decide) G1506 rfl rfl dX12_readBookLine_65 ?_
          refine lv_bipush (v := iI 40) hx hb dX12_readBookLine_68 (by decide +kernel) ?_
          refine lv_icmp_ne (tgt := 79) hx hb dX12_readBookLine_70 (by decide) (fun c_126 => ?_) (fun c_126 => ?_)
          · replace c_126 : ¬ x16 = 40 := fun h => c_126 ((iI_eq (Int.le_trans (by decide) x16_a) (Int.le_trans x16_b (by decide)) (by decide) (by decide)).mpr h)
            refine lv_iconst (v := iI 4) hx hb dX12_readBookLine_79 (by decide +kernel) ?_
            refine lv_aload_n hx hb dX12_readBookLine_80 rfl (lv_at hl 2 rfl) ?_
            refine r_get (v := .int (iI x16)) M w 3 43 clX12 rfl (by decide) G1506 rfl rfl dX12_readBookLine_81 ?_
            refine r_imul (v := iI (4 * x16)) M (iI_mul _ _) dX12_readBookLine_84 ?_
            refine lv_istore_n (lv' := [(3, .int (iI (4 * x16))), (2, .int (iI z3)), (1, .int (iI z1)), (0, .ref a0)]) hx hb dX12_readBookLine_85 rfl hl (by decide) rfl (fun ls hl => ?_)
            refine lv_aload_n hx hb dX12_readBookLine_86 rfl (lv_at hl 3 rfl) ?_
            refine r_get (v := .ref a20) M w 3 41 clX12 rfl (by decide) G1504 rfl rfl dX12_readBookLine_87 ?_
            refine lv_iload_n hx hb dX12_readBookLine_90 rfl (lv_at hl 0 rfl) ?_
            refine lv_iload_n hx hb dX12_readBookLine_91 rfl (lv_at hl 2 rfl) ?_
            refine lv_if_eq (tgt := 99) hx hb dX12_readBookLine_92 (by decide) (fun c_127 => ?_) (fun c_127 => ?_)
            · replace c_127 := (iz_eq (Int.le_trans (by decide) z1_a) (Int.le_trans z1_b (by decide))).mp c_127
              refine lv_iconst (v := iI 3) hx hb dX12_readBookLine_99 (by decide +kernel) ?_
              refine r_iast (ws' := [(a1, .inl (T 0, 940, .inl (cI f0))), (a2, .inl (T 0, 329, .inl (cI f1))), (a20, .inl (T 0, 160, .inl (cI (upz f2 (4 * x16) 3)))), (a0, .inr (11, [.int r0, .ref a1, .int (iI x0), .int (iI x1), .int (iI x2), .int (iI x3), .int (iI x4), .int (iI x5), .int r1, .int (iI x6), .int (iI x7), .int (iI x8), .long y0, .int (iI x9), .ref a2, .ref a3, .ref a4, .ref a5, .ref a6, .ref a7, .ref a8, .ref a9, .ref a10, .ref a11, .int (iI x10), .ref a12, .ref a13, .ref a14, .ref a15, .int (iI x11), .int r2, .int r3, .ref a16, .int (iI x12), .int (iI x13), .ref a17, .ref a18, .int (iI x14), .ref a19, .int (iI x15), .int r4, .ref a20, .ref a21, .int (iI x16), .int r5, .ref a22, .int (iI x17), .int (iI x18), .int (iI x19), .int (iI x20)])), (a7, .inl (T 1, 12, .inr (.inl h0)))]) M w 2 rfl (iI_in (by omega) (by omega) (by decide)) (by rw [cI_up (by omega) (by omega)]; rfl) dX12_readBookLine_100 (fun H locs w => ?_)
              refine lv_aload_n hx hb dX12_readBookLine_101 rfl (lv_at hl 3 rfl) ?_
              refine r_get (v := .ref a20) M w 3 41 clX12 rfl (by decide) G1504 rfl rfl dX12_readBookLine_102 ?_
              refine lv_iload_n hx hb dX12_readBookLine_105 rfl (lv_at hl 0 rfl) ?_
              refine lv_iconst (v := iI 1) hx hb dX12_readBookLine_106 (by decide +kernel) ?_
              refine r_iadd (v := iI ((4 * x16) + 1)) M (iI_add _ _) dX12_readBookLine_107 ?_
              refine lv_iload_n hx hb dX12_readBookLine_108 rfl (lv_at hl 2 rfl) ?_
              refine lv_if_ne (tgt := 116) hx hb dX12_readBookLine_109 (by decide) (fun c_128 => ?_) (fun c_128 => ?_)
              · replace c_128 : ¬ z1 = 0 := fun h => c_128 ((iz_eq (Int.le_trans (by decide) z1_a) (Int.le_trans z1_b (by decide))).mpr h)
                exfalso; omega
              · replace c_128 := (iz_eq (Int.le_trans (by decide) z1_a) (Int.le_trans z1_b (by decide))).mp c_128
                refine lv_iload_n hx hb dX12_readBookLine_112 rfl (lv_at hl 1 rfl) ?_
                refine lv_if_eq (tgt := 120) hx hb dX12_readBookLine_113 (by decide) (fun c_129 => ?_) (fun c_129 => ?_)
                · replace c_129 := (iz_eq (Int.le_trans (by decide) z3_a) (Int.le_trans z3_b (by decide))).mp c_129
                  refine lv_aload_n hx hb dX12_readBookLine_120 rfl (lv_at hl 3 rfl) ?_
                  refine r_get (v := .ref a7) M w 3 19 clX12 rfl (by decide) G1482 rfl rfl dX12_readBookLine_121 ?_
                  refine lv_bipush (v := iI 9) hx hb dX12_readBookLine_124 (by decide +kernel) ?_
                  refine lv_aload_n hx hb dX12_readBookLine_126 rfl (lv_at hl 3 rfl) ?_
                  refine r_get (v := .ref a2) M w 3 14 clX12 rfl (by decide) G1477 rfl rfl dX12_readBookLine_127 ?_
                  refine lv_iconst (v := iI 1) hx hb dX12_readBookLine_130 (by decide +kernel) ?_
                  refine r_iald (v := iI (f1 1)) M w 1 rfl (iI_in (by decide) (by decide) (by decide)) (cI_at (by omega) (by omega)) dX12_readBookLine_131 ?_
                  have hh130 : (-2147483648) ≤ (f1 1) ∧ (f1 1) ≤ 2147483647 := f1_h.1 1
                  have hh131 : 0 ≤ (f1 1) ∧ (f1 1) ≤ 3 := (f1_h.2.1 1).2.1 (by omega)
                  refine lv_aload_n hx hb dX12_readBookLine_132 rfl (lv_at hl 3 rfl) ?_
                  refine r_get (v := .long y0) M w 3 12 clX12 rfl (by decide) G1475 rfl rfl dX12_readBookLine_133 ?_
                  refine k_I (ce := 0) (sl := 0) (rest := [.int (iI ((4 * x16) + 1)), .ref a20]) (wr := [(a1, .inl (T 0, 940, .inl (cI f0))), (a2, .inl (T 0, 329, .inl (cI f1))), (a20, .inl (T 0, 160, .inl (cI (upz f2 (4 * x16) 3)))), (a0, .inr (11, [.int r0, .ref a1, .int (iI x0), .int (iI x1), .int (iI x2), .int (iI x3), .int (iI x4), .int (iI x5), .int r1, .int (iI x6), .int (iI x7), .int (iI x8), .long y0, .int (iI x9), .ref a2, .ref a3, .ref a4, .ref a5, .ref a6, .ref a7, .ref a8, .ref a9, .ref a10, .ref a11, .int (iI x10), .ref a12, .ref a13, .ref a14, .ref a15, .int (iI x11), .int r2, .int r3, .ref a16, .int (iI x12), .int (iI x13), .ref a17, .ref a18, .int (iI x14), .ref a19, .int (iI x15), .int r4, .ref a20, .ref a21, .int (iI x16), .int r5, .ref a22, .int (iI x17), .int (iI x18), .int (iI x19), .int (iI x20)]))]) (r_S (f := 0) [4] M w V_HookedCityModel_179 G1678 (c52_X12_findIn l D T _ a7 (f1 1) y0 h0 (by omega) (by omega)) rfl (by decide) rfl hl.1 rfl (Nat.le_of_ble_eq_true rfl) dX12_readBookLine_136 (by decide) (by decide) (by decide) (by decide)) w [4] [0, 1, 2, 3] rfl rfl (by decide) (by decide) rfl rfl (fun v z132 H locs hp w => ?_)
                  have hv : iI z132 = v := hp.1
                  subst hv
                  have z132_a : (-1) ≤ z132 := hp.2.1
                  have z132_b : z132 ≤ 2 := hp.2.2.1
                  have ee133 : 0 ≤ (((f1 1) - z132) - 1) := hp.2.2.2.1
                  have pq134 : z132 = FI h0 9 (f1 1) y0 := hp.2.2.2.2
                  have w : WD D A s.heap [(a1, .inl (T 0, 940, .inl (cI f0))), (a2, .inl (T 0, 329, .inl (cI f1))), (a20, .inl (T 0, 160, .inl (cI (upz f2 (4 * x16) 3)))), (a0, .inr (11, [.int r0, .ref a1, .int (iI x0), .int (iI x1), .int (iI x2), .int (iI x3), .int (iI x4), .int (iI x5), .int r1, .int (iI x6), .int (iI x7), .int (iI x8), .long y0, .int (iI x9), .ref a2, .ref a3, .ref a4, .ref a5, .ref a6, .ref a7, .ref a8, .ref a9, .ref a10, .ref a11, .int (iI x10), .ref a12, .ref a13, .ref a14, .ref a15, .int (iI x11), .int r2, .int r3, .ref a16, .int (iI x12), .int (iI x13), .ref a17, .ref a18, .int (iI x14), .ref a19, .int (iI x15), .int r4, .ref a20, .ref a21, .int (iI x16), .int r5, .ref a22, .int (iI x17), .int (iI x18), .int (iI x19), .int (iI x20)])), (a7, .inl (T 1, 12, .inr (.inl h0)))] H locs := w
                  refine r_iast (ws' := [(a1, .inl (T 0, 940, .inl (cI f0))), (a2, .inl (T 0, 329, .inl (cI f1))), (a20, .inl (T 0, 160, .inl (cI (upz (upz f2 (4 * x16) 3) ((4 * x16) + 1) z132)))), (a0, .inr (11, [.int r0, .ref a1, .int (iI x0), .int (iI x1), .int (iI x2), .int (iI x3), .int (iI x4), .int (iI x5), .int r1, .int (iI x6), .int (iI x7), .int (iI x8), .long y0, .int (iI x9), .ref a2, .ref a3, .ref a4, .ref a5, .ref a6, .ref a7, .ref a8, .ref a9, .ref a10, .ref a11, .int (iI x10), .ref a12, .ref a13, .ref a14, .ref a15, .int (iI x11), .int r2, .int r3, .ref a16, .int (iI x12), .int (iI x13), .ref a17, .ref a18, .int (iI x14), .ref a19, .int (iI x15), .int r4, .ref a20, .ref a21, .int (iI x16), .int r5, .ref a22, .int (iI x17), .int (iI x18), .int (iI x19), .int (iI x20)])), (a7, .inl (T 1, 12, .inr (.inl h0)))]) M w 2 rfl (iI_in (by omega) (by omega) (by decide)) (by rw [cI_up (by omega) (by omega)]; rfl) dX12_readBookLine_139 (fun H locs w => ?_)
                  refine lv_aload_n hx hb dX12_readBookLine_140 rfl (lv_at hl 3 rfl) ?_
                  refine r_get (v := .ref a20) M w 3 41 clX12 rfl (by decide) G1504 rfl rfl dX12_readBookLine_141 ?_
                  refine lv_iload_n hx hb dX12_readBookLine_144 rfl (lv_at hl 0 rfl) ?_
                  refine lv_iconst (v := iI 2) hx hb dX12_readBookLine_145 (by decide +kernel) ?_
                  refine r_iadd (v := iI ((4 * x16) + 2)) M (iI_add _ _) dX12_readBookLine_146 ?_
                  refine lv_iconst (v := iI 0) hx hb dX12_readBookLine_147 (by decide +kernel) ?_
                  refine r_iast (ws' := [(a1, .inl (T 0, 940, .inl (cI f0))), (a2, .inl (T 0, 329, .inl (cI f1))), (a20, .inl (T 0, 160, .inl (cI (upz (upz (upz f2 (4 * x16) 3) ((4 * x16) + 1) z132) ((4 * x16) + 2) 0)))), (a0, .inr (11, [.int r0, .ref a1, .int (iI x0), .int (iI x1), .int (iI x2), .int (iI x3), .int (iI x4), .int (iI x5), .int r1, .int (iI x6), .int (iI x7), .int (iI x8), .long y0, .int (iI x9), .ref a2, .ref a3, .ref a4, .ref a5, .ref a6, .ref a7, .ref a8, .ref a9, .ref a10, .ref a11, .int (iI x10), .ref a12, .ref a13, .ref a14, .ref a15, .int (iI x11), .int r2, .int r3, .ref a16, .int (iI x12), .int (iI x13), .ref a17, .ref a18, .int (iI x14), .ref a19, .int (iI x15), .int r4, .ref a20, .ref a21, .int (iI x16), .int r5, .ref a22, .int (iI x17), .int (iI x18), .int (iI x19), .int (iI x20)])), (a7, .inl (T 1, 12, .inr (.inl h0)))]) M w 2 rfl (iI_in (by omega) (by omega) (by decide)) (by rw [cI_up (by omega) (by omega)]; rfl) dX12_readBookLine_148 (fun H locs w => ?_)
                  refine lv_aload_n hx hb dX12_readBookLine_149 rfl (lv_at hl 3 rfl) ?_
                  refine r_get (v := .ref a20) M w 3 41 clX12 rfl (by decide) G1504 rfl rfl dX12_readBookLine_150 ?_
                  refine lv_iload_n hx hb dX12_readBookLine_153 rfl (lv_at hl 0 rfl) ?_
                  refine lv_iconst (v := iI 3) hx hb dX12_readBookLine_154 (by decide +kernel) ?_
                  refine r_iadd (v := iI ((4 * x16) + 3)) M (iI_add _ _) dX12_readBookLine_155 ?_
                  refine lv_iconst (v := iI 0) hx hb dX12_readBookLine_156 (by decide +kernel) ?_
                  refine r_iast (ws' := [(a1, .inl (T 0, 940, .inl (cI f0))), (a2, .inl (T 0, 329, .inl (cI f1))), (a20, .inl (T 0, 160, .inl (cI (upz (upz (upz (upz f2 (4 * x16) 3) ((4 * x16) + 1) z132) ((4 * x16) + 2) 0) ((4 * x16) + 3) 0)))), (a0, .inr (11, [.int r0, .ref a1, .int (iI x0), .int (iI x1), .int (iI x2), .int (iI x3), .int (iI x4), .int (iI x5), .int r1, .int (iI x6), .int (iI x7), .int (iI x8), .long y0, .int (iI x9), .ref a2, .ref a3, .ref a4, .ref a5, .ref a6, .ref a7, .ref a8, .ref a9, .ref a10, .ref a11, .int (iI x10), .ref a12, .ref a13, .ref a14, .ref a15, .int (iI x11), .int r2, .int r3, .ref a16, .int (iI x12), .int (iI x13), .ref a17, .ref a18, .int (iI x14), .ref a19, .int (iI x15), .int r4, .ref a20, .ref a21, .int (iI x16), .int r5, .ref a22, .int (iI x17), .int (iI x18), .int (iI x19), .int (iI x20)])), (a7, .inl (T 1, 12, .inr (.inl h0)))]) M w 2 rfl (iI_in (by omega) (by omega) (by decide)) (by rw [cI_up (by omega) (by omega)]; rfl) dX12_readBookLine_157 (fun H locs w => ?_)
                  refine lv_aload_n hx hb dX12_readBookLine_158 rfl (lv_at hl 3 rfl) ?_
                  refine k_V (ce := 0) (sl := 0) (rest := []) (wr := [(a2, .inl (T 0, 329, .inl (cI f1))), (a20, .inl (T 0, 160, .inl (cI (upz (upz (upz (upz f2 (4 * x16) 3) ((4 * x16) + 1) z132) ((4 * x16) + 2) 0) ((4 * x16) + 3) 0)))), (a7, .inl (T 1, 12, .inr (.inl h0)))]) (r_V (f := 1) [3, 0] M w V_HookedCityModel_82 G1629 G49 (c12_X12_go l D T _ a0 r0 a1 x0 x1 x2 x3 x4 x5 r1 x6 x7 x8 y0 x9 a2 a3 a4 a5 a6 a7 a8 a9 a10 a11 x10 a12 a13 a14 a15 x11 r2 r3 a16 x12 x13 a17 a18 x14 a19 x15 r4 a20 a21 x16 r5 a22 x17 x18 x19 x20 f0 x0_a x0_b x1_a x1_b x2_a x2_b x3_a x3_b x4_a x4_b x5_a x5_b x6_a x6_b x7_a x7_b x8_a x8_b x9_a x9_b x10_a x10_b x11_a x11_b x12_a x12_b x13_a x13_b x14_a x14_b x15_a x15_b x16_a x16_b x17_a x17_b x18_a x18_b x19_a x19_b x20_a x20_b f0_h) 3 clX12 rfl rfl (by decide) rfl hl.1 rfl (Nat.le_of_ble_eq_true rfl) dX12_readBookLine_159 (by decide) (by decide) (by decide) (by decide)) w [3, 0] [1, 2, 4] rfl rfl (by decide) (by decide) rfl rfl (fun u H locs hp w => ?_)
                  obtain ⟨z135, z136, z137, fr138, z139, fy140⟩ := u
                  have z135_a : 0 ≤ z135 := hp.1
                  have z135_b : z135 ≤ 940 := hp.2.1
                  have z136_a : 0 ≤ z136 := hp.2.2.1
                  have z136_b : z136 ≤ 940 := hp.2.2.2.1
                  have z137_a : 0 ≤ z137 := hp.2.2.2.2.1
                  have z137_b : z137 ≤ 4 := hp.2.2.2.2.2.1
                  have z139_a : (-2147483648) ≤ z139 := hp.2.2.2.2.2.2.1
                  have z139_b : z139 ≤ 2147483647 := hp.2.2.2.2.2.2.2.1
                  have ee141 : 0 ≤ (z135 - x3) := hp.2.2.2.2.2.2.2.2.1
                  have ee142 : 0 ≤ (((z135 - x3) - z137) + 3) := hp.2.2.2.2.2.2.2.2.2.1
                  have pq143 : gT (tkAt f0 x1 x2 x3) z137 z136 z135 fy140 fr138 z139 := hp.2.2.2.2.2.2.2.2.2.2
                  have w : WD D A s.heap [(a2, .inl (T 0, 329, .inl (cI f1))), (a20, .inl (T 0, 160, .inl (cI (upz (upz (upz (upz f2 (4 * x16) 3) ((4 * x16) + 1) z132) ((4 * x16) + 2) 0) ((4 * x16) + 3) 0)))), (a7, .inl (T 1, 12, .inr (.inl h0))), (a0, .inr (11, [.int r0, .ref a1, .int (iI x0), .int (iI x1), .int (iI x2), .int (iI z135), .int (iI z136), .int (iI z137), .int fr138, .int (iI z139), .int (iI x7), .int (iI x8), .long fy140, .int (iI x9), .ref a2, .ref a3, .ref a4, .ref a5, .ref a6, .ref a7, .ref a8, .ref a9, .ref a10, .ref a11, .int (iI x10), .ref a12, .ref a13, .ref a14, .ref a15, .int (iI x11), .int r2, .int r3, .ref a16, .int (iI x12), .int (iI x13), .ref a17, .ref a18, .int (iI x14), .ref a19, .int (iI x15), .int r4, .ref a20, .ref a21, .int (iI x16), .int r5, .ref a22, .int (iI x17), .int (iI x18), .int (iI x19), .int (iI x20)])), (a1, .inl (T 0, 940, .inl (cI f0)))] H locs := w
                  refine lv_iload_n hx hb dX12_readBookLine_162 rfl (lv_at hl 2 rfl) ?_
                  refine lv_if_eq (tgt := 193) hx hb dX12_readBookLine_163 (by decide) (fun c_144 => ?_) (fun c_144 => ?_)
                  · replace c_144 := (iz_eq (Int.le_trans (by decide) z1_a) (Int.le_trans z1_b (by decide))).mp c_144
                    refine lv_iload_n hx hb dX12_readBookLine_193 rfl (lv_at hl 1 rfl) ?_
                    refine lv_if_eq (tgt := 217) hx hb dX12_readBookLine_194 (by decide) (fun c_145 => ?_) (fun c_145 => ?_)
                    · replace c_145 := (iz_eq (Int.le_trans (by decide) z3_a) (Int.le_trans z3_b (by decide))).mp c_145
                      refine lv_aload_n hx hb dX12_readBookLine_217 rfl (lv_at hl 3 rfl) ?_
                      refine lv_iload_n hx hb dX12_readBookLine_218 rfl (lv_at hl 0 rfl) ?_
                      refine k_I (ce := 0) (sl := 0) (rest := []) (wr := []) (r_V (f := 4) [3, 4, 0, 2, 1] M w V_HookedCityModel_379 G1997 G106 (c133_X12_readDoes l D T _ a0 (4 * x16) r0 a1 x0 x1 x2 z135 z136 z137 fr138 z139 x7 x8 fy140 x9 a2 a3 a4 a5 a6 a7 a8 a9 a10 a11 x10 a12 a13 a14 a15 x11 r2 r3 a16 x12 x13 a17 a18 x14 a19 x15 r4 a20 a21 x16 r5 a22 x17 x18 x19 x20 f0 f1 h0 (upz (upz (upz (upz f2 (4 * x16) 3) ((4 * x16) + 1) z132) ((4 * x16) + 2) 0) ((4 * x16) + 3) 0) (by omega) (by omega) x0_a x0_b x1_a x1_b x2_a x2_b z135_a z135_b z136_a z136_b z137_a z137_b z139_a z139_b x7_a x7_b x8_a x8_b x9_a x9_b x10_a x10_b x11_a x11_b x12_a x12_b x13_a x13_b x14_a x14_b x15_a x15_b x16_a x16_b x17_a x17_b x18_a x18_b x19_a x19_b x20_a x20_b f0_h f1_h (ln_s f2_h (n := x16) (by omega) (by omega) (by unfold lok; omega) ⟨by omega, by omega⟩ rfl) (by rw [upz_n (by omega), upz_n (by omega), upz_s]; omega) (by omega) (by omega) (by omega)) 3 clX12 rfl rfl (by decide) rfl hl.1 rfl (Nat.le_of_ble_eq_true rfl) dX12_readBookLine_219 (by decide) (by decide) (by decide) (by decide)) w [3, 4, 0, 2, 1] [] rfl rfl (by decide) (by decide) rfl rfl (fun v u H locs hp w => ?_)
                      obtain ⟨z146, z147, z148, z149, fr150, z151, z152, z153, fy154, z155, ff156⟩ := u
                      have hv : iI z146 = v := hp.1
                      subst hv
                      have z146_a : 0 ≤ z146 := hp.2.1
                      have z146_b : z146 ≤ 1 := hp.2.2.1
                      have z147_a : 0 ≤ z147 := hp.2.2.2.1
                      have z147_b : z147 ≤ 940 := hp.2.2.2.2.1
                      have z148_a : 0 ≤ z148 := hp.2.2.2.2.2.1
                      have z148_b : z148 ≤ 940 := hp.2.2.2.2.2.2.1
                      have z149_a : 0 ≤ z149 := hp.2.2.2.2.2.2.2.1
                      have z149_b : z149 ≤ 4 := hp.2.2.2.2.2.2.2.2.1
                      have z151_a : (-2147483648) ≤ z151 := hp.2.2.2.2.2.2.2.2.2.1
                      have z151_b : z151 ≤ 2147483647 := hp.2.2.2.2.2.2.2.2.2.2.1
                      have z152_a : (-2147483648) ≤ z152 := hp.2.2.2.2.2.2.2.2.2.2.2.1
                      have z152_b : z152 ≤ 2147483647 := hp.2.2.2.2.2.2.2.2.2.2.2.2.1
                      have z153_a : 0 ≤ z153 := hp.2.2.2.2.2.2.2.2.2.2.2.2.2.1
                      have z153_b : z153 ≤ 940 := hp.2.2.2.2.2.2.2.2.2.2.2.2.2.2.1
                      have z155_a : (-2147483648) ≤ z155 := hp.2.2.2.2.2.2.2.2.2.2.2.2.2.2.2.1
                      have z155_b : z155 ≤ 2147483647 := hp.2.2.2.2.2.2.2.2.2.2.2.2.2.2.2.2.1
                      have ff156_h : lnI ff156 := hp.2.2.2.2.2.2.2.2.2.2.2.2.2.2.2.2.2.1
                      have ee157 : 0 ≤ (z147 - z135) := hp.2.2.2.2.2.2.2.2.2.2.2.2.2.2.2.2.2.2.1
                      have ee158 : 0 ≤ ((((z147 - z135) - z149) + 4) - z146) := hp.2.2.2.2.2.2.2.2.2.2.2.2.2.2.2.2.2.2.2.1
                      have pq159 : kpB z146 x7 z152 := hp.2.2.2.2.2.2.2.2.2.2.2.2.2.2.2.2.2.2.2.2.1
                      have pq160 : ∀ x : Tk × Int × Int, gT x z137 z136 z135 fy140 fr138 z139 → RS (bkD f0 x1 x2 (sOne (fun _ => f1 0) h0) (x, x16)) z146 z152 z153 (fun y => gT y z149 z148 z147 fy154 fr150 z151) x16 := hp.2.2.2.2.2.2.2.2.2.2.2.2.2.2.2.2.2.2.2.2.2
                      have w : WD D A s.heap [(a0, .inr (11, [.int r0, .ref a1, .int (iI x0), .int (iI x1), .int (iI x2), .int (iI z147), .int (iI z148), .int (iI z149), .int fr150, .int (iI z151), .int (iI z152), .int (iI z153), .long fy154, .int (iI z155), .ref a2, .ref a3, .ref a4, .ref a5, .ref a6, .ref a7, .ref a8, .ref a9, .ref a10, .ref a11, .int (iI x10), .ref a12, .ref a13, .ref a14, .ref a15, .int (iI x11), .int r2, .int r3, .ref a16, .int (iI x12), .int (iI x13), .ref a17, .ref a18, .int (iI x14), .ref a19, .int (iI x15), .int r4, .ref a20, .ref a21, .int (iI x16), .int r5, .ref a22, .int (iI x17), .int (iI x18), .int (iI x19), .int (iI x20)])), (a1, .inl (T 0, 940, .inl (cI f0))), (a2, .inl (T 0, 329, .inl (cI f1))), (a7, .inl (T 1, 12, .inr (.inl h0))), (a20, .inl (T 0, 160, .inl (cI ff156)))] H locs := w
                      refine lv_if_eq (tgt := 236) hx hb dX12_readBookLine_222 (by decide) (fun c_161 => ?_) (fun c_161 => ?_)
                      · replace c_161 := (iz_eq (Int.le_trans (by decide) z146_a) (Int.le_trans z146_b (by decide))).mp c_161
                        refine lv_iconst (v := iI 0) hx hb dX12_readBookLine_236 (by decide +kernel) ?_
                        exact ret _ (0, z147, z148, z149, fr150, z151, z152, z153, fy154, z155, ff156) _ _ _ _ _ [0, 1, 2, 3, 4] dX12_readBookLine_237 (by decide +kernel) ⟨rfl, (show (0 : Int) ≤ 0 from by decide), (show (0 : Int) ≤ 1 from by decide), z147_a, z147_b, z148_a, z148_b, z149_a, z149_b, z151_a, z151_b, z152_a, z152_b, z153_a, z153_b, z155_a, z155_b, ff156_h, (show 0 ≤ ((z147 - x3) - 0) from by omega), (show 0 ≤ ((79 - x16) - (0 * 40)) from by omega), (show kpB 0 x7 z152 from (fun e => absurd e (by decide))), (show ∀ x : Tk × Int × Int, gT x x5 x4 x3 y0 r1 x6 → RS (bkM f0 x1 x2 (sOne (fun _ => f1 0) h0) (sMn h0 (f1 1)) (x, x16)) 0 z152 z153 (fun y => gT y z149 z148 z147 fy154 fr150 z151) (x16 + 1) from (fun x g => bnS_0 (bl_o (wd_0 g (k := 13) pq2 (by omega)) (wd_0 g (k := 14) pq4 (by omega)) (bnV_1 (mn_C pq118 (by omega) pq124 (by omega) (fa := 0) (pl := 0) x g) rfl (fun _ => if_o (by omega) (RS_0 (pq160 _ (gT_nx g pq143)) (by omega))))) (on := 0) (G := fun _ => True) rfl))⟩ w (by decide) rfl
                      · replace c_161 : ¬ z146 = 0 := fun h => c_161 ((iz_eq (Int.le_trans (by decide) z146_a) (Int.le_trans z146_b (by decide))).mpr h)
                        refine lv_aload_n hx hb dX12_readBookLine_225 rfl (lv_at hl 3 rfl) ?_
                        refine k_I (ce := 0) (sl := 0) (rest := []) (wr := [(a2, .inl (T 0, 329, .inl (cI f1))), (a7, .inl (T 1, 12, .inr (.inl h0))), (a20, .inl (T 0, 160, .inl (cI ff156)))]) (r_V (f := 2) [0, 1] M w V_HookedCityModel_230 G1720 G66 (c47_X12_readEnd l D T _ a0 r0 a1 x0 x1 x2 z147 z148 z149 fr150 z151 z152 z153 fy154 z155 a2 a3 a4 a5 a6 a7 a8 a9 a10 a11 x10 a12 a13 a14 a15 x11 r2 r3 a16 x12 x13 a17 a18 x14 a19 x15 r4 a20 a21 x16 r5 a22 x17 x18 x19 x20 f0 x0_a x0_b x1_a x1_b x2_a x2_b z147_a z147_b z148_a z148_b z149_a z149_b z151_a z151_b z152_a z152_b z153_a z153_b z155_a z155_b x10_a x10_b x11_a x11_b x12_a x12_b x13_a x13_b x14_a x14_b x15_a x15_b x16_a x16_b x17_a x17_b x18_a x18_b x19_a x19_b x20_a x20_b f0_h) 0 clX12 rfl rfl (by decide) rfl hl.1 rfl (Nat.le_of_ble_eq_true rfl) dX12_readBookLine_226 (by decide) (by decide) (by decide) (by decide)) w [0, 1] [2, 3, 4] rfl rfl (by decide) (by decide) rfl rfl (fun v u H locs hp w => ?_)
                        obtain ⟨z162, z163, z164, z165, fr166, z167, z168, z169, fy170⟩ := u
                        have hv : iI z162 = v := hp.1
                        subst hv
                        have z162_a : 0 ≤ z162 := hp.2.1
                        have z162_b : z162 ≤ 1 := hp.2.2.1
                        have z163_a : 0 ≤ z163 := hp.2.2.2.1
                        have z163_b : z163 ≤ 940 := hp.2.2.2.2.1
                        have z164_a : 0 ≤ z164 := hp.2.2.2.2.2.1
                        have z164_b : z164 ≤ 940 := hp.2.2.2.2.2.2.1
                        have z165_a : 0 ≤ z165 := hp.2.2.2.2.2.2.2.1
                        have z165_b : z165 ≤ 4 := hp.2.2.2.2.2.2.2.2.1
                        have z167_a : (-2147483648) ≤ z167 := hp.2.2.2.2.2.2.2.2.2.1
                        have z167_b : z167 ≤ 2147483647 := hp.2.2.2.2.2.2.2.2.2.2.1
                        have z168_a : (-2147483648) ≤ z168 := hp.2.2.2.2.2.2.2.2.2.2.2.1
                        have z168_b : z168 ≤ 2147483647 := hp.2.2.2.2.2.2.2.2.2.2.2.2.1
                        have z169_a : 0 ≤ z169 := hp.2.2.2.2.2.2.2.2.2.2.2.2.2.1
                        have z169_b : z169 ≤ 940 := hp.2.2.2.2.2.2.2.2.2.2.2.2.2.2.1
                        have ee171 : 0 ≤ (z163 - z147) := hp.2.2.2.2.2.2.2.2.2.2.2.2.2.2.2.1
                        have ee172 : 0 ≤ (z149 - (z162 * 4)) := hp.2.2.2.2.2.2.2.2.2.2.2.2.2.2.2.2.1
                        have pq173 : ∀ x : Tk × Int × Int, gT x z149 z148 z147 fy154 fr150 z151 → enP f0 x1 x2 59 x z162 z168 z169 (fun y => gT y z165 z164 z163 fy170 fr166 z167) := hp.2.2.2.2.2.2.2.2.2.2.2.2.2.2.2.2.2.1
                        have pq174 : kpB z162 z152 z168 := hp.2.2.2.2.2.2.2.2.2.2.2.2.2.2.2.2.2.2
                        have w : WD D A s.heap [(a2, .inl (T 0, 329, .inl (cI f1))), (a7, .inl (T 1, 12, .inr (.inl h0))), (a20, .inl (T 0, 160, .inl (cI ff156))), (a0, .inr (11, [.int r0, .ref a1, .int (iI x0), .int (iI x1), .int (iI x2), .int (iI z163), .int (iI z164), .int (iI z165), .int fr166, .int (iI z167), .int (iI z168), .int (iI z169), .long fy170, .int (iI z155), .ref a2, .ref a3, .ref a4, .ref a5, .ref a6, .ref a7, .ref a8, .ref a9, .ref a10, .ref a11, .int (iI x10), .ref a12, .ref a13, .ref a14, .ref a15, .int (iI x11), .int r2, .int r3, .ref a16, .int (iI x12), .int (iI x13), .ref a17, .ref a18, .int (iI x14), .ref a19, .int (iI x15), .int r4, .ref a20, .ref a21, .int (iI x16), .int r5, .ref a22, .int (iI x17), .int (iI x18), .int (iI x19), .int (iI x20)])), (a1, .inl (T 0, 940, .inl (cI f0)))] H locs := w
                        refine lv_if_eq (tgt := 236) hx hb dX12_readBookLine_229 (by decide) (fun c_175 => ?_) (fun c_175 => ?_)
                        · replace c_175 := (iz_eq (Int.le_trans (by decide) z162_a) (Int.le_trans z162_b (by decide))).mp c_175
                          refine lv_iconst (v := iI 0) hx hb dX12_readBookLine_236 (by decide +kernel) ?_
                          exact ret _ (0, z163, z164, z165, fr166, z167, z168, z169, fy170, z155, ff156) _ _ _ _ _ [3, 4, 0, 1, 2] dX12_readBookLine_237 (by decide +kernel) ⟨rfl, (show (0 : Int) ≤ 0 from by decide), (show (0 : Int) ≤ 1 from by decide), z163_a, z163_b, z164_a, z164_b, z165_a, z165_b, z167_a, z167_b, z168_a, z168_b, z169_a, z169_b, z155_a, z155_b, ff156_h, (show 0 ≤ ((z163 - x3) - 0) from by omega), (show 0 ≤ ((79 - x16) - (0 * 40)) from by omega), (show kpB 0 x7 z168 from (fun e => absurd e (by decide))), (show ∀ x : Tk × Int × Int, gT x x5 x4 x3 y0 r1 x6 → RS (bkM f0 x1 x2 (sOne (fun _ => f1 0) h0) (sMn h0 (f1 1)) (x, x16)) 0 z168 z169 (fun y => gT y z165 z164 z163 fy170 fr166 z167) (x16 + 1) from (fun x g => RS_e (bnS_1 (bl_o (wd_0 g (k := 13) pq2 (by omega)) (wd_0 g (k := 14) pq4 (by omega)) (bnV_1 (mn_C pq118 (by omega) pq124 (by omega) (fa := 0) (pl := 0) x g) rfl (fun _ => if_o (by omega) (RS_1 (pq160 _ (gT_nx g pq143)) (by omega) (fa' := 0) (pl' := 0))))) rfl (be_x pq173)) (by omega)))⟩ w (by decide) rfl
                        · replace c_175 : ¬ z162 = 0 := fun h => c_175 ((iz_eq (Int.le_trans (by decide) z162_a) (Int.le_trans z162_b (by decide))).mpr h)
                          refine lv_iconst (v := iI 1) hx hb dX12_readBookLine_232 (by decide +kernel) ?_
                          refine lv_goto (tgt := 237) hx hb dX12_readBookLine_233 (by decide) ?_
                          exact ret _ (1, z163, z164, z165, fr166, z167, z168, z169, fy170, z155, ff156) _ _ _ _ _ [3, 4, 0, 1, 2] dX12_readBookLine_237 (by decide +kernel) ⟨rfl, (show (0 : Int) ≤ 1 from by decide), (show (1 : Int) ≤ 1 from by decide), z163_a, z163_b, z164_a, z164_b, z165_a, z165_b, z167_a, z167_b, z168_a, z168_b, z169_a, z169_b, z155_a, z155_b, ff156_h, (show 0 ≤ ((z163 - x3) - 1) from by omega), (show 0 ≤ ((79 - x16) - (1 * 40)) from by omega), (show kpB 1 x7 z168 from (fun hr => by have y6 := pq159 (by omega); have y7 := pq174 (by omega); omega)), (show ∀ x : Tk × Int × Int, gT x x5 x4 x3 y0 r1 x6 → RS (bkM f0 x1 x2 (sOne (fun _ => f1 0) h0) (sMn h0 (f1 1)) (x, x16)) 1 z168 z169 (fun y => gT y z165 z164 z163 fy170 fr166 z167) (x16 + 1) from (fun x g => RS_e (bnS_1 (bl_o (wd_0 g (k := 13) pq2 (by omega)) (wd_0 g (k := 14) pq4 (by omega)) (bnV_1 (mn_C pq118 (by omega) pq124 (by omega) (fa := 0) (pl := 0) x g) rfl (fun _ => if_o (by omega) (RS_1 (pq160 _ (gT_nx g pq143)) (by omega) (fa' := 0) (pl' := 0))))) rfl (be_x pq173)) (by omega)))⟩ w (by decide) rfl
                    · replace c_145 : ¬ z3 = 0 := fun h => c_145 ((iz_eq (Int.le_trans (by decide) z3_a) (Int.le_trans z3_b (by decide))).mpr h)
                      exfalso; omega
                  · replace c_144 : ¬ z1 = 0 := fun h => c_144 ((iz_eq (Int.le_trans (by decide) z1_a) (Int.le_trans z1_b (by decide))).mpr h)
                    exfalso; omega
                · replace c_129 : ¬ z3 = 0 := fun h => c_129 ((iz_eq (Int.le_trans (by decide) z3_a) (Int.le_trans z3_b (by decide))).mpr h)
                  exfalso; omega
            · replace c_127 : ¬ z1 = 0 := fun h => c_127 ((iz_eq (Int.le_trans (by decide) z1_a) (Int.le_trans z1_b (by decide))).mpr h)
              exfalso; omega
          · replace c_126 := (iI_eq (Int.le_trans (by decide) x16_a) (Int.le_trans x16_b (by decide)) (by decide) (by decide)).mp c_126
            refine lv_aload_n hx hb dX12_readBookLine_73 rfl (lv_at hl 2 rfl) ?_
            refine lv_iconst (v := iI 4) hx hb dX12_readBookLine_74 (by decide +kernel) ?_
            refine k_I (ce := 0) (sl := 0) (rest := []) (wr := [(a1, .inl (T 0, 940, .inl (cI f0))), (a2, .inl (T 0, 329, .inl (cI f1))), (a20, .inl (T 0, 160, .inl (cI f2))), (a7, .inl (T 1, 12, .inr (.inl h0)))]) (r_V (f := 0) [3] M w V_HookedCityModel_72 G1667 G55 (c45_X12_bad l D T _ a0 4 r0 a1 x0 x1 x2 x3 x4 x5 r1 x6 x7 x8 y0 x9 a2 a3 a4 a5 a6 a7 a8 a9 a10 a11 x10 a12 a13 a14 a15 x11 r2 r3 a16 x12 x13 a17 a18 x14 a19 x15 r4 a20 a21 x16 r5 a22 x17 x18 x19 x20 (by decide) (by decide) x0_a x0_b x1_a x1_b x2_a x2_b x3_a x3_b x4_a x4_b x5_a x5_b x6_a x6_b x7_a x7_b x8_a x8_b x9_a x9_b x10_a x10_b x11_a x11_b x12_a x12_b x13_a x13_b x14_a x14_b x15_a x15_b x16_a x16_b x17_a x17_b x18_a x18_b x19_a x19_b x20_a x20_b) 3 clX12 rfl rfl (by decide) rfl hl.1 rfl (Nat.le_of_ble_eq_true rfl) dX12_readBookLine_75 (by decide) (by decide) (by decide) (by decide)) w [3] [0, 1, 2, 4] rfl rfl (by decide) (by decide) rfl rfl (fun v u H locs hp w => ?_)
            obtain ⟨z176, z177, z178⟩ := u
            have hv : iI z176 = v := hp.1
            subst hv
            have z176_a : 0 ≤ z176 := hp.2.1
            have z176_b : z176 ≤ 1 := hp.2.2.1
            have z177_a : (-2147483648) ≤ z177 := hp.2.2.2.1
            have z177_b : z177 ≤ 2147483647 := hp.2.2.2.2.1
            have z178_a : 0 ≤ z178 := hp.2.2.2.2.2.1
            have z178_b : z178 ≤ 940 := hp.2.2.2.2.2.2.1
            have pq179 : baQ x5 4 z177 := hp.2.2.2.2.2.2.2.1
            have pq180 : z178 = x4 := hp.2.2.2.2.2.2.2.2.1
            have w : WD D A s.heap [(a1, .inl (T 0, 940, .inl (cI f0))), (a2, .inl (T 0, 329, .inl (cI f1))), (a20, .inl (T 0, 160, .inl (cI f2))), (a7, .inl (T 1, 12, .inr (.inl h0))), (a0, .inr (11, [.int r0, .ref a1, .int (iI x0), .int (iI x1), .int (iI x2), .int (iI x3), .int (iI x4), .int (iI x5), .int r1, .int (iI x6), .int (iI z177), .int (iI z178), .long y0, .int (iI x9), .ref a2, .ref a3, .ref a4, .ref a5, .ref a6, .ref a7, .ref a8, .ref a9, .ref a10, .ref a11, .int (iI x10), .ref a12, .ref a13, .ref a14, .ref a15, .int (iI x11), .int r2, .int r3, .ref a16, .int (iI x12), .int (iI x13), .ref a17, .ref a18, .int (iI x14), .ref a19, .int (iI x15), .int r4, .ref a20, .ref a21, .int (iI x16), .int r5, .ref a22, .int (iI x17), .int (iI x18), .int (iI x19), .int (iI x20)]))] H locs := w
            rcases hp.2.2.2.2.2.2.2.2.2 with hr
            · subst hr
              exact ret _ (0, x3, x4, x5, r1, x6, z177, z178, y0, x9, f2) _ _ _ _ _ [4, 0, 1, 3, 2] dX12_readBookLine_78 (by decide +kernel) ⟨rfl, (show (0 : Int) ≤ 0 from by decide), (show (0 : Int) ≤ 1 from by decide), x3_a, x3_b, x4_a, x4_b, x5_a, x5_b, x6_a, x6_b, z177_a, z177_b, z178_a, z178_b, x9_a, x9_b, f2_h, (show 0 ≤ ((x3 - x3) - 0) from by omega), (show 0 ≤ ((79 - x16) - (0 * 40)) from by omega), (show kpB 0 x7 z177 from (fun e => absurd e (by decide))), (show ∀ x : Tk × Int × Int, gT x x5 x4 x3 y0 r1 x6 → RS (bkM f0 x1 x2 (sOne (fun _ => f1 0) h0) (sMn h0 (f1 1)) (x, x16)) 0 z177 z178 (fun y => gT y x5 x4 x3 y0 r1 x6) (x16 + 1) from (fun x g => bnS_0 (G := fun _ => True) (on := 0) (bl_o (wd_0 g (k := 13) pq2 (by omega)) (wd_0 g (k := 14) pq4 (by omega)) (bnV_1 (mn_C pq118 (by omega) pq124 (by omega) (fa := 0) (pl := 0) x g) rfl (fun _ => if_4 (by omega) (bad_n g (nm_1 g pq118 (by omega)).1 pq179) (pq180.trans g.1)))) rfl))⟩ w (by decide) rfl
        · replace c_125 := (iI_eq (Int.le_trans (by decide) z122_a) (Int.le_trans z122_b (by decide)) (by decide) (by decide)).mp c_125
          refine lv_aload_n hx hb dX12_readBookLine_58 rfl (lv_at hl 2 rfl) ?_
          refine lv_iconst (v := iI 3) hx hb dX12_readBookLine_59 (by decide +kernel) ?_
          refine k_I (ce := 0) (sl := 0) (rest := []) (wr := [(a1, .inl (T 0, 940, .inl (cI f0))), (a2, .inl (T 0, 329, .inl (cI f1))), (a20, .inl (T 0, 160, .inl (cI f2))), (a7, .inl (T 1, 12, .inr (.inl h0)))]) (r_V (f := 0) [3] M w V_HookedCityModel_72 G1667 G55 (c45_X12_bad l D T _ a0 3 r0 a1 x0 x1 x2 x3 x4 x5 r1 x6 x7 x8 y0 x9 a2 a3 a4 a5 a6 a7 a8 a9 a10 a11 x10 a12 a13 a14 a15 x11 r2 r3 a16 x12 x13 a17 a18 x14 a19 x15 r4 a20 a21 x16 r5 a22 x17 x18 x19 x20 (by decide) (by decide) x0_a x0_b x1_a x1_b x2_a x2_b x3_a x3_b x4_a x4_b x5_a x5_b x6_a x6_b x7_a x7_b x8_a x8_b x9_a x9_b x10_a x10_b x11_a x11_b x12_a x12_b x13_a x13_b x14_a x14_b x15_a x15_b x16_a x16_b x17_a x17_b x18_a x18_b x19_a x19_b x20_a x20_b) 3 clX12 rfl rfl (by decide) rfl hl.1 rfl (Nat.le_of_ble_eq_true rfl) dX12_readBookLine_60 (by decide) (by decide) (by decide) (by decide)) w [3] [0, 1, 2, 4] rfl rfl (by decide) (by decide) rfl rfl (fun v u H locs hp w => ?_)
          obtain ⟨z181, z182, z183⟩ := u
          have hv : iI z181 = v := hp.1
          subst hv
          have z181_a : 0 ≤ z181 := hp.2.1
          have z181_b : z181 ≤ 1 := hp.2.2.1
          have z182_a : (-2147483648) ≤ z182 := hp.2.2.2.1
          have z182_b : z182 ≤ 2147483647 := hp.2.2.2.2.1
          have z183_a : 0 ≤ z183 := hp.2.2.2.2.2.1
          have z183_b : z183 ≤ 940 := hp.2.2.2.2.2.2.1
          have pq184 : baQ x5 3 z182 := hp.2.2.2.2.2.2.2.1
          have pq185 : z183 = x4 := hp.2.2.2.2.2.2.2.2.1
          have w : WD D A s.heap [(a1, .inl (T 0, 940, .inl (cI f0))), (a2, .inl (T 0, 329, .inl (cI f1))), (a20, .inl (T 0, 160, .inl (cI f2))), (a7, .inl (T 1, 12, .inr (.inl h0))), (a0, .inr (11, [.int r0, .ref a1, .int (iI x0), .int (iI x1), .int (iI x2), .int (iI x3), .int (iI x4), .int (iI x5), .int r1, .int (iI x6), .int (iI z182), .int (iI z183), .long y0, .int (iI x9), .ref a2, .ref a3, .ref a4, .ref a5, .ref a6, .ref a7, .ref a8, .ref a9, .ref a10, .ref a11, .int (iI x10), .ref a12, .ref a13, .ref a14, .ref a15, .int (iI x11), .int r2, .int r3, .ref a16, .int (iI x12), .int (iI x13), .ref a17, .ref a18, .int (iI x14), .ref a19, .int (iI x15), .int r4, .ref a20, .ref a21, .int (iI x16), .int r5, .ref a22, .int (iI x17), .int (iI x18), .int (iI x19), .int (iI x20)]))] H locs := w
          rcases hp.2.2.2.2.2.2.2.2.2 with hr
          · subst hr
            exact ret _ (0, x3, x4, x5, r1, x6, z182, z183, y0, x9, f2) _ _ _ _ _ [4, 0, 1, 3, 2] dX12_readBookLine_63 (by decide +kernel) ⟨rfl, (show (0 : Int) ≤ 0 from by decide), (show (0 : Int) ≤ 1 from by decide), x3_a, x3_b, x4_a, x4_b, x5_a, x5_b, x6_a, x6_b, z182_a, z182_b, z183_a, z183_b, x9_a, x9_b, f2_h, (show 0 ≤ ((x3 - x3) - 0) from by omega), (show 0 ≤ ((79 - x16) - (0 * 40)) from by omega), (show kpB 0 x7 z182 from (fun e => absurd e (by decide))), (show ∀ x : Tk × Int × Int, gT x x5 x4 x3 y0 r1 x6 → RS (bkM f0 x1 x2 (sOne (fun _ => f1 0) h0) (sMn h0 (f1 1)) (x, x16)) 0 z182 z183 (fun y => gT y x5 x4 x3 y0 r1 x6) (x16 + 1) from (fun x g => bnS_0 (G := fun _ => True) (on := 0) (bl_o (wd_0 g (k := 13) pq2 (by omega)) (wd_0 g (k := 14) pq4 (by omega)) (bnV_0 (mn_B pq118 (by omega) pq124 (by omega) pq184 pq185 x g) rfl)) rfl))⟩ w (by decide) rfl
      · replace c_119 := (iz_eq (Int.le_trans (by decide) z117_a) (Int.le_trans z117_b (by decide))).mp c_119
        refine lv_aload_n hx hb dX12_readBookLine_29 rfl (lv_at hl 2 rfl) ?_
        refine lv_iconst (v := iI 1) hx hb dX12_readBookLine_30 (by decide +kernel) ?_
        refine k_I (ce := 0) (sl := 0) (rest := []) (wr := [(a1, .inl (T 0, 940, .inl (cI f0))), (a2, .inl (T 0, 329, .inl (cI f1))), (a7, .inl (T 1, 12, .inr (.inl h0))), (a20, .inl (T 0, 160, .inl (cI f2)))]) (r_V (f := 0) [4] M w V_HookedCityModel_72 G1667 G55 (c45_X12_bad l D T _ a0 1 r0 a1 x0 x1 x2 x3 x4 x5 r1 x6 x7 x8 y0 x9 a2 a3 a4 a5 a6 a7 a8 a9 a10 a11 x10 a12 a13 a14 a15 x11 r2 r3 a16 x12 x13 a17 a18 x14 a19 x15 r4 a20 a21 x16 r5 a22 x17 x18 x19 x20 (by decide) (by decide) x0_a x0_b x1_a x1_b x2_a x2_b x3_a x3_b x4_a x4_b x5_a x5_b x6_a x6_b x7_a x7_b x8_a x8_b x9_a x9_b x10_a x10_b x11_a x11_b x12_a x12_b x13_a x13_b x14_a x14_b x15_a x15_b x16_a x16_b x17_a x17_b x18_a x18_b x19_a x19_b x20_a x20_b) 4 clX12 rfl rfl (by decide) rfl hl.1 rfl (Nat.le_of_ble_eq_true rfl) dX12_readBookLine_31 (by decide) (by decide) (by decide) (by decide)) w [4] [0, 1, 2, 3] rfl rfl (by decide) (by decide) rfl rfl (fun v u H locs hp w => ?_)
        obtain ⟨z186, z187, z188⟩ := u
        have hv : iI z186 = v := hp.1
        subst hv
        have z186_a : 0 ≤ z186 := hp.2.1
        have z186_b : z186 ≤ 1 := hp.2.2.1
        have z187_a : (-2147483648) ≤ z187 := hp.2.2.2.1
        have z187_b : z187 ≤ 2147483647 := hp.2.2.2.2.1
        have z188_a : 0 ≤ z188 := hp.2.2.2.2.2.1
        have z188_b : z188 ≤ 940 := hp.2.2.2.2.2.2.1
        have pq189 : baQ x5 1 z187 := hp.2.2.2.2.2.2.2.1
        have pq190 : z188 = x4 := hp.2.2.2.2.2.2.2.2.1
        have w : WD D A s.heap [(a1, .inl (T 0, 940, .inl (cI f0))), (a2, .inl (T 0, 329, .inl (cI f1))), (a7, .inl (T 1, 12, .inr (.inl h0))), (a20, .inl (T 0, 160, .inl (cI f2))), (a0, .inr (11, [.int r0, .ref a1, .int (iI x0), .int (iI x1), .int (iI x2), .int (iI x3), .int (iI x4), .int (iI x5), .int r1, .int (iI x6), .int (iI z187), .int (iI z188), .long y0, .int (iI x9), .ref a2, .ref a3, .ref a4, .ref a5, .ref a6, .ref a7, .ref a8, .ref a9, .ref a10, .ref a11, .int (iI x10), .ref a12, .ref a13, .ref a14, .ref a15, .int (iI x11), .int r2, .int r3, .ref a16, .int (iI x12), .int (iI x13), .ref a17, .ref a18, .int (iI x14), .ref a19, .int (iI x15), .int r4, .ref a20, .ref a21, .int (iI x16), .int r5, .ref a22, .int (iI x17), .int (iI x18), .int (iI x19), .int (iI x20)]))] H locs := w
        rcases hp.2.2.2.2.2.2.2.2.2 with hr
        · subst hr
          exact ret _ (0, x3, x4, x5, r1, x6, z187, z188, y0, x9, f2) _ _ _ _ _ [4, 0, 1, 2, 3] dX12_readBookLine_34 (by decide +kernel) ⟨rfl, (show (0 : Int) ≤ 0 from by decide), (show (0 : Int) ≤ 1 from by decide), x3_a, x3_b, x4_a, x4_b, x5_a, x5_b, x6_a, x6_b, z187_a, z187_b, z188_a, z188_b, x9_a, x9_b, f2_h, (show 0 ≤ ((x3 - x3) - 0) from by omega), (show 0 ≤ ((79 - x16) - (0 * 40)) from by omega), (show kpB 0 x7 z187 from (fun e => absurd e (by decide))), (show ∀ x : Tk × Int × Int, gT x x5 x4 x3 y0 r1 x6 → RS (bkM f0 x1 x2 (sOne (fun _ => f1 0) h0) (sMn h0 (f1 1)) (x, x16)) 0 z187 z188 (fun y => gT y x5 x4 x3 y0 r1 x6) (x16 + 1) from (fun x g => bnS_0 (G := fun _ => True) (on := 0) (bl_o (wd_0 g (k := 13) pq2 (by omega)) (wd_0 g (k := 14) pq4 (by omega)) (bnV_0 (t := 0) (mn_A pq118 (by omega) pq189 pq190 x g) rfl)) rfl))⟩ w (by decide) rfl
set_option maxRecDepth 100000 in
set_option maxHeartbeats 4000000 in
theorem c135_X12_goBy (l : Launch) (D : va_G) (T : Nat → ClassId) (sz : Nat) (a0 : Nat) (x0 : Int) (r0 : Int32) (a1 : Nat) (x1 : Int) (x2 : Int) (x3 : Int) (x4 : Int) (x5 : Int) (x6 : Int) (r1 : Int32) (x7 : Int) (x8 : Int) (x9 : Int) (y0 : Int64) (x10 : Int) (a2 : Nat) (a3 : Nat) (a4 : Nat) (a5 : Nat) (a6 : Nat) (a7 : Nat) (a8 : Nat) (a9 : Nat) (a10 : Nat) (a11 : Nat) (x11 : Int) (a12 : Nat) (a13 : Nat) (a14 : Nat) (a15 : Nat) (x12 : Int) (r2 : Int32) (r3 : Int32) (a16 : Nat) (x13 : Int) (x14 : Int) (a17 : Nat) (a18 : Nat) (x15 : Int) (a19 : Nat) (x16 : Int) (r4 : Int32) (a20 : Nat) (a21 : Nat) (x17 : Int) (r5 : Int32) (a22 : Nat) (x18 : Int) (x19 : Int) (x20 : Int) (x21 : Int) (f0 : Int → Int) (f1 : Int → Int) (x0_a : 0 ≤ x0) (x0_b : x0 ≤ 156) (x1_a : 0 ≤ x1) (x1_b : x1 ≤ 940) (x2_a : 0 ≤ x2) (x2_b : x2 ≤ 940) (x3_a : 0 ≤ x3) (x3_b : x3 ≤ 940) (x4_a : 0 ≤ x4) (x4_b : x4 ≤ 940) (x5_a : 0 ≤ x5) (x5_b : x5 ≤ 940) (x6_a : 0 ≤ x6) (x6_b : x6 ≤ 4) (x7_a : (-2147483648) ≤ x7) (x7_b : x7 ≤ 2147483647) (x8_a : (-2147483648) ≤ x8) (x8_b : x8 ≤ 2147483647) (x9_a : 0 ≤ x9) (x9_b : x9 ≤ 940) (x10_a : (-2147483648) ≤ x10) (x10_b : x10 ≤ 2147483647) (x11_a : 0 ≤ x11) (x11_b : x11 ≤ 8) (x12_a : 0 ≤ x12) (x12_b : x12 ≤ 9) (x13_a : (-1) ≤ x13) (x13_b : x13 ≤ 9) (x14_a : (-1) ≤ x14) (x14_b : x14 ≤ 8) (x15_a : 0 ≤ x15) (x15_b : x15 ≤ 9) (x16_a : 0 ≤ x16) (x16_b : x16 ≤ 64) (x17_a : 0 ≤ x17) (x17_b : x17 ≤ 40) (x18_a : 0 ≤ x18) (x18_b : x18 ≤ 40) (x19_a : 0 ≤ x19) (x19_b : x19 ≤ 20) (x20_a : 0 ≤ x20) (x20_b : x20 ≤ 8) (x21_a : 0 ≤ x21) (x21_b : x21 ≤ 39) (f0_h : nowI f0) (f1_h : lnI f1) (pp_l : lok (f1 x0) (f1 (x0 + 1)) (f1 (x0 + 2)) (f1 (x0 + 3))) : Met l yX12_goBy (Cond.code yX12_goBy cX12_goBy 4 (some .int) :: GW) (Rm 4 0 0) (cPre [.ref a0, .int (iI x0)] D T [(a0, .inr (11, [.int r0, .ref a1, .int (iI x1), .int (iI x2), .int (iI x3), .int (iI x4), .int (iI x5), .int (iI x6), .int r1, .int (iI x7), .int (iI x8), .int (iI x9), .long y0, .int (iI x10), .ref a2, .ref a3, .ref a4, .ref a5, .ref a6, .ref a7, .ref a8, .ref a9, .ref a10, .ref a11, .int (iI x11), .ref a12, .ref a13, .ref a14, .ref a15, .int (iI x12), .int r2, .int r3, .ref a16, .int (iI x13), .int (iI x14), .ref a17, .ref a18, .int (iI x15), .ref a19, .int (iI x16), .int r4, .ref a20, .ref a21, .int (iI x17), .int r5, .ref a22, .int (iI x18), .int (iI x19), .int (iI x20), .int (iI x21)])), (a2, .inl (T 0, 329, .inl (cI f0))), (a20, .inl (T 0, 160, .inl (cI f1)))] sz) (qI D [(a0, .inr (11, [.int r0, .ref a1, .int (iI x1), .int (iI x2), .int (iI x3), .int (iI x4), .int (iI x5), .int (iI x6), .int r1, .int (iI x7), .int (iI x8), .int (iI x9), .long y0, .int (iI x10), .ref a2, .ref a3, .ref a4, .ref a5, .ref a6, .ref a7, .ref a8, .ref a9, .ref a10, .ref a11, .int (iI x11), .ref a12, .ref a13, .ref a14, .ref a15, .int (iI x12), .int r2, .int r3, .ref a16, .int (iI x13), .int (iI x14), .ref a17, .ref a18, .int (iI x15), .ref a19, .int (iI x16), .int r4, .ref a20, .ref a21, .int (iI x17), .int r5, .ref a22, .int (iI x18), .int (iI x19), .int (iI x20), .int (iI x21)])), (a2, .inl (T 0, 329, .inl (cI f0))), (a20, .inl (T 0, 160, .inl (cI f1)))] sz (fun (v : Int32) (u : Int × (Int → Int)) => iI u.1 = v ∧ 0 ≤ u.1 ∧ u.1 ≤ 31 ∧ nowI u.2 ∧ (kp 53 f0 u.2)) (fun u => [(a0, .inr (11, [.int r0, .ref a1, .int (iI x1), .int (iI x2), .int (iI x3), .int (iI x4), .int (iI x5), .int (iI x6), .int r1, .int (iI x7), .int (iI x8), .int (iI x9), .long y0, .int (iI x10), .ref a2, .ref a3, .ref a4, .ref a5, .ref a6, .ref a7, .ref a8, .ref a9, .ref a10, .ref a11, .int (iI x11), .ref a12, .ref a13, .ref a14, .ref a15, .int (iI x12), .int r2, .int r3, .ref a16, .int (iI x13), .int (iI x14), .ref a17, .ref a18, .int (iI x15), .ref a19, .int (iI x16), .int r4, .ref a20, .ref a21, .int (iI x17), .int r5, .ref a22, .int (iI x18), .int (iI x19), .int (iI x20), .int (iI x21)])), (a2, .inl (T 0, 329, .inl (cI u.2))), (a20, .inl (T 0, 160, .inl (cI f1)))])) 0 0 (va_A [(a0, .inr (11, [.int r0, .ref a1, .int (iI x1), .int (iI x2), .int (iI x3), .int (iI x4), .int (iI x5), .int (iI x6), .int r1, .int (iI x7), .int (iI x8), .int (iI x9), .long y0, .int (iI x10), .ref a2, .ref a3, .ref a4, .ref a5, .ref a6, .ref a7, .ref a8, .ref a9, .ref a10, .ref a11, .int (iI x11), .ref a12, .ref a13, .ref a14, .ref a15, .int (iI x12), .int r2, .int r3, .ref a16, .int (iI x13), .int (iI x14), .ref a17, .ref a18, .int (iI x15), .ref a19, .int (iI x16), .int r4, .ref a20, .ref a21, .int (iI x17), .int r5, .ref a22, .int (iI x18), .int (iI x19), .int (iI x20), .int (iI x21)])), (a2, .inl (T 0, 329, .inl (cI f0))), (a20, .inl (T 0, 160, .inl (cI f1)))] sz) := by
  refine e_I (by decide) (Nat.le_of_ble_eq_true rfl) ?_
  intro p e s m args below meth c A Q ls M hin w ret hl
  have hx := M.1.1
  have hb := M.1.2.1
  have hl : lv_has ls 4 [(0, .ref a0), (1, .int (iI x0))] := hl
  unfold lok at pp_l
  refine lv_aload_n hx hb dX12_goBy_0 rfl (lv_at hl 0 rfl) ?_
  refine r_get (v := .ref a20) M w 0 41 clX12 rfl (by decide) G1504 rfl rfl dX12_goBy_1 ?_
  refine lv_iload_n hx hb dX12_goBy_4 rfl (lv_at hl 1 rfl) ?_
  refine lv_iconst (v := iI 1) hx hb dX12_goBy_5 (by decide +kernel) ?_
  refine r_iadd (v := iI (x0 + 1)) M (iI_add _ _) dX12_goBy_6 ?_
  refine r_iald (v := iI (f1 (x0 + 1))) M w 2 rfl (iI_in (by omega) (by omega) (by decide)) (cI_at (by omega) (by omega)) dX12_goBy_7 ?_
  have hh1 : (-2147483648) ≤ (f1 (x0 + 1)) ∧ (f1 (x0 + 1)) ≤ 2147483647 := f1_h.1 (x0 + 1)
  refine lv_istore_n (lv' := [(2, .int (iI (f1 (x0 + 1)))), (0, .ref a0), (1, .int (iI x0))]) hx hb dX12_goBy_8 rfl hl (by decide) rfl (fun ls hl => ?_)
  refine lv_aload_n hx hb dX12_goBy_9 rfl (lv_at hl 1 rfl) ?_
  refine r_get (v := .ref a20) M w 0 41 clX12 rfl (by decide) G1504 rfl rfl dX12_goBy_10 ?_
  refine lv_iload_n hx hb dX12_goBy_13 rfl (lv_at hl 2 rfl) ?_
  refine r_iald (v := iI (f1 x0)) M w 2 rfl (iI_in (by omega) (by omega) (by decide)) (cI_at (by omega) (by omega)) dX12_goBy_14 ?_
  have hh2 : (-2147483648) ≤ (f1 x0) ∧ (f1 x0) ≤ 2147483647 := f1_h.1 x0
  refine lv_iconst (v := iI 3) hx hb dX12_goBy_15 (by decide +kernel) ?_
  refine lv_icmp_ne (tgt := 45) hx hb dX12_goBy_16 (by decide) (fun c_3 => ?_) (fun c_3 => ?_)
  · replace c_3 : ¬ (f1 x0) = 3 := fun h => c_3 ((iI_eq (by omega) (by omega) (by decide) (by decide)).mpr h)
    refine lv_aload_n hx hb dX12_goBy_45 rfl (lv_at hl 1 rfl) ?_
    refine lv_aload_n hx hb dX12_goBy_46 rfl (lv_at hl 1 rfl) ?_
    refine r_get (v := .ref a20) M w 0 41 clX12 rfl (by decide) G1504 rfl rfl dX12_goBy_47 ?_
    refine lv_iload_n hx hb dX12_goBy_50 rfl (lv_at hl 2 rfl) ?_
    refine r_iald (v := iI (f1 x0)) M w 2 rfl (iI_in (by omega) (by omega) (by decide)) (cI_at (by omega) (by omega)) dX12_goBy_51 ?_
    have hh4 : (-2147483648) ≤ (f1 x0) ∧ (f1 x0) ≤ 2147483647 := f1_h.1 x0
    refine lv_iload_n hx hb dX12_goBy_52 rfl (lv_at hl 0 rfl) ?_
    refine lv_aload_n hx hb dX12_goBy_53 rfl (lv_at hl 1 rfl) ?_
    refine r_get (v := .ref a20) M w 0 41 clX12 rfl (by decide) G1504 rfl rfl dX12_goBy_54 ?_
    refine lv_iload_n hx hb dX12_goBy_57 rfl (lv_at hl 2 rfl) ?_
    refine lv_iconst (v := iI 2) hx hb dX12_goBy_58 (by decide +kernel) ?_
    refine r_iadd (v := iI (x0 + 2)) M (iI_add _ _) dX12_goBy_59 ?_
    refine r_iald (v := iI (f1 (x0 + 2))) M w 2 rfl (iI_in (by omega) (by omega) (by decide)) (cI_at (by omega) (by omega)) dX12_goBy_60 ?_
    have hh5 : (-2147483648) ≤ (f1 (x0 + 2)) ∧ (f1 (x0 + 2)) ≤ 2147483647 := f1_h.1 (x0 + 2)
    refine lv_aload_n hx hb dX12_goBy_61 rfl (lv_at hl 1 rfl) ?_
    refine r_get (v := .ref a20) M w 0 41 clX12 rfl (by decide) G1504 rfl rfl dX12_goBy_62 ?_
    refine lv_iload_n hx hb dX12_goBy_65 rfl (lv_at hl 2 rfl) ?_
    refine lv_iconst (v := iI 3) hx hb dX12_goBy_66 (by decide +kernel) ?_
    refine r_iadd (v := iI (x0 + 3)) M (iI_add _ _) dX12_goBy_67 ?_
    refine r_iald (v := iI (f1 (x0 + 3))) M w 2 rfl (iI_in (by omega) (by omega) (by decide)) (cI_at (by omega) (by omega)) dX12_goBy_68 ?_
    have hh6 : (-2147483648) ≤ (f1 (x0 + 3)) ∧ (f1 (x0 + 3)) ≤ 2147483647 := f1_h.1 (x0 + 3)
    have hh7 : (f1 x0) = 0 ∨ (f1 x0) = 1 ∨ (f1 x0) = 2 := by omega
    rcases hh7 with ee8 | ee8 | ee8
    · rw [ee8]
      refine k_I (ce := 0) (sl := 0) (rest := []) (wr := [(a20, .inl (T 0, 160, .inl (cI f1)))]) (r_V (f := 2) [0, 1] M w V_HookedCityModel_280 G1792 G79 (c81_X12_why l D T _ a0 (f1 (x0 + 1)) (f1 (x0 + 2)) (f1 (x0 + 3)) r0 a1 x1 x2 x3 x4 x5 x6 r1 x7 x8 x9 y0 x10 a2 a3 a4 a5 a6 a7 a8 a9 a10 a11 x11 a12 a13 a14 a15 x12 r2 r3 a16 x13 x14 a17 a18 x15 a19 x16 r4 a20 a21 x17 r5 a22 x18 x19 x20 x21 f0 (by omega) (by omega) (by omega) (by omega) (by omega) (by omega) x1_a x1_b x2_a x2_b x3_a x3_b x4_a x4_b x5_a x5_b x6_a x6_b x7_a x7_b x8_a x8_b x9_a x9_b x10_a x10_b x11_a x11_b x12_a x12_b x13_a x13_b x14_a x14_b x15_a x15_b x16_a x16_b x17_a x17_b x18_a x18_b x19_a x19_b x20_a x20_b x21_a x21_b f0_h) 0 clX12 rfl rfl (by decide) rfl hl.1 rfl (Nat.le_of_ble_eq_true rfl) dX12_goBy_69 (by decide) (by decide) (by decide) (by decide)) w [0, 1] [2] rfl rfl (by decide) (by decide) rfl rfl (fun v z9 H locs hp w => ?_)
      have hv : iI z9 = v := hp.1
      subst hv
      have z9_a : 0 ≤ z9 := hp.2.1
      have z9_b : z9 ≤ 7 := hp.2.2.1
      have pq10 : z9 = 0 → f0 (66 + (f1 (x0 + 3))) = -1 := hp.2.2.2
      have w : WD D A s.heap [(a20, .inl (T 0, 160, .inl (cI f1))), (a0, .inr (11, [.int r0, .ref a1, .int (iI x1), .int (iI x2), .int (iI x3), .int (iI x4), .int (iI x5), .int (iI x6), .int r1, .int (iI x7), .int (iI x8), .int (iI x9), .long y0, .int (iI x10), .ref a2, .ref a3, .ref a4, .ref a5, .ref a6, .ref a7, .ref a8, .ref a9, .ref a10, .ref a11, .int (iI x11), .ref a12, .ref a13, .ref a14, .ref a15, .int (iI x12), .int r2, .int r3, .ref a16, .int (iI x13), .int (iI x14), .ref a17, .ref a18, .int (iI x15), .ref a19, .int (iI x16), .int r4, .ref a20, .ref a21, .int (iI x17), .int r5, .ref a22, .int (iI x18), .int (iI x19), .int (iI x20), .int (iI x21)])), (a2, .inl (T 0, 329, .inl (cI f0)))] H locs := w
      refine lv_istore_n (lv' := [(3, .int (iI z9)), (2, .int (iI (f1 (x0 + 1)))), (0, .ref a0), (1, .int (iI x0))]) hx hb dX12_goBy_72 rfl hl (by decide) rfl (fun ls hl => ?_)
      refine lv_iload_n hx hb dX12_goBy_73 rfl (lv_at hl 0 rfl) ?_
      refine lv_if_eq (tgt := 89) hx hb dX12_goBy_74 (by decide) (fun c_11 => ?_) (fun c_11 => ?_)
      · replace c_11 := (iz_eq (Int.le_trans (by decide) z9_a) (Int.le_trans z9_b (by decide))).mp c_11
        refine lv_aload_n hx hb dX12_goBy_89 rfl (lv_at hl 2 rfl) ?_
        refine lv_aload_n hx hb dX12_goBy_90 rfl (lv_at hl 2 rfl) ?_
        refine r_get (v := .ref a20) M w 1 41 clX12 rfl (by decide) G1504 rfl rfl dX12_goBy_91 ?_
        refine lv_iload_n hx hb dX12_goBy_94 rfl (lv_at hl 3 rfl) ?_
        refine r_iald (v := iI (f1 x0)) M w 0 rfl (iI_in (by omega) (by omega) (by decide)) (cI_at (by omega) (by omega)) dX12_goBy_95 ?_
        have hh12 : (-2147483648) ≤ (f1 x0) ∧ (f1 x0) ≤ 2147483647 := f1_h.1 x0
        refine lv_iload_n hx hb dX12_goBy_96 rfl (lv_at hl 1 rfl) ?_
        refine lv_aload_n hx hb dX12_goBy_97 rfl (lv_at hl 2 rfl) ?_
        refine r_get (v := .ref a20) M w 1 41 clX12 rfl (by decide) G1504 rfl rfl dX12_goBy_98 ?_
        refine lv_iload_n hx hb dX12_goBy_101 rfl (lv_at hl 3 rfl) ?_
        refine lv_iconst (v := iI 2) hx hb dX12_goBy_102 (by decide +kernel) ?_
        refine r_iadd (v := iI (x0 + 2)) M (iI_add _ _) dX12_goBy_103 ?_
        refine r_iald (v := iI (f1 (x0 + 2))) M w 0 rfl (iI_in (by omega) (by omega) (by decide)) (cI_at (by omega) (by omega)) dX12_goBy_104 ?_
        have hh13 : (-2147483648) ≤ (f1 (x0 + 2)) ∧ (f1 (x0 + 2)) ≤ 2147483647 := f1_h.1 (x0 + 2)
        refine lv_aload_n hx hb dX12_goBy_105 rfl (lv_at hl 2 rfl) ?_
        refine r_get (v := .ref a20) M w 1 41 clX12 rfl (by decide) G1504 rfl rfl dX12_goBy_106 ?_
        refine lv_iload_n hx hb dX12_goBy_109 rfl (lv_at hl 3 rfl) ?_
        refine lv_iconst (v := iI 3) hx hb dX12_goBy_110 (by decide +kernel) ?_
        refine r_iadd (v := iI (x0 + 3)) M (iI_add _ _) dX12_goBy_111 ?_
        refine r_iald (v := iI (f1 (x0 + 3))) M w 0 rfl (iI_in (by omega) (by omega) (by decide)) (cI_at (by omega) (by omega)) dX12_goBy_112 ?_
        have hh14 : (-2147483648) ≤ (f1 (x0 + 3)) ∧ (f1 (x0 + 3)) ≤ 2147483647 := f1_h.1 (x0 + 3)
        have hh15 : (f1 x0) = 0 ∨ (f1 x0) = 1 ∨ (f1 x0) = 2 := by omega
        rcases hh15 with ee16 | ee16 | ee16
        · rw [ee16]
          refine k_V (ce := 0) (sl := 0) (rest := []) (wr := [(a20, .inl (T 0, 160, .inl (cI f1)))]) (r_V (f := 0) [1, 2] M w V_HookedCityModel_287 G1808 G83 (c82_X12_live l D T _ a0 (f1 (x0 + 1)) (f1 (x0 + 2)) (f1 (x0 + 3)) r0 a1 x1 x2 x3 x4 x5 x6 r1 x7 x8 x9 y0 x10 a2 a3 a4 a5 a6 a7 a8 a9 a10 a11 x11 a12 a13 a14 a15 x12 r2 r3 a16 x13 x14 a17 a18 x15 a19 x16 r4 a20 a21 x17 r5 a22 x18 x19 x20 x21 f0 (by omega) (by omega) (by omega) (by omega) (by omega) (by omega) x1_a x1_b x2_a x2_b x3_a x3_b x4_a x4_b x5_a x5_b x6_a x6_b x7_a x7_b x8_a x8_b x9_a x9_b x10_a x10_b x11_a x11_b x12_a x12_b x13_a x13_b x14_a x14_b x15_a x15_b x16_a x16_b x17_a x17_b x18_a x18_b x19_a x19_b x20_a x20_b x21_a x21_b f0_h (pq10 (by omega))) 1 clX12 rfl rfl (by decide) rfl hl.1 rfl (Nat.le_of_ble_eq_true rfl) dX12_goBy_113 (by decide) (by decide) (by decide) (by decide)) w [1, 2] [0] rfl rfl (by decide) (by decide) rfl rfl (fun ff17 H locs hp w => ?_)
          have ff17_h : nowI ff17 := hp.1
          have pq18 : kp 53 f0 ff17 := hp.2
          have w : WD D A s.heap [(a20, .inl (T 0, 160, .inl (cI f1))), (a0, .inr (11, [.int r0, .ref a1, .int (iI x1), .int (iI x2), .int (iI x3), .int (iI x4), .int (iI x5), .int (iI x6), .int r1, .int (iI x7), .int (iI x8), .int (iI x9), .long y0, .int (iI x10), .ref a2, .ref a3, .ref a4, .ref a5, .ref a6, .ref a7, .ref a8, .ref a9, .ref a10, .ref a11, .int (iI x11), .ref a12, .ref a13, .ref a14, .ref a15, .int (iI x12), .int r2, .int r3, .ref a16, .int (iI x13), .int (iI x14), .ref a17, .ref a18, .int (iI x15), .ref a19, .int (iI x16), .int r4, .ref a20, .ref a21, .int (iI x17), .int r5, .ref a22, .int (iI x18), .int (iI x19), .int (iI x20), .int (iI x21)])), (a2, .inl (T 0, 329, .inl (cI ff17)))] H locs := w
          refine lv_iconst (v := iI 0) hx hb dX12_goBy_116 (by decide +kernel) ?_
          exact ret _ (0, ff17) _ _ _ _ _ [1, 2, 0] dX12_goBy_117 ⟨rfl, (show (0 : Int) ≤ 0 from by decide), (show (0 : Int) ≤ 31 from by decide), ff17_h, (show kp 53 f0 ff17 from pq18)⟩ w (by decide) rfl
        · rw [ee16]
          exfalso; omega
        · rw [ee16]
          exfalso; omega
      · replace c_11 : ¬ z9 = 0 := fun h => c_11 ((iz_eq (Int.le_trans (by decide) z9_a) (Int.le_trans z9_b (by decide))).mpr h)
        refine lv_bipush (v := iI 10) hx hb dX12_goBy_77 (by decide +kernel) ?_
        refine lv_aload_n hx hb dX12_goBy_79 rfl (lv_at hl 2 rfl) ?_
        refine r_get (v := .ref a20) M w 1 41 clX12 rfl (by decide) G1504 rfl rfl dX12_goBy_80 ?_
        refine lv_iload_n hx hb dX12_goBy_83 rfl (lv_at hl 3 rfl) ?_
        refine r_iald (v := iI (f1 x0)) M w 0 rfl (iI_in (by omega) (by omega) (by decide)) (cI_at (by omega) (by omega)) dX12_goBy_84 ?_
        have hh19 : (-2147483648) ≤ (f1 x0) ∧ (f1 x0) ≤ 2147483647 := f1_h.1 x0
        refine r_imul (v := iI (10 * (f1 x0))) M (iI_mul _ _) dX12_goBy_85 ?_
        refine lv_iload_n hx hb dX12_goBy_86 rfl (lv_at hl 0 rfl) ?_
        refine r_iadd (v := iI ((10 * (f1 x0)) + z9)) M (iI_add _ _) dX12_goBy_87 ?_
        exact ret _ (((10 * (f1 x0)) + z9), f0) _ _ _ _ _ [1, 2, 0] dX12_goBy_88 ⟨rfl, (show 0 ≤ ((10 * (f1 x0)) + z9) from by omega), (show ((10 * (f1 x0)) + z9) ≤ 31 from by omega), f0_h, (show kp 53 f0 f0 from kp_rfl)⟩ w (by decide) rfl
    · rw [ee8]
      refine k_I (ce := 0) (sl := 0) (rest := []) (wr := [(a20, .inl (T 0, 160, .inl (cI f1)))]) (r_V (f := 1) [0, 1] M w V_HookedCityModel_280 G1792 G79 (c85_X12_why l D T _ a0 (f1 (x0 + 1)) (f1 (x0 + 2)) (f1 (x0 + 3)) r0 a1 x1 x2 x3 x4 x5 x6 r1 x7 x8 x9 y0 x10 a2 a3 a4 a5 a6 a7 a8 a9 a10 a11 x11 a12 a13 a14 a15 x12 r2 r3 a16 x13 x14 a17 a18 x15 a19 x16 r4 a20 a21 x17 r5 a22 x18 x19 x20 x21 f0 (by omega) (by omega) (by omega) (by omega) (by omega) (by omega) x1_a x1_b x2_a x2_b x3_a x3_b x4_a x4_b x5_a x5_b x6_a x6_b x7_a x7_b x8_a x8_b x9_a x9_b x10_a x10_b x11_a x11_b x12_a x12_b x13_a x13_b x14_a x14_b x15_a x15_b x16_a x16_b x17_a x17_b x18_a x18_b x19_a x19_b x20_a x20_b x21_a x21_b f0_h) 0 clX12 rfl rfl (by decide) rfl hl.1 rfl (Nat.le_of_ble_eq_true rfl) dX12_goBy_69 (by decide) (by decide) (by decide) (by decide)) w [0, 1] [2] rfl rfl (by decide) (by decide) rfl rfl (fun v z20 H locs hp w => ?_)
      have hv : iI z20 = v := hp.1
      subst hv
      have z20_a : 0 ≤ z20 := hp.2.1
      have z20_b : z20 ≤ 7 := hp.2.2
      have w : WD D A s.heap [(a20, .inl (T 0, 160, .inl (cI f1))), (a0, .inr (11, [.int r0, .ref a1, .int (iI x1), .int (iI x2), .int (iI x3), .int (iI x4), .int (iI x5), .int (iI x6), .int r1, .int (iI x7), .int (iI x8), .int (iI x9), .long y0, .int (iI x10), .ref a2, .ref a3, .ref a4, .ref a5, .ref a6, .ref a7, .ref a8, .ref a9, .ref a10, .ref a11, .int (iI x11), .ref a12, .ref a13, .ref a14, .ref a15, .int (iI x12), .int r2, .int r3, .ref a16, .int (iI x13), .int (iI x14), .ref a17, .ref a18, .int (iI x15), .ref a19, .int (iI x16), .int r4, .ref a20, .ref a21, .int (iI x17), .int r5, .ref a22, .int (iI x18), .int (iI x19), .int (iI x20), .int (iI x21)])), (a2, .inl (T 0, 329, .inl (cI f0)))] H locs := w
      refine lv_istore_n (lv' := [(3, .int (iI z20)), (2, .int (iI (f1 (x0 + 1)))), (0, .ref a0), (1, .int (iI x0))]) hx hb dX12_goBy_72 rfl hl (by decide) rfl (fun ls hl => ?_)
      refine lv_iload_n hx hb dX12_goBy_73 rfl (lv_at hl 0 rfl) ?_
      refine lv_if_eq (tgt := 89) hx hb dX12_goBy_74 (by decide) (fun c_21 => ?_) (fun c_21 => ?_)
      · replace c_21 := (iz_eq (Int.le_trans (by decide) z20_a) (Int.le_trans z20_b (by decide))).mp c_21
        refine lv_aload_n hx hb dX12_goBy_89 rfl (lv_at hl 2 rfl) ?_
        refine lv_aload_n hx hb dX12_goBy_90 rfl (lv_at hl 2 rfl) ?_
        refine r_get (v := .ref a20) M w 1 41 clX12 rfl (by decide) G1504 rfl rfl dX12_goBy_91 ?_
        refine lv_iload_n hx hb dX12_goBy_94 rfl (lv_at hl 3 rfl) ?_
        refine r_iald (v := iI (f1 x0)) M w 0 rfl (iI_in (by omega) (by omega) (by decide)) (cI_at (by omega) (by omega)) dX12_goBy_95 ?_
        have hh22 : (-2147483648) ≤ (f1 x0) ∧ (f1 x0) ≤ 2147483647 := f1_h.1 x0
        refine lv_iload_n hx hb dX12_goBy_96 rfl (lv_at hl 1 rfl) ?_
        refine lv_aload_n hx hb dX12_goBy_97 rfl (lv_at hl 2 rfl) ?_
        refine r_get (v := .ref a20) M w 1 41 clX12 rfl (by decide) G1504 rfl rfl dX12_goBy_98 ?_
        refine lv_iload_n hx hb dX12_goBy_101 rfl (lv_at hl 3 rfl) ?_
        refine lv_iconst (v := iI 2) hx hb dX12_goBy_102 (by decide +kernel) ?_
        refine r_iadd (v := iI (x0 + 2)) M (iI_add _ _) dX12_goBy_103 ?_
        refine r_iald (v := iI (f1 (x0 + 2))) M w 0 rfl (iI_in (by omega) (by omega) (by decide)) (cI_at (by omega) (by omega)) dX12_goBy_104 ?_
        have hh23 : (-2147483648) ≤ (f1 (x0 + 2)) ∧ (f1 (x0 + 2)) ≤ 2147483647 := f1_h.1 (x0 + 2)
        refine lv_aload_n hx hb dX12_goBy_105 rfl (lv_at hl 2 rfl) ?_
        refine r_get (v := .ref a20) M w 1 41 clX12 rfl (by decide) G1504 rfl rfl dX12_goBy_106 ?_
        refine lv_iload_n hx hb dX12_goBy_109 rfl (lv_at hl 3 rfl) ?_
        refine lv_iconst (v := iI 3) hx hb dX12_goBy_110 (by decide +kernel) ?_
        refine r_iadd (v := iI (x0 + 3)) M (iI_add _ _) dX12_goBy_111 ?_
        refine r_iald (v := iI (f1 (x0 + 3))) M w 0 rfl (iI_in (by omega) (by omega) (by decide)) (cI_at (by omega) (by omega)) dX12_goBy_112 ?_
        have hh24 : (-2147483648) ≤ (f1 (x0 + 3)) ∧ (f1 (x0 + 3)) ≤ 2147483647 := f1_h.1 (x0 + 3)
        have hh25 : (f1 x0) = 0 ∨ (f1 x0) = 1 ∨ (f1 x0) = 2 := by omega
        rcases hh25 with ee26 | ee26 | ee26
        · rw [ee26]
          exfalso; omega
        · rw [ee26]
          refine k_V (ce := 0) (sl := 0) (rest := []) (wr := [(a20, .inl (T 0, 160, .inl (cI f1)))]) (r_V (f := 1) [1, 2] M w V_HookedCityModel_287 G1808 G83 (c86_X12_live l D T _ a0 (f1 (x0 + 1)) (f1 (x0 + 2)) (f1 (x0 + 3)) r0 a1 x1 x2 x3 x4 x5 x6 r1 x7 x8 x9 y0 x10 a2 a3 a4 a5 a6 a7 a8 a9 a10 a11 x11 a12 a13 a14 a15 x12 r2 r3 a16 x13 x14 a17 a18 x15 a19 x16 r4 a20 a21 x17 r5 a22 x18 x19 x20 x21 f0 (by omega) (by omega) (by omega) (by omega) (by omega) (by omega) x1_a x1_b x2_a x2_b x3_a x3_b x4_a x4_b x5_a x5_b x6_a x6_b x7_a x7_b x8_a x8_b x9_a x9_b x10_a x10_b x11_a x11_b x12_a x12_b x13_a x13_b x14_a x14_b x15_a x15_b x16_a x16_b x17_a x17_b x18_a x18_b x19_a x19_b x20_a x20_b x21_a x21_b f0_h) 1 clX12 rfl rfl (by decide) rfl hl.1 rfl (Nat.le_of_ble_eq_true rfl) dX12_goBy_113 (by decide) (by decide) (by decide) (by decide)) w [1, 2] [0] rfl rfl (by decide) (by decide) rfl rfl (fun ff27 H locs hp w => ?_)
          have ff27_h : nowI ff27 := hp.1
          have pq28 : kp 53 f0 ff27 := hp.2
          have w : WD D A s.heap [(a20, .inl (T 0, 160, .inl (cI f1))), (a0, .inr (11, [.int r0, .ref a1, .int (iI x1), .int (iI x2), .int (iI x3), .int (iI x4), .int (iI x5), .int (iI x6), .int r1, .int (iI x7), .int (iI x8), .int (iI x9), .long y0, .int (iI x10), .ref a2, .ref a3, .ref a4, .ref a5, .ref a6, .ref a7, .ref a8, .ref a9, .ref a10, .ref a11, .int (iI x11), .ref a12, .ref a13, .ref a14, .ref a15, .int (iI x12), .int r2, .int r3, .ref a16, .int (iI x13), .int (iI x14), .ref a17, .ref a18, .int (iI x15), .ref a19, .int (iI x16), .int r4, .ref a20, .ref a21, .int (iI x17), .int r5, .ref a22, .int (iI x18), .int (iI x19), .int (iI x20), .int (iI x21)])), (a2, .inl (T 0, 329, .inl (cI ff27)))] H locs := w
          refine lv_iconst (v := iI 0) hx hb dX12_goBy_116 (by decide +kernel) ?_
          exact ret _ (0, ff27) _ _ _ _ _ [1, 2, 0] dX12_goBy_117 ⟨rfl, (show (0 : Int) ≤ 0 from by decide), (show (0 : Int) ≤ 31 from by decide), ff27_h, (show kp 53 f0 ff27 from pq28)⟩ w (by decide) rfl
        · rw [ee26]
          exfalso; omega
      · replace c_21 : ¬ z20 = 0 := fun h => c_21 ((iz_eq (Int.le_trans (by decide) z20_a) (Int.le_trans z20_b (by decide))).mpr h)
        refine lv_bipush (v := iI 10) hx hb dX12_goBy_77 (by decide +kernel) ?_
        refine lv_aload_n hx hb dX12_goBy_79 rfl (lv_at hl 2 rfl) ?_
        refine r_get (v := .ref a20) M w 1 41 clX12 rfl (by decide) G1504 rfl rfl dX12_goBy_80 ?_
        refine lv_iload_n hx hb dX12_goBy_83 rfl (lv_at hl 3 rfl) ?_
        refine r_iald (v := iI (f1 x0)) M w 0 rfl (iI_in (by omega) (by omega) (by decide)) (cI_at (by omega) (by omega)) dX12_goBy_84 ?_
        have hh29 : (-2147483648) ≤ (f1 x0) ∧ (f1 x0) ≤ 2147483647 := f1_h.1 x0
        refine r_imul (v := iI (10 * (f1 x0))) M (iI_mul _ _) dX12_goBy_85 ?_
        refine lv_iload_n hx hb dX12_goBy_86 rfl (lv_at hl 0 rfl) ?_
        refine r_iadd (v := iI ((10 * (f1 x0)) + z20)) M (iI_add _ _) dX12_goBy_87 ?_
        exact ret _ (((10 * (f1 x0)) + z20), f0) _ _ _ _ _ [1, 2, 0] dX12_goBy_88 ⟨rfl, (show 0 ≤ ((10 * (f1 x0)) + z20) from by omega), (show ((10 * (f1 x0)) + z20) ≤ 31 from by omega), f0_h, (show kp 53 f0 f0 from kp_rfl)⟩ w (by decide) rfl
    · rw [ee8]
      refine k_I (ce := 0) (sl := 0) (rest := []) (wr := [(a20, .inl (T 0, 160, .inl (cI f1)))]) (r_V (f := 0) [0, 1] M w V_HookedCityModel_280 G1792 G79 (c89_X12_why l D T _ a0 (f1 (x0 + 1)) (f1 (x0 + 2)) (f1 (x0 + 3)) r0 a1 x1 x2 x3 x4 x5 x6 r1 x7 x8 x9 y0 x10 a2 a3 a4 a5 a6 a7 a8 a9 a10 a11 x11 a12 a13 a14 a15 x12 r2 r3 a16 x13 x14 a17 a18 x15 a19 x16 r4 a20 a21 x17 r5 a22 x18 x19 x20 x21 f0 (by omega) (by omega) (by omega) (by omega) (by omega) (by omega) x1_a x1_b x2_a x2_b x3_a x3_b x4_a x4_b x5_a x5_b x6_a x6_b x7_a x7_b x8_a x8_b x9_a x9_b x10_a x10_b x11_a x11_b x12_a x12_b x13_a x13_b x14_a x14_b x15_a x15_b x16_a x16_b x17_a x17_b x18_a x18_b x19_a x19_b x20_a x20_b x21_a x21_b f0_h) 0 clX12 rfl rfl (by decide) rfl hl.1 rfl (Nat.le_of_ble_eq_true rfl) dX12_goBy_69 (by decide) (by decide) (by decide) (by decide)) w [0, 1] [2] rfl rfl (by decide) (by decide) rfl rfl (fun v z30 H locs hp w => ?_)
      have hv : iI z30 = v := hp.1
      subst hv
      have z30_a : 0 ≤ z30 := hp.2.1
      have z30_b : z30 ≤ 7 := hp.2.2
      have w : WD D A s.heap [(a20, .inl (T 0, 160, .inl (cI f1))), (a0, .inr (11, [.int r0, .ref a1, .int (iI x1), .int (iI x2), .int (iI x3), .int (iI x4), .int (iI x5), .int (iI x6), .int r1, .int (iI x7), .int (iI x8), .int (iI x9), .long y0, .int (iI x10), .ref a2, .ref a3, .ref a4, .ref a5, .ref a6, .ref a7, .ref a8, .ref a9, .ref a10, .ref a11, .int (iI x11), .ref a12, .ref a13, .ref a14, .ref a15, .int (iI x12), .int r2, .int r3, .ref a16, .int (iI x13), .int (iI x14), .ref a17, .ref a18, .int (iI x15), .ref a19, .int (iI x16), .int r4, .ref a20, .ref a21, .int (iI x17), .int r5, .ref a22, .int (iI x18), .int (iI x19), .int (iI x20), .int (iI x21)])), (a2, .inl (T 0, 329, .inl (cI f0)))] H locs := w
      refine lv_istore_n (lv' := [(3, .int (iI z30)), (2, .int (iI (f1 (x0 + 1)))), (0, .ref a0), (1, .int (iI x0))]) hx hb dX12_goBy_72 rfl hl (by decide) rfl (fun ls hl => ?_)
      refine lv_iload_n hx hb dX12_goBy_73 rfl (lv_at hl 0 rfl) ?_
      refine lv_if_eq (tgt := 89) hx hb dX12_goBy_74 (by decide) (fun c_31 => ?_) (fun c_31 => ?_)
      · replace c_31 := (iz_eq (Int.le_trans (by decide) z30_a) (Int.le_trans z30_b (by decide))).mp c_31
        refine lv_aload_n hx hb dX12_goBy_89 rfl (lv_at hl 2 rfl) ?_
        refine lv_aload_n hx hb dX12_goBy_90 rfl (lv_at hl 2 rfl) ?_
        refine r_get (v := .ref a20) M w 1 41 clX12 rfl (by decide) G1504 rfl rfl dX12_goBy_91 ?_
        refine lv_iload_n hx hb dX12_goBy_94 rfl (lv_at hl 3 rfl) ?_
        refine r_iald (v := iI (f1 x0)) M w 0 rfl (iI_in (by omega) (by omega) (by decide)) (cI_at (by omega) (by omega)) dX12_goBy_95 ?_
        have hh32 : (-2147483648) ≤ (f1 x0) ∧ (f1 x0) ≤ 2147483647 := f1_h.1 x0
        refine lv_iload_n hx hb dX12_goBy_96 rfl (lv_at hl 1 rfl) ?_
        refine lv_aload_n hx hb dX12_goBy_97 rfl (lv_at hl 2 rfl) ?_
        refine r_get (v := .ref a20) M w 1 41 clX12 rfl (by decide) G1504 rfl rfl dX12_goBy_98 ?_
        refine lv_iload_n hx hb dX12_goBy_101 rfl (lv_at hl 3 rfl) ?_
        refine lv_iconst (v := iI 2) hx hb dX12_goBy_102 (by decide +kernel) ?_
        refine r_iadd (v := iI (x0 + 2)) M (iI_add _ _) dX12_goBy_103 ?_
        refine r_iald (v := iI (f1 (x0 + 2))) M w 0 rfl (iI_in (by omega) (by omega) (by decide)) (cI_at (by omega) (by omega)) dX12_goBy_104 ?_
        have hh33 : (-2147483648) ≤ (f1 (x0 + 2)) ∧ (f1 (x0 + 2)) ≤ 2147483647 := f1_h.1 (x0 + 2)
        refine lv_aload_n hx hb dX12_goBy_105 rfl (lv_at hl 2 rfl) ?_
        refine r_get (v := .ref a20) M w 1 41 clX12 rfl (by decide) G1504 rfl rfl dX12_goBy_106 ?_
        refine lv_iload_n hx hb dX12_goBy_109 rfl (lv_at hl 3 rfl) ?_
        refine lv_iconst (v := iI 3) hx hb dX12_goBy_110 (by decide +kernel) ?_
        refine r_iadd (v := iI (x0 + 3)) M (iI_add _ _) dX12_goBy_111 ?_
        refine r_iald (v := iI (f1 (x0 + 3))) M w 0 rfl (iI_in (by omega) (by omega) (by decide)) (cI_at (by omega) (by omega)) dX12_goBy_112 ?_
        have hh34 : (-2147483648) ≤ (f1 (x0 + 3)) ∧ (f1 (x0 + 3)) ≤ 2147483647 := f1_h.1 (x0 + 3)
        have hh35 : (f1 x0) = 0 ∨ (f1 x0) = 1 ∨ (f1 x0) = 2 := by omega
        rcases hh35 with ee36 | ee36 | ee36
        · rw [ee36]
          exfalso; omega
        · rw [ee36]
          exfalso; omega
        · rw [ee36]
          refine k_V (ce := 0) (sl := 0) (rest := []) (wr := [(a20, .inl (T 0, 160, .inl (cI f1)))]) (r_V (f := 0) [1, 2] M w V_HookedCityModel_287 G1808 G83 (c90_X12_live l D T _ a0 (f1 (x0 + 1)) (f1 (x0 + 2)) (f1 (x0 + 3)) r0 a1 x1 x2 x3 x4 x5 x6 r1 x7 x8 x9 y0 x10 a2 a3 a4 a5 a6 a7 a8 a9 a10 a11 x11 a12 a13 a14 a15 x12 r2 r3 a16 x13 x14 a17 a18 x15 a19 x16 r4 a20 a21 x17 r5 a22 x18 x19 x20 x21 f0 (by omega) (by omega) (by omega) (by omega) (by omega) (by omega) x1_a x1_b x2_a x2_b x3_a x3_b x4_a x4_b x5_a x5_b x6_a x6_b x7_a x7_b x8_a x8_b x9_a x9_b x10_a x10_b x11_a x11_b x12_a x12_b x13_a x13_b x14_a x14_b x15_a x15_b x16_a x16_b x17_a x17_b x18_a x18_b x19_a x19_b x20_a x20_b x21_a x21_b f0_h) 1 clX12 rfl rfl (by decide) rfl hl.1 rfl (Nat.le_of_ble_eq_true rfl) dX12_goBy_113 (by decide) (by decide) (by decide) (by decide)) w [1, 2] [0] rfl rfl (by decide) (by decide) rfl rfl (fun ff37 H locs hp w => ?_)
          have ff37_h : nowI ff37 := hp.1
          have pq38 : kp 53 f0 ff37 := hp.2
          have w : WD D A s.heap [(a20, .inl (T 0, 160, .inl (cI f1))), (a0, .inr (11, [.int r0, .ref a1, .int (iI x1), .int (iI x2), .int (iI x3), .int (iI x4), .int (iI x5), .int (iI x6), .int r1, .int (iI x7), .int (iI x8), .int (iI x9), .long y0, .int (iI x10), .ref a2, .ref a3, .ref a4, .ref a5, .ref a6, .ref a7, .ref a8, .ref a9, .ref a10, .ref a11, .int (iI x11), .ref a12, .ref a13, .ref a14, .ref a15, .int (iI x12), .int r2, .int r3, .ref a16, .int (iI x13), .int (iI x14), .ref a17, .ref a18, .int (iI x15), .ref a19, .int (iI x16), .int r4, .ref a20, .ref a21, .int (iI x17), .int r5, .ref a22, .int (iI x18), .int (iI x19), .int (iI x20), .int (iI x21)])), (a2, .inl (T 0, 329, .inl (cI ff37)))] H locs := w
          refine lv_iconst (v := iI 0) hx hb dX12_goBy_116 (by decide +kernel) ?_
          exact ret _ (0, ff37) _ _ _ _ _ [1, 2, 0] dX12_goBy_117 ⟨rfl, (show (0 : Int) ≤ 0 from by decide), (show (0 : Int) ≤ 31 from by decide), ff37_h, (show kp 53 f0 ff37 from pq38)⟩ w (by decide) rfl
      · replace c_31 : ¬ z30 = 0 := fun h => c_31 ((iz_eq (Int.le_trans (by decide) z30_a) (Int.le_trans z30_b (by decide))).mpr h)
        refine lv_bipush (v := iI 10) hx hb dX12_goBy_77 (by decide +kernel) ?_
        refine lv_aload_n hx hb dX12_goBy_79 rfl (lv_at hl 2 rfl) ?_
        refine r_get (v := .ref a20) M w 1 41 clX12 rfl (by decide) G1504 rfl rfl dX12_goBy_80 ?_
        refine lv_iload_n hx hb dX12_goBy_83 rfl (lv_at hl 3 rfl) ?_
        refine r_iald (v := iI (f1 x0)) M w 0 rfl (iI_in (by omega) (by omega) (by decide)) (cI_at (by omega) (by omega)) dX12_goBy_84 ?_
        have hh39 : (-2147483648) ≤ (f1 x0) ∧ (f1 x0) ≤ 2147483647 := f1_h.1 x0
        refine r_imul (v := iI (10 * (f1 x0))) M (iI_mul _ _) dX12_goBy_85 ?_
        refine lv_iload_n hx hb dX12_goBy_86 rfl (lv_at hl 0 rfl) ?_
        refine r_iadd (v := iI ((10 * (f1 x0)) + z30)) M (iI_add _ _) dX12_goBy_87 ?_
        exact ret _ (((10 * (f1 x0)) + z30), f0) _ _ _ _ _ [1, 2, 0] dX12_goBy_88 ⟨rfl, (show 0 ≤ ((10 * (f1 x0)) + z30) from by omega), (show ((10 * (f1 x0)) + z30) ≤ 31 from by omega), f0_h, (show kp 53 f0 f0 from kp_rfl)⟩ w (by decide) rfl
  · replace c_3 := (iI_eq (by omega) (by omega) (by decide) (by decide)).mp c_3
    refine lv_aload_n hx hb dX12_goBy_19 rfl (lv_at hl 1 rfl) ?_
    refine r_get (v := .ref a2) M w 0 14 clX12 rfl (by decide) G1477 rfl rfl dX12_goBy_20 ?_
    refine lv_bipush (v := iI 53) hx hb dX12_goBy_23 (by decide +kernel) ?_
    refine r_iald (v := iI (f0 53)) M w 1 rfl (iI_in (by decide) (by decide) (by decide)) (cI_at (by omega) (by omega)) dX12_goBy_25 ?_
    have hh40 : (-2147483648) ≤ (f0 53) ∧ (f0 53) ≤ 2147483647 := f0_h.1 53
    refine lv_iload_n hx hb dX12_goBy_26 rfl (lv_at hl 0 rfl) ?_
    refine r_iadd (v := _) M rfl dX12_goBy_27 ?_
    refine b_any (fun z41 z41_a z41_b => ?_)
    refine lv_sipush (v := iI 400) hx hb dX12_goBy_28 (by decide +kernel) ?_
    refine lv_icmp_le (tgt := 37) hx hb dX12_goBy_31 (by decide) (fun c_42 => ?_) (fun c_42 => ?_)
    · replace c_42 := (iI_le (Int.le_trans (by decide) z41_a) (Int.le_trans z41_b (by decide)) (by decide) (by decide)).mp c_42
      refine lv_aload_n hx hb dX12_goBy_37 rfl (lv_at hl 1 rfl) ?_
      refine lv_iload_n hx hb dX12_goBy_38 rfl (lv_at hl 0 rfl) ?_
      refine k_I (ce := 0) (sl := 0) (rest := []) (wr := [(a20, .inl (T 0, 160, .inl (cI f1)))]) (r_V (f := 3) [0, 1] M w V_HookedCityModel_304 G1832 G85 (c95_X12_passDays l D T _ a0 (f1 (x0 + 1)) r0 a1 x1 x2 x3 x4 x5 x6 r1 x7 x8 x9 y0 x10 a2 a3 a4 a5 a6 a7 a8 a9 a10 a11 x11 a12 a13 a14 a15 x12 r2 r3 a16 x13 x14 a17 a18 x15 a19 x16 r4 a20 a21 x17 r5 a22 x18 x19 x20 x21 f0 (by omega) (by omega) x1_a x1_b x2_a x2_b x3_a x3_b x4_a x4_b x5_a x5_b x6_a x6_b x7_a x7_b x8_a x8_b x9_a x9_b x10_a x10_b x11_a x11_b x12_a x12_b x13_a x13_b x14_a x14_b x15_a x15_b x16_a x16_b x17_a x17_b x18_a x18_b x19_a x19_b x20_a x20_b x21_a x21_b f0_h) 0 clX12 rfl rfl (by decide) rfl hl.1 rfl (Nat.le_of_ble_eq_true rfl) dX12_goBy_39 (by decide) (by decide) (by decide) (by decide)) w [0, 1] [2] rfl rfl (by decide) (by decide) rfl rfl (fun v u H locs hp w => ?_)
      obtain ⟨z43, ff44⟩ := u
      have hv : iI z43 = v := hp.1
      subst hv
      have z43_a : (-2147483648) ≤ z43 := hp.2.1
      have z43_b : z43 ≤ 2147483647 := hp.2.2.1
      have ff44_h : nowI ff44 := hp.2.2.2.1
      have pq45 : kp 53 f0 ff44 := hp.2.2.2.2
      have w : WD D A s.heap [(a20, .inl (T 0, 160, .inl (cI f1))), (a0, .inr (11, [.int r0, .ref a1, .int (iI x1), .int (iI x2), .int (iI x3), .int (iI x4), .int (iI x5), .int (iI x6), .int r1, .int (iI x7), .int (iI x8), .int (iI x9), .long y0, .int (iI x10), .ref a2, .ref a3, .ref a4, .ref a5, .ref a6, .ref a7, .ref a8, .ref a9, .ref a10, .ref a11, .int (iI x11), .ref a12, .ref a13, .ref a14, .ref a15, .int (iI x12), .int r2, .int r3, .ref a16, .int (iI x13), .int (iI x14), .ref a17, .ref a18, .int (iI x15), .ref a19, .int (iI x16), .int r4, .ref a20, .ref a21, .int (iI x17), .int r5, .ref a22, .int (iI x18), .int (iI x19), .int (iI x20), .int (iI x21)])), (a2, .inl (T 0, 329, .inl (cI ff44)))] H locs := w
      refine lv_pop hx hb dX12_goBy_42 rfl ?_
      refine lv_iconst (v := iI 0) hx hb dX12_goBy_43 (by decide +kernel) ?_
      exact ret _ (0, ff44) _ _ _ _ _ [1, 2, 0] dX12_goBy_44 ⟨rfl, (show (0 : Int) ≤ 0 from by decide), (show (0 : Int) ≤ 31 from by decide), ff44_h, (show kp 53 f0 ff44 from pq45)⟩ w (by decide) rfl
    · replace c_42 : 400 < z41 := Int.not_le.mp (fun h => c_42 ((iI_le (Int.le_trans (by decide) z41_a) (Int.le_trans z41_b (by decide)) (by decide) (by decide)).mpr h))
      refine lv_bipush (v := iI 31) hx hb dX12_goBy_34 (by decide +kernel) ?_
      exact ret _ (31, f0) _ _ _ _ _ [0, 1, 2] dX12_goBy_36 ⟨rfl, (show (0 : Int) ≤ 31 from by decide), (show (31 : Int) ≤ 31 from by decide), f0_h, (show kp 53 f0 f0 from kp_rfl)⟩ w (by decide) rfl
set_option maxRecDepth 100000 in
set_option maxHeartbeats 4000000 in
theorem c136_X12_book (l : Launch) (D : va_G) (T : Nat → ClassId) (sz : Nat) (a0 : Nat) (x0 : Int) (r0 : Int32) (a1 : Nat) (x1 : Int) (x2 : Int) (x3 : Int) (x4 : Int) (x5 : Int) (x6 : Int) (r1 : Int32) (x7 : Int) (x8 : Int) (x9 : Int) (y0 : Int64) (x10 : Int) (a2 : Nat) (a3 : Nat) (a4 : Nat) (a5 : Nat) (a6 : Nat) (a7 : Nat) (a8 : Nat) (a9 : Nat) (a10 : Nat) (a11 : Nat) (x11 : Int) (a12 : Nat) (a13 : Nat) (a14 : Nat) (a15 : Nat) (x12 : Int) (r2 : Int32) (r3 : Int32) (a16 : Nat) (x13 : Int) (x14 : Int) (a17 : Nat) (a18 : Nat) (x15 : Int) (a19 : Nat) (x16 : Int) (r4 : Int32) (a20 : Nat) (a21 : Nat) (x17 : Int) (r5 : Int32) (a22 : Nat) (x18 : Int) (x19 : Int) (x20 : Int) (x21 : Int) (f0 : Int → Int) (f1 : Int → Int) (f2 : Int → Int) (f3 : Int → Int) (h0 : Nat → Int64) (f4 : Int → Int) (f5 : Nat → Int32) (x0_a : (-2147483648) ≤ x0) (x0_b : x0 ≤ 2147483647) (x1_a : 0 ≤ x1) (x1_b : x1 ≤ 940) (x2_a : 0 ≤ x2) (x2_b : x2 ≤ 940) (x3_a : 0 ≤ x3) (x3_b : x3 ≤ 940) (x4_a : 0 ≤ x4) (x4_b : x4 ≤ 940) (x5_a : 0 ≤ x5) (x5_b : x5 ≤ 940) (x6_a : 0 ≤ x6) (x6_b : x6 ≤ 4) (x7_a : (-2147483648) ≤ x7) (x7_b : x7 ≤ 2147483647) (x8_a : (-2147483648) ≤ x8) (x8_b : x8 ≤ 2147483647) (x9_a : 0 ≤ x9) (x9_b : x9 ≤ 940) (x10_a : (-2147483648) ≤ x10) (x10_b : x10 ≤ 2147483647) (x11_a : 0 ≤ x11) (x11_b : x11 ≤ 8) (x12_a : 0 ≤ x12) (x12_b : x12 ≤ 9) (x13_a : (-1) ≤ x13) (x13_b : x13 ≤ 9) (x14_a : (-1) ≤ x14) (x14_b : x14 ≤ 8) (x15_a : 0 ≤ x15) (x15_b : x15 ≤ 9) (x16_a : 0 ≤ x16) (x16_b : x16 ≤ 64) (x17_a : 0 ≤ x17) (x17_b : x17 ≤ 40) (x18_a : 0 ≤ x18) (x18_b : x18 ≤ 40) (x19_a : 0 ≤ x19) (x19_b : x19 ≤ 20) (x20_a : 0 ≤ x20) (x20_b : x20 ≤ 8) (x21_a : 0 ≤ x21) (x21_b : x21 ≤ 39) (f0_h : rng 0 255 f0) (f1_h : nowI f1) (f2_h : FL f2) (f3_h : FL f3) (f4_h : lnI f4) (pp_s : snI f2 x11) : Met l yX12_book (Cond.code yX12_book cX12_book 4 (some .int) :: GW) (Rm 6 0 0) (cPre [.ref a0, .int (iI x0)] D T [(a0, .inr (11, [.int r0, .ref a1, .int (iI x1), .int (iI x2), .int (iI x3), .int (iI x4), .int (iI x5), .int (iI x6), .int r1, .int (iI x7), .int (iI x8), .int (iI x9), .long y0, .int (iI x10), .ref a2, .ref a3, .ref a4, .ref a5, .ref a6, .ref a7, .ref a8, .ref a9, .ref a10, .ref a11, .int (iI x11), .ref a12, .ref a13, .ref a14, .ref a15, .int (iI x12), .int r2, .int r3, .ref a16, .int (iI x13), .int (iI x14), .ref a17, .ref a18, .int (iI x15), .ref a19, .int (iI x16), .int r4, .ref a20, .ref a21, .int (iI x17), .int r5, .ref a22, .int (iI x18), .int (iI x19), .int (iI x20), .int (iI x21)])), (a1, .inl (T 0, 940, .inl (cI f0))), (a2, .inl (T 0, 329, .inl (cI f1))), (a5, .inl (T 0, 272, .inl (cI f2))), (a6, .inl (T 0, 34, .inl (cI f3))), (a7, .inl (T 1, 12, .inr (.inl h0))), (a20, .inl (T 0, 160, .inl (cI f4))), (a21, .inl (T 0, 4, .inl f5))] sz) (qI D [(a0, .inr (11, [.int r0, .ref a1, .int (iI x1), .int (iI x2), .int (iI x3), .int (iI x4), .int (iI x5), .int (iI x6), .int r1, .int (iI x7), .int (iI x8), .int (iI x9), .long y0, .int (iI x10), .ref a2, .ref a3, .ref a4, .ref a5, .ref a6, .ref a7, .ref a8, .ref a9, .ref a10, .ref a11, .int (iI x11), .ref a12, .ref a13, .ref a14, .ref a15, .int (iI x12), .int r2, .int r3, .ref a16, .int (iI x13), .int (iI x14), .ref a17, .ref a18, .int (iI x15), .ref a19, .int (iI x16), .int r4, .ref a20, .ref a21, .int (iI x17), .int r5, .ref a22, .int (iI x18), .int (iI x19), .int (iI x20), .int (iI x21)])), (a1, .inl (T 0, 940, .inl (cI f0))), (a2, .inl (T 0, 329, .inl (cI f1))), (a5, .inl (T 0, 272, .inl (cI f2))), (a6, .inl (T 0, 34, .inl (cI f3))), (a7, .inl (T 1, 12, .inr (.inl h0))), (a20, .inl (T 0, 160, .inl (cI f4))), (a21, .inl (T 0, 4, .inl f5))] sz (fun (v : Int32) (u : Int × Int32 × Int × Int × Int × Int × Int × Int × Int32 × Int × Int × Int × Int64 × Int × Int × Int × Int32 × (Int → Int) × (Int → Int) × (Int → Int) × (Int → Int) × (Nat → Int32)) => iI u.1 = v ∧ (-2147483648) ≤ u.1 ∧ u.1 ≤ 2147483647 ∧ 0 ≤ u.2.2.1 ∧ u.2.2.1 ≤ 940 ∧ 0 ≤ u.2.2.2.1 ∧ u.2.2.2.1 ≤ 940 ∧ 0 ≤ u.2.2.2.2.1 ∧ u.2.2.2.2.1 ≤ 940 ∧ 0 ≤ u.2.2.2.2.2.1 ∧ u.2.2.2.2.2.1 ≤ 940 ∧ 0 ≤ u.2.2.2.2.2.2.1 ∧ u.2.2.2.2.2.2.1 ≤ 940 ∧ 0 ≤ u.2.2.2.2.2.2.2.1 ∧ u.2.2.2.2.2.2.2.1 ≤ 4 ∧ (-2147483648) ≤ u.2.2.2.2.2.2.2.2.2.1 ∧ u.2.2.2.2.2.2.2.2.2.1 ≤ 2147483647 ∧ (-2147483648) ≤ u.2.2.2.2.2.2.2.2.2.2.1 ∧ u.2.2.2.2.2.2.2.2.2.2.1 ≤ 2147483647 ∧ 0 ≤ u.2.2.2.2.2.2.2.2.2.2.2.1 ∧ u.2.2.2.2.2.2.2.2.2.2.2.1 ≤ 940 ∧ (-2147483648) ≤ u.2.2.2.2.2.2.2.2.2.2.2.2.2.1 ∧ u.2.2.2.2.2.2.2.2.2.2.2.2.2.1 ≤ 2147483647 ∧ 0 ≤ u.2.2.2.2.2.2.2.2.2.2.2.2.2.2.1 ∧ u.2.2.2.2.2.2.2.2.2.2.2.2.2.2.1 ≤ 8 ∧ 0 ≤ u.2.2.2.2.2.2.2.2.2.2.2.2.2.2.2.1 ∧ u.2.2.2.2.2.2.2.2.2.2.2.2.2.2.2.1 ≤ 40 ∧ nowI u.2.2.2.2.2.2.2.2.2.2.2.2.2.2.2.2.2.1 ∧ FL u.2.2.2.2.2.2.2.2.2.2.2.2.2.2.2.2.2.2.1 ∧ FL u.2.2.2.2.2.2.2.2.2.2.2.2.2.2.2.2.2.2.2.1 ∧ lnI u.2.2.2.2.2.2.2.2.2.2.2.2.2.2.2.2.2.2.2.2.1 ∧ (snI u.2.2.2.2.2.2.2.2.2.2.2.2.2.2.2.2.2.2.1 u.2.2.2.2.2.2.2.2.2.2.2.2.2.2.1) ∧ (bkT x0 x1 u.2.2.1) ∧ (kp 53 f1 u.2.2.2.2.2.2.2.2.2.2.2.2.2.2.2.2.2.1) ∧ ((0 ≤ x0 → x0 ≤ 1 → bqF (bkS f0 x1 (sOne (fun _ => f1 0) h0) (sMn h0 (f1 1))) u.2.2.2.2.2.2.2.2.2.2.1) ∧ (x0 < 0 ∨ 1 < x0 → u.2.2.2.2.2.2.2.2.2.2.1 = x8))) (fun u => [(a0, .inr (11, [.int u.2.1, .ref a1, .int (iI u.2.2.1), .int (iI u.2.2.2.1), .int (iI u.2.2.2.2.1), .int (iI u.2.2.2.2.2.1), .int (iI u.2.2.2.2.2.2.1), .int (iI u.2.2.2.2.2.2.2.1), .int u.2.2.2.2.2.2.2.2.1, .int (iI u.2.2.2.2.2.2.2.2.2.1), .int (iI u.2.2.2.2.2.2.2.2.2.2.1), .int (iI u.2.2.2.2.2.2.2.2.2.2.2.1), .long u.2.2.2.2.2.2.2.2.2.2.2.2.1, .int (iI u.2.2.2.2.2.2.2.2.2.2.2.2.2.1), .ref a2, .ref a3, .ref a4, .ref a5, .ref a6, .ref a7, .ref a8, .ref a9, .ref a10, .ref a11, .int (iI u.2.2.2.2.2.2.2.2.2.2.2.2.2.2.1), .ref a12, .ref a13, .ref a14, .ref a15, .int (iI x12), .int r2, .int r3, .ref a16, .int (iI x13), .int (iI x14), .ref a17, .ref a18, .int (iI x15), .ref a19, .int (iI x16), .int r4, .ref a20, .ref a21, .int (iI u.2.2.2.2.2.2.2.2.2.2.2.2.2.2.2.1), .int u.2.2.2.2.2.2.2.2.2.2.2.2.2.2.2.2.1, .ref a22, .int (iI x18), .int (iI x19), .int (iI x20), .int (iI x21)])), (a1, .inl (T 0, 940, .inl (cI f0))), (a2, .inl (T 0, 329, .inl (cI u.2.2.2.2.2.2.2.2.2.2.2.2.2.2.2.2.2.1))), (a5, .inl (T 0, 272, .inl (cI u.2.2.2.2.2.2.2.2.2.2.2.2.2.2.2.2.2.2.1))), (a6, .inl (T 0, 34, .inl (cI u.2.2.2.2.2.2.2.2.2.2.2.2.2.2.2.2.2.2.2.1))), (a7, .inl (T 1, 12, .inr (.inl h0))), (a20, .inl (T 0, 160, .inl (cI u.2.2.2.2.2.2.2.2.2.2.2.2.2.2.2.2.2.2.2.2.1))), (a21, .inl (T 0, 4, .inl u.2.2.2.2.2.2.2.2.2.2.2.2.2.2.2.2.2.2.2.2.2))])) 0 0 (va_A [(a0, .inr (11, [.int r0, .ref a1, .int (iI x1), .int (iI x2), .int (iI x3), .int (iI x4), .int (iI x5), .int (iI x6), .int r1, .int (iI x7), .int (iI x8), .int (iI x9), .long y0, .int (iI x10), .ref a2, .ref a3, .ref a4, .ref a5, .ref a6, .ref a7, .ref a8, .ref a9, .ref a10, .ref a11, .int (iI x11), .ref a12, .ref a13, .ref a14, .ref a15, .int (iI x12), .int r2, .int r3, .ref a16, .int (iI x13), .int (iI x14), .ref a17, .ref a18, .int (iI x15), .ref a19, .int (iI x16), .int r4, .ref a20, .ref a21, .int (iI x17), .int r5, .ref a22, .int (iI x18), .int (iI x19), .int (iI x20), .int (iI x21)])), (a1, .inl (T 0, 940, .inl (cI f0))), (a2, .inl (T 0, 329, .inl (cI f1))), (a5, .inl (T 0, 272, .inl (cI f2))), (a6, .inl (T 0, 34, .inl (cI f3))), (a7, .inl (T 1, 12, .inr (.inl h0))), (a20, .inl (T 0, 160, .inl (cI f4))), (a21, .inl (T 0, 4, .inl f5))] sz) := by
  refine e_I (by decide) (Nat.le_of_ble_eq_true rfl) ?_
  intro p e s m args below meth c A Q ls M hin w ret hl
  have hx := M.1.1
  have hb := M.1.2.1
  have hl : lv_has ls 4 [(0, .ref a0), (1, .int (iI x0))] := hl
  refine lv_aload_n hx hb dX12_book_0 rfl (lv_at hl 0 rfl) ?_
  refine lv_iconst (v := iI 0) hx hb dX12_book_1 (by decide +kernel) ?_
  refine r_put (ws' := [(a0, .inr (11, [.int (iI 0), .ref a1, .int (iI x1), .int (iI x2), .int (iI x3), .int (iI x4), .int (iI x5), .int (iI x6), .int r1, .int (iI x7), .int (iI x8), .int (iI x9), .long y0, .int (iI x10), .ref a2, .ref a3, .ref a4, .ref a5, .ref a6, .ref a7, .ref a8, .ref a9, .ref a10, .ref a11, .int (iI x11), .ref a12, .ref a13, .ref a14, .ref a15, .int (iI x12), .int r2, .int r3, .ref a16, .int (iI x13), .int (iI x14), .ref a17, .ref a18, .int (iI x15), .ref a19, .int (iI x16), .int r4, .ref a20, .ref a21, .int (iI x17), .int r5, .ref a22, .int (iI x18), .int (iI x19), .int (iI x20), .int (iI x21)])), (a1, .inl (T 0, 940, .inl (cI f0))), (a2, .inl (T 0, 329, .inl (cI f1))), (a5, .inl (T 0, 272, .inl (cI f2))), (a6, .inl (T 0, 34, .inl (cI f3))), (a7, .inl (T 1, 12, .inr (.inl h0))), (a20, .inl (T 0, 160, .inl (cI f4))), (a21, .inl (T 0, 4, .inl f5))]) M w 0 0 clX12 rfl (by decide) G1463 rfl rfl rfl rfl (Nat.le_of_ble_eq_true rfl) rfl dX12_book_2 (fun H locs w => ?_)
  refine lv_iload_n hx hb dX12_book_5 rfl (lv_at hl 1 rfl) ?_
  refine lv_iconst (v := iI 0) hx hb dX12_book_6 (by decide +kernel) ?_
  refine lv_iconst (v := iI 1) hx hb dX12_book_7 (by decide +kernel) ?_
  refine k_I (ce := 0) (sl := 0) (rest := []) (wr := [(a0, .inr (11, [.int (iI 0), .ref a1, .int (iI x1), .int (iI x2), .int (iI x3), .int (iI x4), .int (iI x5), .int (iI x6), .int r1, .int (iI x7), .int (iI x8), .int (iI x9), .long y0, .int (iI x10), .ref a2, .ref a3, .ref a4, .ref a5, .ref a6, .ref a7, .ref a8, .ref a9, .ref a10, .ref a11, .int (iI x11), .ref a12, .ref a13, .ref a14, .ref a15, .int (iI x12), .int r2, .int r3, .ref a16, .int (iI x13), .int (iI x14), .ref a17, .ref a18, .int (iI x15), .ref a19, .int (iI x16), .int r4, .ref a20, .ref a21, .int (iI x17), .int r5, .ref a22, .int (iI x18), .int (iI x19), .int (iI x20), .int (iI x21)])), (a1, .inl (T 0, 940, .inl (cI f0))), (a2, .inl (T 0, 329, .inl (cI f1))), (a5, .inl (T 0, 272, .inl (cI f2))), (a6, .inl (T 0, 34, .inl (cI f3))), (a7, .inl (T 1, 12, .inr (.inl h0))), (a20, .inl (T 0, 160, .inl (cI f4))), (a21, .inl (T 0, 4, .inl f5))]) (r_S (f := 0) [] M w V_HookedCityModel_75 G1693 (c6_X12_isIn l D T _ x0 0 1 x0_a x0_b (by decide) (by decide) (by decide) (by decide)) rfl (by decide) rfl hl.1 rfl (Nat.le_of_ble_eq_true rfl) dX12_book_8 (by decide) (by decide) (by decide) (by decide)) w [] [0, 1, 2, 3, 4, 5, 6, 7] rfl rfl (by decide) (by decide) rfl rfl (fun v z1 H locs hp w => ?_)
  have hv : iI z1 = v := hp.1
  subst hv
  have z1_a : 0 ≤ z1 := hp.2.1
  have z1_b : z1 ≤ 1 := hp.2.2.1
  have w : WD D A s.heap [(a0, .inr (11, [.int (iI 0), .ref a1, .int (iI x1), .int (iI x2), .int (iI x3), .int (iI x4), .int (iI x5), .int (iI x6), .int r1, .int (iI x7), .int (iI x8), .int (iI x9), .long y0, .int (iI x10), .ref a2, .ref a3, .ref a4, .ref a5, .ref a6, .ref a7, .ref a8, .ref a9, .ref a10, .ref a11, .int (iI x11), .ref a12, .ref a13, .ref a14, .ref a15, .int (iI x12), .int r2, .int r3, .ref a16, .int (iI x13), .int (iI x14), .ref a17, .ref a18, .int (iI x15), .ref a19, .int (iI x16), .int r4, .ref a20, .ref a21, .int (iI x17), .int r5, .ref a22, .int (iI x18), .int (iI x19), .int (iI x20), .int (iI x21)])), (a1, .inl (T 0, 940, .inl (cI f0))), (a2, .inl (T 0, 329, .inl (cI f1))), (a5, .inl (T 0, 272, .inl (cI f2))), (a6, .inl (T 0, 34, .inl (cI f3))), (a7, .inl (T 1, 12, .inr (.inl h0))), (a20, .inl (T 0, 160, .inl (cI f4))), (a21, .inl (T 0, 4, .inl f5))] H locs := w
  rcases hp.2.2.2 with ⟨c_2, hr⟩ | ⟨c_3, c_4, hr⟩ | ⟨c_5, c_6, hr⟩
  · subst hr
    refine lv_if_ne (tgt := 18) hx hb dX12_book_11 (by decide) (fun c => absurd (by decide +kernel) c) (fun _ => ?_)
    refine lv_sipush (v := iI (-1000)) hx hb dX12_book_14 (by decide +kernel) ?_
    exact ret _ ((-1000), (iI 0), x1, x2, x3, x4, x5, x6, r1, x7, x8, x9, y0, x10, x11, x17, r5, f1, f2, f3, f4, f5) _ _ _ _ _ [0, 1, 2, 3, 4, 5, 6, 7] dX12_book_17 ⟨rfl, (show (-2147483648) ≤ (-1000) from by decide), (show ((-1000) : Int) ≤ 2147483647 from by decide), x1_a, x1_b, x2_a, x2_b, x3_a, x3_b, x4_a, x4_b, x5_a, x5_b, x6_a, x6_b, x7_a, x7_b, x8_a, x8_b, x9_a, x9_b, x10_a, x10_b, x11_a, x11_b, x17_a, x17_b, f1_h, f2_h, f3_h, f4_h, (show snI f2 x11 from pp_s), (show bkT x0 x1 x1 from (by unfold bkT; omega)), (show kp 53 f1 f1 from kp_rfl), (show (0 ≤ x0 → x0 ≤ 1 → bqF (bkS f0 x1 (sOne (fun _ => f1 0) h0) (sMn h0 (f1 1))) x8) ∧ (x0 < 0 ∨ 1 < x0 → x8 = x8) from ⟨fun a9 b9 => absurd a9 (by omega), fun _ => rfl⟩)⟩ w (by decide) rfl
  · subst hr
    refine lv_if_ne (tgt := 18) hx hb dX12_book_11 (by decide) (fun c => absurd (by decide +kernel) c) (fun _ => ?_)
    refine lv_sipush (v := iI (-1000)) hx hb dX12_book_14 (by decide +kernel) ?_
    exact ret _ ((-1000), (iI 0), x1, x2, x3, x4, x5, x6, r1, x7, x8, x9, y0, x10, x11, x17, r5, f1, f2, f3, f4, f5) _ _ _ _ _ [0, 1, 2, 3, 4, 5, 6, 7] dX12_book_17 ⟨rfl, (show (-2147483648) ≤ (-1000) from by decide), (show ((-1000) : Int) ≤ 2147483647 from by decide), x1_a, x1_b, x2_a, x2_b, x3_a, x3_b, x4_a, x4_b, x5_a, x5_b, x6_a, x6_b, x7_a, x7_b, x8_a, x8_b, x9_a, x9_b, x10_a, x10_b, x11_a, x11_b, x17_a, x17_b, f1_h, f2_h, f3_h, f4_h, (show snI f2 x11 from pp_s), (show bkT x0 x1 x1 from (by unfold bkT; omega)), (show kp 53 f1 f1 from kp_rfl), (show (0 ≤ x0 → x0 ≤ 1 → bqF (bkS f0 x1 (sOne (fun _ => f1 0) h0) (sMn h0 (f1 1))) x8) ∧ (x0 < 0 ∨ 1 < x0 → x8 = x8) from ⟨fun a9 b9 => absurd a9 (by omega), fun _ => rfl⟩)⟩ w (by decide) rfl
  · subst hr
    refine lv_if_ne (tgt := 18) hx hb dX12_book_11 (by decide) (fun _ => ?_) (fun c => absurd c (by decide +kernel))
    refine lv_aload_n hx hb dX12_book_18 rfl (lv_at hl 0 rfl) ?_
    refine lv_sipush (v := iI 400) hx hb dX12_book_19 (by decide +kernel) ?_
    refine k_V (ce := 0) (sl := 0) (rest := []) (wr := [(a2, .inl (T 0, 329, .inl (cI f1))), (a5, .inl (T 0, 272, .inl (cI f2))), (a6, .inl (T 0, 34, .inl (cI f3))), (a7, .inl (T 1, 12, .inr (.inl h0))), (a20, .inl (T 0, 160, .inl (cI f4))), (a21, .inl (T 0, 4, .inl f5))]) (r_V (f := 2) [0, 1] M w V_HookedCityModel_224 G1621 G47 (c48_X12_begin l D T _ a0 400 (iI 0) a1 x1 x2 x3 x4 x5 x6 r1 x7 x8 x9 y0 x10 a2 a3 a4 a5 a6 a7 a8 a9 a10 a11 x11 a12 a13 a14 a15 x12 r2 r3 a16 x13 x14 a17 a18 x15 a19 x16 r4 a20 a21 x17 r5 a22 x18 x19 x20 x21 f0 (by decide) (by decide) x1_a x1_b x2_a x2_b x3_a x3_b x4_a x4_b x5_a x5_b x6_a x6_b x7_a x7_b x8_a x8_b x9_a x9_b x10_a x10_b x11_a x11_b x12_a x12_b x13_a x13_b x14_a x14_b x15_a x15_b x16_a x16_b x17_a x17_b x18_a x18_b x19_a x19_b x20_a x20_b x21_a x21_b f0_h) 0 clX12 rfl rfl (by decide) rfl hl.1 rfl (Nat.le_of_ble_eq_true rfl) dX12_book_22 (by decide) (by decide) (by decide) (by decide)) w [0, 1] [2, 3, 4, 5, 6, 7] rfl rfl (by decide) (by decide) rfl rfl (fun u H locs hp w => ?_)
    obtain ⟨fr7, z8, z9, z10, z11, z12, z13, fr14, z15, z16, fy17⟩ := u
    have z8_a : 0 ≤ z8 := hp.1
    have z8_b : z8 ≤ 940 := hp.2.1
    have z9_a : 0 ≤ z9 := hp.2.2.1
    have z9_b : z9 ≤ 940 := hp.2.2.2.1
    have z10_a : 0 ≤ z10 := hp.2.2.2.2.1
    have z10_b : z10 ≤ 940 := hp.2.2.2.2.2.1
    have z11_a : 0 ≤ z11 := hp.2.2.2.2.2.2.1
    have z11_b : z11 ≤ 940 := hp.2.2.2.2.2.2.2.1
    have z12_a : 0 ≤ z12 := hp.2.2.2.2.2.2.2.2.1
    have z12_b : z12 ≤ 940 := hp.2.2.2.2.2.2.2.2.2.1
    have z13_a : 0 ≤ z13 := hp.2.2.2.2.2.2.2.2.2.2.1
    have z13_b : z13 ≤ 4 := hp.2.2.2.2.2.2.2.2.2.2.2.1
    have z15_a : (-2147483648) ≤ z15 := hp.2.2.2.2.2.2.2.2.2.2.2.2.1
    have z15_b : z15 ≤ 2147483647 := hp.2.2.2.2.2.2.2.2.2.2.2.2.2.1
    have z16_a : (-2147483648) ≤ z16 := hp.2.2.2.2.2.2.2.2.2.2.2.2.2.2.1
    have z16_b : z16 ≤ 2147483647 := hp.2.2.2.2.2.2.2.2.2.2.2.2.2.2.2.1
    have ee18 : 0 ≤ (0 - z8) := hp.2.2.2.2.2.2.2.2.2.2.2.2.2.2.2.2.1
    have ee19 : 0 ≤ (z9 - x1) := hp.2.2.2.2.2.2.2.2.2.2.2.2.2.2.2.2.2.1
    have ee20 : 0 ≤ (x1 - z9) := hp.2.2.2.2.2.2.2.2.2.2.2.2.2.2.2.2.2.2.1
    have ee21 : 0 ≤ (z10 - 400) := hp.2.2.2.2.2.2.2.2.2.2.2.2.2.2.2.2.2.2.2.1
    have ee22 : 0 ≤ (400 - z10) := hp.2.2.2.2.2.2.2.2.2.2.2.2.2.2.2.2.2.2.2.2.1
    have ee23 : 0 ≤ z16 := hp.2.2.2.2.2.2.2.2.2.2.2.2.2.2.2.2.2.2.2.2.2.1
    have ee24 : 0 ≤ (0 - z16) := hp.2.2.2.2.2.2.2.2.2.2.2.2.2.2.2.2.2.2.2.2.2.2.1
    have pq25 : gT (tkAt f0 z9 z10 0) z13 z12 z11 fy17 fr14 z15 := hp.2.2.2.2.2.2.2.2.2.2.2.2.2.2.2.2.2.2.2.2.2.2.2
    have w : WD D A s.heap [(a2, .inl (T 0, 329, .inl (cI f1))), (a5, .inl (T 0, 272, .inl (cI f2))), (a6, .inl (T 0, 34, .inl (cI f3))), (a7, .inl (T 1, 12, .inr (.inl h0))), (a20, .inl (T 0, 160, .inl (cI f4))), (a21, .inl (T 0, 4, .inl f5)), (a0, .inr (11, [.int fr7, .ref a1, .int (iI z8), .int (iI z9), .int (iI z10), .int (iI z11), .int (iI z12), .int (iI z13), .int fr14, .int (iI z15), .int (iI z16), .int (iI x9), .long fy17, .int (iI x10), .ref a2, .ref a3, .ref a4, .ref a5, .ref a6, .ref a7, .ref a8, .ref a9, .ref a10, .ref a11, .int (iI x11), .ref a12, .ref a13, .ref a14, .ref a15, .int (iI x12), .int r2, .int r3, .ref a16, .int (iI x13), .int (iI x14), .ref a17, .ref a18, .int (iI x15), .ref a19, .int (iI x16), .int r4, .ref a20, .ref a21, .int (iI x17), .int r5, .ref a22, .int (iI x18), .int (iI x19), .int (iI x20), .int (iI x21)])), (a1, .inl (T 0, 940, .inl (cI f0)))] H locs := w
    refine lv_aload_n hx hb dX12_book_25 rfl (lv_at hl 0 rfl) ?_
    refine lv_iconst (v := iI 0) hx hb dX12_book_26 (by decide +kernel) ?_
    refine r_put (ws' := [(a2, .inl (T 0, 329, .inl (cI f1))), (a5, .inl (T 0, 272, .inl (cI f2))), (a6, .inl (T 0, 34, .inl (cI f3))), (a7, .inl (T 1, 12, .inr (.inl h0))), (a20, .inl (T 0, 160, .inl (cI f4))), (a21, .inl (T 0, 4, .inl f5)), (a0, .inr (11, [.int fr7, .ref a1, .int (iI z8), .int (iI z9), .int (iI z10), .int (iI z11), .int (iI z12), .int (iI z13), .int fr14, .int (iI z15), .int (iI z16), .int (iI x9), .long fy17, .int (iI x10), .ref a2, .ref a3, .ref a4, .ref a5, .ref a6, .ref a7, .ref a8, .ref a9, .ref a10, .ref a11, .int (iI x11), .ref a12, .ref a13, .ref a14, .ref a15, .int (iI x12), .int r2, .int r3, .ref a16, .int (iI x13), .int (iI x14), .ref a17, .ref a18, .int (iI x15), .ref a19, .int (iI x16), .int r4, .ref a20, .ref a21, .int (iI 0), .int r5, .ref a22, .int (iI x18), .int (iI x19), .int (iI x20), .int (iI x21)])), (a1, .inl (T 0, 940, .inl (cI f0)))]) M w 6 43 clX12 rfl (by decide) G1506 rfl rfl rfl rfl (Nat.le_of_ble_eq_true rfl) rfl dX12_book_27 (fun H locs w => ?_)
    have loop1 : ∀ (k1 : Nat) (z26 : Int) (z27 : Int) (fy28 : Int64) (z29 : Int) (z30 : Int) (z31 : Int) (z32 : Int) (z33 : Int) (fr34 : Int32) (z35 : Int) (ff36 : Int → Int) (H : Heap) (locs : List Loc) (ls : Array Slot), (-2147483648) ≤ z26 → z26 ≤ 2147483647 → 0 ≤ z27 → z27 ≤ 940 → (-2147483648) ≤ z29 → z29 ≤ 2147483647 → 0 ≤ z30 → z30 ≤ 40 → 0 ≤ z31 → z31 ≤ 940 → 0 ≤ z32 → z32 ≤ 940 → 0 ≤ z33 → z33 ≤ 4 → (-2147483648) ≤ z35 → z35 ≤ 2147483647 → lnI ff36 → kp 53 f1 f1 → bkJ f0 z9 z10 (sOne (fun _ => f1 0) h0) (sMn h0 (f1 1)) (tkAt f0 z9 z10 0, 0) (fun y => gT y z33 z32 z31 fy28 fr34 z35) z30 → z26 = 0 → ((940 - z31) : Int).toNat < k1 → WD D A s.heap [(a2, .inl (T 0, 329, .inl (cI f1))), (a5, .inl (T 0, 272, .inl (cI f2))), (a6, .inl (T 0, 34, .inl (cI f3))), (a7, .inl (T 1, 12, .inr (.inl h0))), (a20, .inl (T 0, 160, .inl (cI ff36))), (a21, .inl (T 0, 4, .inl f5)), (a0, .inr (11, [.int fr7, .ref a1, .int (iI z8), .int (iI z9), .int (iI z10), .int (iI z31), .int (iI z32), .int (iI z33), .int fr34, .int (iI z35), .int (iI z26), .int (iI z27), .long fy28, .int (iI z29), .ref a2, .ref a3, .ref a4, .ref a5, .ref a6, .ref a7, .ref a8, .ref a9, .ref a10, .ref a11, .int (iI x11), .ref a12, .ref a13, .ref a14, .ref a15, .int (iI x12), .int r2, .int r3, .ref a16, .int (iI x13), .int (iI x14), .ref a17, .ref a18, .int (iI x15), .ref a19, .int (iI x16), .int r4, .ref a20, .ref a21, .int (iI z30), .int r5, .ref a22, .int (iI x18), .int (iI x19), .int (iI x20), .int (iI x21)])), (a1, .inl (T 0, 940, .inl (cI f0)))] H locs → lv_has ls 4 [(0, .ref a0), (1, .int (iI x0))] → W p l e (Rm 6 0 0) s m args below meth c H locs 0 0 Q (F0 m 30 ls []) := by
      intro k1
      induction k1 with
      | zero => intro z26 z27 fy28 z29 z30 z31 z32 z33 fr34 z35 ff36 H locs ls z26_a z26_b z27_a z27_b z29_a z29_b z30_a z30_b z31_a z31_b z32_a z32_b z33_a z33_b z35_a z35_b ff36_h lq1_hd lq1_b lq1_z hm; exact absurd hm (Nat.not_lt_zero _)
      | succ k1 ih1 =>
        intro z26 z27 fy28 z29 z30 z31 z32 z33 fr34 z35 ff36 H locs ls z26_a z26_b z27_a z27_b z29_a z29_b z30_a z30_b z31_a z31_b z32_a z32_b z33_a z33_b z35_a z35_b ff36_h lq1_hd lq1_b lq1_z hm1 w hl
        refine lv_aload_n hx hb dX12_book_30 rfl (lv_at hl 0 rfl) ?_
        refine r_get (v := .int (iI z33)) M w 6 7 clX12 rfl (by decide) G1470 rfl rfl dX12_book_31 ?_
        refine lv_if_eq (tgt := 65) hx hb dX12_book_34 (by decide) (fun c_37 => ?_) (fun c_37 => ?_)
        · replace c_37 := (iz_eq (Int.le_trans (by decide) z33_a) (Int.le_trans z33_b (by decide))).mp c_37
          refine lv_aload_n hx hb dX12_book_65 rfl (lv_at hl 0 rfl) ?_
          refine k_V (ce := 0) (sl := 0) (rest := []) (wr := [(a5, .inl (T 0, 272, .inl (cI f2))), (a7, .inl (T 1, 12, .inr (.inl h0))), (a20, .inl (T 0, 160, .inl (cI ff36))), (a21, .inl (T 0, 4, .inl f5)), (a1, .inl (T 0, 940, .inl (cI f0)))]) (r_V (f := 0) [6, 0, 2] M w V_HookedCityModel_364 G1973 G101 (c117_X12_layAside l D T _ a0 fr7 a1 z8 z9 z10 z31 z32 z33 fr34 z35 z26 z27 fy28 z29 a2 a3 a4 a5 a6 a7 a8 a9 a10 a11 x11 a12 a13 a14 a15 x12 r2 r3 a16 x13 x14 a17 a18 x15 a19 x16 r4 a20 a21 z30 r5 a22 x18 x19 x20 x21 f1 f3 z8_a z8_b z9_a z9_b z10_a z10_b z31_a z31_b z32_a z32_b z33_a z33_b z35_a z35_b z26_a z26_b z27_a z27_b z29_a z29_b x11_a x11_b x12_a x12_b x13_a x13_b x14_a x14_b x15_a x15_b x16_a x16_b z30_a z30_b x18_a x18_b x19_a x19_b x20_a x20_b x21_a x21_b f1_h f3_h) 6 clX12 rfl rfl (by decide) rfl hl.1 rfl (Nat.le_of_ble_eq_true rfl) dX12_book_66 (by decide) (by decide) (by decide) (by decide)) w [6, 0, 2] [1, 3, 4, 5, 7] rfl rfl (by decide) (by decide) rfl rfl (fun ff38 H locs hp w => ?_)
          have ff38_h : FL ff38 := hp.1
          have pq39 : soI ff38 0 := hp.2
          have w : WD D A s.heap [(a5, .inl (T 0, 272, .inl (cI f2))), (a7, .inl (T 1, 12, .inr (.inl h0))), (a20, .inl (T 0, 160, .inl (cI ff36))), (a21, .inl (T 0, 4, .inl f5)), (a1, .inl (T 0, 940, .inl (cI f0))), (a0, .inr (11, [.int fr7, .ref a1, .int (iI z8), .int (iI z9), .int (iI z10), .int (iI z31), .int (iI z32), .int (iI z33), .int fr34, .int (iI z35), .int (iI z26), .int (iI z27), .long fy28, .int (iI z29), .ref a2, .ref a3, .ref a4, .ref a5, .ref a6, .ref a7, .ref a8, .ref a9, .ref a10, .ref a11, .int (iI x11), .ref a12, .ref a13, .ref a14, .ref a15, .int (iI x12), .int r2, .int r3, .ref a16, .int (iI x13), .int (iI x14), .ref a17, .ref a18, .int (iI x15), .ref a19, .int (iI x16), .int r4, .ref a20, .ref a21, .int (iI z30), .int r5, .ref a22, .int (iI x18), .int (iI x19), .int (iI x20), .int (iI x21)])), (a2, .inl (T 0, 329, .inl (cI f1))), (a6, .inl (T 0, 34, .inl (cI ff38)))] H locs := w
          refine lv_iconst (v := iI 0) hx hb dX12_book_69 (by decide +kernel) ?_
          refine lv_istore_n (lv' := [(2, .int (iI 0)), (0, .ref a0), (1, .int (iI x0))]) hx hb dX12_book_70 rfl hl (by decide) rfl (fun ls hl => ?_)
          refine lv_iconst (v := iI 0) hx hb dX12_book_71 (by decide +kernel) ?_
          refine lv_istore_n (lv' := [(3, .int (iI 0)), (2, .int (iI 0)), (0, .ref a0), (1, .int (iI x0))]) hx hb dX12_book_72 rfl hl (by decide) rfl (fun ls hl => ?_)
          have loop2 : ∀ (k2 : Nat) (ff40 : Int → Int) (z41 : Int) (z42 : Int) (H : Heap) (locs : List Loc) (ls : Array Slot), nowI ff40 → 0 ≤ z41 → z41 ≤ 31 → 0 ≤ z42 → z42 ≤ 40 → kp 53 f1 ff40 → (((((40 - z42) * 100) + 31) - z41) : Int).toNat < k2 → WD D A s.heap [(a5, .inl (T 0, 272, .inl (cI f2))), (a7, .inl (T 1, 12, .inr (.inl h0))), (a20, .inl (T 0, 160, .inl (cI ff36))), (a21, .inl (T 0, 4, .inl f5)), (a1, .inl (T 0, 940, .inl (cI f0))), (a0, .inr (11, [.int fr7, .ref a1, .int (iI z8), .int (iI z9), .int (iI z10), .int (iI z31), .int (iI z32), .int (iI z33), .int fr34, .int (iI z35), .int (iI z26), .int (iI z27), .long fy28, .int (iI z29), .ref a2, .ref a3, .ref a4, .ref a5, .ref a6, .ref a7, .ref a8, .ref a9, .ref a10, .ref a11, .int (iI x11), .ref a12, .ref a13, .ref a14, .ref a15, .int (iI x12), .int r2, .int r3, .ref a16, .int (iI x13), .int (iI x14), .ref a17, .ref a18, .int (iI x15), .ref a19, .int (iI x16), .int r4, .ref a20, .ref a21, .int (iI z30), .int r5, .ref a22, .int (iI x18), .int (iI x19), .int (iI x20), .int (iI x21)])), (a2, .inl (T 0, 329, .inl (cI ff40))), (a6, .inl (T 0, 34, .inl (cI ff38)))] H locs → lv_has ls 4 [(3, .int (iI z41)), (2, .int (iI z42)), (0, .ref a0), (1, .int (iI x0))] → W p l e (Rm 6 0 0) s m args below meth c H locs 0 0 Q (F0 m 73 ls []) := by
            intro k2
            induction k2 with
            | zero => intro ff40 z41 z42 H locs ls ff40_h z41_a z41_b z42_a z42_b lq2_hd hm; exact absurd hm (Nat.not_lt_zero _)
            | succ k2 ih2 =>
              intro ff40 z41 z42 H locs ls ff40_h z41_a z41_b z42_a z42_b lq2_hd hm2 w hl
              refine lv_iload_n hx hb dX12_book_73 rfl (lv_at hl 1 rfl) ?_
              refine lv_aload_n hx hb dX12_book_74 rfl (lv_at hl 2 rfl) ?_
              refine r_get (v := .int (iI z30)) M w 5 43 clX12 rfl (by decide) G1506 rfl rfl dX12_book_75 ?_
              refine lv_icmp_ge (tgt := 103) hx hb dX12_book_78 (by decide) (fun c_43 => ?_) (fun c_43 => ?_)
              · replace c_43 := (iI_le (Int.le_trans (by decide) z30_a) (Int.le_trans z30_b (by decide)) (Int.le_trans (by decide) z42_a) (Int.le_trans z42_b (by decide))).mp c_43
                refine lv_aload_n hx hb dX12_book_103 rfl (lv_at hl 2 rfl) ?_
                refine r_get (v := .ref a21) M w 5 42 clX12 rfl (by decide) G1505 rfl rfl dX12_book_104 ?_
                refine lv_iconst (v := iI 0) hx hb dX12_book_107 (by decide +kernel) ?_
                refine lv_iload_n hx hb dX12_book_108 rfl (lv_at hl 0 rfl) ?_
                refine r_iast (ws' := [(a5, .inl (T 0, 272, .inl (cI f2))), (a7, .inl (T 1, 12, .inr (.inl h0))), (a20, .inl (T 0, 160, .inl (cI ff36))), (a21, .inl (T 0, 4, .inl (upd f5 (Int32.toNatClampNeg (iI 0)) (iI z41)))), (a1, .inl (T 0, 940, .inl (cI f0))), (a0, .inr (11, [.int fr7, .ref a1, .int (iI z8), .int (iI z9), .int (iI z10), .int (iI z31), .int (iI z32), .int (iI z33), .int fr34, .int (iI z35), .int (iI z26), .int (iI z27), .long fy28, .int (iI z29), .ref a2, .ref a3, .ref a4, .ref a5, .ref a6, .ref a7, .ref a8, .ref a9, .ref a10, .ref a11, .int (iI x11), .ref a12, .ref a13, .ref a14, .ref a15, .int (iI x12), .int r2, .int r3, .ref a16, .int (iI x13), .int (iI x14), .ref a17, .ref a18, .int (iI x15), .ref a19, .int (iI x16), .int r4, .ref a20, .ref a21, .int (iI z30), .int r5, .ref a22, .int (iI x18), .int (iI x19), .int (iI x20), .int (iI x21)])), (a2, .inl (T 0, 329, .inl (cI ff40))), (a6, .inl (T 0, 34, .inl (cI ff38)))]) M w 3 rfl (iI_in (by decide) (by decide) (by decide)) rfl dX12_book_109 (fun H locs w => ?_)
                refine lv_aload_n hx hb dX12_book_110 rfl (lv_at hl 2 rfl) ?_
                refine r_get (v := .ref a21) M w 5 42 clX12 rfl (by decide) G1505 rfl rfl dX12_book_111 ?_
                refine lv_iconst (v := iI 1) hx hb dX12_book_114 (by decide +kernel) ?_
                refine lv_iload_n hx hb dX12_book_115 rfl (lv_at hl 1 rfl) ?_
                refine r_iast (ws' := [(a5, .inl (T 0, 272, .inl (cI f2))), (a7, .inl (T 1, 12, .inr (.inl h0))), (a20, .inl (T 0, 160, .inl (cI ff36))), (a21, .inl (T 0, 4, .inl (upd (upd f5 (Int32.toNatClampNeg (iI 0)) (iI z41)) (Int32.toNatClampNeg (iI 1)) (iI z42)))), (a1, .inl (T 0, 940, .inl (cI f0))), (a0, .inr (11, [.int fr7, .ref a1, .int (iI z8), .int (iI z9), .int (iI z10), .int (iI z31), .int (iI z32), .int (iI z33), .int fr34, .int (iI z35), .int (iI z26), .int (iI z27), .long fy28, .int (iI z29), .ref a2, .ref a3, .ref a4, .ref a5, .ref a6, .ref a7, .ref a8, .ref a9, .ref a10, .ref a11, .int (iI x11), .ref a12, .ref a13, .ref a14, .ref a15, .int (iI x12), .int r2, .int r3, .ref a16, .int (iI x13), .int (iI x14), .ref a17, .ref a18, .int (iI x15), .ref a19, .int (iI x16), .int r4, .ref a20, .ref a21, .int (iI z30), .int r5, .ref a22, .int (iI x18), .int (iI x19), .int (iI x20), .int (iI x21)])), (a2, .inl (T 0, 329, .inl (cI ff40))), (a6, .inl (T 0, 34, .inl (cI ff38)))]) M w 3 rfl (iI_in (by decide) (by decide) (by decide)) rfl dX12_book_116 (fun H locs w => ?_)
                refine lv_aload_n hx hb dX12_book_117 rfl (lv_at hl 2 rfl) ?_
                refine r_get (v := .ref a21) M w 5 42 clX12 rfl (by decide) G1505 rfl rfl dX12_book_118 ?_
                refine lv_iconst (v := iI 2) hx hb dX12_book_121 (by decide +kernel) ?_
                refine lv_aload_n hx hb dX12_book_122 rfl (lv_at hl 2 rfl) ?_
                refine r_get (v := .ref a2) M w 5 14 clX12 rfl (by decide) G1477 rfl rfl dX12_book_123 ?_
                refine lv_bipush (v := iI 53) hx hb dX12_book_126 (by decide +kernel) ?_
                refine r_iald (v := iI (ff40 53)) M w 6 rfl (iI_in (by decide) (by decide) (by decide)) (cI_at (by omega) (by omega)) dX12_book_128 ?_
                have hh44 : (-2147483648) ≤ (ff40 53) ∧ (ff40 53) ≤ 2147483647 := ff40_h.1 53
                refine r_iast (ws' := [(a5, .inl (T 0, 272, .inl (cI f2))), (a7, .inl (T 1, 12, .inr (.inl h0))), (a20, .inl (T 0, 160, .inl (cI ff36))), (a21, .inl (T 0, 4, .inl (upd (upd (upd f5 (Int32.toNatClampNeg (iI 0)) (iI z41)) (Int32.toNatClampNeg (iI 1)) (iI z42)) (Int32.toNatClampNeg (iI 2)) (iI (ff40 53))))), (a1, .inl (T 0, 940, .inl (cI f0))), (a0, .inr (11, [.int fr7, .ref a1, .int (iI z8), .int (iI z9), .int (iI z10), .int (iI z31), .int (iI z32), .int (iI z33), .int fr34, .int (iI z35), .int (iI z26), .int (iI z27), .long fy28, .int (iI z29), .ref a2, .ref a3, .ref a4, .ref a5, .ref a6, .ref a7, .ref a8, .ref a9, .ref a10, .ref a11, .int (iI x11), .ref a12, .ref a13, .ref a14, .ref a15, .int (iI x12), .int r2, .int r3, .ref a16, .int (iI x13), .int (iI x14), .ref a17, .ref a18, .int (iI x15), .ref a19, .int (iI x16), .int r4, .ref a20, .ref a21, .int (iI z30), .int r5, .ref a22, .int (iI x18), .int (iI x19), .int (iI x20), .int (iI x21)])), (a2, .inl (T 0, 329, .inl (cI ff40))), (a6, .inl (T 0, 34, .inl (cI ff38)))]) M w 3 rfl (iI_in (by decide) (by decide) (by decide)) rfl dX12_book_129 (fun H locs w => ?_)
                refine lv_aload_n hx hb dX12_book_130 rfl (lv_at hl 2 rfl) ?_
                refine r_get (v := .ref a21) M w 5 42 clX12 rfl (by decide) G1505 rfl rfl dX12_book_131 ?_
                refine lv_iconst (v := iI 3) hx hb dX12_book_134 (by decide +kernel) ?_
                refine lv_aload_n hx hb dX12_book_135 rfl (lv_at hl 2 rfl) ?_
                refine k_I (ce := 0) (sl := 0) (rest := [.int (iI 3), .ref a21]) (wr := [(a5, .inl (T 0, 272, .inl (cI f2))), (a7, .inl (T 1, 12, .inr (.inl h0))), (a20, .inl (T 0, 160, .inl (cI ff36))), (a21, .inl (T 0, 4, .inl (upd (upd (upd f5 (Int32.toNatClampNeg (iI 0)) (iI z41)) (Int32.toNatClampNeg (iI 1)) (iI z42)) (Int32.toNatClampNeg (iI 2)) (iI (ff40 53))))), (a1, .inl (T 0, 940, .inl (cI f0))), (a6, .inl (T 0, 34, .inl (cI ff38)))]) (r_V (f := 1) [5, 6] M w V_HookedCityModel_258 G1764 G73 (c74_X12_opens l D T _ a0 fr7 a1 z8 z9 z10 z31 z32 z33 fr34 z35 z26 z27 fy28 z29 a2 a3 a4 a5 a6 a7 a8 a9 a10 a11 x11 a12 a13 a14 a15 x12 r2 r3 a16 x13 x14 a17 a18 x15 a19 x16 r4 a20 a21 z30 r5 a22 x18 x19 x20 x21 ff40 z8_a z8_b z9_a z9_b z10_a z10_b z31_a z31_b z32_a z32_b z33_a z33_b z35_a z35_b z26_a z26_b z27_a z27_b z29_a z29_b x11_a x11_b x12_a x12_b x13_a x13_b x14_a x14_b x15_a x15_b x16_a x16_b z30_a z30_b x18_a x18_b x19_a x19_b x20_a x20_b x21_a x21_b ff40_h) 5 clX12 rfl rfl (by decide) rfl hl.1 rfl (Nat.le_of_ble_eq_true rfl) dX12_book_136 (by decide) (by decide) (by decide) (by decide)) w [5, 6] [0, 1, 2, 3, 4, 7] rfl rfl (by decide) (by decide) rfl rfl (fun v z45 H locs hp w => ?_)
                have hv : iI z45 = v := hp.1
                subst hv
                have z45_a : (-2147483648) ≤ z45 := hp.2.1
                have z45_b : z45 ≤ 2147483647 := hp.2.2
                have w : WD D A s.heap [(a5, .inl (T 0, 272, .inl (cI f2))), (a7, .inl (T 1, 12, .inr (.inl h0))), (a20, .inl (T 0, 160, .inl (cI ff36))), (a21, .inl (T 0, 4, .inl (upd (upd (upd f5 (Int32.toNatClampNeg (iI 0)) (iI z41)) (Int32.toNatClampNeg (iI 1)) (iI z42)) (Int32.toNatClampNeg (iI 2)) (iI (ff40 53))))), (a1, .inl (T 0, 940, .inl (cI f0))), (a6, .inl (T 0, 34, .inl (cI ff38))), (a0, .inr (11, [.int fr7, .ref a1, .int (iI z8), .int (iI z9), .int (iI z10), .int (iI z31), .int (iI z32), .int (iI z33), .int fr34, .int (iI z35), .int (iI z26), .int (iI z27), .long fy28, .int (iI z29), .ref a2, .ref a3, .ref a4, .ref a5, .ref a6, .ref a7, .ref a8, .ref a9, .ref a10, .ref a11, .int (iI x11), .ref a12, .ref a13, .ref a14, .ref a15, .int (iI x12), .int r2, .int r3, .ref a16, .int (iI x13), .int (iI x14), .ref a17, .ref a18, .int (iI x15), .ref a19, .int (iI x16), .int r4, .ref a20, .ref a21, .int (iI z30), .int r5, .ref a22, .int (iI x18), .int (iI x19), .int (iI x20), .int (iI x21)])), (a2, .inl (T 0, 329, .inl (cI ff40)))] H locs := w
                refine r_iast (ws' := [(a5, .inl (T 0, 272, .inl (cI f2))), (a7, .inl (T 1, 12, .inr (.inl h0))), (a20, .inl (T 0, 160, .inl (cI ff36))), (a21, .inl (T 0, 4, .inl (upd (upd (upd (upd f5 (Int32.toNatClampNeg (iI 0)) (iI z41)) (Int32.toNatClampNeg (iI 1)) (iI z42)) (Int32.toNatClampNeg (iI 2)) (iI (ff40 53))) (Int32.toNatClampNeg (iI 3)) (iI z45)))), (a1, .inl (T 0, 940, .inl (cI f0))), (a6, .inl (T 0, 34, .inl (cI ff38))), (a0, .inr (11, [.int fr7, .ref a1, .int (iI z8), .int (iI z9), .int (iI z10), .int (iI z31), .int (iI z32), .int (iI z33), .int fr34, .int (iI z35), .int (iI z26), .int (iI z27), .long fy28, .int (iI z29), .ref a2, .ref a3, .ref a4, .ref a5, .ref a6, .ref a7, .ref a8, .ref a9, .ref a10, .ref a11, .int (iI x11), .ref a12, .ref a13, .ref a14, .ref a15, .int (iI x12), .int r2, .int r3, .ref a16, .int (iI x13), .int (iI x14), .ref a17, .ref a18, .int (iI x15), .ref a19, .int (iI x16), .int r4, .ref a20, .ref a21, .int (iI z30), .int r5, .ref a22, .int (iI x18), .int (iI x19), .int (iI x20), .int (iI x21)])), (a2, .inl (T 0, 329, .inl (cI ff40)))]) M w 3 rfl (iI_in (by decide) (by decide) (by decide)) rfl dX12_book_139 (fun H locs w => ?_)
                refine lv_aload_n hx hb dX12_book_140 rfl (lv_at hl 2 rfl) ?_
                refine lv_iconst (v := iI 1) hx hb dX12_book_141 (by decide +kernel) ?_
                refine r_put (ws' := [(a5, .inl (T 0, 272, .inl (cI f2))), (a7, .inl (T 1, 12, .inr (.inl h0))), (a20, .inl (T 0, 160, .inl (cI ff36))), (a21, .inl (T 0, 4, .inl (upd (upd (upd (upd f5 (Int32.toNatClampNeg (iI 0)) (iI z41)) (Int32.toNatClampNeg (iI 1)) (iI z42)) (Int32.toNatClampNeg (iI 2)) (iI (ff40 53))) (Int32.toNatClampNeg (iI 3)) (iI z45)))), (a1, .inl (T 0, 940, .inl (cI f0))), (a6, .inl (T 0, 34, .inl (cI ff38))), (a0, .inr (11, [.int fr7, .ref a1, .int (iI z8), .int (iI z9), .int (iI z10), .int (iI z31), .int (iI z32), .int (iI z33), .int fr34, .int (iI z35), .int (iI z26), .int (iI z27), .long fy28, .int (iI z29), .ref a2, .ref a3, .ref a4, .ref a5, .ref a6, .ref a7, .ref a8, .ref a9, .ref a10, .ref a11, .int (iI x11), .ref a12, .ref a13, .ref a14, .ref a15, .int (iI x12), .int r2, .int r3, .ref a16, .int (iI x13), .int (iI x14), .ref a17, .ref a18, .int (iI x15), .ref a19, .int (iI x16), .int r4, .ref a20, .ref a21, .int (iI z30), .int (iI 1), .ref a22, .int (iI x18), .int (iI x19), .int (iI x20), .int (iI x21)])), (a2, .inl (T 0, 329, .inl (cI ff40)))]) M w 6 44 clX12 rfl (by decide) G1507 rfl rfl (by decide +kernel) (by decide +kernel) (Nat.le_of_ble_eq_true rfl) rfl dX12_book_142 (fun H locs w => ?_)
                refine lv_aload_n hx hb dX12_book_145 rfl (lv_at hl 2 rfl) ?_
                refine lv_iload_n hx hb dX12_book_146 rfl (lv_at hl 3 rfl) ?_
                refine lv_iconst (v := iI 1) hx hb dX12_book_147 (by decide +kernel) ?_
                refine lv_icmp_ne (tgt := 159) hx hb dX12_book_148 (by decide) (fun c_46 => ?_) (fun c_46 => ?_)
                · replace c_46 : ¬ x0 = 1 := fun h => c_46 ((iI_eq (Int.le_trans (by decide) x0_a) (Int.le_trans x0_b (by decide)) (by decide) (by decide)).mpr h)
                  refine lv_iconst (v := iI 0) hx hb dX12_book_159 (by decide +kernel) ?_
                  refine k_V (ce := 0) (sl := 0) (rest := []) (wr := [(a7, .inl (T 1, 12, .inr (.inl h0))), (a20, .inl (T 0, 160, .inl (cI ff36))), (a21, .inl (T 0, 4, .inl (upd (upd (upd (upd f5 (Int32.toNatClampNeg (iI 0)) (iI z41)) (Int32.toNatClampNeg (iI 1)) (iI z42)) (Int32.toNatClampNeg (iI 2)) (iI (ff40 53))) (Int32.toNatClampNeg (iI 3)) (iI z45)))), (a1, .inl (T 0, 940, .inl (cI f0)))]) (r_V (f := 1) [6, 7, 0, 5] M w V_HookedCityModel_391 G2005 G108 (c130_X12_stay l D T _ a0 0 fr7 a1 z8 z9 z10 z31 z32 z33 fr34 z35 z26 z27 fy28 z29 a2 a3 a4 a5 a6 a7 a8 a9 a10 a11 x11 a12 a13 a14 a15 x12 r2 r3 a16 x13 x14 a17 a18 x15 a19 x16 r4 a20 a21 z30 (iI 1) a22 x18 x19 x20 x21 ff40 f2 ff38 (by decide) (by decide) z8_a z8_b z9_a z9_b z10_a z10_b z31_a z31_b z32_a z32_b z33_a z33_b z35_a z35_b z26_a z26_b z27_a z27_b z29_a z29_b x11_a x11_b x12_a x12_b x13_a x13_b x14_a x14_b x15_a x15_b x16_a x16_b z30_a z30_b x18_a x18_b x19_a x19_b x20_a x20_b x21_a x21_b ff40_h f2_h ff38_h pp_s pq39) 6 clX12 rfl rfl (by decide) rfl hl.1 rfl (Nat.le_of_ble_eq_true rfl) dX12_book_160 (by decide) (by decide) (by decide) (by decide)) w [6, 7, 0, 5] [1, 2, 3, 4] rfl rfl (by decide) (by decide) rfl rfl (fun u H locs hp w => ?_)
                  obtain ⟨z47, ff48, ff49, ff50⟩ := u
                  have z47_a : 0 ≤ z47 := hp.1
                  have z47_b : z47 ≤ 8 := hp.2.1
                  have ff48_h : nowI ff48 := hp.2.2.1
                  have ff49_h : FL ff49 := hp.2.2.2.1
                  have ff50_h : FL ff50 := hp.2.2.2.2.1
                  have pq51 : snI ff49 z47 := hp.2.2.2.2.2.1
                  have pq52 : kp 53 ff40 ff48 := hp.2.2.2.2.2.2
                  have w : WD D A s.heap [(a7, .inl (T 1, 12, .inr (.inl h0))), (a20, .inl (T 0, 160, .inl (cI ff36))), (a21, .inl (T 0, 4, .inl (upd (upd (upd (upd f5 (Int32.toNatClampNeg (iI 0)) (iI z41)) (Int32.toNatClampNeg (iI 1)) (iI z42)) (Int32.toNatClampNeg (iI 2)) (iI (ff40 53))) (Int32.toNatClampNeg (iI 3)) (iI z45)))), (a1, .inl (T 0, 940, .inl (cI f0))), (a0, .inr (11, [.int fr7, .ref a1, .int (iI z8), .int (iI z9), .int (iI z10), .int (iI z31), .int (iI z32), .int (iI z33), .int fr34, .int (iI z35), .int (iI z26), .int (iI z27), .long fy28, .int (iI z29), .ref a2, .ref a3, .ref a4, .ref a5, .ref a6, .ref a7, .ref a8, .ref a9, .ref a10, .ref a11, .int (iI z47), .ref a12, .ref a13, .ref a14, .ref a15, .int (iI x12), .int r2, .int r3, .ref a16, .int (iI x13), .int (iI x14), .ref a17, .ref a18, .int (iI x15), .ref a19, .int (iI x16), .int r4, .ref a20, .ref a21, .int (iI z30), .int (iI 1), .ref a22, .int (iI x18), .int (iI x19), .int (iI x20), .int (iI x21)])), (a2, .inl (T 0, 329, .inl (cI ff48))), (a5, .inl (T 0, 272, .inl (cI ff49))), (a6, .inl (T 0, 34, .inl (cI ff50)))] H locs := w
                  refine lv_iload_n hx hb dX12_book_163 rfl (lv_at hl 0 rfl) ?_
                  refine lv_if_ne (tgt := 171) hx hb dX12_book_164 (by decide) (fun c_53 => ?_) (fun c_53 => ?_)
                  · replace c_53 : ¬ z41 = 0 := fun h => c_53 ((iz_eq (Int.le_trans (by decide) z41_a) (Int.le_trans z41_b (by decide))).mpr h)
                    refine lv_iload_n hx hb dX12_book_171 rfl (lv_at hl 1 rfl) ?_
                    exact ret _ (z42, fr7, z8, z9, z10, z31, z32, z33, fr34, z35, z26, z27, fy28, z29, z47, z30, (iI 1), ff48, ff49, ff50, ff36, (upd (upd (upd (upd f5 (Int32.toNatClampNeg (iI 0)) (iI z41)) (Int32.toNatClampNeg (iI 1)) (iI z42)) (Int32.toNatClampNeg (iI 2)) (iI (ff40 53))) (Int32.toNatClampNeg (iI 3)) (iI z45))) _ _ _ _ _ [4, 3, 5, 6, 7, 0, 1, 2] dX12_book_172 ⟨rfl, (show (-2147483648) ≤ z42 from by omega), (show z42 ≤ 2147483647 from by omega), z8_a, z8_b, z9_a, z9_b, z10_a, z10_b, z31_a, z31_b, z32_a, z32_b, z33_a, z33_b, z35_a, z35_b, z26_a, z26_b, z27_a, z27_b, z29_a, z29_b, z47_a, z47_b, z30_a, z30_b, ff48_h, ff49_h, ff50_h, ff36_h, (show snI ff49 z47 from pq51), (show bkT x0 x1 z8 from (by unfold bkT; omega)), (show kp 53 f1 ff48 from (kp_tr (kp_tr kp_rfl lq2_hd) pq52)), (show (0 ≤ x0 → x0 ≤ 1 → bqF (bkS f0 x1 (sOne (fun _ => f1 0) h0) (sMn h0 (f1 1))) z26) ∧ (x0 < 0 ∨ 1 < x0 → z26 = x8) from ⟨fun a9 b9 => by have hc := bi_e lq1_b (by omega) (fun y g => (gT_stop g).mp (by omega)) (fa := 0) (pl := 0); have e1 : z10 = 400 := (by omega); have e2 : z9 = x1 := (by omega); rw [e1, e2] at hc; obtain ⟨y9, e9, -⟩ := RS_i hc rfl; rw [bkS, e9]; exact (show z26 = 0 by omega), fun h9 => by omega⟩)⟩ w (by decide) rfl
                  · replace c_53 := (iz_eq (Int.le_trans (by decide) z41_a) (Int.le_trans z41_b (by decide))).mp c_53
                    refine lv_iconst (v := iI (-1)) hx hb dX12_book_167 (by decide +kernel) ?_
                    refine lv_goto (tgt := 172) hx hb dX12_book_168 (by decide) ?_
                    exact ret _ ((-1), fr7, z8, z9, z10, z31, z32, z33, fr34, z35, z26, z27, fy28, z29, z47, z30, (iI 1), ff48, ff49, ff50, ff36, (upd (upd (upd (upd f5 (Int32.toNatClampNeg (iI 0)) (iI z41)) (Int32.toNatClampNeg (iI 1)) (iI z42)) (Int32.toNatClampNeg (iI 2)) (iI (ff40 53))) (Int32.toNatClampNeg (iI 3)) (iI z45))) _ _ _ _ _ [4, 3, 5, 6, 7, 0, 1, 2] dX12_book_172 ⟨rfl, (show (-2147483648) ≤ (-1) from by decide), (show ((-1) : Int) ≤ 2147483647 from by decide), z8_a, z8_b, z9_a, z9_b, z10_a, z10_b, z31_a, z31_b, z32_a, z32_b, z33_a, z33_b, z35_a, z35_b, z26_a, z26_b, z27_a, z27_b, z29_a, z29_b, z47_a, z47_b, z30_a, z30_b, ff48_h, ff49_h, ff50_h, ff36_h, (show snI ff49 z47 from pq51), (show bkT x0 x1 z8 from (by unfold bkT; omega)), (show kp 53 f1 ff48 from (kp_tr (kp_tr kp_rfl lq2_hd) pq52)), (show (0 ≤ x0 → x0 ≤ 1 → bqF (bkS f0 x1 (sOne (fun _ => f1 0) h0) (sMn h0 (f1 1))) z26) ∧ (x0 < 0 ∨ 1 < x0 → z26 = x8) from ⟨fun a9 b9 => by have hc := bi_e lq1_b (by omega) (fun y g => (gT_stop g).mp (by omega)) (fa := 0) (pl := 0); have e1 : z10 = 400 := (by omega); have e2 : z9 = x1 := (by omega); rw [e1, e2] at hc; obtain ⟨y9, e9, -⟩ := RS_i hc rfl; rw [bkS, e9]; exact (show z26 = 0 by omega), fun h9 => by omega⟩)⟩ w (by decide) rfl
                · replace c_46 := (iI_eq (Int.le_trans (by decide) x0_a) (Int.le_trans x0_b (by decide)) (by decide) (by decide)).mp c_46
                  refine lv_iload_n hx hb dX12_book_151 rfl (lv_at hl 1 rfl) ?_
                  refine lv_if_le (tgt := 159) hx hb dX12_book_152 (by decide) (fun c_54 => ?_) (fun c_54 => ?_)
                  · replace c_54 := (iz_le (Int.le_trans (by decide) z42_a) (Int.le_trans z42_b (by decide))).mp c_54
                    refine lv_iconst (v := iI 0) hx hb dX12_book_159 (by decide +kernel) ?_
                    refine k_V (ce := 0) (sl := 0) (rest := []) (wr := [(a7, .inl (T 1, 12, .inr (.inl h0))), (a20, .inl (T 0, 160, .inl (cI ff36))), (a21, .inl (T 0, 4, .inl (upd (upd (upd (upd f5 (Int32.toNatClampNeg (iI 0)) (iI z41)) (Int32.toNatClampNeg (iI 1)) (iI z42)) (Int32.toNatClampNeg (iI 2)) (iI (ff40 53))) (Int32.toNatClampNeg (iI 3)) (iI z45)))), (a1, .inl (T 0, 940, .inl (cI f0)))]) (r_V (f := 1) [6, 7, 0, 5] M w V_HookedCityModel_391 G2005 G108 (c130_X12_stay l D T _ a0 0 fr7 a1 z8 z9 z10 z31 z32 z33 fr34 z35 z26 z27 fy28 z29 a2 a3 a4 a5 a6 a7 a8 a9 a10 a11 x11 a12 a13 a14 a15 x12 r2 r3 a16 x13 x14 a17 a18 x15 a19 x16 r4 a20 a21 z30 (iI 1) a22 x18 x19 x20 x21 ff40 f2 ff38 (by decide) (by decide) z8_a z8_b z9_a z9_b z10_a z10_b z31_a z31_b z32_a z32_b z33_a z33_b z35_a z35_b z26_a z26_b z27_a z27_b z29_a z29_b x11_a x11_b x12_a x12_b x13_a x13_b x14_a x14_b x15_a x15_b x16_a x16_b z30_a z30_b x18_a x18_b x19_a x19_b x20_a x20_b x21_a x21_b ff40_h f2_h ff38_h pp_s pq39) 6 clX12 rfl rfl (by decide) rfl hl.1 rfl (Nat.le_of_ble_eq_true rfl) dX12_book_160 (by decide) (by decide) (by decide) (by decide)) w [6, 7, 0, 5] [1, 2, 3, 4] rfl rfl (by decide) (by decide) rfl rfl (fun u H locs hp w => ?_)
                    obtain ⟨z55, ff56, ff57, ff58⟩ := u
                    have z55_a : 0 ≤ z55 := hp.1
                    have z55_b : z55 ≤ 8 := hp.2.1
                    have ff56_h : nowI ff56 := hp.2.2.1
                    have ff57_h : FL ff57 := hp.2.2.2.1
                    have ff58_h : FL ff58 := hp.2.2.2.2.1
                    have pq59 : snI ff57 z55 := hp.2.2.2.2.2.1
                    have pq60 : kp 53 ff40 ff56 := hp.2.2.2.2.2.2
                    have w : WD D A s.heap [(a7, .inl (T 1, 12, .inr (.inl h0))), (a20, .inl (T 0, 160, .inl (cI ff36))), (a21, .inl (T 0, 4, .inl (upd (upd (upd (upd f5 (Int32.toNatClampNeg (iI 0)) (iI z41)) (Int32.toNatClampNeg (iI 1)) (iI z42)) (Int32.toNatClampNeg (iI 2)) (iI (ff40 53))) (Int32.toNatClampNeg (iI 3)) (iI z45)))), (a1, .inl (T 0, 940, .inl (cI f0))), (a0, .inr (11, [.int fr7, .ref a1, .int (iI z8), .int (iI z9), .int (iI z10), .int (iI z31), .int (iI z32), .int (iI z33), .int fr34, .int (iI z35), .int (iI z26), .int (iI z27), .long fy28, .int (iI z29), .ref a2, .ref a3, .ref a4, .ref a5, .ref a6, .ref a7, .ref a8, .ref a9, .ref a10, .ref a11, .int (iI z55), .ref a12, .ref a13, .ref a14, .ref a15, .int (iI x12), .int r2, .int r3, .ref a16, .int (iI x13), .int (iI x14), .ref a17, .ref a18, .int (iI x15), .ref a19, .int (iI x16), .int r4, .ref a20, .ref a21, .int (iI z30), .int (iI 1), .ref a22, .int (iI x18), .int (iI x19), .int (iI x20), .int (iI x21)])), (a2, .inl (T 0, 329, .inl (cI ff56))), (a5, .inl (T 0, 272, .inl (cI ff57))), (a6, .inl (T 0, 34, .inl (cI ff58)))] H locs := w
                    refine lv_iload_n hx hb dX12_book_163 rfl (lv_at hl 0 rfl) ?_
                    refine lv_if_ne (tgt := 171) hx hb dX12_book_164 (by decide) (fun c_61 => ?_) (fun c_61 => ?_)
                    · replace c_61 : ¬ z41 = 0 := fun h => c_61 ((iz_eq (Int.le_trans (by decide) z41_a) (Int.le_trans z41_b (by decide))).mpr h)
                      refine lv_iload_n hx hb dX12_book_171 rfl (lv_at hl 1 rfl) ?_
                      exact ret _ (z42, fr7, z8, z9, z10, z31, z32, z33, fr34, z35, z26, z27, fy28, z29, z55, z30, (iI 1), ff56, ff57, ff58, ff36, (upd (upd (upd (upd f5 (Int32.toNatClampNeg (iI 0)) (iI z41)) (Int32.toNatClampNeg (iI 1)) (iI z42)) (Int32.toNatClampNeg (iI 2)) (iI (ff40 53))) (Int32.toNatClampNeg (iI 3)) (iI z45))) _ _ _ _ _ [4, 3, 5, 6, 7, 0, 1, 2] dX12_book_172 ⟨rfl, (show (-2147483648) ≤ z42 from by omega), (show z42 ≤ 2147483647 from by omega), z8_a, z8_b, z9_a, z9_b, z10_a, z10_b, z31_a, z31_b, z32_a, z32_b, z33_a, z33_b, z35_a, z35_b, z26_a, z26_b, z27_a, z27_b, z29_a, z29_b, z55_a, z55_b, z30_a, z30_b, ff56_h, ff57_h, ff58_h, ff36_h, (show snI ff57 z55 from pq59), (show bkT x0 x1 z8 from (by unfold bkT; omega)), (show kp 53 f1 ff56 from (kp_tr (kp_tr kp_rfl lq2_hd) pq60)), (show (0 ≤ x0 → x0 ≤ 1 → bqF (bkS f0 x1 (sOne (fun _ => f1 0) h0) (sMn h0 (f1 1))) z26) ∧ (x0 < 0 ∨ 1 < x0 → z26 = x8) from ⟨fun a9 b9 => by have hc := bi_e lq1_b (by omega) (fun y g => (gT_stop g).mp (by omega)) (fa := 0) (pl := 0); have e1 : z10 = 400 := (by omega); have e2 : z9 = x1 := (by omega); rw [e1, e2] at hc; obtain ⟨y9, e9, -⟩ := RS_i hc rfl; rw [bkS, e9]; exact (show z26 = 0 by omega), fun h9 => by omega⟩)⟩ w (by decide) rfl
                    · replace c_61 := (iz_eq (Int.le_trans (by decide) z41_a) (Int.le_trans z41_b (by decide))).mp c_61
                      refine lv_iconst (v := iI (-1)) hx hb dX12_book_167 (by decide +kernel) ?_
                      refine lv_goto (tgt := 172) hx hb dX12_book_168 (by decide) ?_
                      exact ret _ ((-1), fr7, z8, z9, z10, z31, z32, z33, fr34, z35, z26, z27, fy28, z29, z55, z30, (iI 1), ff56, ff57, ff58, ff36, (upd (upd (upd (upd f5 (Int32.toNatClampNeg (iI 0)) (iI z41)) (Int32.toNatClampNeg (iI 1)) (iI z42)) (Int32.toNatClampNeg (iI 2)) (iI (ff40 53))) (Int32.toNatClampNeg (iI 3)) (iI z45))) _ _ _ _ _ [4, 3, 5, 6, 7, 0, 1, 2] dX12_book_172 ⟨rfl, (show (-2147483648) ≤ (-1) from by decide), (show ((-1) : Int) ≤ 2147483647 from by decide), z8_a, z8_b, z9_a, z9_b, z10_a, z10_b, z31_a, z31_b, z32_a, z32_b, z33_a, z33_b, z35_a, z35_b, z26_a, z26_b, z27_a, z27_b, z29_a, z29_b, z55_a, z55_b, z30_a, z30_b, ff56_h, ff57_h, ff58_h, ff36_h, (show snI ff57 z55 from pq59), (show bkT x0 x1 z8 from (by unfold bkT; omega)), (show kp 53 f1 ff56 from (kp_tr (kp_tr kp_rfl lq2_hd) pq60)), (show (0 ≤ x0 → x0 ≤ 1 → bqF (bkS f0 x1 (sOne (fun _ => f1 0) h0) (sMn h0 (f1 1))) z26) ∧ (x0 < 0 ∨ 1 < x0 → z26 = x8) from ⟨fun a9 b9 => by have hc := bi_e lq1_b (by omega) (fun y g => (gT_stop g).mp (by omega)) (fa := 0) (pl := 0); have e1 : z10 = 400 := (by omega); have e2 : z9 = x1 := (by omega); rw [e1, e2] at hc; obtain ⟨y9, e9, -⟩ := RS_i hc rfl; rw [bkS, e9]; exact (show z26 = 0 by omega), fun h9 => by omega⟩)⟩ w (by decide) rfl
                  · replace c_54 : 0 < z42 := Int.not_le.mp (fun h => c_54 ((iz_le (Int.le_trans (by decide) z42_a) (Int.le_trans z42_b (by decide))).mpr h))
                    refine lv_iconst (v := iI 1) hx hb dX12_book_155 (by decide +kernel) ?_
                    refine lv_goto (tgt := 160) hx hb dX12_book_156 (by decide) ?_
                    refine k_V (ce := 0) (sl := 0) (rest := []) (wr := [(a7, .inl (T 1, 12, .inr (.inl h0))), (a20, .inl (T 0, 160, .inl (cI ff36))), (a21, .inl (T 0, 4, .inl (upd (upd (upd (upd f5 (Int32.toNatClampNeg (iI 0)) (iI z41)) (Int32.toNatClampNeg (iI 1)) (iI z42)) (Int32.toNatClampNeg (iI 2)) (iI (ff40 53))) (Int32.toNatClampNeg (iI 3)) (iI z45)))), (a1, .inl (T 0, 940, .inl (cI f0)))]) (r_V (f := 1) [6, 7, 0, 5] M w V_HookedCityModel_391 G2005 G108 (c130_X12_stay l D T _ a0 1 fr7 a1 z8 z9 z10 z31 z32 z33 fr34 z35 z26 z27 fy28 z29 a2 a3 a4 a5 a6 a7 a8 a9 a10 a11 x11 a12 a13 a14 a15 x12 r2 r3 a16 x13 x14 a17 a18 x15 a19 x16 r4 a20 a21 z30 (iI 1) a22 x18 x19 x20 x21 ff40 f2 ff38 (by decide) (by decide) z8_a z8_b z9_a z9_b z10_a z10_b z31_a z31_b z32_a z32_b z33_a z33_b z35_a z35_b z26_a z26_b z27_a z27_b z29_a z29_b x11_a x11_b x12_a x12_b x13_a x13_b x14_a x14_b x15_a x15_b x16_a x16_b z30_a z30_b x18_a x18_b x19_a x19_b x20_a x20_b x21_a x21_b ff40_h f2_h ff38_h pp_s pq39) 6 clX12 rfl rfl (by decide) rfl hl.1 rfl (Nat.le_of_ble_eq_true rfl) dX12_book_160 (by decide) (by decide) (by decide) (by decide)) w [6, 7, 0, 5] [1, 2, 3, 4] rfl rfl (by decide) (by decide) rfl rfl (fun u H locs hp w => ?_)
                    obtain ⟨z62, ff63, ff64, ff65⟩ := u
                    have z62_a : 0 ≤ z62 := hp.1
                    have z62_b : z62 ≤ 8 := hp.2.1
                    have ff63_h : nowI ff63 := hp.2.2.1
                    have ff64_h : FL ff64 := hp.2.2.2.1
                    have ff65_h : FL ff65 := hp.2.2.2.2.1
                    have pq66 : snI ff64 z62 := hp.2.2.2.2.2.1
                    have pq67 : kp 53 ff40 ff63 := hp.2.2.2.2.2.2
                    have w : WD D A s.heap [(a7, .inl (T 1, 12, .inr (.inl h0))), (a20, .inl (T 0, 160, .inl (cI ff36))), (a21, .inl (T 0, 4, .inl (upd (upd (upd (upd f5 (Int32.toNatClampNeg (iI 0)) (iI z41)) (Int32.toNatClampNeg (iI 1)) (iI z42)) (Int32.toNatClampNeg (iI 2)) (iI (ff40 53))) (Int32.toNatClampNeg (iI 3)) (iI z45)))), (a1, .inl (T 0, 940, .inl (cI f0))), (a0, .inr (11, [.int fr7, .ref a1, .int (iI z8), .int (iI z9), .int (iI z10), .int (iI z31), .int (iI z32), .int (iI z33), .int fr34, .int (iI z35), .int (iI z26), .int (iI z27), .long fy28, .int (iI z29), .ref a2, .ref a3, .ref a4, .ref a5, .ref a6, .ref a7, .ref a8, .ref a9, .ref a10, .ref a11, .int (iI z62), .ref a12, .ref a13, .ref a14, .ref a15, .int (iI x12), .int r2, .int r3, .ref a16, .int (iI x13), .int (iI x14), .ref a17, .ref a18, .int (iI x15), .ref a19, .int (iI x16), .int r4, .ref a20, .ref a21, .int (iI z30), .int (iI 1), .ref a22, .int (iI x18), .int (iI x19), .int (iI x20), .int (iI x21)])), (a2, .inl (T 0, 329, .inl (cI ff63))), (a5, .inl (T 0, 272, .inl (cI ff64))), (a6, .inl (T 0, 34, .inl (cI ff65)))] H locs := w
                    refine lv_iload_n hx hb dX12_book_163 rfl (lv_at hl 0 rfl) ?_
                    refine lv_if_ne (tgt := 171) hx hb dX12_book_164 (by decide) (fun c_68 => ?_) (fun c_68 => ?_)
                    · replace c_68 : ¬ z41 = 0 := fun h => c_68 ((iz_eq (Int.le_trans (by decide) z41_a) (Int.le_trans z41_b (by decide))).mpr h)
                      refine lv_iload_n hx hb dX12_book_171 rfl (lv_at hl 1 rfl) ?_
                      exact ret _ (z42, fr7, z8, z9, z10, z31, z32, z33, fr34, z35, z26, z27, fy28, z29, z62, z30, (iI 1), ff63, ff64, ff65, ff36, (upd (upd (upd (upd f5 (Int32.toNatClampNeg (iI 0)) (iI z41)) (Int32.toNatClampNeg (iI 1)) (iI z42)) (Int32.toNatClampNeg (iI 2)) (iI (ff40 53))) (Int32.toNatClampNeg (iI 3)) (iI z45))) _ _ _ _ _ [4, 3, 5, 6, 7, 0, 1, 2] dX12_book_172 ⟨rfl, (show (-2147483648) ≤ z42 from by omega), (show z42 ≤ 2147483647 from by omega), z8_a, z8_b, z9_a, z9_b, z10_a, z10_b, z31_a, z31_b, z32_a, z32_b, z33_a, z33_b, z35_a, z35_b, z26_a, z26_b, z27_a, z27_b, z29_a, z29_b, z62_a, z62_b, z30_a, z30_b, ff63_h, ff64_h, ff65_h, ff36_h, (show snI ff64 z62 from pq66), (show bkT x0 x1 z8 from (by unfold bkT; omega)), (show kp 53 f1 ff63 from (kp_tr (kp_tr kp_rfl lq2_hd) pq67)), (show (0 ≤ x0 → x0 ≤ 1 → bqF (bkS f0 x1 (sOne (fun _ => f1 0) h0) (sMn h0 (f1 1))) z26) ∧ (x0 < 0 ∨ 1 < x0 → z26 = x8) from ⟨fun a9 b9 => by have hc := bi_e lq1_b (by omega) (fun y g => (gT_stop g).mp (by omega)) (fa := 0) (pl := 0); have e1 : z10 = 400 := (by omega); have e2 : z9 = x1 := (by omega); rw [e1, e2] at hc; obtain ⟨y9, e9, -⟩ := RS_i hc rfl; rw [bkS, e9]; exact (show z26 = 0 by omega), fun h9 => by omega⟩)⟩ w (by decide) rfl
                    · replace c_68 := (iz_eq (Int.le_trans (by decide) z41_a) (Int.le_trans z41_b (by decide))).mp c_68
                      refine lv_iconst (v := iI (-1)) hx hb dX12_book_167 (by decide +kernel) ?_
                      refine lv_goto (tgt := 172) hx hb dX12_book_168 (by decide) ?_
                      exact ret _ ((-1), fr7, z8, z9, z10, z31, z32, z33, fr34, z35, z26, z27, fy28, z29, z62, z30, (iI 1), ff63, ff64, ff65, ff36, (upd (upd (upd (upd f5 (Int32.toNatClampNeg (iI 0)) (iI z41)) (Int32.toNatClampNeg (iI 1)) (iI z42)) (Int32.toNatClampNeg (iI 2)) (iI (ff40 53))) (Int32.toNatClampNeg (iI 3)) (iI z45))) _ _ _ _ _ [4, 3, 5, 6, 7, 0, 1, 2] dX12_book_172 ⟨rfl, (show (-2147483648) ≤ (-1) from by decide), (show ((-1) : Int) ≤ 2147483647 from by decide), z8_a, z8_b, z9_a, z9_b, z10_a, z10_b, z31_a, z31_b, z32_a, z32_b, z33_a, z33_b, z35_a, z35_b, z26_a, z26_b, z27_a, z27_b, z29_a, z29_b, z62_a, z62_b, z30_a, z30_b, ff63_h, ff64_h, ff65_h, ff36_h, (show snI ff64 z62 from pq66), (show bkT x0 x1 z8 from (by unfold bkT; omega)), (show kp 53 f1 ff63 from (kp_tr (kp_tr kp_rfl lq2_hd) pq67)), (show (0 ≤ x0 → x0 ≤ 1 → bqF (bkS f0 x1 (sOne (fun _ => f1 0) h0) (sMn h0 (f1 1))) z26) ∧ (x0 < 0 ∨ 1 < x0 → z26 = x8) from ⟨fun a9 b9 => by have hc := bi_e lq1_b (by omega) (fun y g => (gT_stop g).mp (by omega)) (fa := 0) (pl := 0); have e1 : z10 = 400 := (by omega); have e2 : z9 = x1 := (by omega); rw [e1, e2] at hc; obtain ⟨y9, e9, -⟩ := RS_i hc rfl; rw [bkS, e9]; exact (show z26 = 0 by omega), fun h9 => by omega⟩)⟩ w (by decide) rfl
              · replace c_43 : z42 < z30 := Int.not_le.mp (fun h => c_43 ((iI_le (Int.le_trans (by decide) z30_a) (Int.le_trans z30_b (by decide)) (Int.le_trans (by decide) z42_a) (Int.le_trans z42_b (by decide))).mpr h))
                refine lv_iload_n hx hb dX12_book_81 rfl (lv_at hl 0 rfl) ?_
                refine lv_if_ne (tgt := 103) hx hb dX12_book_82 (by decide) (fun c_69 => ?_) (fun c_69 => ?_)
                · replace c_69 : ¬ z41 = 0 := fun h => c_69 ((iz_eq (Int.le_trans (by decide) z41_a) (Int.le_trans z41_b (by decide))).mpr h)
                  refine lv_aload_n hx hb dX12_book_103 rfl (lv_at hl 2 rfl) ?_
                  refine r_get (v := .ref a21) M w 5 42 clX12 rfl (by decide) G1505 rfl rfl dX12_book_104 ?_
                  refine lv_iconst (v := iI 0) hx hb dX12_book_107 (by decide +kernel) ?_
                  refine lv_iload_n hx hb dX12_book_108 rfl (lv_at hl 0 rfl) ?_
                  refine r_iast (ws' := [(a5, .inl (T 0, 272, .inl (cI f2))), (a7, .inl (T 1, 12, .inr (.inl h0))), (a20, .inl (T 0, 160, .inl (cI ff36))), (a21, .inl (T 0, 4, .inl (upd f5 (Int32.toNatClampNeg (iI 0)) (iI z41)))), (a1, .inl (T 0, 940, .inl (cI f0))), (a0, .inr (11, [.int fr7, .ref a1, .int (iI z8), .int (iI z9), .int (iI z10), .int (iI z31), .int (iI z32), .int (iI z33), .int fr34, .int (iI z35), .int (iI z26), .int (iI z27), .long fy28, .int (iI z29), .ref a2, .ref a3, .ref a4, .ref a5, .ref a6, .ref a7, .ref a8, .ref a9, .ref a10, .ref a11, .int (iI x11), .ref a12, .ref a13, .ref a14, .ref a15, .int (iI x12), .int r2, .int r3, .ref a16, .int (iI x13), .int (iI x14), .ref a17, .ref a18, .int (iI x15), .ref a19, .int (iI x16), .int r4, .ref a20, .ref a21, .int (iI z30), .int r5, .ref a22, .int (iI x18), .int (iI x19), .int (iI x20), .int (iI x21)])), (a2, .inl (T 0, 329, .inl (cI ff40))), (a6, .inl (T 0, 34, .inl (cI ff38)))]) M w 3 rfl (iI_in (by decide) (by decide) (by decide)) rfl dX12_book_109 (fun H locs w => ?_)
                  refine lv_aload_n hx hb dX12_book_110 rfl (lv_at hl 2 rfl) ?_
                  refine r_get (v := .ref a21) M w 5 42 clX12 rfl (by decide) G1505 rfl rfl dX12_book_111 ?_
                  refine lv_iconst (v := iI 1) hx hb dX12_book_114 (by decide +kernel) ?_
                  refine lv_iload_n hx hb dX12_book_115 rfl (lv_at hl 1 rfl) ?_
                  refine r_iast (ws' := [(a5, .inl (T 0, 272, .inl (cI f2))), (a7, .inl (T 1, 12, .inr (.inl h0))), (a20, .inl (T 0, 160, .inl (cI ff36))), (a21, .inl (T 0, 4, .inl (upd (upd f5 (Int32.toNatClampNeg (iI 0)) (iI z41)) (Int32.toNatClampNeg (iI 1)) (iI z42)))), (a1, .inl (T 0, 940, .inl (cI f0))), (a0, .inr (11, [.int fr7, .ref a1, .int (iI z8), .int (iI z9), .int (iI z10), .int (iI z31), .int (iI z32), .int (iI z33), .int fr34, .int (iI z35), .int (iI z26), .int (iI z27), .long fy28, .int (iI z29), .ref a2, .ref a3, .ref a4, .ref a5, .ref a6, .ref a7, .ref a8, .ref a9, .ref a10, .ref a11, .int (iI x11), .ref a12, .ref a13, .ref a14, .ref a15, .int (iI x12), .int r2, .int r3, .ref a16, .int (iI x13), .int (iI x14), .ref a17, .ref a18, .int (iI x15), .ref a19, .int (iI x16), .int r4, .ref a20, .ref a21, .int (iI z30), .int r5, .ref a22, .int (iI x18), .int (iI x19), .int (iI x20), .int (iI x21)])), (a2, .inl (T 0, 329, .inl (cI ff40))), (a6, .inl (T 0, 34, .inl (cI ff38)))]) M w 3 rfl (iI_in (by decide) (by decide) (by decide)) rfl dX12_book_116 (fun H locs w => ?_)
                  refine lv_aload_n hx hb dX12_book_117 rfl (lv_at hl 2 rfl) ?_
                  refine r_get (v := .ref a21) M w 5 42 clX12 rfl (by decide) G1505 rfl rfl dX12_book_118 ?_
                  refine lv_iconst (v := iI 2) hx hb dX12_book_121 (by decide +kernel) ?_
                  refine lv_aload_n hx hb dX12_book_122 rfl (lv_at hl 2 rfl) ?_
                  refine r_get (v := .ref a2) M w 5 14 clX12 rfl (by decide) G1477 rfl rfl dX12_book_123 ?_
                  refine lv_bipush (v := iI 53) hx hb dX12_book_126 (by decide +kernel) ?_
                  refine r_iald (v := iI (ff40 53)) M w 6 rfl (iI_in (by decide) (by decide) (by decide)) (cI_at (by omega) (by omega)) dX12_book_128 ?_
                  have hh70 : (-2147483648) ≤ (ff40 53) ∧ (ff40 53) ≤ 2147483647 := ff40_h.1 53
                  refine r_iast (ws' := [(a5, .inl (T 0, 272, .inl (cI f2))), (a7, .inl (T 1, 12, .inr (.inl h0))), (a20, .inl (T 0, 160, .inl (cI ff36))), (a21, .inl (T 0, 4, .inl (upd (upd (upd f5 (Int32.toNatClampNeg (iI 0)) (iI z41)) (Int32.toNatClampNeg (iI 1)) (iI z42)) (Int32.toNatClampNeg (iI 2)) (iI (ff40 53))))), (a1, .inl (T 0, 940, .inl (cI f0))), (a0, .inr (11, [.int fr7, .ref a1, .int (iI z8), .int (iI z9), .int (iI z10), .int (iI z31), .int (iI z32), .int (iI z33), .int fr34, .int (iI z35), .int (iI z26), .int (iI z27), .long fy28, .int (iI z29), .ref a2, .ref a3, .ref a4, .ref a5, .ref a6, .ref a7, .ref a8, .ref a9, .ref a10, .ref a11, .int (iI x11), .ref a12, .ref a13, .ref a14, .ref a15, .int (iI x12), .int r2, .int r3, .ref a16, .int (iI x13), .int (iI x14), .ref a17, .ref a18, .int (iI x15), .ref a19, .int (iI x16), .int r4, .ref a20, .ref a21, .int (iI z30), .int r5, .ref a22, .int (iI x18), .int (iI x19), .int (iI x20), .int (iI x21)])), (a2, .inl (T 0, 329, .inl (cI ff40))), (a6, .inl (T 0, 34, .inl (cI ff38)))]) M w 3 rfl (iI_in (by decide) (by decide) (by decide)) rfl dX12_book_129 (fun H locs w => ?_)
                  refine lv_aload_n hx hb dX12_book_130 rfl (lv_at hl 2 rfl) ?_
                  refine r_get (v := .ref a21) M w 5 42 clX12 rfl (by decide) G1505 rfl rfl dX12_book_131 ?_
                  refine lv_iconst (v := iI 3) hx hb dX12_book_134 (by decide +kernel) ?_
                  refine lv_aload_n hx hb dX12_book_135 rfl (lv_at hl 2 rfl) ?_
                  refine k_I (ce := 0) (sl := 0) (rest := [.int (iI 3), .ref a21]) (wr := [(a5, .inl (T 0, 272, .inl (cI f2))), (a7, .inl (T 1, 12, .inr (.inl h0))), (a20, .inl (T 0, 160, .inl (cI ff36))), (a21, .inl (T 0, 4, .inl (upd (upd (upd f5 (Int32.toNatClampNeg (iI 0)) (iI z41)) (Int32.toNatClampNeg (iI 1)) (iI z42)) (Int32.toNatClampNeg (iI 2)) (iI (ff40 53))))), (a1, .inl (T 0, 940, .inl (cI f0))), (a6, .inl (T 0, 34, .inl (cI ff38)))]) (r_V (f := 1) [5, 6] M w V_HookedCityModel_258 G1764 G73 (c74_X12_opens l D T _ a0 fr7 a1 z8 z9 z10 z31 z32 z33 fr34 z35 z26 z27 fy28 z29 a2 a3 a4 a5 a6 a7 a8 a9 a10 a11 x11 a12 a13 a14 a15 x12 r2 r3 a16 x13 x14 a17 a18 x15 a19 x16 r4 a20 a21 z30 r5 a22 x18 x19 x20 x21 ff40 z8_a z8_b z9_a z9_b z10_a z10_b z31_a z31_b z32_a z32_b z33_a z33_b z35_a z35_b z26_a z26_b z27_a z27_b z29_a z29_b x11_a x11_b x12_a x12_b x13_a x13_b x14_a x14_b x15_a x15_b x16_a x16_b z30_a z30_b x18_a x18_b x19_a x19_b x20_a x20_b x21_a x21_b ff40_h) 5 clX12 rfl rfl (by decide) rfl hl.1 rfl (Nat.le_of_ble_eq_true rfl) dX12_book_136 (by decide) (by decide) (by decide) (by decide)) w [5, 6] [0, 1, 2, 3, 4, 7] rfl rfl (by decide) (by decide) rfl rfl (fun v z71 H locs hp w => ?_)
                  have hv : iI z71 = v := hp.1
                  subst hv
                  have z71_a : (-2147483648) ≤ z71 := hp.2.1
                  have z71_b : z71 ≤ 2147483647 := hp.2.2
                  have w : WD D A s.heap [(a5, .inl (T 0, 272, .inl (cI f2))), (a7, .inl (T 1, 12, .inr (.inl h0))), (a20, .inl (T 0, 160, .inl (cI ff36))), (a21, .inl (T 0, 4, .inl (upd (upd (upd f5 (Int32.toNatClampNeg (iI 0)) (iI z41)) (Int32.toNatClampNeg (iI 1)) (iI z42)) (Int32.toNatClampNeg (iI 2)) (iI (ff40 53))))), (a1, .inl (T 0, 940, .inl (cI f0))), (a6, .inl (T 0, 34, .inl (cI ff38))), (a0, .inr (11, [.int fr7, .ref a1, .int (iI z8), .int (iI z9), .int (iI z10), .int (iI z31), .int (iI z32), .int (iI z33), .int fr34, .int (iI z35), .int (iI z26), .int (iI z27), .long fy28, .int (iI z29), .ref a2, .ref a3, .ref a4, .ref a5, .ref a6, .ref a7, .ref a8, .ref a9, .ref a10, .ref a11, .int (iI x11), .ref a12, .ref a13, .ref a14, .ref a15, .int (iI x12), .int r2, .int r3, .ref a16, .int (iI x13), .int (iI x14), .ref a17, .ref a18, .int (iI x15), .ref a19, .int (iI x16), .int r4, .ref a20, .ref a21, .int (iI z30), .int r5, .ref a22, .int (iI x18), .int (iI x19), .int (iI x20), .int (iI x21)])), (a2, .inl (T 0, 329, .inl (cI ff40)))] H locs := w
                  refine r_iast (ws' := [(a5, .inl (T 0, 272, .inl (cI f2))), (a7, .inl (T 1, 12, .inr (.inl h0))), (a20, .inl (T 0, 160, .inl (cI ff36))), (a21, .inl (T 0, 4, .inl (upd (upd (upd (upd f5 (Int32.toNatClampNeg (iI 0)) (iI z41)) (Int32.toNatClampNeg (iI 1)) (iI z42)) (Int32.toNatClampNeg (iI 2)) (iI (ff40 53))) (Int32.toNatClampNeg (iI 3)) (iI z71)))), (a1, .inl (T 0, 940, .inl (cI f0))), (a6, .inl (T 0, 34, .inl (cI ff38))), (a0, .inr (11, [.int fr7, .ref a1, .int (iI z8), .int (iI z9), .int (iI z10), .int (iI z31), .int (iI z32), .int (iI z33), .int fr34, .int (iI z35), .int (iI z26), .int (iI z27), .long fy28, .int (iI z29), .ref a2, .ref a3, .ref a4, .ref a5, .ref a6, .ref a7, .ref a8, .ref a9, .ref a10, .ref a11, .int (iI x11), .ref a12, .ref a13, .ref a14, .ref a15, .int (iI x12), .int r2, .int r3, .ref a16, .int (iI x13), .int (iI x14), .ref a17, .ref a18, .int (iI x15), .ref a19, .int (iI x16), .int r4, .ref a20, .ref a21, .int (iI z30), .int r5, .ref a22, .int (iI x18), .int (iI x19), .int (iI x20), .int (iI x21)])), (a2, .inl (T 0, 329, .inl (cI ff40)))]) M w 3 rfl (iI_in (by decide) (by decide) (by decide)) rfl dX12_book_139 (fun H locs w => ?_)
                  refine lv_aload_n hx hb dX12_book_140 rfl (lv_at hl 2 rfl) ?_
                  refine lv_iconst (v := iI 1) hx hb dX12_book_141 (by decide +kernel) ?_
                  refine r_put (ws' := [(a5, .inl (T 0, 272, .inl (cI f2))), (a7, .inl (T 1, 12, .inr (.inl h0))), (a20, .inl (T 0, 160, .inl (cI ff36))), (a21, .inl (T 0, 4, .inl (upd (upd (upd (upd f5 (Int32.toNatClampNeg (iI 0)) (iI z41)) (Int32.toNatClampNeg (iI 1)) (iI z42)) (Int32.toNatClampNeg (iI 2)) (iI (ff40 53))) (Int32.toNatClampNeg (iI 3)) (iI z71)))), (a1, .inl (T 0, 940, .inl (cI f0))), (a6, .inl (T 0, 34, .inl (cI ff38))), (a0, .inr (11, [.int fr7, .ref a1, .int (iI z8), .int (iI z9), .int (iI z10), .int (iI z31), .int (iI z32), .int (iI z33), .int fr34, .int (iI z35), .int (iI z26), .int (iI z27), .long fy28, .int (iI z29), .ref a2, .ref a3, .ref a4, .ref a5, .ref a6, .ref a7, .ref a8, .ref a9, .ref a10, .ref a11, .int (iI x11), .ref a12, .ref a13, .ref a14, .ref a15, .int (iI x12), .int r2, .int r3, .ref a16, .int (iI x13), .int (iI x14), .ref a17, .ref a18, .int (iI x15), .ref a19, .int (iI x16), .int r4, .ref a20, .ref a21, .int (iI z30), .int (iI 1), .ref a22, .int (iI x18), .int (iI x19), .int (iI x20), .int (iI x21)])), (a2, .inl (T 0, 329, .inl (cI ff40)))]) M w 6 44 clX12 rfl (by decide) G1507 rfl rfl (by decide +kernel) (by decide +kernel) (Nat.le_of_ble_eq_true rfl) rfl dX12_book_142 (fun H locs w => ?_)
                  refine lv_aload_n hx hb dX12_book_145 rfl (lv_at hl 2 rfl) ?_
                  refine lv_iload_n hx hb dX12_book_146 rfl (lv_at hl 3 rfl) ?_
                  refine lv_iconst (v := iI 1) hx hb dX12_book_147 (by decide +kernel) ?_
                  refine lv_icmp_ne (tgt := 159) hx hb dX12_book_148 (by decide) (fun c_72 => ?_) (fun c_72 => ?_)
                  · replace c_72 : ¬ x0 = 1 := fun h => c_72 ((iI_eq (Int.le_trans (by decide) x0_a) (Int.le_trans x0_b (by decide)) (by decide) (by decide)).mpr h)
                    refine lv_iconst (v := iI 0) hx hb dX12_book_159 (by decide +kernel) ?_
                    refine k_V (ce := 0) (sl := 0) (rest := []) (wr := [(a7, .inl (T 1, 12, .inr (.inl h0))), (a20, .inl (T 0, 160, .inl (cI ff36))), (a21, .inl (T 0, 4, .inl (upd (upd (upd (upd f5 (Int32.toNatClampNeg (iI 0)) (iI z41)) (Int32.toNatClampNeg (iI 1)) (iI z42)) (Int32.toNatClampNeg (iI 2)) (iI (ff40 53))) (Int32.toNatClampNeg (iI 3)) (iI z71)))), (a1, .inl (T 0, 940, .inl (cI f0)))]) (r_V (f := 1) [6, 7, 0, 5] M w V_HookedCityModel_391 G2005 G108 (c130_X12_stay l D T _ a0 0 fr7 a1 z8 z9 z10 z31 z32 z33 fr34 z35 z26 z27 fy28 z29 a2 a3 a4 a5 a6 a7 a8 a9 a10 a11 x11 a12 a13 a14 a15 x12 r2 r3 a16 x13 x14 a17 a18 x15 a19 x16 r4 a20 a21 z30 (iI 1) a22 x18 x19 x20 x21 ff40 f2 ff38 (by decide) (by decide) z8_a z8_b z9_a z9_b z10_a z10_b z31_a z31_b z32_a z32_b z33_a z33_b z35_a z35_b z26_a z26_b z27_a z27_b z29_a z29_b x11_a x11_b x12_a x12_b x13_a x13_b x14_a x14_b x15_a x15_b x16_a x16_b z30_a z30_b x18_a x18_b x19_a x19_b x20_a x20_b x21_a x21_b ff40_h f2_h ff38_h pp_s pq39) 6 clX12 rfl rfl (by decide) rfl hl.1 rfl (Nat.le_of_ble_eq_true rfl) dX12_book_160 (by decide) (by decide) (by decide) (by decide)) w [6, 7, 0, 5] [1, 2, 3, 4] rfl rfl (by decide) (by decide) rfl rfl (fun u H locs hp w => ?_)
                    obtain ⟨z73, ff74, ff75, ff76⟩ := u
                    have z73_a : 0 ≤ z73 := hp.1
                    have z73_b : z73 ≤ 8 := hp.2.1
                    have ff74_h : nowI ff74 := hp.2.2.1
                    have ff75_h : FL ff75 := hp.2.2.2.1
                    have ff76_h : FL ff76 := hp.2.2.2.2.1
                    have pq77 : snI ff75 z73 := hp.2.2.2.2.2.1
                    have pq78 : kp 53 ff40 ff74 := hp.2.2.2.2.2.2
                    have w : WD D A s.heap [(a7, .inl (T 1, 12, .inr (.inl h0))), (a20, .inl (T 0, 160, .inl (cI ff36))), (a21, .inl (T 0, 4, .inl (upd (upd (upd (upd f5 (Int32.toNatClampNeg (iI 0)) (iI z41)) (Int32.toNatClampNeg (iI 1)) (iI z42)) (Int32.toNatClampNeg (iI 2)) (iI (ff40 53))) (Int32.toNatClampNeg (iI 3)) (iI z71)))), (a1, .inl (T 0, 940, .inl (cI f0))), (a0, .inr (11, [.int fr7, .ref a1, .int (iI z8), .int (iI z9), .int (iI z10), .int (iI z31), .int (iI z32), .int (iI z33), .int fr34, .int (iI z35), .int (iI z26), .int (iI z27), .long fy28, .int (iI z29), .ref a2, .ref a3, .ref a4, .ref a5, .ref a6, .ref a7, .ref a8, .ref a9, .ref a10, .ref a11, .int (iI z73), .ref a12, .ref a13, .ref a14, .ref a15, .int (iI x12), .int r2, .int r3, .ref a16, .int (iI x13), .int (iI x14), .ref a17, .ref a18, .int (iI x15), .ref a19, .int (iI x16), .int r4, .ref a20, .ref a21, .int (iI z30), .int (iI 1), .ref a22, .int (iI x18), .int (iI x19), .int (iI x20), .int (iI x21)])), (a2, .inl (T 0, 329, .inl (cI ff74))), (a5, .inl (T 0, 272, .inl (cI ff75))), (a6, .inl (T 0, 34, .inl (cI ff76)))] H locs := w
                    refine lv_iload_n hx hb dX12_book_163 rfl (lv_at hl 0 rfl) ?_
                    refine lv_if_ne (tgt := 171) hx hb dX12_book_164 (by decide) (fun c_79 => ?_) (fun c_79 => ?_)
                    · replace c_79 : ¬ z41 = 0 := fun h => c_79 ((iz_eq (Int.le_trans (by decide) z41_a) (Int.le_trans z41_b (by decide))).mpr h)
                      refine lv_iload_n hx hb dX12_book_171 rfl (lv_at hl 1 rfl) ?_
                      exact ret _ (z42, fr7, z8, z9, z10, z31, z32, z33, fr34, z35, z26, z27, fy28, z29, z73, z30, (iI 1), ff74, ff75, ff76, ff36, (upd (upd (upd (upd f5 (Int32.toNatClampNeg (iI 0)) (iI z41)) (Int32.toNatClampNeg (iI 1)) (iI z42)) (Int32.toNatClampNeg (iI 2)) (iI (ff40 53))) (Int32.toNatClampNeg (iI 3)) (iI z71))) _ _ _ _ _ [4, 3, 5, 6, 7, 0, 1, 2] dX12_book_172 ⟨rfl, (show (-2147483648) ≤ z42 from by omega), (show z42 ≤ 2147483647 from by omega), z8_a, z8_b, z9_a, z9_b, z10_a, z10_b, z31_a, z31_b, z32_a, z32_b, z33_a, z33_b, z35_a, z35_b, z26_a, z26_b, z27_a, z27_b, z29_a, z29_b, z73_a, z73_b, z30_a, z30_b, ff74_h, ff75_h, ff76_h, ff36_h, (show snI ff75 z73 from pq77), (show bkT x0 x1 z8 from (by unfold bkT; omega)), (show kp 53 f1 ff74 from (kp_tr (kp_tr kp_rfl lq2_hd) pq78)), (show (0 ≤ x0 → x0 ≤ 1 → bqF (bkS f0 x1 (sOne (fun _ => f1 0) h0) (sMn h0 (f1 1))) z26) ∧ (x0 < 0 ∨ 1 < x0 → z26 = x8) from ⟨fun a9 b9 => by have hc := bi_e lq1_b (by omega) (fun y g => (gT_stop g).mp (by omega)) (fa := 0) (pl := 0); have e1 : z10 = 400 := (by omega); have e2 : z9 = x1 := (by omega); rw [e1, e2] at hc; obtain ⟨y9, e9, -⟩ := RS_i hc rfl; rw [bkS, e9]; exact (show z26 = 0 by omega), fun h9 => by omega⟩)⟩ w (by decide) rfl
                    · replace c_79 := (iz_eq (Int.le_trans (by decide) z41_a) (Int.le_trans z41_b (by decide))).mp c_79
                      exfalso; omega
                  · replace c_72 := (iI_eq (Int.le_trans (by decide) x0_a) (Int.le_trans x0_b (by decide)) (by decide) (by decide)).mp c_72
                    refine lv_iload_n hx hb dX12_book_151 rfl (lv_at hl 1 rfl) ?_
                    refine lv_if_le (tgt := 159) hx hb dX12_book_152 (by decide) (fun c_80 => ?_) (fun c_80 => ?_)
                    · replace c_80 := (iz_le (Int.le_trans (by decide) z42_a) (Int.le_trans z42_b (by decide))).mp c_80
                      refine lv_iconst (v := iI 0) hx hb dX12_book_159 (by decide +kernel) ?_
                      refine k_V (ce := 0) (sl := 0) (rest := []) (wr := [(a7, .inl (T 1, 12, .inr (.inl h0))), (a20, .inl (T 0, 160, .inl (cI ff36))), (a21, .inl (T 0, 4, .inl (upd (upd (upd (upd f5 (Int32.toNatClampNeg (iI 0)) (iI z41)) (Int32.toNatClampNeg (iI 1)) (iI z42)) (Int32.toNatClampNeg (iI 2)) (iI (ff40 53))) (Int32.toNatClampNeg (iI 3)) (iI z71)))), (a1, .inl (T 0, 940, .inl (cI f0)))]) (r_V (f := 1) [6, 7, 0, 5] M w V_HookedCityModel_391 G2005 G108 (c130_X12_stay l D T _ a0 0 fr7 a1 z8 z9 z10 z31 z32 z33 fr34 z35 z26 z27 fy28 z29 a2 a3 a4 a5 a6 a7 a8 a9 a10 a11 x11 a12 a13 a14 a15 x12 r2 r3 a16 x13 x14 a17 a18 x15 a19 x16 r4 a20 a21 z30 (iI 1) a22 x18 x19 x20 x21 ff40 f2 ff38 (by decide) (by decide) z8_a z8_b z9_a z9_b z10_a z10_b z31_a z31_b z32_a z32_b z33_a z33_b z35_a z35_b z26_a z26_b z27_a z27_b z29_a z29_b x11_a x11_b x12_a x12_b x13_a x13_b x14_a x14_b x15_a x15_b x16_a x16_b z30_a z30_b x18_a x18_b x19_a x19_b x20_a x20_b x21_a x21_b ff40_h f2_h ff38_h pp_s pq39) 6 clX12 rfl rfl (by decide) rfl hl.1 rfl (Nat.le_of_ble_eq_true rfl) dX12_book_160 (by decide) (by decide) (by decide) (by decide)) w [6, 7, 0, 5] [1, 2, 3, 4] rfl rfl (by decide) (by decide) rfl rfl (fun u H locs hp w => ?_)
                      obtain ⟨z81, ff82, ff83, ff84⟩ := u
                      have z81_a : 0 ≤ z81 := hp.1
                      have z81_b : z81 ≤ 8 := hp.2.1
                      have ff82_h : nowI ff82 := hp.2.2.1
                      have ff83_h : FL ff83 := hp.2.2.2.1
                      have ff84_h : FL ff84 := hp.2.2.2.2.1
                      have pq85 : snI ff83 z81 := hp.2.2.2.2.2.1
                      have pq86 : kp 53 ff40 ff82 := hp.2.2.2.2.2.2
                      have w : WD D A s.heap [(a7, .inl (T 1, 12, .inr (.inl h0))), (a20, .inl (T 0, 160, .inl (cI ff36))), (a21, .inl (T 0, 4, .inl (upd (upd (upd (upd f5 (Int32.toNatClampNeg (iI 0)) (iI z41)) (Int32.toNatClampNeg (iI 1)) (iI z42)) (Int32.toNatClampNeg (iI 2)) (iI (ff40 53))) (Int32.toNatClampNeg (iI 3)) (iI z71)))), (a1, .inl (T 0, 940, .inl (cI f0))), (a0, .inr (11, [.int fr7, .ref a1, .int (iI z8), .int (iI z9), .int (iI z10), .int (iI z31), .int (iI z32), .int (iI z33), .int fr34, .int (iI z35), .int (iI z26), .int (iI z27), .long fy28, .int (iI z29), .ref a2, .ref a3, .ref a4, .ref a5, .ref a6, .ref a7, .ref a8, .ref a9, .ref a10, .ref a11, .int (iI z81), .ref a12, .ref a13, .ref a14, .ref a15, .int (iI x12), .int r2, .int r3, .ref a16, .int (iI x13), .int (iI x14), .ref a17, .ref a18, .int (iI x15), .ref a19, .int (iI x16), .int r4, .ref a20, .ref a21, .int (iI z30), .int (iI 1), .ref a22, .int (iI x18), .int (iI x19), .int (iI x20), .int (iI x21)])), (a2, .inl (T 0, 329, .inl (cI ff82))), (a5, .inl (T 0, 272, .inl (cI ff83))), (a6, .inl (T 0, 34, .inl (cI ff84)))] H locs := w
                      refine lv_iload_n hx hb dX12_book_163 rfl (lv_at hl 0 rfl) ?_
                      refine lv_if_ne (tgt := 171) hx hb dX12_book_164 (by decide) (fun c_87 => ?_) (fun c_87 => ?_)
                      · replace c_87 : ¬ z41 = 0 := fun h => c_87 ((iz_eq (Int.le_trans (by decide) z41_a) (Int.le_trans z41_b (by decide))).mpr h)
                        refine lv_iload_n hx hb dX12_book_171 rfl (lv_at hl 1 rfl) ?_
                        exact ret _ (z42, fr7, z8, z9, z10, z31, z32, z33, fr34, z35, z26, z27, fy28, z29, z81, z30, (iI 1), ff82, ff83, ff84, ff36, (upd (upd (upd (upd f5 (Int32.toNatClampNeg (iI 0)) (iI z41)) (Int32.toNatClampNeg (iI 1)) (iI z42)) (Int32.toNatClampNeg (iI 2)) (iI (ff40 53))) (Int32.toNatClampNeg (iI 3)) (iI z71))) _ _ _ _ _ [4, 3, 5, 6, 7, 0, 1, 2] dX12_book_172 ⟨rfl, (show (-2147483648) ≤ z42 from by omega), (show z42 ≤ 2147483647 from by omega), z8_a, z8_b, z9_a, z9_b, z10_a, z10_b, z31_a, z31_b, z32_a, z32_b, z33_a, z33_b, z35_a, z35_b, z26_a, z26_b, z27_a, z27_b, z29_a, z29_b, z81_a, z81_b, z30_a, z30_b, ff82_h, ff83_h, ff84_h, ff36_h, (show snI ff83 z81 from pq85), (show bkT x0 x1 z8 from (by unfold bkT; omega)), (show kp 53 f1 ff82 from (kp_tr (kp_tr kp_rfl lq2_hd) pq86)), (show (0 ≤ x0 → x0 ≤ 1 → bqF (bkS f0 x1 (sOne (fun _ => f1 0) h0) (sMn h0 (f1 1))) z26) ∧ (x0 < 0 ∨ 1 < x0 → z26 = x8) from ⟨fun a9 b9 => by have hc := bi_e lq1_b (by omega) (fun y g => (gT_stop g).mp (by omega)) (fa := 0) (pl := 0); have e1 : z10 = 400 := (by omega); have e2 : z9 = x1 := (by omega); rw [e1, e2] at hc; obtain ⟨y9, e9, -⟩ := RS_i hc rfl; rw [bkS, e9]; exact (show z26 = 0 by omega), fun h9 => by omega⟩)⟩ w (by decide) rfl
                      · replace c_87 := (iz_eq (Int.le_trans (by decide) z41_a) (Int.le_trans z41_b (by decide))).mp c_87
                        exfalso; omega
                    · replace c_80 : 0 < z42 := Int.not_le.mp (fun h => c_80 ((iz_le (Int.le_trans (by decide) z42_a) (Int.le_trans z42_b (by decide))).mpr h))
                      refine lv_iconst (v := iI 1) hx hb dX12_book_155 (by decide +kernel) ?_
                      refine lv_goto (tgt := 160) hx hb dX12_book_156 (by decide) ?_
                      refine k_V (ce := 0) (sl := 0) (rest := []) (wr := [(a7, .inl (T 1, 12, .inr (.inl h0))), (a20, .inl (T 0, 160, .inl (cI ff36))), (a21, .inl (T 0, 4, .inl (upd (upd (upd (upd f5 (Int32.toNatClampNeg (iI 0)) (iI z41)) (Int32.toNatClampNeg (iI 1)) (iI z42)) (Int32.toNatClampNeg (iI 2)) (iI (ff40 53))) (Int32.toNatClampNeg (iI 3)) (iI z71)))), (a1, .inl (T 0, 940, .inl (cI f0)))]) (r_V (f := 1) [6, 7, 0, 5] M w V_HookedCityModel_391 G2005 G108 (c130_X12_stay l D T _ a0 1 fr7 a1 z8 z9 z10 z31 z32 z33 fr34 z35 z26 z27 fy28 z29 a2 a3 a4 a5 a6 a7 a8 a9 a10 a11 x11 a12 a13 a14 a15 x12 r2 r3 a16 x13 x14 a17 a18 x15 a19 x16 r4 a20 a21 z30 (iI 1) a22 x18 x19 x20 x21 ff40 f2 ff38 (by decide) (by decide) z8_a z8_b z9_a z9_b z10_a z10_b z31_a z31_b z32_a z32_b z33_a z33_b z35_a z35_b z26_a z26_b z27_a z27_b z29_a z29_b x11_a x11_b x12_a x12_b x13_a x13_b x14_a x14_b x15_a x15_b x16_a x16_b z30_a z30_b x18_a x18_b x19_a x19_b x20_a x20_b x21_a x21_b ff40_h f2_h ff38_h pp_s pq39) 6 clX12 rfl rfl (by decide) rfl hl.1 rfl (Nat.le_of_ble_eq_true rfl) dX12_book_160 (by decide) (by decide) (by decide) (by decide)) w [6, 7, 0, 5] [1, 2, 3, 4] rfl rfl (by decide) (by decide) rfl rfl (fun u H locs hp w => ?_)
                      obtain ⟨z88, ff89, ff90, ff91⟩ := u
                      have z88_a : 0 ≤ z88 := hp.1
                      have z88_b : z88 ≤ 8 := hp.2.1
                      have ff89_h : nowI ff89 := hp.2.2.1
                      have ff90_h : FL ff90 := hp.2.2.2.1
                      have ff91_h : FL ff91 := hp.2.2.2.2.1
                      have pq92 : snI ff90 z88 := hp.2.2.2.2.2.1
                      have pq93 : kp 53 ff40 ff89 := hp.2.2.2.2.2.2
                      have w : WD D A s.heap [(a7, .inl (T 1, 12, .inr (.inl h0))), (a20, .inl (T 0, 160, .inl (cI ff36))), (a21, .inl (T 0, 4, .inl (upd (upd (upd (upd f5 (Int32.toNatClampNeg (iI 0)) (iI z41)) (Int32.toNatClampNeg (iI 1)) (iI z42)) (Int32.toNatClampNeg (iI 2)) (iI (ff40 53))) (Int32.toNatClampNeg (iI 3)) (iI z71)))), (a1, .inl (T 0, 940, .inl (cI f0))), (a0, .inr (11, [.int fr7, .ref a1, .int (iI z8), .int (iI z9), .int (iI z10), .int (iI z31), .int (iI z32), .int (iI z33), .int fr34, .int (iI z35), .int (iI z26), .int (iI z27), .long fy28, .int (iI z29), .ref a2, .ref a3, .ref a4, .ref a5, .ref a6, .ref a7, .ref a8, .ref a9, .ref a10, .ref a11, .int (iI z88), .ref a12, .ref a13, .ref a14, .ref a15, .int (iI x12), .int r2, .int r3, .ref a16, .int (iI x13), .int (iI x14), .ref a17, .ref a18, .int (iI x15), .ref a19, .int (iI x16), .int r4, .ref a20, .ref a21, .int (iI z30), .int (iI 1), .ref a22, .int (iI x18), .int (iI x19), .int (iI x20), .int (iI x21)])), (a2, .inl (T 0, 329, .inl (cI ff89))), (a5, .inl (T 0, 272, .inl (cI ff90))), (a6, .inl (T 0, 34, .inl (cI ff91)))] H locs := w
                      refine lv_iload_n hx hb dX12_book_163 rfl (lv_at hl 0 rfl) ?_
                      refine lv_if_ne (tgt := 171) hx hb dX12_book_164 (by decide) (fun c_94 => ?_) (fun c_94 => ?_)
                      · replace c_94 : ¬ z41 = 0 := fun h => c_94 ((iz_eq (Int.le_trans (by decide) z41_a) (Int.le_trans z41_b (by decide))).mpr h)
                        refine lv_iload_n hx hb dX12_book_171 rfl (lv_at hl 1 rfl) ?_
                        exact ret _ (z42, fr7, z8, z9, z10, z31, z32, z33, fr34, z35, z26, z27, fy28, z29, z88, z30, (iI 1), ff89, ff90, ff91, ff36, (upd (upd (upd (upd f5 (Int32.toNatClampNeg (iI 0)) (iI z41)) (Int32.toNatClampNeg (iI 1)) (iI z42)) (Int32.toNatClampNeg (iI 2)) (iI (ff40 53))) (Int32.toNatClampNeg (iI 3)) (iI z71))) _ _ _ _ _ [4, 3, 5, 6, 7, 0, 1, 2] dX12_book_172 ⟨rfl, (show (-2147483648) ≤ z42 from by omega), (show z42 ≤ 2147483647 from by omega), z8_a, z8_b, z9_a, z9_b, z10_a, z10_b, z31_a, z31_b, z32_a, z32_b, z33_a, z33_b, z35_a, z35_b, z26_a, z26_b, z27_a, z27_b, z29_a, z29_b, z88_a, z88_b, z30_a, z30_b, ff89_h, ff90_h, ff91_h, ff36_h, (show snI ff90 z88 from pq92), (show bkT x0 x1 z8 from (by unfold bkT; omega)), (show kp 53 f1 ff89 from (kp_tr (kp_tr kp_rfl lq2_hd) pq93)), (show (0 ≤ x0 → x0 ≤ 1 → bqF (bkS f0 x1 (sOne (fun _ => f1 0) h0) (sMn h0 (f1 1))) z26) ∧ (x0 < 0 ∨ 1 < x0 → z26 = x8) from ⟨fun a9 b9 => by have hc := bi_e lq1_b (by omega) (fun y g => (gT_stop g).mp (by omega)) (fa := 0) (pl := 0); have e1 : z10 = 400 := (by omega); have e2 : z9 = x1 := (by omega); rw [e1, e2] at hc; obtain ⟨y9, e9, -⟩ := RS_i hc rfl; rw [bkS, e9]; exact (show z26 = 0 by omega), fun h9 => by omega⟩)⟩ w (by decide) rfl
                      · replace c_94 := (iz_eq (Int.le_trans (by decide) z41_a) (Int.le_trans z41_b (by decide))).mp c_94
                        exfalso; omega
                · replace c_69 := (iz_eq (Int.le_trans (by decide) z41_a) (Int.le_trans z41_b (by decide))).mp c_69
                  refine lv_aload_n hx hb dX12_book_85 rfl (lv_at hl 2 rfl) ?_
                  refine lv_iconst (v := iI 4) hx hb dX12_book_86 (by decide +kernel) ?_
                  refine lv_iload_n hx hb dX12_book_87 rfl (lv_at hl 1 rfl) ?_
                  refine r_imul (v := iI (4 * z42)) M (iI_mul _ _) dX12_book_88 ?_
                  refine k_I (ce := 0) (sl := 0) (rest := []) (wr := [(a5, .inl (T 0, 272, .inl (cI f2))), (a7, .inl (T 1, 12, .inr (.inl h0))), (a21, .inl (T 0, 4, .inl f5)), (a1, .inl (T 0, 940, .inl (cI f0))), (a6, .inl (T 0, 34, .inl (cI ff38)))]) (r_V (f := 4) [5, 6, 2] M w V_HookedCityModel_385 G2001 G107 (c135_X12_goBy l D T _ a0 (4 * z42) fr7 a1 z8 z9 z10 z31 z32 z33 fr34 z35 z26 z27 fy28 z29 a2 a3 a4 a5 a6 a7 a8 a9 a10 a11 x11 a12 a13 a14 a15 x12 r2 r3 a16 x13 x14 a17 a18 x15 a19 x16 r4 a20 a21 z30 r5 a22 x18 x19 x20 x21 ff40 ff36 (by omega) (by omega) z8_a z8_b z9_a z9_b z10_a z10_b z31_a z31_b z32_a z32_b z33_a z33_b z35_a z35_b z26_a z26_b z27_a z27_b z29_a z29_b x11_a x11_b x12_a x12_b x13_a x13_b x14_a x14_b x15_a x15_b x16_a x16_b z30_a z30_b x18_a x18_b x19_a x19_b x20_a x20_b x21_a x21_b ff40_h ff36_h (ff36_h.2 z42 (by omega) (by omega))) 5 clX12 rfl rfl (by decide) rfl hl.1 rfl (Nat.le_of_ble_eq_true rfl) dX12_book_89 (by decide) (by decide) (by decide) (by decide)) w [5, 6, 2] [0, 1, 3, 4, 7] rfl rfl (by decide) (by decide) rfl rfl (fun v u H locs hp w => ?_)
                  obtain ⟨z95, ff96⟩ := u
                  have hv : iI z95 = v := hp.1
                  subst hv
                  have z95_a : 0 ≤ z95 := hp.2.1
                  have z95_b : z95 ≤ 31 := hp.2.2.1
                  have ff96_h : nowI ff96 := hp.2.2.2.1
                  have pq97 : kp 53 ff40 ff96 := hp.2.2.2.2
                  have w : WD D A s.heap [(a5, .inl (T 0, 272, .inl (cI f2))), (a7, .inl (T 1, 12, .inr (.inl h0))), (a21, .inl (T 0, 4, .inl f5)), (a1, .inl (T 0, 940, .inl (cI f0))), (a6, .inl (T 0, 34, .inl (cI ff38))), (a0, .inr (11, [.int fr7, .ref a1, .int (iI z8), .int (iI z9), .int (iI z10), .int (iI z31), .int (iI z32), .int (iI z33), .int fr34, .int (iI z35), .int (iI z26), .int (iI z27), .long fy28, .int (iI z29), .ref a2, .ref a3, .ref a4, .ref a5, .ref a6, .ref a7, .ref a8, .ref a9, .ref a10, .ref a11, .int (iI x11), .ref a12, .ref a13, .ref a14, .ref a15, .int (iI x12), .int r2, .int r3, .ref a16, .int (iI x13), .int (iI x14), .ref a17, .ref a18, .int (iI x15), .ref a19, .int (iI x16), .int r4, .ref a20, .ref a21, .int (iI z30), .int r5, .ref a22, .int (iI x18), .int (iI x19), .int (iI x20), .int (iI x21)])), (a2, .inl (T 0, 329, .inl (cI ff96))), (a20, .inl (T 0, 160, .inl (cI ff36)))] H locs := w
                  refine lv_istore_n (lv' := [(3, .int (iI z95)), (2, .int (iI z42)), (0, .ref a0), (1, .int (iI x0))]) hx hb dX12_book_92 rfl hl (by decide) rfl (fun ls hl => ?_)
                  refine lv_iload_n hx hb dX12_book_93 rfl (lv_at hl 0 rfl) ?_
                  refine lv_if_ne (tgt := 73) hx hb dX12_book_94 (by decide) (fun c_98 => ?_) (fun c_98 => ?_)
                  · replace c_98 : ¬ z95 = 0 := fun h => c_98 ((iz_eq (Int.le_trans (by decide) z95_a) (Int.le_trans z95_b (by decide))).mpr h)
                    exact ih2 ff96 z95 z42 _ _ _ ff96_h z95_a z95_b z42_a z42_b (kp_tr (kp_tr kp_rfl lq2_hd) pq97) (by omega) (w.sub [0, 1, 7, 2, 3, 5, 6, 4] (by decide) rfl) (lv_sub hl [0, 1, 2, 3] rfl)
                  · replace c_98 := (iz_eq (Int.le_trans (by decide) z95_a) (Int.le_trans z95_b (by decide))).mp c_98
                    refine lv_iinc (v := iI (z42 + 1)) (lv' := [(2, .int (iI (z42 + 1))), (3, .int (iI z95)), (0, .ref a0), (1, .int (iI x0))]) hx hb dX12_book_97 hl (k := 1) rfl (ii_inc (by decide +kernel)) (by decide) rfl (fun ls hl => ?_)
                    refine lv_goto (tgt := 73) hx hb dX12_book_100 (by decide) ?_
                    exact ih2 ff96 z95 (z42 + 1) _ _ _ ff96_h z95_a z95_b (by omega) (by omega) (kp_tr (kp_tr kp_rfl lq2_hd) pq97) (by omega) (w.sub [0, 1, 7, 2, 3, 5, 6, 4] (by decide) rfl) (lv_sub hl [1, 0, 2, 3] rfl)
          exact loop2 ((4031 : Int).toNat + 1) f1 0 0 _ _ _ f1_h (by decide) (by decide) (by decide) (by decide) lq1_hd (Nat.lt_succ_self _) w (lv_sub hl [0, 1, 2, 3] rfl)
        · replace c_37 : ¬ z33 = 0 := fun h => c_37 ((iz_eq (Int.le_trans (by decide) z33_a) (Int.le_trans z33_b (by decide))).mpr h)
          refine lv_aload_n hx hb dX12_book_37 rfl (lv_at hl 0 rfl) ?_
          refine k_I (ce := 0) (sl := 0) (rest := []) (wr := [(a5, .inl (T 0, 272, .inl (cI f2))), (a6, .inl (T 0, 34, .inl (cI f3))), (a21, .inl (T 0, 4, .inl f5))]) (r_V (f := 5) [6, 7, 0, 3, 4] M w V_HookedCityModel_382 G1985 G103 (c134_X12_readBookLine l D T _ a0 fr7 a1 z8 z9 z10 z31 z32 z33 fr34 z35 z26 z27 fy28 z29 a2 a3 a4 a5 a6 a7 a8 a9 a10 a11 x11 a12 a13 a14 a15 x12 r2 r3 a16 x13 x14 a17 a18 x15 a19 x16 r4 a20 a21 z30 r5 a22 x18 x19 x20 x21 f0 f1 h0 ff36 z8_a z8_b z9_a z9_b z10_a z10_b z31_a z31_b z32_a z32_b z33_a z33_b z35_a z35_b z26_a z26_b z27_a z27_b z29_a z29_b x11_a x11_b x12_a x12_b x13_a x13_b x14_a x14_b x15_a x15_b x16_a x16_b z30_a z30_b x18_a x18_b x19_a x19_b x20_a x20_b x21_a x21_b f0_h f1_h ff36_h) 6 clX12 rfl rfl (by decide) rfl hl.1 rfl (Nat.le_of_ble_eq_true rfl) dX12_book_38 (by decide) (by decide) (by decide) (by decide)) w [6, 7, 0, 3, 4] [1, 2, 5] rfl rfl (by decide) (by decide) rfl rfl (fun v u H locs hp w => ?_)
          obtain ⟨z99, z100, z101, z102, fr103, z104, z105, z106, fy107, z108, ff109⟩ := u
          have hv : iI z99 = v := hp.1
          subst hv
          have z99_a : 0 ≤ z99 := hp.2.1
          have z99_b : z99 ≤ 1 := hp.2.2.1
          have z100_a : 0 ≤ z100 := hp.2.2.2.1
          have z100_b : z100 ≤ 940 := hp.2.2.2.2.1
          have z101_a : 0 ≤ z101 := hp.2.2.2.2.2.1
          have z101_b : z101 ≤ 940 := hp.2.2.2.2.2.2.1
          have z102_a : 0 ≤ z102 := hp.2.2.2.2.2.2.2.1
          have z102_b : z102 ≤ 4 := hp.2.2.2.2.2.2.2.2.1
          have z104_a : (-2147483648) ≤ z104 := hp.2.2.2.2.2.2.2.2.2.1
          have z104_b : z104 ≤ 2147483647 := hp.2.2.2.2.2.2.2.2.2.2.1
          have z105_a : (-2147483648) ≤ z105 := hp.2.2.2.2.2.2.2.2.2.2.2.1
          have z105_b : z105 ≤ 2147483647 := hp.2.2.2.2.2.2.2.2.2.2.2.2.1
          have z106_a : 0 ≤ z106 := hp.2.2.2.2.2.2.2.2.2.2.2.2.2.1
          have z106_b : z106 ≤ 940 := hp.2.2.2.2.2.2.2.2.2.2.2.2.2.2.1
          have z108_a : (-2147483648) ≤ z108 := hp.2.2.2.2.2.2.2.2.2.2.2.2.2.2.2.1
          have z108_b : z108 ≤ 2147483647 := hp.2.2.2.2.2.2.2.2.2.2.2.2.2.2.2.2.1
          have ff109_h : lnI ff109 := hp.2.2.2.2.2.2.2.2.2.2.2.2.2.2.2.2.2.1
          have ee110 : 0 ≤ ((z100 - z31) - z99) := hp.2.2.2.2.2.2.2.2.2.2.2.2.2.2.2.2.2.2.1
          have ee111 : 0 ≤ ((79 - z30) - (z99 * 40)) := hp.2.2.2.2.2.2.2.2.2.2.2.2.2.2.2.2.2.2.2.1
          have pq112 : kpB z99 z26 z105 := hp.2.2.2.2.2.2.2.2.2.2.2.2.2.2.2.2.2.2.2.2.1
          have pq113 : ∀ x : Tk × Int × Int, gT x z33 z32 z31 fy28 fr34 z35 → RS (bkM f0 z9 z10 (sOne (fun _ => f1 0) h0) (sMn h0 (f1 1)) (x, z30)) z99 z105 z106 (fun y => gT y z102 z101 z100 fy107 fr103 z104) (z30 + 1) := hp.2.2.2.2.2.2.2.2.2.2.2.2.2.2.2.2.2.2.2.2.2
          have w : WD D A s.heap [(a5, .inl (T 0, 272, .inl (cI f2))), (a6, .inl (T 0, 34, .inl (cI f3))), (a21, .inl (T 0, 4, .inl f5)), (a0, .inr (11, [.int fr7, .ref a1, .int (iI z8), .int (iI z9), .int (iI z10), .int (iI z100), .int (iI z101), .int (iI z102), .int fr103, .int (iI z104), .int (iI z105), .int (iI z106), .long fy107, .int (iI z108), .ref a2, .ref a3, .ref a4, .ref a5, .ref a6, .ref a7, .ref a8, .ref a9, .ref a10, .ref a11, .int (iI x11), .ref a12, .ref a13, .ref a14, .ref a15, .int (iI x12), .int r2, .int r3, .ref a16, .int (iI x13), .int (iI x14), .ref a17, .ref a18, .int (iI x15), .ref a19, .int (iI x16), .int r4, .ref a20, .ref a21, .int (iI z30), .int r5, .ref a22, .int (iI x18), .int (iI x19), .int (iI x20), .int (iI x21)])), (a1, .inl (T 0, 940, .inl (cI f0))), (a2, .inl (T 0, 329, .inl (cI f1))), (a7, .inl (T 1, 12, .inr (.inl h0))), (a20, .inl (T 0, 160, .inl (cI ff109)))] H locs := w
          refine lv_if_ne (tgt := 52) hx hb dX12_book_41 (by decide) (fun c_114 => ?_) (fun c_114 => ?_)
          · replace c_114 : ¬ z99 = 0 := fun h => c_114 ((iz_eq (Int.le_trans (by decide) z99_a) (Int.le_trans z99_b (by decide))).mpr h)
            refine lv_aload_n hx hb dX12_book_52 rfl (lv_at hl 0 rfl) ?_
            refine lv_dup hx hb dX12_book_53 rfl ?_
            refine r_get (v := .int (iI z30)) M w 3 43 clX12 rfl (by decide) G1506 rfl rfl dX12_book_54 ?_
            refine lv_iconst (v := iI 1) hx hb dX12_book_57 (by decide +kernel) ?_
            refine r_iadd (v := iI (z30 + 1)) M (iI_add _ _) dX12_book_58 ?_
            refine r_put (ws' := [(a5, .inl (T 0, 272, .inl (cI f2))), (a6, .inl (T 0, 34, .inl (cI f3))), (a21, .inl (T 0, 4, .inl f5)), (a0, .inr (11, [.int fr7, .ref a1, .int (iI z8), .int (iI z9), .int (iI z10), .int (iI z100), .int (iI z101), .int (iI z102), .int fr103, .int (iI z104), .int (iI z105), .int (iI z106), .long fy107, .int (iI z108), .ref a2, .ref a3, .ref a4, .ref a5, .ref a6, .ref a7, .ref a8, .ref a9, .ref a10, .ref a11, .int (iI x11), .ref a12, .ref a13, .ref a14, .ref a15, .int (iI x12), .int r2, .int r3, .ref a16, .int (iI x13), .int (iI x14), .ref a17, .ref a18, .int (iI x15), .ref a19, .int (iI x16), .int r4, .ref a20, .ref a21, .int (iI (z30 + 1)), .int r5, .ref a22, .int (iI x18), .int (iI x19), .int (iI x20), .int (iI x21)])), (a1, .inl (T 0, 940, .inl (cI f0))), (a2, .inl (T 0, 329, .inl (cI f1))), (a7, .inl (T 1, 12, .inr (.inl h0))), (a20, .inl (T 0, 160, .inl (cI ff109)))]) M w 3 43 clX12 rfl (by decide) G1506 rfl rfl rfl rfl (Nat.le_of_ble_eq_true rfl) rfl dX12_book_59 (fun H locs w => ?_)
            refine lv_goto (tgt := 30) hx hb dX12_book_62 (by decide) ?_
            exact ih1 z105 z106 fy107 z108 (z30 + 1) z100 z101 z102 fr103 z104 ff109 _ _ _ z105_a z105_b z106_a z106_b z108_a z108_b (by omega) (by omega) z100_a z100_b z101_a z101_b z102_a z102_b z104_a z104_b ff109_h lq1_hd (bi_t lq1_b (by omega) (fun x g e => absurd ((gT_stop g).mpr e) (by omega)) pq113 (by omega)) (by have y1 := pq112 (by omega); omega) (by omega) (w.sub [5, 0, 1, 6, 7, 2, 3, 4] (by decide) rfl) (lv_sub hl [0, 1] rfl)
          · replace c_114 := (iz_eq (Int.le_trans (by decide) z99_a) (Int.le_trans z99_b (by decide))).mp c_114
            refine lv_bipush (v := iI (-2)) hx hb dX12_book_44 (by decide +kernel) ?_
            refine lv_aload_n hx hb dX12_book_46 rfl (lv_at hl 0 rfl) ?_
            refine r_get (v := .int (iI z106)) M w 3 11 clX12 rfl (by decide) G1474 rfl rfl dX12_book_47 ?_
            refine r_isub (v := iI ((-2) - z106)) M (iI_sub _ _) dX12_book_50 ?_
            exact ret _ (((-2) - z106), fr7, z8, z9, z10, z100, z101, z102, fr103, z104, z105, z106, fy107, z108, x11, z30, r5, f1, f2, f3, ff109, f5) _ _ _ _ _ [3, 4, 5, 0, 1, 6, 7, 2] dX12_book_51 ⟨rfl, (show (-2147483648) ≤ ((-2) - z106) from by omega), (show ((-2) - z106) ≤ 2147483647 from by omega), z8_a, z8_b, z9_a, z9_b, z10_a, z10_b, z100_a, z100_b, z101_a, z101_b, z102_a, z102_b, z104_a, z104_b, z105_a, z105_b, z106_a, z106_b, z108_a, z108_b, x11_a, x11_b, z30_a, z30_b, f1_h, f2_h, f3_h, ff109_h, (show snI f2 x11 from pp_s), (show bkT x0 x1 z8 from (by unfold bkT; omega)), (show kp 53 f1 f1 from lq1_hd), (show (0 ≤ x0 → x0 ≤ 1 → bqF (bkS f0 x1 (sOne (fun _ => f1 0) h0) (sMn h0 (f1 1))) z105) ∧ (x0 < 0 ∨ 1 < x0 → z105 = x8) from ⟨fun a9 b9 => by have hc := bi_f lq1_b (by omega) (fun x g e => absurd ((gT_stop g).mpr e) (by omega)) pq113 (by omega) (G' := fun _ => True) (R := 0); have e1 : z10 = 400 := (by omega); have e2 : z9 = x1 := (by omega); rw [e1, e2] at hc; rw [bkS, RS_f hc rfl]; exact rfl, fun h9 => by omega⟩)⟩ w (by decide) rfl
    exact loop1 (((940 - z11) : Int).toNat + 1) z16 x9 fy17 x10 0 z11 z12 z13 fr14 z15 f4 _ _ _ z16_a z16_b x9_a x9_b x10_a x10_b (by decide) (by decide) z11_a z11_b z12_a z12_b z13_a z13_b z15_a z15_b f4_h kp_rfl (bi_0 pq25) (by omega) (Nat.lt_succ_self _) w (lv_sub hl [0, 1] rfl)
