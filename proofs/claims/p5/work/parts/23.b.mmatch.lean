theorem dX12_canGo_0 : decode cX12_canGo 0 = .ok (.iload_n 1, 1) := by decide +kernel
theorem dX12_canGo_1 : decode cX12_canGo 1 = .ok (.iload_n 2, 1) := by decide +kernel
theorem dX12_canGo_2 : decode cX12_canGo 2 = .ok (.if_icmp .eq 60, 3) := by decide +kernel
theorem dX12_canGo_62 : decode cX12_canGo 62 = .ok (.iconst 0, 1) := by decide +kernel
theorem dX12_canGo_63 : decode cX12_canGo 63 = .ok (.ireturn, 1) := by decide +kernel
theorem dX12_canGo_5 : decode cX12_canGo 5 = .ok (.aload_n 0, 1) := by decide +kernel
theorem dX12_canGo_6 : decode cX12_canGo 6 = .ok (.getfield 98, 3) := by decide +kernel
theorem dX12_canGo_9 : decode cX12_canGo 9 = .ok (.bipush 44, 2) := by decide +kernel
theorem dX12_canGo_11 : decode cX12_canGo 11 = .ok (.iload_n 1, 1) := by decide +kernel
theorem dX12_canGo_12 : decode cX12_canGo 12 = .ok (.iadd, 1) := by decide +kernel
theorem dX12_canGo_13 : decode cX12_canGo 13 = .ok (.iaload, 1) := by decide +kernel
theorem dX12_canGo_14 : decode cX12_canGo 14 = .ok (.iload_n 2, 1) := by decide +kernel
theorem dX12_canGo_15 : decode cX12_canGo 15 = .ok (.invokestatic 206, 3) := by decide +kernel
theorem dX12_canGo_18 : decode cX12_canGo 18 = .ok (.ifCond .eq 44, 3) := by decide +kernel
theorem dX12_canGo_21 : decode cX12_canGo 21 = .ok (.aload_n 0, 1) := by decide +kernel
theorem dX12_canGo_22 : decode cX12_canGo 22 = .ok (.getfield 98, 3) := by decide +kernel
theorem dX12_canGo_25 : decode cX12_canGo 25 = .ok (.bipush 14, 2) := by decide +kernel
theorem dX12_canGo_27 : decode cX12_canGo 27 = .ok (.iload_n 1, 1) := by decide +kernel
theorem dX12_canGo_28 : decode cX12_canGo 28 = .ok (.iadd, 1) := by decide +kernel
theorem dX12_canGo_29 : decode cX12_canGo 29 = .ok (.iaload, 1) := by decide +kernel
theorem dX12_canGo_30 : decode cX12_canGo 30 = .ok (.aload_n 0, 1) := by decide +kernel
theorem dX12_canGo_31 : decode cX12_canGo 31 = .ok (.getfield 98, 3) := by decide +kernel
theorem dX12_canGo_34 : decode cX12_canGo 34 = .ok (.iconst 5, 1) := by decide +kernel
theorem dX12_canGo_35 : decode cX12_canGo 35 = .ok (.iload_n 2, 1) := by decide +kernel
theorem dX12_canGo_36 : decode cX12_canGo 36 = .ok (.iadd, 1) := by decide +kernel
theorem dX12_canGo_37 : decode cX12_canGo 37 = .ok (.iaload, 1) := by decide +kernel
theorem dX12_canGo_38 : decode cX12_canGo 38 = .ok (.if_icmp .ne 24, 3) := by decide +kernel
theorem dX12_canGo_41 : decode cX12_canGo 41 = .ok (.aload_n 0, 1) := by decide +kernel
theorem dX12_canGo_42 : decode cX12_canGo 42 = .ok (.iload_n 2, 1) := by decide +kernel
theorem dX12_canGo_43 : decode cX12_canGo 43 = .ok (.invokevirtual 264, 3) := by decide +kernel
theorem dX12_canGo_46 : decode cX12_canGo 46 = .ok (.ifCond .ne 16, 3) := by decide +kernel
theorem dX12_canGo_49 : decode cX12_canGo 49 = .ok (.aload_n 0, 1) := by decide +kernel
theorem dX12_canGo_50 : decode cX12_canGo 50 = .ok (.getfield 139, 3) := by decide +kernel
theorem G1491 : Cond.fieldLink "HookedCityModel" 139 "HookedCityModel" "closed" "[Z" ∈ GW := gw_i 1491 (by decide +kernel) rfl
theorem dX12_canGo_53 : decode cX12_canGo 53 = .ok (.iload_n 2, 1) := by decide +kernel
theorem dX12_canGo_54 : decode cX12_canGo 54 = .ok (.baload, 1) := by decide +kernel
theorem dX12_canGo_55 : decode cX12_canGo 55 = .ok (.ifCond .ne 7, 3) := by decide +kernel
theorem dX12_canGo_58 : decode cX12_canGo 58 = .ok (.iconst 1, 1) := by decide +kernel
theorem dX12_canGo_59 : decode cX12_canGo 59 = .ok (.goto 4, 3) := by decide +kernel
theorem dX12_findsLoop_0 : decode cX12_findsLoop 0 = .ok (.iconst 0, 1) := by decide +kernel
theorem dX12_findsLoop_1 : decode cX12_findsLoop 1 = .ok (.istore_n 2, 1) := by decide +kernel
theorem dX12_findsLoop_2 : decode cX12_findsLoop 2 = .ok (.iload_n 2, 1) := by decide +kernel
theorem dX12_findsLoop_3 : decode cX12_findsLoop 3 = .ok (.aload_n 0, 1) := by decide +kernel
theorem dX12_findsLoop_4 : decode cX12_findsLoop 4 = .ok (.getfield 98, 3) := by decide +kernel
theorem dX12_findsLoop_7 : decode cX12_findsLoop 7 = .ok (.iconst 0, 1) := by decide +kernel
theorem dX12_findsLoop_8 : decode cX12_findsLoop 8 = .ok (.iaload, 1) := by decide +kernel
theorem dX12_findsLoop_9 : decode cX12_findsLoop 9 = .ok (.if_icmp .ge 72, 3) := by decide +kernel
theorem dX12_findsLoop_81 : decode cX12_findsLoop 81 = .ok (.iconst 0, 1) := by decide +kernel
theorem dX12_findsLoop_82 : decode cX12_findsLoop 82 = .ok (.ireturn, 1) := by decide +kernel
theorem dX12_findsLoop_12 : decode cX12_findsLoop 12 = .ok (.aload_n 0, 1) := by decide +kernel
theorem dX12_findsLoop_13 : decode cX12_findsLoop 13 = .ok (.iload_n 1, 1) := by decide +kernel
theorem dX12_findsLoop_14 : decode cX12_findsLoop 14 = .ok (.iload_n 2, 1) := by decide +kernel
theorem dX12_findsLoop_15 : decode cX12_findsLoop 15 = .ok (.invokevirtual 310, 3) := by decide +kernel
theorem G1876 : Cond.code ⟨"HookedCityModel", "canGo", "(II)Z"⟩ prog_14_method_74_code 3 (some .boolean) ∈ GW := gw_i 1876 (by decide +kernel) rfl
theorem G1873 : Cond.methodLink "HookedCityModel" 310 ⟨"HookedCityModel", "canGo", "(II)Z"⟩ ∈ GW := gw_i 1873 (by decide +kernel) rfl
theorem V_HookedCityModel_310 : VL "HookedCityModel" 310 yX12_canGo cX12_canGo 3 (some .boolean) 2 := ⟨G1876, G1873, G131, by decide +kernel, by decide +kernel, by decide +kernel⟩
theorem G1875 : Cond.instanceMethod ⟨"HookedCityModel", "canGo", "(II)Z"⟩ ∈ GW := gw_i 1875 (by decide +kernel) rfl
theorem G91 : Cond.selects "HookedCityModel" ⟨"HookedCityModel", "canGo", "(II)Z"⟩ ⟨"HookedCityModel", "canGo", "(II)Z"⟩ ∈ GW := gw_i 91 (by decide +kernel) rfl
theorem dX12_findsLoop_18 : decode cX12_findsLoop 18 = .ok (.ifCond .eq 57, 3) := by decide +kernel
theorem dX12_findsLoop_75 : decode cX12_findsLoop 75 = .ok (.iinc 2 1, 3) := by decide +kernel
theorem dX12_findsLoop_78 : decode cX12_findsLoop 78 = .ok (.goto (-76), 3) := by decide +kernel
theorem dX12_findsLoop_21 : decode cX12_findsLoop 21 = .ok (.aload_n 0, 1) := by decide +kernel
theorem dX12_findsLoop_22 : decode cX12_findsLoop 22 = .ok (.getfield 136, 3) := by decide +kernel
theorem G1490 : Cond.fieldLink "HookedCityModel" 136 "HookedCityModel" "seen" "[Z" ∈ GW := gw_i 1490 (by decide +kernel) rfl
theorem dX12_findsLoop_25 : decode cX12_findsLoop 25 = .ok (.iload_n 2, 1) := by decide +kernel
theorem dX12_findsLoop_26 : decode cX12_findsLoop 26 = .ok (.baload, 1) := by decide +kernel
theorem dX12_findsLoop_27 : decode cX12_findsLoop 27 = .ok (.ifCond .eq 6, 3) := by decide +kernel
theorem dX12_findsLoop_30 : decode cX12_findsLoop 30 = .ok (.goto 45, 3) := by decide +kernel
theorem dX12_findsLoop_33 : decode cX12_findsLoop 33 = .ok (.aload_n 0, 1) := by decide +kernel
theorem dX12_findsLoop_34 : decode cX12_findsLoop 34 = .ok (.getfield 136, 3) := by decide +kernel
theorem dX12_findsLoop_37 : decode cX12_findsLoop 37 = .ok (.iload_n 2, 1) := by decide +kernel
theorem dX12_findsLoop_38 : decode cX12_findsLoop 38 = .ok (.iconst 1, 1) := by decide +kernel
theorem dX12_findsLoop_39 : decode cX12_findsLoop 39 = .ok (.bastore, 1) := by decide +kernel
theorem dX12_findsLoop_40 : decode cX12_findsLoop 40 = .ok (.aload_n 0, 1) := by decide +kernel
theorem dX12_findsLoop_41 : decode cX12_findsLoop 41 = .ok (.getfield 130, 3) := by decide +kernel
theorem G1488 : Cond.fieldLink "HookedCityModel" 130 "HookedCityModel" "holder" "[I" ∈ GW := gw_i 1488 (by decide +kernel) rfl
theorem dX12_findsLoop_44 : decode cX12_findsLoop 44 = .ok (.iload_n 2, 1) := by decide +kernel
theorem dX12_findsLoop_45 : decode cX12_findsLoop 45 = .ok (.iaload, 1) := by decide +kernel
theorem dX12_findsLoop_46 : decode cX12_findsLoop 46 = .ok (.iconst (-1), 1) := by decide +kernel
theorem dX12_findsLoop_47 : decode cX12_findsLoop 47 = .ok (.if_icmp .eq 19, 3) := by decide +kernel
theorem dX12_findsLoop_66 : decode cX12_findsLoop 66 = .ok (.aload_n 0, 1) := by decide +kernel
theorem dX12_findsLoop_67 : decode cX12_findsLoop 67 = .ok (.getfield 130, 3) := by decide +kernel
theorem dX12_findsLoop_70 : decode cX12_findsLoop 70 = .ok (.iload_n 2, 1) := by decide +kernel
theorem dX12_findsLoop_71 : decode cX12_findsLoop 71 = .ok (.iload_n 1, 1) := by decide +kernel
theorem dX12_findsLoop_72 : decode cX12_findsLoop 72 = .ok (.iastore, 1) := by decide +kernel
theorem dX12_findsLoop_73 : decode cX12_findsLoop 73 = .ok (.iconst 1, 1) := by decide +kernel
theorem dX12_findsLoop_74 : decode cX12_findsLoop 74 = .ok (.ireturn, 1) := by decide +kernel
theorem dX12_findsLoop_50 : decode cX12_findsLoop 50 = .ok (.aload_n 0, 1) := by decide +kernel
theorem dX12_findsLoop_51 : decode cX12_findsLoop 51 = .ok (.aload_n 0, 1) := by decide +kernel
theorem dX12_findsLoop_52 : decode cX12_findsLoop 52 = .ok (.getfield 130, 3) := by decide +kernel
theorem dX12_findsLoop_55 : decode cX12_findsLoop 55 = .ok (.iload_n 2, 1) := by decide +kernel
theorem dX12_findsLoop_56 : decode cX12_findsLoop 56 = .ok (.iaload, 1) := by decide +kernel
theorem dX12_findsLoop_57 : decode cX12_findsLoop 57 = .ok (.invokevirtual 313, 3) := by decide +kernel
theorem G1872 : Cond.code ⟨"HookedCityModel", "findsLoop", "(I)Z"⟩ prog_14_method_75_code 3 (some .boolean) ∈ GW := gw_i 1872 (by decide +kernel) rfl
theorem G1869 : Cond.methodLink "HookedCityModel" 313 ⟨"HookedCityModel", "findsLoop", "(I)Z"⟩ ∈ GW := gw_i 1869 (by decide +kernel) rfl
theorem V_HookedCityModel_313 : VL "HookedCityModel" 313 yX12_findsLoop cX12_findsLoop 3 (some .boolean) 1 := ⟨G1872, G1869, G131, by decide +kernel, by decide +kernel, by decide +kernel⟩
theorem G1871 : Cond.instanceMethod ⟨"HookedCityModel", "findsLoop", "(I)Z"⟩ ∈ GW := gw_i 1871 (by decide +kernel) rfl
theorem G90 : Cond.selects "HookedCityModel" ⟨"HookedCityModel", "findsLoop", "(I)Z"⟩ ⟨"HookedCityModel", "findsLoop", "(I)Z"⟩ ∈ GW := gw_i 90 (by decide +kernel) rfl
theorem dX12_findsLoop_60 : decode cX12_findsLoop 60 = .ok (.ifCond .ne 6, 3) := by decide +kernel
theorem dX12_findsLoop_63 : decode cX12_findsLoop 63 = .ok (.goto 12, 3) := by decide +kernel
theorem dX12_mostFrom_0 : decode cX12_mostFrom 0 = .ok (.iconst 0, 1) := by decide +kernel
theorem dX12_mostFrom_1 : decode cX12_mostFrom 1 = .ok (.istore_n 2, 1) := by decide +kernel
theorem dX12_mostFrom_2 : decode cX12_mostFrom 2 = .ok (.iload_n 2, 1) := by decide +kernel
theorem dX12_mostFrom_3 : decode cX12_mostFrom 3 = .ok (.bipush 9, 2) := by decide +kernel
theorem dX12_mostFrom_5 : decode cX12_mostFrom 5 = .ok (.if_icmp .ge 16, 3) := by decide +kernel
theorem dX12_mostFrom_21 : decode cX12_mostFrom 21 = .ok (.iconst 0, 1) := by decide +kernel
theorem dX12_mostFrom_22 : decode cX12_mostFrom 22 = .ok (.istore_n 2, 1) := by decide +kernel
theorem dX12_mostFrom_23 : decode cX12_mostFrom 23 = .ok (.iload_n 1, 1) := by decide +kernel
theorem dX12_mostFrom_24 : decode cX12_mostFrom 24 = .ok (.istore_n 3, 1) := by decide +kernel
theorem dX12_mostFrom_25 : decode cX12_mostFrom 25 = .ok (.iload_n 3, 1) := by decide +kernel
theorem dX12_mostFrom_26 : decode cX12_mostFrom 26 = .ok (.aload_n 0, 1) := by decide +kernel
theorem dX12_mostFrom_27 : decode cX12_mostFrom 27 = .ok (.getfield 98, 3) := by decide +kernel
theorem dX12_mostFrom_30 : decode cX12_mostFrom 30 = .ok (.iconst 0, 1) := by decide +kernel
theorem dX12_mostFrom_31 : decode cX12_mostFrom 31 = .ok (.iaload, 1) := by decide +kernel
theorem dX12_mostFrom_32 : decode cX12_mostFrom 32 = .ok (.if_icmp .ge 44, 3) := by decide +kernel
theorem dX12_mostFrom_76 : decode cX12_mostFrom 76 = .ok (.iload_n 2, 1) := by decide +kernel
theorem dX12_mostFrom_77 : decode cX12_mostFrom 77 = .ok (.ireturn, 1) := by decide +kernel
theorem dX12_mostFrom_35 : decode cX12_mostFrom 35 = .ok (.iconst 0, 1) := by decide +kernel
theorem dX12_mostFrom_36 : decode cX12_mostFrom 36 = .ok (.istore 4, 2) := by decide +kernel
theorem dX12_mostFrom_38 : decode cX12_mostFrom 38 = .ok (.iload 4, 2) := by decide +kernel
theorem dX12_mostFrom_40 : decode cX12_mostFrom 40 = .ok (.bipush 9, 2) := by decide +kernel
theorem dX12_mostFrom_42 : decode cX12_mostFrom 42 = .ok (.if_icmp .ge 17, 3) := by decide +kernel
theorem dX12_mostFrom_59 : decode cX12_mostFrom 59 = .ok (.aload_n 0, 1) := by decide +kernel
theorem dX12_mostFrom_60 : decode cX12_mostFrom 60 = .ok (.iload_n 3, 1) := by decide +kernel
theorem dX12_mostFrom_61 : decode cX12_mostFrom 61 = .ok (.invokevirtual 313, 3) := by decide +kernel
theorem dX12_mostFrom_64 : decode cX12_mostFrom 64 = .ok (.ifCond .eq 6, 3) := by decide +kernel
theorem dX12_mostFrom_70 : decode cX12_mostFrom 70 = .ok (.iinc 3 1, 3) := by decide +kernel
theorem dX12_mostFrom_73 : decode cX12_mostFrom 73 = .ok (.goto (-48), 3) := by decide +kernel
theorem dX12_mostFrom_67 : decode cX12_mostFrom 67 = .ok (.iinc 2 1, 3) := by decide +kernel
theorem dX12_mostFrom_45 : decode cX12_mostFrom 45 = .ok (.aload_n 0, 1) := by decide +kernel
theorem dX12_mostFrom_46 : decode cX12_mostFrom 46 = .ok (.getfield 136, 3) := by decide +kernel
theorem dX12_mostFrom_49 : decode cX12_mostFrom 49 = .ok (.iload 4, 2) := by decide +kernel
theorem dX12_mostFrom_51 : decode cX12_mostFrom 51 = .ok (.iconst 0, 1) := by decide +kernel
theorem dX12_mostFrom_52 : decode cX12_mostFrom 52 = .ok (.bastore, 1) := by decide +kernel
theorem dX12_mostFrom_53 : decode cX12_mostFrom 53 = .ok (.iinc 4 1, 3) := by decide +kernel
theorem dX12_mostFrom_56 : decode cX12_mostFrom 56 = .ok (.goto (-18), 3) := by decide +kernel
theorem dX12_mostFrom_8 : decode cX12_mostFrom 8 = .ok (.aload_n 0, 1) := by decide +kernel
theorem dX12_mostFrom_9 : decode cX12_mostFrom 9 = .ok (.getfield 130, 3) := by decide +kernel
theorem dX12_mostFrom_12 : decode cX12_mostFrom 12 = .ok (.iload_n 2, 1) := by decide +kernel
theorem dX12_mostFrom_13 : decode cX12_mostFrom 13 = .ok (.iconst (-1), 1) := by decide +kernel
theorem dX12_mostFrom_14 : decode cX12_mostFrom 14 = .ok (.iastore, 1) := by decide +kernel
theorem dX12_mostFrom_15 : decode cX12_mostFrom 15 = .ok (.iinc 2 1, 3) := by decide +kernel
theorem dX12_mostFrom_18 : decode cX12_mostFrom 18 = .ok (.goto (-16), 3) := by decide +kernel
theorem dX12_leastLoop_0 : decode cX12_leastLoop 0 = .ok (.iconst 0, 1) := by decide +kernel
theorem dX12_leastLoop_1 : decode cX12_leastLoop 1 = .ok (.istore_n 3, 1) := by decide +kernel
theorem dX12_leastLoop_2 : decode cX12_leastLoop 2 = .ok (.iload_n 3, 1) := by decide +kernel
theorem dX12_leastLoop_3 : decode cX12_leastLoop 3 = .ok (.aload_n 0, 1) := by decide +kernel
theorem dX12_leastLoop_4 : decode cX12_leastLoop 4 = .ok (.getfield 98, 3) := by decide +kernel
theorem dX12_leastLoop_7 : decode cX12_leastLoop 7 = .ok (.iconst 0, 1) := by decide +kernel
theorem dX12_leastLoop_8 : decode cX12_leastLoop 8 = .ok (.iaload, 1) := by decide +kernel
theorem dX12_leastLoop_9 : decode cX12_leastLoop 9 = .ok (.if_icmp .ge 50, 3) := by decide +kernel
theorem dX12_leastLoop_59 : decode cX12_leastLoop 59 = .ok (.iconst (-1), 1) := by decide +kernel
theorem dX12_leastLoop_60 : decode cX12_leastLoop 60 = .ok (.ireturn, 1) := by decide +kernel
theorem dX12_leastLoop_12 : decode cX12_leastLoop 12 = .ok (.aload_n 0, 1) := by decide +kernel
theorem dX12_leastLoop_13 : decode cX12_leastLoop 13 = .ok (.iload_n 1, 1) := by decide +kernel
theorem dX12_leastLoop_14 : decode cX12_leastLoop 14 = .ok (.iload_n 3, 1) := by decide +kernel
theorem dX12_leastLoop_15 : decode cX12_leastLoop 15 = .ok (.invokevirtual 310, 3) := by decide +kernel
theorem dX12_leastLoop_18 : decode cX12_leastLoop 18 = .ok (.ifCond .ne 6, 3) := by decide +kernel
theorem dX12_leastLoop_24 : decode cX12_leastLoop 24 = .ok (.aload_n 0, 1) := by decide +kernel
theorem dX12_leastLoop_25 : decode cX12_leastLoop 25 = .ok (.getfield 139, 3) := by decide +kernel
theorem dX12_leastLoop_28 : decode cX12_leastLoop 28 = .ok (.iload_n 3, 1) := by decide +kernel
theorem dX12_leastLoop_29 : decode cX12_leastLoop 29 = .ok (.iconst 1, 1) := by decide +kernel
theorem dX12_leastLoop_30 : decode cX12_leastLoop 30 = .ok (.bastore, 1) := by decide +kernel
theorem dX12_leastLoop_31 : decode cX12_leastLoop 31 = .ok (.aload_n 0, 1) := by decide +kernel
theorem dX12_leastLoop_32 : decode cX12_leastLoop 32 = .ok (.iload_n 1, 1) := by decide +kernel
theorem dX12_leastLoop_33 : decode cX12_leastLoop 33 = .ok (.iconst 1, 1) := by decide +kernel
theorem dX12_leastLoop_34 : decode cX12_leastLoop 34 = .ok (.iadd, 1) := by decide +kernel
theorem dX12_leastLoop_35 : decode cX12_leastLoop 35 = .ok (.invokevirtual 316, 3) := by decide +kernel
theorem G1868 : Cond.code ⟨"HookedCityModel", "mostFrom", "(I)I"⟩ prog_14_method_76_code 5 (some .int) ∈ GW := gw_i 1868 (by decide +kernel) rfl
theorem G1865 : Cond.methodLink "HookedCityModel" 316 ⟨"HookedCityModel", "mostFrom", "(I)I"⟩ ∈ GW := gw_i 1865 (by decide +kernel) rfl
theorem V_HookedCityModel_316 : VL "HookedCityModel" 316 yX12_mostFrom cX12_mostFrom 5 (some .int) 1 := ⟨G1868, G1865, G131, by decide +kernel, by decide +kernel, by decide +kernel⟩
theorem G1867 : Cond.instanceMethod ⟨"HookedCityModel", "mostFrom", "(I)I"⟩ ∈ GW := gw_i 1867 (by decide +kernel) rfl
theorem G89 : Cond.selects "HookedCityModel" ⟨"HookedCityModel", "mostFrom", "(I)I"⟩ ⟨"HookedCityModel", "mostFrom", "(I)I"⟩ ∈ GW := gw_i 89 (by decide +kernel) rfl
theorem dX12_leastLoop_38 : decode cX12_leastLoop 38 = .ok (.iconst 1, 1) := by decide +kernel
theorem dX12_leastLoop_39 : decode cX12_leastLoop 39 = .ok (.iadd, 1) := by decide +kernel
theorem dX12_leastLoop_40 : decode cX12_leastLoop 40 = .ok (.iload_n 2, 1) := by decide +kernel
theorem dX12_leastLoop_41 : decode cX12_leastLoop 41 = .ok (.if_icmp .ne 5, 3) := by decide +kernel
theorem dX12_leastLoop_46 : decode cX12_leastLoop 46 = .ok (.aload_n 0, 1) := by decide +kernel
theorem dX12_leastLoop_47 : decode cX12_leastLoop 47 = .ok (.getfield 139, 3) := by decide +kernel
theorem dX12_leastLoop_50 : decode cX12_leastLoop 50 = .ok (.iload_n 3, 1) := by decide +kernel
theorem dX12_leastLoop_51 : decode cX12_leastLoop 51 = .ok (.iconst 0, 1) := by decide +kernel
theorem dX12_leastLoop_52 : decode cX12_leastLoop 52 = .ok (.bastore, 1) := by decide +kernel
theorem dX12_leastLoop_53 : decode cX12_leastLoop 53 = .ok (.iinc 3 1, 3) := by decide +kernel
theorem dX12_leastLoop_56 : decode cX12_leastLoop 56 = .ok (.goto (-54), 3) := by decide +kernel
theorem dX12_leastLoop_44 : decode cX12_leastLoop 44 = .ok (.iload_n 3, 1) := by decide +kernel
theorem dX12_leastLoop_45 : decode cX12_leastLoop 45 = .ok (.ireturn, 1) := by decide +kernel
theorem dX12_leastLoop_21 : decode cX12_leastLoop 21 = .ok (.goto 32, 3) := by decide +kernel
theorem dX12_match_0 : decode cX12_match 0 = .ok (.aload_n 0, 1) := by decide +kernel
theorem dX12_match_1 : decode cX12_match 1 = .ok (.iconst 0, 1) := by decide +kernel
theorem dX12_match_2 : decode cX12_match 2 = .ok (.putfield 1, 3) := by decide +kernel
theorem dX12_match_5 : decode cX12_match 5 = .ok (.iconst 0, 1) := by decide +kernel
theorem dX12_match_6 : decode cX12_match 6 = .ok (.istore_n 1, 1) := by decide +kernel
theorem dX12_match_7 : decode cX12_match 7 = .ok (.iload_n 1, 1) := by decide +kernel
theorem dX12_match_8 : decode cX12_match 8 = .ok (.bipush 9, 2) := by decide +kernel
theorem dX12_match_10 : decode cX12_match 10 = .ok (.if_icmp .ge 16, 3) := by decide +kernel
theorem dX12_match_26 : decode cX12_match 26 = .ok (.aload_n 0, 1) := by decide +kernel
theorem dX12_match_27 : decode cX12_match 27 = .ok (.iconst 0, 1) := by decide +kernel
theorem dX12_match_28 : decode cX12_match 28 = .ok (.invokevirtual 316, 3) := by decide +kernel
theorem dX12_match_31 : decode cX12_match 31 = .ok (.istore_n 1, 1) := by decide +kernel
theorem dX12_match_32 : decode cX12_match 32 = .ok (.iload_n 1, 1) := by decide +kernel
theorem dX12_match_33 : decode cX12_match 33 = .ok (.istore_n 2, 1) := by decide +kernel
theorem dX12_match_34 : decode cX12_match 34 = .ok (.iconst 0, 1) := by decide +kernel
theorem dX12_match_35 : decode cX12_match 35 = .ok (.istore_n 3, 1) := by decide +kernel
theorem dX12_match_36 : decode cX12_match 36 = .ok (.iload_n 3, 1) := by decide +kernel
theorem dX12_match_37 : decode cX12_match 37 = .ok (.aload_n 0, 1) := by decide +kernel
theorem dX12_match_38 : decode cX12_match 38 = .ok (.getfield 98, 3) := by decide +kernel
theorem dX12_match_41 : decode cX12_match 41 = .ok (.iconst 0, 1) := by decide +kernel
theorem dX12_match_42 : decode cX12_match 42 = .ok (.iaload, 1) := by decide +kernel
theorem dX12_match_43 : decode cX12_match 43 = .ok (.if_icmp .ge 34, 3) := by decide +kernel
theorem dX12_match_77 : decode cX12_match 77 = .ok (.aload_n 0, 1) := by decide +kernel
theorem dX12_match_78 : decode cX12_match 78 = .ok (.aload_n 0, 1) := by decide +kernel
theorem dX12_match_79 : decode cX12_match 79 = .ok (.getfield 98, 3) := by decide +kernel
theorem dX12_match_82 : decode cX12_match 82 = .ok (.iconst 0, 1) := by decide +kernel
theorem dX12_match_83 : decode cX12_match 83 = .ok (.iaload, 1) := by decide +kernel
theorem dX12_match_84 : decode cX12_match 84 = .ok (.putfield 322, 3) := by decide +kernel
theorem dX12_match_87 : decode cX12_match 87 = .ok (.aload_n 0, 1) := by decide +kernel
theorem dX12_match_88 : decode cX12_match 88 = .ok (.iconst 1, 1) := by decide +kernel
theorem dX12_match_89 : decode cX12_match 89 = .ok (.putfield 325, 3) := by decide +kernel
theorem dX12_match_92 : decode cX12_match 92 = .ok (.aload_n 0, 1) := by decide +kernel
theorem dX12_match_93 : decode cX12_match 93 = .ok (.iconst 1, 1) := by decide +kernel
theorem dX12_match_94 : decode cX12_match 94 = .ok (.putfield 236, 3) := by decide +kernel
theorem dX12_match_97 : decode cX12_match 97 = .ok (.iload_n 1, 1) := by decide +kernel
theorem dX12_match_98 : decode cX12_match 98 = .ok (.ireturn, 1) := by decide +kernel
theorem dX12_match_46 : decode cX12_match 46 = .ok (.aload_n 0, 1) := by decide +kernel
theorem dX12_match_47 : decode cX12_match 47 = .ok (.getfield 133, 3) := by decide +kernel
theorem dX12_match_50 : decode cX12_match 50 = .ok (.iload_n 3, 1) := by decide +kernel
theorem dX12_match_51 : decode cX12_match 51 = .ok (.aload_n 0, 1) := by decide +kernel
theorem dX12_match_52 : decode cX12_match 52 = .ok (.iload_n 3, 1) := by decide +kernel
theorem dX12_match_53 : decode cX12_match 53 = .ok (.iload_n 2, 1) := by decide +kernel
theorem dX12_match_54 : decode cX12_match 54 = .ok (.invokevirtual 319, 3) := by decide +kernel
theorem G1880 : Cond.code ⟨"HookedCityModel", "leastLoop", "(II)I"⟩ prog_14_method_77_code 4 (some .int) ∈ GW := gw_i 1880 (by decide +kernel) rfl
theorem G1877 : Cond.methodLink "HookedCityModel" 319 ⟨"HookedCityModel", "leastLoop", "(II)I"⟩ ∈ GW := gw_i 1877 (by decide +kernel) rfl
theorem V_HookedCityModel_319 : VL "HookedCityModel" 319 yX12_leastLoop cX12_leastLoop 4 (some .int) 2 := ⟨G1880, G1877, G131, by decide +kernel, by decide +kernel, by decide +kernel⟩
theorem G1879 : Cond.instanceMethod ⟨"HookedCityModel", "leastLoop", "(II)I"⟩ ∈ GW := gw_i 1879 (by decide +kernel) rfl
theorem G92 : Cond.selects "HookedCityModel" ⟨"HookedCityModel", "leastLoop", "(II)I"⟩ ⟨"HookedCityModel", "leastLoop", "(II)I"⟩ ∈ GW := gw_i 92 (by decide +kernel) rfl
theorem dX12_match_57 : decode cX12_match 57 = .ok (.iastore, 1) := by decide +kernel
theorem dX12_match_58 : decode cX12_match 58 = .ok (.aload_n 0, 1) := by decide +kernel
theorem dX12_match_59 : decode cX12_match 59 = .ok (.getfield 133, 3) := by decide +kernel
theorem dX12_match_62 : decode cX12_match 62 = .ok (.iload_n 3, 1) := by decide +kernel
theorem dX12_match_63 : decode cX12_match 63 = .ok (.iaload, 1) := by decide +kernel
theorem dX12_match_64 : decode cX12_match 64 = .ok (.iconst (-1), 1) := by decide +kernel
theorem dX12_match_65 : decode cX12_match 65 = .ok (.if_icmp .eq 6, 3) := by decide +kernel
theorem dX12_match_71 : decode cX12_match 71 = .ok (.iinc 3 1, 3) := by decide +kernel
theorem dX12_match_74 : decode cX12_match 74 = .ok (.goto (-38), 3) := by decide +kernel
theorem dX12_match_68 : decode cX12_match 68 = .ok (.iinc 2 (-1), 3) := by decide +kernel
theorem dX12_match_13 : decode cX12_match 13 = .ok (.aload_n 0, 1) := by decide +kernel
theorem dX12_match_14 : decode cX12_match 14 = .ok (.getfield 139, 3) := by decide +kernel
theorem dX12_match_17 : decode cX12_match 17 = .ok (.iload_n 1, 1) := by decide +kernel
theorem dX12_match_18 : decode cX12_match 18 = .ok (.iconst 0, 1) := by decide +kernel
theorem dX12_match_19 : decode cX12_match 19 = .ok (.bastore, 1) := by decide +kernel
theorem dX12_match_20 : decode cX12_match 20 = .ok (.iinc 1 1, 3) := by decide +kernel
theorem dX12_match_23 : decode cX12_match 23 = .ok (.goto (-16), 3) := by decide +kernel
set_option maxRecDepth 100000 in
set_option maxHeartbeats 4000000 in
theorem c137_X12_canGo (l : Launch) (D : va_G) (T : Nat → ClassId) (sz : Nat) (a0 : Nat) (x0 : Int) (x1 : Int) (r0 : Int32) (a1 : Nat) (x2 : Int) (x3 : Int) (x4 : Int) (x5 : Int) (x6 : Int) (x7 : Int) (r1 : Int32) (x8 : Int) (x9 : Int) (x10 : Int) (y0 : Int64) (x11 : Int) (a2 : Nat) (a3 : Nat) (a4 : Nat) (a5 : Nat) (a6 : Nat) (a7 : Nat) (a8 : Nat) (a9 : Nat) (a10 : Nat) (a11 : Nat) (x12 : Int) (a12 : Nat) (a13 : Nat) (a14 : Nat) (a15 : Nat) (x13 : Int) (r2 : Int32) (r3 : Int32) (a16 : Nat) (x14 : Int) (x15 : Int) (a17 : Nat) (a18 : Nat) (x16 : Int) (a19 : Nat) (x17 : Int) (r4 : Int32) (a20 : Nat) (a21 : Nat) (x18 : Int) (r5 : Int32) (a22 : Nat) (x19 : Int) (x20 : Int) (x21 : Int) (x22 : Int) (f0 : Int → Int) (f1 : Int → Int) (x0_a : 0 ≤ x0) (x0_b : x0 ≤ 8) (x1_a : 0 ≤ x1) (x1_b : x1 ≤ 8) (x2_a : 0 ≤ x2) (x2_b : x2 ≤ 940) (x3_a : 0 ≤ x3) (x3_b : x3 ≤ 940) (x4_a : 0 ≤ x4) (x4_b : x4 ≤ 940) (x5_a : 0 ≤ x5) (x5_b : x5 ≤ 940) (x6_a : 0 ≤ x6) (x6_b : x6 ≤ 940) (x7_a : 0 ≤ x7) (x7_b : x7 ≤ 4) (x8_a : (-2147483648) ≤ x8) (x8_b : x8 ≤ 2147483647) (x9_a : (-2147483648) ≤ x9) (x9_b : x9 ≤ 2147483647) (x10_a : 0 ≤ x10) (x10_b : x10 ≤ 940) (x11_a : (-2147483648) ≤ x11) (x11_b : x11 ≤ 2147483647) (x12_a : 0 ≤ x12) (x12_b : x12 ≤ 8) (x13_a : 0 ≤ x13) (x13_b : x13 ≤ 9) (x14_a : (-1) ≤ x14) (x14_b : x14 ≤ 9) (x15_a : (-1) ≤ x15) (x15_b : x15 ≤ 8) (x16_a : 0 ≤ x16) (x16_b : x16 ≤ 9) (x17_a : 0 ≤ x17) (x17_b : x17 ≤ 64) (x18_a : 0 ≤ x18) (x18_b : x18 ≤ 40) (x19_a : 0 ≤ x19) (x19_b : x19 ≤ 40) (x20_a : 0 ≤ x20) (x20_b : x20 ≤ 20) (x21_a : 0 ≤ x21) (x21_b : x21 ≤ 8) (x22_a : 0 ≤ x22) (x22_b : x22 ≤ 39) (f0_h : nowI f0) (f1_h : rng 0 1 f1) : Met l yX12_canGo (Cond.code yX12_canGo cX12_canGo 3 (some .boolean) :: GW) (Rm 1 0 0) (cPre [.ref a0, .int (iI x0), .int (iI x1)] D T [(a0, .inr (11, [.int r0, .ref a1, .int (iI x2), .int (iI x3), .int (iI x4), .int (iI x5), .int (iI x6), .int (iI x7), .int r1, .int (iI x8), .int (iI x9), .int (iI x10), .long y0, .int (iI x11), .ref a2, .ref a3, .ref a4, .ref a5, .ref a6, .ref a7, .ref a8, .ref a9, .ref a10, .ref a11, .int (iI x12), .ref a12, .ref a13, .ref a14, .ref a15, .int (iI x13), .int r2, .int r3, .ref a16, .int (iI x14), .int (iI x15), .ref a17, .ref a18, .int (iI x16), .ref a19, .int (iI x17), .int r4, .ref a20, .ref a21, .int (iI x18), .int r5, .ref a22, .int (iI x19), .int (iI x20), .int (iI x21), .int (iI x22)])), (a2, .inl (T 0, 329, .inl (cI f0))), (a15, .inl (T 2, 9, .inl (cI f1)))] sz) (qI D [(a0, .inr (11, [.int r0, .ref a1, .int (iI x2), .int (iI x3), .int (iI x4), .int (iI x5), .int (iI x6), .int (iI x7), .int r1, .int (iI x8), .int (iI x9), .int (iI x10), .long y0, .int (iI x11), .ref a2, .ref a3, .ref a4, .ref a5, .ref a6, .ref a7, .ref a8, .ref a9, .ref a10, .ref a11, .int (iI x12), .ref a12, .ref a13, .ref a14, .ref a15, .int (iI x13), .int r2, .int r3, .ref a16, .int (iI x14), .int (iI x15), .ref a17, .ref a18, .int (iI x16), .ref a19, .int (iI x17), .int r4, .ref a20, .ref a21, .int (iI x18), .int r5, .ref a22, .int (iI x19), .int (iI x20), .int (iI x21), .int (iI x22)])), (a2, .inl (T 0, 329, .inl (cI f0))), (a15, .inl (T 2, 9, .inl (cI f1)))] sz (fun (v : Int32) (u : Int) => iI u = v ∧ 0 ≤ u ∧ u ≤ 1) (fun u => [(a0, .inr (11, [.int r0, .ref a1, .int (iI x2), .int (iI x3), .int (iI x4), .int (iI x5), .int (iI x6), .int (iI x7), .int r1, .int (iI x8), .int (iI x9), .int (iI x10), .long y0, .int (iI x11), .ref a2, .ref a3, .ref a4, .ref a5, .ref a6, .ref a7, .ref a8, .ref a9, .ref a10, .ref a11, .int (iI x12), .ref a12, .ref a13, .ref a14, .ref a15, .int (iI x13), .int r2, .int r3, .ref a16, .int (iI x14), .int (iI x15), .ref a17, .ref a18, .int (iI x16), .ref a19, .int (iI x17), .int r4, .ref a20, .ref a21, .int (iI x18), .int r5, .ref a22, .int (iI x19), .int (iI x20), .int (iI x21), .int (iI x22)])), (a2, .inl (T 0, 329, .inl (cI f0))), (a15, .inl (T 2, 9, .inl (cI f1)))])) 0 0 (va_A [(a0, .inr (11, [.int r0, .ref a1, .int (iI x2), .int (iI x3), .int (iI x4), .int (iI x5), .int (iI x6), .int (iI x7), .int r1, .int (iI x8), .int (iI x9), .int (iI x10), .long y0, .int (iI x11), .ref a2, .ref a3, .ref a4, .ref a5, .ref a6, .ref a7, .ref a8, .ref a9, .ref a10, .ref a11, .int (iI x12), .ref a12, .ref a13, .ref a14, .ref a15, .int (iI x13), .int r2, .int r3, .ref a16, .int (iI x14), .int (iI x15), .ref a17, .ref a18, .int (iI x16), .ref a19, .int (iI x17), .int r4, .ref a20, .ref a21, .int (iI x18), .int r5, .ref a22, .int (iI x19), .int (iI x20), .int (iI x21), .int (iI x22)])), (a2, .inl (T 0, 329, .inl (cI f0))), (a15, .inl (T 2, 9, .inl (cI f1)))] sz) := by
  refine e_Z (by decide) (Nat.le_of_ble_eq_true rfl) ?_
  intro p e s m args below meth c A Q ls M hin w ret hl
  have hx := M.1.1
  have hb := M.1.2.1
  have hl : lv_has ls 3 [(0, .ref a0), (1, .int (iI x0)), (2, .int (iI x1))] := hl
  refine lv_iload_n hx hb dX12_canGo_0 rfl (lv_at hl 1 rfl) ?_
  refine lv_iload_n hx hb dX12_canGo_1 rfl (lv_at hl 2 rfl) ?_
  refine lv_icmp_eq (tgt := 62) hx hb dX12_canGo_2 (by decide) (fun c_1 => ?_) (fun c_1 => ?_)
  · replace c_1 := (iI_eq (Int.le_trans (by decide) x0_a) (Int.le_trans x0_b (by decide)) (Int.le_trans (by decide) x1_a) (Int.le_trans x1_b (by decide))).mp c_1
    refine lv_iconst (v := iI 0) hx hb dX12_canGo_62 (by decide +kernel) ?_
    exact ret _ 0 _ _ _ _ _ [0, 1, 2] dX12_canGo_63 (by decide +kernel) ⟨rfl, (show (0 : Int) ≤ 0 from by decide), (show (0 : Int) ≤ 1 from by decide)⟩ w (by decide) rfl
  · replace c_1 : ¬ x0 = x1 := fun h => c_1 ((iI_eq (Int.le_trans (by decide) x0_a) (Int.le_trans x0_b (by decide)) (Int.le_trans (by decide) x1_a) (Int.le_trans x1_b (by decide))).mpr h)
    refine lv_aload_n hx hb dX12_canGo_5 rfl (lv_at hl 0 rfl) ?_
    refine r_get (v := .ref a2) M w 0 14 clX12 rfl (by decide) G1477 rfl rfl dX12_canGo_6 ?_
    refine lv_bipush (v := iI 44) hx hb dX12_canGo_9 (by decide +kernel) ?_
    refine lv_iload_n hx hb dX12_canGo_11 rfl (lv_at hl 1 rfl) ?_
    refine r_iadd (v := iI (44 + x0)) M (iI_add _ _) dX12_canGo_12 ?_
    refine r_iald (v := iI (f0 (44 + x0))) M w 1 rfl (iI_in (by omega) (by omega) (by decide)) (cI_at (by omega) (by omega)) dX12_canGo_13 ?_
    have hh2 : (-2147483648) ≤ (f0 (44 + x0)) ∧ (f0 (44 + x0)) ≤ 2147483647 := f0_h.1 (44 + x0)
    refine lv_iload_n hx hb dX12_canGo_14 rfl (lv_at hl 2 rfl) ?_
    refine k_I (ce := 0) (sl := 0) (rest := []) (wr := [(a0, .inr (11, [.int r0, .ref a1, .int (iI x2), .int (iI x3), .int (iI x4), .int (iI x5), .int (iI x6), .int (iI x7), .int r1, .int (iI x8), .int (iI x9), .int (iI x10), .long y0, .int (iI x11), .ref a2, .ref a3, .ref a4, .ref a5, .ref a6, .ref a7, .ref a8, .ref a9, .ref a10, .ref a11, .int (iI x12), .ref a12, .ref a13, .ref a14, .ref a15, .int (iI x13), .int r2, .int r3, .ref a16, .int (iI x14), .int (iI x15), .ref a17, .ref a18, .int (iI x16), .ref a19, .int (iI x17), .int r4, .ref a20, .ref a21, .int (iI x18), .int r5, .ref a22, .int (iI x19), .int (iI x20), .int (iI x21), .int (iI x22)])), (a2, .inl (T 0, 329, .inl (cI f0))), (a15, .inl (T 2, 9, .inl (cI f1)))]) (r_S (f := 0) [] M w V_HookedCityModel_206 G1708 (c7_X12_has l D T _ (f0 (44 + x0)) x1 (by omega) (by omega) (by omega) (by omega)) rfl (by decide) rfl hl.1 rfl (Nat.le_of_ble_eq_true rfl) dX12_canGo_15 (by decide) (by decide) (by decide) (by decide)) w [] [0, 1, 2] rfl rfl (by decide) (by decide) rfl rfl (fun v z3 H locs hp w => ?_)
    have hv : iI z3 = v := hp.1
    subst hv
    have z3_a : 0 ≤ z3 := hp.2.1
    have z3_b : z3 ≤ 1 := hp.2.2.1
    have pq4 : hsQ z3 (f0 (44 + x0)) x1 := hp.2.2.2
    have w : WD D A s.heap [(a0, .inr (11, [.int r0, .ref a1, .int (iI x2), .int (iI x3), .int (iI x4), .int (iI x5), .int (iI x6), .int (iI x7), .int r1, .int (iI x8), .int (iI x9), .int (iI x10), .long y0, .int (iI x11), .ref a2, .ref a3, .ref a4, .ref a5, .ref a6, .ref a7, .ref a8, .ref a9, .ref a10, .ref a11, .int (iI x12), .ref a12, .ref a13, .ref a14, .ref a15, .int (iI x13), .int r2, .int r3, .ref a16, .int (iI x14), .int (iI x15), .ref a17, .ref a18, .int (iI x16), .ref a19, .int (iI x17), .int r4, .ref a20, .ref a21, .int (iI x18), .int r5, .ref a22, .int (iI x19), .int (iI x20), .int (iI x21), .int (iI x22)])), (a2, .inl (T 0, 329, .inl (cI f0))), (a15, .inl (T 2, 9, .inl (cI f1)))] H locs := w
    refine lv_if_eq (tgt := 62) hx hb dX12_canGo_18 (by decide) (fun c_5 => ?_) (fun c_5 => ?_)
    · replace c_5 := (iz_eq (Int.le_trans (by decide) z3_a) (Int.le_trans z3_b (by decide))).mp c_5
      refine lv_iconst (v := iI 0) hx hb dX12_canGo_62 (by decide +kernel) ?_
      exact ret _ 0 _ _ _ _ _ [0, 1, 2] dX12_canGo_63 (by decide +kernel) ⟨rfl, (show (0 : Int) ≤ 0 from by decide), (show (0 : Int) ≤ 1 from by decide)⟩ w (by decide) rfl
    · replace c_5 : ¬ z3 = 0 := fun h => c_5 ((iz_eq (Int.le_trans (by decide) z3_a) (Int.le_trans z3_b (by decide))).mpr h)
      refine lv_aload_n hx hb dX12_canGo_21 rfl (lv_at hl 0 rfl) ?_
      refine r_get (v := .ref a2) M w 0 14 clX12 rfl (by decide) G1477 rfl rfl dX12_canGo_22 ?_
      refine lv_bipush (v := iI 14) hx hb dX12_canGo_25 (by decide +kernel) ?_
      refine lv_iload_n hx hb dX12_canGo_27 rfl (lv_at hl 1 rfl) ?_
      refine r_iadd (v := iI (14 + x0)) M (iI_add _ _) dX12_canGo_28 ?_
      refine r_iald (v := iI (f0 (14 + x0))) M w 1 rfl (iI_in (by omega) (by omega) (by decide)) (cI_at (by omega) (by omega)) dX12_canGo_29 ?_
      have hh6 : (-2147483648) ≤ (f0 (14 + x0)) ∧ (f0 (14 + x0)) ≤ 2147483647 := f0_h.1 (14 + x0)
      refine lv_aload_n hx hb dX12_canGo_30 rfl (lv_at hl 0 rfl) ?_
      refine r_get (v := .ref a2) M w 0 14 clX12 rfl (by decide) G1477 rfl rfl dX12_canGo_31 ?_
      refine lv_iconst (v := iI 5) hx hb dX12_canGo_34 (by decide +kernel) ?_
      refine lv_iload_n hx hb dX12_canGo_35 rfl (lv_at hl 2 rfl) ?_
      refine r_iadd (v := iI (5 + x1)) M (iI_add _ _) dX12_canGo_36 ?_
      refine r_iald (v := iI (f0 (5 + x1))) M w 1 rfl (iI_in (by omega) (by omega) (by decide)) (cI_at (by omega) (by omega)) dX12_canGo_37 ?_
      have hh7 : (-2147483648) ≤ (f0 (5 + x1)) ∧ (f0 (5 + x1)) ≤ 2147483647 := f0_h.1 (5 + x1)
      refine lv_icmp_ne (tgt := 62) hx hb dX12_canGo_38 (by decide) (fun c_8 => ?_) (fun c_8 => ?_)
      · replace c_8 : ¬ (f0 (14 + x0)) = (f0 (5 + x1)) := fun h => c_8 ((iI_eq (by omega) (by omega) (by omega) (by omega)).mpr h)
        refine lv_iconst (v := iI 0) hx hb dX12_canGo_62 (by decide +kernel) ?_
        exact ret _ 0 _ _ _ _ _ [0, 1, 2] dX12_canGo_63 (by decide +kernel) ⟨rfl, (show (0 : Int) ≤ 0 from by decide), (show (0 : Int) ≤ 1 from by decide)⟩ w (by decide) rfl
      · replace c_8 := (iI_eq (by omega) (by omega) (by omega) (by omega)).mp c_8
        refine lv_aload_n hx hb dX12_canGo_41 rfl (lv_at hl 0 rfl) ?_
        refine lv_iload_n hx hb dX12_canGo_42 rfl (lv_at hl 2 rfl) ?_
        refine k_I (ce := 0) (sl := 0) (rest := []) (wr := [(a15, .inl (T 2, 9, .inl (cI f1)))]) (r_V (f := 0) [0, 1] M w V_HookedCityModel_264 G1776 G76 (c72_X12_isTorn l D T _ a0 x1 r0 a1 x2 x3 x4 x5 x6 x7 r1 x8 x9 x10 y0 x11 a2 a3 a4 a5 a6 a7 a8 a9 a10 a11 x12 a12 a13 a14 a15 x13 r2 r3 a16 x14 x15 a17 a18 x16 a19 x17 r4 a20 a21 x18 r5 a22 x19 x20 x21 x22 f0 x1_a x1_b x2_a x2_b x3_a x3_b x4_a x4_b x5_a x5_b x6_a x6_b x7_a x7_b x8_a x8_b x9_a x9_b x10_a x10_b x11_a x11_b x12_a x12_b x13_a x13_b x14_a x14_b x15_a x15_b x16_a x16_b x17_a x17_b x18_a x18_b x19_a x19_b x20_a x20_b x21_a x21_b x22_a x22_b f0_h) 0 clX12 rfl rfl (by decide) rfl hl.1 rfl (Nat.le_of_ble_eq_true rfl) dX12_canGo_43 (by decide) (by decide) (by decide) (by decide)) w [0, 1] [2] rfl rfl (by decide) (by decide) rfl rfl (fun v z9 H locs hp w => ?_)
        have hv : iI z9 = v := hp.1
        subst hv
        have z9_a : 0 ≤ z9 := hp.2.1
        have z9_b : z9 ≤ 1 := hp.2.2
        have w : WD D A s.heap [(a15, .inl (T 2, 9, .inl (cI f1))), (a0, .inr (11, [.int r0, .ref a1, .int (iI x2), .int (iI x3), .int (iI x4), .int (iI x5), .int (iI x6), .int (iI x7), .int r1, .int (iI x8), .int (iI x9), .int (iI x10), .long y0, .int (iI x11), .ref a2, .ref a3, .ref a4, .ref a5, .ref a6, .ref a7, .ref a8, .ref a9, .ref a10, .ref a11, .int (iI x12), .ref a12, .ref a13, .ref a14, .ref a15, .int (iI x13), .int r2, .int r3, .ref a16, .int (iI x14), .int (iI x15), .ref a17, .ref a18, .int (iI x16), .ref a19, .int (iI x17), .int r4, .ref a20, .ref a21, .int (iI x18), .int r5, .ref a22, .int (iI x19), .int (iI x20), .int (iI x21), .int (iI x22)])), (a2, .inl (T 0, 329, .inl (cI f0)))] H locs := w
        refine lv_if_ne (tgt := 62) hx hb dX12_canGo_46 (by decide) (fun c_10 => ?_) (fun c_10 => ?_)
        · replace c_10 : ¬ z9 = 0 := fun h => c_10 ((iz_eq (Int.le_trans (by decide) z9_a) (Int.le_trans z9_b (by decide))).mpr h)
          refine lv_iconst (v := iI 0) hx hb dX12_canGo_62 (by decide +kernel) ?_
          exact ret _ 0 _ _ _ _ _ [1, 2, 0] dX12_canGo_63 (by decide +kernel) ⟨rfl, (show (0 : Int) ≤ 0 from by decide), (show (0 : Int) ≤ 1 from by decide)⟩ w (by decide) rfl
        · replace c_10 := (iz_eq (Int.le_trans (by decide) z9_a) (Int.le_trans z9_b (by decide))).mp c_10
          refine lv_aload_n hx hb dX12_canGo_49 rfl (lv_at hl 0 rfl) ?_
          refine r_get (v := .ref a15) M w 1 28 clX12 rfl (by decide) G1491 rfl rfl dX12_canGo_50 ?_
          refine lv_iload_n hx hb dX12_canGo_53 rfl (lv_at hl 2 rfl) ?_
          refine r_zald (v := iI (f1 x1)) M w 0 rfl (iI_in (by omega) (by omega) (by decide)) (cI_at (by omega) (by omega)) dX12_canGo_54 ?_
          have hh11 : 0 ≤ (f1 x1) ∧ (f1 x1) ≤ 1 := f1_h x1
          refine lv_if_ne (tgt := 62) hx hb dX12_canGo_55 (by decide) (fun c_12 => ?_) (fun c_12 => ?_)
          · replace c_12 : ¬ (f1 x1) = 0 := fun h => c_12 ((iz_eq (by omega) (by omega)).mpr h)
            refine lv_iconst (v := iI 0) hx hb dX12_canGo_62 (by decide +kernel) ?_
            exact ret _ 0 _ _ _ _ _ [1, 2, 0] dX12_canGo_63 (by decide +kernel) ⟨rfl, (show (0 : Int) ≤ 0 from by decide), (show (0 : Int) ≤ 1 from by decide)⟩ w (by decide) rfl
          · replace c_12 := (iz_eq (by omega) (by omega)).mp c_12
            refine lv_iconst (v := iI 1) hx hb dX12_canGo_58 (by decide +kernel) ?_
            refine lv_goto (tgt := 63) hx hb dX12_canGo_59 (by decide) ?_
            exact ret _ 1 _ _ _ _ _ [1, 2, 0] dX12_canGo_63 (by decide +kernel) ⟨rfl, (show (0 : Int) ≤ 1 from by decide), (show (1 : Int) ≤ 1 from by decide)⟩ w (by decide) rfl
set_option maxRecDepth 100000 in
set_option maxHeartbeats 4000000 in
theorem c138_X12_findsLoop (l : Launch) (D : va_G) (T : Nat → ClassId) (sz : Nat) (a0 : Nat) (x0 : Int) (r0 : Int32) (a1 : Nat) (x1 : Int) (x2 : Int) (x3 : Int) (x4 : Int) (x5 : Int) (x6 : Int) (r1 : Int32) (x7 : Int) (x8 : Int) (x9 : Int) (y0 : Int64) (x10 : Int) (a2 : Nat) (a3 : Nat) (a4 : Nat) (a5 : Nat) (a6 : Nat) (a7 : Nat) (a8 : Nat) (a9 : Nat) (a10 : Nat) (a11 : Nat) (x11 : Int) (a12 : Nat) (a13 : Nat) (a14 : Nat) (a15 : Nat) (x12 : Int) (r2 : Int32) (r3 : Int32) (a16 : Nat) (x13 : Int) (x14 : Int) (a17 : Nat) (a18 : Nat) (x15 : Int) (a19 : Nat) (x16 : Int) (r4 : Int32) (a20 : Nat) (a21 : Nat) (x17 : Int) (r5 : Int32) (a22 : Nat) (x18 : Int) (x19 : Int) (x20 : Int) (x21 : Int) (f0 : Int → Int) (f1 : Int → Int) (f2 : Int → Int) (x0_a : 0 ≤ x0) (x0_b : x0 ≤ 8) (x1_a : 0 ≤ x1) (x1_b : x1 ≤ 940) (x2_a : 0 ≤ x2) (x2_b : x2 ≤ 940) (x3_a : 0 ≤ x3) (x3_b : x3 ≤ 940) (x4_a : 0 ≤ x4) (x4_b : x4 ≤ 940) (x5_a : 0 ≤ x5) (x5_b : x5 ≤ 940) (x6_a : 0 ≤ x6) (x6_b : x6 ≤ 4) (x7_a : (-2147483648) ≤ x7) (x7_b : x7 ≤ 2147483647) (x8_a : (-2147483648) ≤ x8) (x8_b : x8 ≤ 2147483647) (x9_a : 0 ≤ x9) (x9_b : x9 ≤ 940) (x10_a : (-2147483648) ≤ x10) (x10_b : x10 ≤ 2147483647) (x11_a : 0 ≤ x11) (x11_b : x11 ≤ 8) (x12_a : 0 ≤ x12) (x12_b : x12 ≤ 9) (x13_a : (-1) ≤ x13) (x13_b : x13 ≤ 9) (x14_a : (-1) ≤ x14) (x14_b : x14 ≤ 8) (x15_a : 0 ≤ x15) (x15_b : x15 ≤ 9) (x16_a : 0 ≤ x16) (x16_b : x16 ≤ 64) (x17_a : 0 ≤ x17) (x17_b : x17 ≤ 40) (x18_a : 0 ≤ x18) (x18_b : x18 ≤ 40) (x19_a : 0 ≤ x19) (x19_b : x19 ≤ 20) (x20_a : 0 ≤ x20) (x20_b : x20 ≤ 8) (x21_a : 0 ≤ x21) (x21_b : x21 ≤ 39) (f0_h : nowI f0) (f1_h : rng 0 1 f1) (f2_h : rng 0 1 f2) (pp_n : cn f1 ≤ 0) : Met l yX12_findsLoop (Cond.code yX12_findsLoop cX12_findsLoop 3 (some .boolean) :: GW) (Rm 2 0 0) (cPre [.ref a0, .int (iI x0)] D T [(a0, .inr (11, [.int r0, .ref a1, .int (iI x1), .int (iI x2), .int (iI x3), .int (iI x4), .int (iI x5), .int (iI x6), .int r1, .int (iI x7), .int (iI x8), .int (iI x9), .long y0, .int (iI x10), .ref a2, .ref a3, .ref a4, .ref a5, .ref a6, .ref a7, .ref a8, .ref a9, .ref a10, .ref a11, .int (iI x11), .ref a12, .ref a13, .ref a14, .ref a15, .int (iI x12), .int r2, .int r3, .ref a16, .int (iI x13), .int (iI x14), .ref a17, .ref a18, .int (iI x15), .ref a19, .int (iI x16), .int r4, .ref a20, .ref a21, .int (iI x17), .int r5, .ref a22, .int (iI x18), .int (iI x19), .int (iI x20), .int (iI x21)])), (a2, .inl (T 0, 329, .inl (cI f0))), (a14, .inl (T 2, 9, .inl (cI f1))), (a15, .inl (T 2, 9, .inl (cI f2)))] sz) (qI D [(a0, .inr (11, [.int r0, .ref a1, .int (iI x1), .int (iI x2), .int (iI x3), .int (iI x4), .int (iI x5), .int (iI x6), .int r1, .int (iI x7), .int (iI x8), .int (iI x9), .long y0, .int (iI x10), .ref a2, .ref a3, .ref a4, .ref a5, .ref a6, .ref a7, .ref a8, .ref a9, .ref a10, .ref a11, .int (iI x11), .ref a12, .ref a13, .ref a14, .ref a15, .int (iI x12), .int r2, .int r3, .ref a16, .int (iI x13), .int (iI x14), .ref a17, .ref a18, .int (iI x15), .ref a19, .int (iI x16), .int r4, .ref a20, .ref a21, .int (iI x17), .int r5, .ref a22, .int (iI x18), .int (iI x19), .int (iI x20), .int (iI x21)])), (a2, .inl (T 0, 329, .inl (cI f0))), (a14, .inl (T 2, 9, .inl (cI f1))), (a15, .inl (T 2, 9, .inl (cI f2)))] sz (fun (v : Int32) (u : Int) => iI u = v ∧ 0 ≤ u ∧ u ≤ 1 ∧ (sb f1 f1)) (fun u => [(a0, .inr (11, [.int r0, .ref a1, .int (iI x1), .int (iI x2), .int (iI x3), .int (iI x4), .int (iI x5), .int (iI x6), .int r1, .int (iI x7), .int (iI x8), .int (iI x9), .long y0, .int (iI x10), .ref a2, .ref a3, .ref a4, .ref a5, .ref a6, .ref a7, .ref a8, .ref a9, .ref a10, .ref a11, .int (iI x11), .ref a12, .ref a13, .ref a14, .ref a15, .int (iI x12), .int r2, .int r3, .ref a16, .int (iI x13), .int (iI x14), .ref a17, .ref a18, .int (iI x15), .ref a19, .int (iI x16), .int r4, .ref a20, .ref a21, .int (iI x17), .int r5, .ref a22, .int (iI x18), .int (iI x19), .int (iI x20), .int (iI x21)])), (a2, .inl (T 0, 329, .inl (cI f0))), (a14, .inl (T 2, 9, .inl (cI f1))), (a15, .inl (T 2, 9, .inl (cI f2)))])) 0 0 (va_A [(a0, .inr (11, [.int r0, .ref a1, .int (iI x1), .int (iI x2), .int (iI x3), .int (iI x4), .int (iI x5), .int (iI x6), .int r1, .int (iI x7), .int (iI x8), .int (iI x9), .long y0, .int (iI x10), .ref a2, .ref a3, .ref a4, .ref a5, .ref a6, .ref a7, .ref a8, .ref a9, .ref a10, .ref a11, .int (iI x11), .ref a12, .ref a13, .ref a14, .ref a15, .int (iI x12), .int r2, .int r3, .ref a16, .int (iI x13), .int (iI x14), .ref a17, .ref a18, .int (iI x15), .ref a19, .int (iI x16), .int r4, .ref a20, .ref a21, .int (iI x17), .int r5, .ref a22, .int (iI x18), .int (iI x19), .int (iI x20), .int (iI x21)])), (a2, .inl (T 0, 329, .inl (cI f0))), (a14, .inl (T 2, 9, .inl (cI f1))), (a15, .inl (T 2, 9, .inl (cI f2)))] sz) := by
  refine e_Z (by decide) (Nat.le_of_ble_eq_true rfl) ?_
  intro p e s m args below meth c A Q ls M hin w ret hl
  have hx := M.1.1
  have hb := M.1.2.1
  have hl : lv_has ls 3 [(0, .ref a0), (1, .int (iI x0))] := hl
  refine lv_iconst (v := iI 0) hx hb dX12_findsLoop_0 (by decide +kernel) ?_
  refine lv_istore_n (lv' := [(2, .int (iI 0)), (0, .ref a0), (1, .int (iI x0))]) hx hb dX12_findsLoop_1 rfl hl (by decide) rfl (fun ls hl => ?_)
  have loop1 : ∀ (k1 : Nat) (z1 : Int) (H : Heap) (locs : List Loc) (ls : Array Slot), 0 ≤ z1 → z1 ≤ 9 → sb f1 f1 → ((9 - z1) : Int).toNat < k1 → WD D A s.heap [(a0, .inr (11, [.int r0, .ref a1, .int (iI x1), .int (iI x2), .int (iI x3), .int (iI x4), .int (iI x5), .int (iI x6), .int r1, .int (iI x7), .int (iI x8), .int (iI x9), .long y0, .int (iI x10), .ref a2, .ref a3, .ref a4, .ref a5, .ref a6, .ref a7, .ref a8, .ref a9, .ref a10, .ref a11, .int (iI x11), .ref a12, .ref a13, .ref a14, .ref a15, .int (iI x12), .int r2, .int r3, .ref a16, .int (iI x13), .int (iI x14), .ref a17, .ref a18, .int (iI x15), .ref a19, .int (iI x16), .int r4, .ref a20, .ref a21, .int (iI x17), .int r5, .ref a22, .int (iI x18), .int (iI x19), .int (iI x20), .int (iI x21)])), (a2, .inl (T 0, 329, .inl (cI f0))), (a14, .inl (T 2, 9, .inl (cI f1))), (a15, .inl (T 2, 9, .inl (cI f2)))] H locs → lv_has ls 3 [(2, .int (iI z1)), (0, .ref a0), (1, .int (iI x0))] → W p l e (Rm 2 0 0) s m args below meth c H locs 0 0 Q (F0 m 2 ls []) := by
    intro k1
    induction k1 with
    | zero => intro z1 H locs ls z1_a z1_b lq1_s hm; exact absurd hm (Nat.not_lt_zero _)
    | succ k1 ih1 =>
      intro z1 H locs ls z1_a z1_b lq1_s hm1 w hl
      refine lv_iload_n hx hb dX12_findsLoop_2 rfl (lv_at hl 0 rfl) ?_
      refine lv_aload_n hx hb dX12_findsLoop_3 rfl (lv_at hl 1 rfl) ?_
      refine r_get (v := .ref a2) M w 0 14 clX12 rfl (by decide) G1477 rfl rfl dX12_findsLoop_4 ?_
      refine lv_iconst (v := iI 0) hx hb dX12_findsLoop_7 (by decide +kernel) ?_
      refine r_iald (v := iI (f0 0)) M w 1 rfl (iI_in (by decide) (by decide) (by decide)) (cI_at (by omega) (by omega)) dX12_findsLoop_8 ?_
      have hh2 : (-2147483648) ≤ (f0 0) ∧ (f0 0) ≤ 2147483647 := f0_h.1 0
      have hh3 : 0 ≤ (f0 0) ∧ (f0 0) ≤ 9 := (f0_h.2.1 0).1 (by omega)
      refine lv_icmp_ge (tgt := 81) hx hb dX12_findsLoop_9 (by decide) (fun c_4 => ?_) (fun c_4 => ?_)
      · replace c_4 := (iI_le (by omega) (by omega) (Int.le_trans (by decide) z1_a) (Int.le_trans z1_b (by decide))).mp c_4
        refine lv_iconst (v := iI 0) hx hb dX12_findsLoop_81 (by decide +kernel) ?_
        exact ret _ 0 _ _ _ _ _ [0, 1, 2, 3] dX12_findsLoop_82 (by decide +kernel) ⟨rfl, (show (0 : Int) ≤ 0 from by decide), (show (0 : Int) ≤ 1 from by decide), (show sb f1 f1 from lq1_s)⟩ w (by decide) rfl
      · replace c_4 : z1 < (f0 0) := Int.not_le.mp (fun h => c_4 ((iI_le (by omega) (by omega) (Int.le_trans (by decide) z1_a) (Int.le_trans z1_b (by decide))).mpr h))
        refine lv_aload_n hx hb dX12_findsLoop_12 rfl (lv_at hl 1 rfl) ?_
        refine lv_iload_n hx hb dX12_findsLoop_13 rfl (lv_at hl 2 rfl) ?_
        refine lv_iload_n hx hb dX12_findsLoop_14 rfl (lv_at hl 0 rfl) ?_
        refine k_I (ce := 0) (sl := 0) (rest := []) (wr := [(a14, .inl (T 2, 9, .inl (cI f1)))]) (r_V (f := 1) [0, 1, 3] M w V_HookedCityModel_310 G1875 G91 (c137_X12_canGo l D T _ a0 x0 z1 r0 a1 x1 x2 x3 x4 x5 x6 r1 x7 x8 x9 y0 x10 a2 a3 a4 a5 a6 a7 a8 a9 a10 a11 x11 a12 a13 a14 a15 x12 r2 r3 a16 x13 x14 a17 a18 x15 a19 x16 r4 a20 a21 x17 r5 a22 x18 x19 x20 x21 f0 f2 x0_a x0_b (by omega) (by omega) x1_a x1_b x2_a x2_b x3_a x3_b x4_a x4_b x5_a x5_b x6_a x6_b x7_a x7_b x8_a x8_b x9_a x9_b x10_a x10_b x11_a x11_b x12_a x12_b x13_a x13_b x14_a x14_b x15_a x15_b x16_a x16_b x17_a x17_b x18_a x18_b x19_a x19_b x20_a x20_b x21_a x21_b f0_h f2_h) 0 clX12 rfl rfl (by decide) rfl hl.1 rfl (Nat.le_of_ble_eq_true rfl) dX12_findsLoop_15 (by decide) (by decide) (by decide) (by decide)) w [0, 1, 3] [2] rfl rfl (by decide) (by decide) rfl rfl (fun v z5 H locs hp w => ?_)
        have hv : iI z5 = v := hp.1
        subst hv
        have z5_a : 0 ≤ z5 := hp.2.1
        have z5_b : z5 ≤ 1 := hp.2.2
        have w : WD D A s.heap [(a14, .inl (T 2, 9, .inl (cI f1))), (a0, .inr (11, [.int r0, .ref a1, .int (iI x1), .int (iI x2), .int (iI x3), .int (iI x4), .int (iI x5), .int (iI x6), .int r1, .int (iI x7), .int (iI x8), .int (iI x9), .long y0, .int (iI x10), .ref a2, .ref a3, .ref a4, .ref a5, .ref a6, .ref a7, .ref a8, .ref a9, .ref a10, .ref a11, .int (iI x11), .ref a12, .ref a13, .ref a14, .ref a15, .int (iI x12), .int r2, .int r3, .ref a16, .int (iI x13), .int (iI x14), .ref a17, .ref a18, .int (iI x15), .ref a19, .int (iI x16), .int r4, .ref a20, .ref a21, .int (iI x17), .int r5, .ref a22, .int (iI x18), .int (iI x19), .int (iI x20), .int (iI x21)])), (a2, .inl (T 0, 329, .inl (cI f0))), (a15, .inl (T 2, 9, .inl (cI f2)))] H locs := w
        refine lv_if_eq (tgt := 75) hx hb dX12_findsLoop_18 (by decide) (fun c_6 => ?_) (fun c_6 => ?_)
        · replace c_6 := (iz_eq (Int.le_trans (by decide) z5_a) (Int.le_trans z5_b (by decide))).mp c_6
          refine lv_iinc (v := iI (z1 + 1)) (lv' := [(2, .int (iI (z1 + 1))), (0, .ref a0), (1, .int (iI x0))]) hx hb dX12_findsLoop_75 hl (k := 0) rfl (ii_inc (by decide +kernel)) (by decide) rfl (fun ls hl => ?_)
          refine lv_goto (tgt := 2) hx hb dX12_findsLoop_78 (by decide) ?_
          exact ih1 (z1 + 1) _ _ _ (by omega) (by omega) lq1_s (by omega) (w.sub [1, 2, 0, 3] (by decide) rfl) (lv_sub hl [0, 1, 2] rfl)
        · replace c_6 : ¬ z5 = 0 := fun h => c_6 ((iz_eq (Int.le_trans (by decide) z5_a) (Int.le_trans z5_b (by decide))).mpr h)
          refine lv_aload_n hx hb dX12_findsLoop_21 rfl (lv_at hl 1 rfl) ?_
          refine r_get (v := .ref a14) M w 1 27 clX12 rfl (by decide) G1490 rfl rfl dX12_findsLoop_22 ?_
          refine lv_iload_n hx hb dX12_findsLoop_25 rfl (lv_at hl 0 rfl) ?_
          refine r_zald (v := iI (f1 z1)) M w 0 rfl (iI_in (by omega) (by omega) (by decide)) (cI_at (by omega) (by omega)) dX12_findsLoop_26 ?_
          have hh7 : 0 ≤ (f1 z1) ∧ (f1 z1) ≤ 1 := f1_h z1
          refine lv_if_eq (tgt := 33) hx hb dX12_findsLoop_27 (by decide) (fun c_8 => ?_) (fun c_8 => ?_)
          · replace c_8 := (iz_eq (by omega) (by omega)).mp c_8
            exfalso; have e8 := cn_m (sb_r (f := f1)); have e9 := cn_u (f := f1) (k := z1) (by omega) (by omega) (by omega); omega
          · replace c_8 : ¬ (f1 z1) = 0 := fun h => c_8 ((iz_eq (by omega) (by omega)).mpr h)
            refine lv_goto (tgt := 75) hx hb dX12_findsLoop_30 (by decide) ?_
            refine lv_iinc (v := iI (z1 + 1)) (lv' := [(2, .int (iI (z1 + 1))), (0, .ref a0), (1, .int (iI x0))]) hx hb dX12_findsLoop_75 hl (k := 0) rfl (ii_inc (by decide +kernel)) (by decide) rfl (fun ls hl => ?_)
            refine lv_goto (tgt := 2) hx hb dX12_findsLoop_78 (by decide) ?_
            exact ih1 (z1 + 1) _ _ _ (by omega) (by omega) lq1_s (by omega) (w.sub [1, 2, 0, 3] (by decide) rfl) (lv_sub hl [0, 1, 2] rfl)
  exact loop1 ((9 : Int).toNat + 1) 0 _ _ _ (by decide) (by decide) sb_r (Nat.lt_succ_self _) w (lv_sub hl [0, 1, 2] rfl)
set_option maxRecDepth 100000 in
set_option maxHeartbeats 4000000 in
theorem c139_X12_findsLoop (l : Launch) (D : va_G) (T : Nat → ClassId) (sz : Nat) (a0 : Nat) (x0 : Int) (r0 : Int32) (a1 : Nat) (x1 : Int) (x2 : Int) (x3 : Int) (x4 : Int) (x5 : Int) (x6 : Int) (r1 : Int32) (x7 : Int) (x8 : Int) (x9 : Int) (y0 : Int64) (x10 : Int) (a2 : Nat) (a3 : Nat) (a4 : Nat) (a5 : Nat) (a6 : Nat) (a7 : Nat) (a8 : Nat) (a9 : Nat) (a10 : Nat) (a11 : Nat) (x11 : Int) (a12 : Nat) (a13 : Nat) (a14 : Nat) (a15 : Nat) (x12 : Int) (r2 : Int32) (r3 : Int32) (a16 : Nat) (x13 : Int) (x14 : Int) (a17 : Nat) (a18 : Nat) (x15 : Int) (a19 : Nat) (x16 : Int) (r4 : Int32) (a20 : Nat) (a21 : Nat) (x17 : Int) (r5 : Int32) (a22 : Nat) (x18 : Int) (x19 : Int) (x20 : Int) (x21 : Int) (f0 : Int → Int) (f1 : Int → Int) (f2 : Int → Int) (f3 : Int → Int) (x0_a : 0 ≤ x0) (x0_b : x0 ≤ 8) (x1_a : 0 ≤ x1) (x1_b : x1 ≤ 940) (x2_a : 0 ≤ x2) (x2_b : x2 ≤ 940) (x3_a : 0 ≤ x3) (x3_b : x3 ≤ 940) (x4_a : 0 ≤ x4) (x4_b : x4 ≤ 940) (x5_a : 0 ≤ x5) (x5_b : x5 ≤ 940) (x6_a : 0 ≤ x6) (x6_b : x6 ≤ 4) (x7_a : (-2147483648) ≤ x7) (x7_b : x7 ≤ 2147483647) (x8_a : (-2147483648) ≤ x8) (x8_b : x8 ≤ 2147483647) (x9_a : 0 ≤ x9) (x9_b : x9 ≤ 940) (x10_a : (-2147483648) ≤ x10) (x10_b : x10 ≤ 2147483647) (x11_a : 0 ≤ x11) (x11_b : x11 ≤ 8) (x12_a : 0 ≤ x12) (x12_b : x12 ≤ 9) (x13_a : (-1) ≤ x13) (x13_b : x13 ≤ 9) (x14_a : (-1) ≤ x14) (x14_b : x14 ≤ 8) (x15_a : 0 ≤ x15) (x15_b : x15 ≤ 9) (x16_a : 0 ≤ x16) (x16_b : x16 ≤ 64) (x17_a : 0 ≤ x17) (x17_b : x17 ≤ 40) (x18_a : 0 ≤ x18) (x18_b : x18 ≤ 40) (x19_a : 0 ≤ x19) (x19_b : x19 ≤ 20) (x20_a : 0 ≤ x20) (x20_b : x20 ≤ 8) (x21_a : 0 ≤ x21) (x21_b : x21 ≤ 39) (f0_h : nowI f0) (f1_h : rng (-1) 8 f1) (f2_h : rng 0 1 f2) (f3_h : rng 0 1 f3) (pp_n : cn f2 ≤ 1) : Met l yX12_findsLoop (Cond.code yX12_findsLoop cX12_findsLoop 3 (some .boolean) :: GW) (Rm 3 0 0) (cPre [.ref a0, .int (iI x0)] D T [(a0, .inr (11, [.int r0, .ref a1, .int (iI x1), .int (iI x2), .int (iI x3), .int (iI x4), .int (iI x5), .int (iI x6), .int r1, .int (iI x7), .int (iI x8), .int (iI x9), .long y0, .int (iI x10), .ref a2, .ref a3, .ref a4, .ref a5, .ref a6, .ref a7, .ref a8, .ref a9, .ref a10, .ref a11, .int (iI x11), .ref a12, .ref a13, .ref a14, .ref a15, .int (iI x12), .int r2, .int r3, .ref a16, .int (iI x13), .int (iI x14), .ref a17, .ref a18, .int (iI x15), .ref a19, .int (iI x16), .int r4, .ref a20, .ref a21, .int (iI x17), .int r5, .ref a22, .int (iI x18), .int (iI x19), .int (iI x20), .int (iI x21)])), (a2, .inl (T 0, 329, .inl (cI f0))), (a12, .inl (T 0, 9, .inl (cI f1))), (a14, .inl (T 2, 9, .inl (cI f2))), (a15, .inl (T 2, 9, .inl (cI f3)))] sz) (qI D [(a0, .inr (11, [.int r0, .ref a1, .int (iI x1), .int (iI x2), .int (iI x3), .int (iI x4), .int (iI x5), .int (iI x6), .int r1, .int (iI x7), .int (iI x8), .int (iI x9), .long y0, .int (iI x10), .ref a2, .ref a3, .ref a4, .ref a5, .ref a6, .ref a7, .ref a8, .ref a9, .ref a10, .ref a11, .int (iI x11), .ref a12, .ref a13, .ref a14, .ref a15, .int (iI x12), .int r2, .int r3, .ref a16, .int (iI x13), .int (iI x14), .ref a17, .ref a18, .int (iI x15), .ref a19, .int (iI x16), .int r4, .ref a20, .ref a21, .int (iI x17), .int r5, .ref a22, .int (iI x18), .int (iI x19), .int (iI x20), .int (iI x21)])), (a2, .inl (T 0, 329, .inl (cI f0))), (a12, .inl (T 0, 9, .inl (cI f1))), (a14, .inl (T 2, 9, .inl (cI f2))), (a15, .inl (T 2, 9, .inl (cI f3)))] sz (fun (v : Int32) (u : Int × (Int → Int) × (Int → Int)) => iI u.1 = v ∧ 0 ≤ u.1 ∧ u.1 ≤ 1 ∧ rng (-1) 8 u.2.1 ∧ rng 0 1 u.2.2 ∧ (sb f2 u.2.2)) (fun u => [(a0, .inr (11, [.int r0, .ref a1, .int (iI x1), .int (iI x2), .int (iI x3), .int (iI x4), .int (iI x5), .int (iI x6), .int r1, .int (iI x7), .int (iI x8), .int (iI x9), .long y0, .int (iI x10), .ref a2, .ref a3, .ref a4, .ref a5, .ref a6, .ref a7, .ref a8, .ref a9, .ref a10, .ref a11, .int (iI x11), .ref a12, .ref a13, .ref a14, .ref a15, .int (iI x12), .int r2, .int r3, .ref a16, .int (iI x13), .int (iI x14), .ref a17, .ref a18, .int (iI x15), .ref a19, .int (iI x16), .int r4, .ref a20, .ref a21, .int (iI x17), .int r5, .ref a22, .int (iI x18), .int (iI x19), .int (iI x20), .int (iI x21)])), (a2, .inl (T 0, 329, .inl (cI f0))), (a12, .inl (T 0, 9, .inl (cI u.2.1))), (a14, .inl (T 2, 9, .inl (cI u.2.2))), (a15, .inl (T 2, 9, .inl (cI f3)))])) 0 0 (va_A [(a0, .inr (11, [.int r0, .ref a1, .int (iI x1), .int (iI x2), .int (iI x3), .int (iI x4), .int (iI x5), .int (iI x6), .int r1, .int (iI x7), .int (iI x8), .int (iI x9), .long y0, .int (iI x10), .ref a2, .ref a3, .ref a4, .ref a5, .ref a6, .ref a7, .ref a8, .ref a9, .ref a10, .ref a11, .int (iI x11), .ref a12, .ref a13, .ref a14, .ref a15, .int (iI x12), .int r2, .int r3, .ref a16, .int (iI x13), .int (iI x14), .ref a17, .ref a18, .int (iI x15), .ref a19, .int (iI x16), .int r4, .ref a20, .ref a21, .int (iI x17), .int r5, .ref a22, .int (iI x18), .int (iI x19), .int (iI x20), .int (iI x21)])), (a2, .inl (T 0, 329, .inl (cI f0))), (a12, .inl (T 0, 9, .inl (cI f1))), (a14, .inl (T 2, 9, .inl (cI f2))), (a15, .inl (T 2, 9, .inl (cI f3)))] sz) := by
  refine e_Z (by decide) (Nat.le_of_ble_eq_true rfl) ?_
  intro p e s m args below meth c A Q ls M hin w ret hl
  have hx := M.1.1
  have hb := M.1.2.1
  have hl : lv_has ls 3 [(0, .ref a0), (1, .int (iI x0))] := hl
  refine lv_iconst (v := iI 0) hx hb dX12_findsLoop_0 (by decide +kernel) ?_
  refine lv_istore_n (lv' := [(2, .int (iI 0)), (0, .ref a0), (1, .int (iI x0))]) hx hb dX12_findsLoop_1 rfl hl (by decide) rfl (fun ls hl => ?_)
  have loop1 : ∀ (k1 : Nat) (ff1 : Int → Int) (z2 : Int) (H : Heap) (locs : List Loc) (ls : Array Slot), rng 0 1 ff1 → 0 ≤ z2 → z2 ≤ 9 → sb f2 ff1 → ((9 - z2) : Int).toNat < k1 → WD D A s.heap [(a0, .inr (11, [.int r0, .ref a1, .int (iI x1), .int (iI x2), .int (iI x3), .int (iI x4), .int (iI x5), .int (iI x6), .int r1, .int (iI x7), .int (iI x8), .int (iI x9), .long y0, .int (iI x10), .ref a2, .ref a3, .ref a4, .ref a5, .ref a6, .ref a7, .ref a8, .ref a9, .ref a10, .ref a11, .int (iI x11), .ref a12, .ref a13, .ref a14, .ref a15, .int (iI x12), .int r2, .int r3, .ref a16, .int (iI x13), .int (iI x14), .ref a17, .ref a18, .int (iI x15), .ref a19, .int (iI x16), .int r4, .ref a20, .ref a21, .int (iI x17), .int r5, .ref a22, .int (iI x18), .int (iI x19), .int (iI x20), .int (iI x21)])), (a2, .inl (T 0, 329, .inl (cI f0))), (a12, .inl (T 0, 9, .inl (cI f1))), (a14, .inl (T 2, 9, .inl (cI ff1))), (a15, .inl (T 2, 9, .inl (cI f3)))] H locs → lv_has ls 3 [(2, .int (iI z2)), (0, .ref a0), (1, .int (iI x0))] → W p l e (Rm 3 0 0) s m args below meth c H locs 0 0 Q (F0 m 2 ls []) := by
    intro k1
    induction k1 with
    | zero => intro ff1 z2 H locs ls ff1_h z2_a z2_b lq1_s hm; exact absurd hm (Nat.not_lt_zero _)
    | succ k1 ih1 =>
      intro ff1 z2 H locs ls ff1_h z2_a z2_b lq1_s hm1 w hl
      refine lv_iload_n hx hb dX12_findsLoop_2 rfl (lv_at hl 0 rfl) ?_
      refine lv_aload_n hx hb dX12_findsLoop_3 rfl (lv_at hl 1 rfl) ?_
      refine r_get (v := .ref a2) M w 0 14 clX12 rfl (by decide) G1477 rfl rfl dX12_findsLoop_4 ?_
      refine lv_iconst (v := iI 0) hx hb dX12_findsLoop_7 (by decide +kernel) ?_
      refine r_iald (v := iI (f0 0)) M w 1 rfl (iI_in (by decide) (by decide) (by decide)) (cI_at (by omega) (by omega)) dX12_findsLoop_8 ?_
      have hh3 : (-2147483648) ≤ (f0 0) ∧ (f0 0) ≤ 2147483647 := f0_h.1 0
      have hh4 : 0 ≤ (f0 0) ∧ (f0 0) ≤ 9 := (f0_h.2.1 0).1 (by omega)
      refine lv_icmp_ge (tgt := 81) hx hb dX12_findsLoop_9 (by decide) (fun c_5 => ?_) (fun c_5 => ?_)
      · replace c_5 := (iI_le (by omega) (by omega) (Int.le_trans (by decide) z2_a) (Int.le_trans z2_b (by decide))).mp c_5
        refine lv_iconst (v := iI 0) hx hb dX12_findsLoop_81 (by decide +kernel) ?_
        exact ret _ (0, f1, ff1) _ _ _ _ _ [0, 1, 2, 3, 4] dX12_findsLoop_82 (by decide +kernel) ⟨rfl, (show (0 : Int) ≤ 0 from by decide), (show (0 : Int) ≤ 1 from by decide), f1_h, ff1_h, (show sb f2 ff1 from lq1_s)⟩ w (by decide) rfl
      · replace c_5 : z2 < (f0 0) := Int.not_le.mp (fun h => c_5 ((iI_le (by omega) (by omega) (Int.le_trans (by decide) z2_a) (Int.le_trans z2_b (by decide))).mpr h))
        refine lv_aload_n hx hb dX12_findsLoop_12 rfl (lv_at hl 1 rfl) ?_
        refine lv_iload_n hx hb dX12_findsLoop_13 rfl (lv_at hl 2 rfl) ?_
        refine lv_iload_n hx hb dX12_findsLoop_14 rfl (lv_at hl 0 rfl) ?_
        refine k_I (ce := 0) (sl := 0) (rest := []) (wr := [(a12, .inl (T 0, 9, .inl (cI f1))), (a14, .inl (T 2, 9, .inl (cI ff1)))]) (r_V (f := 1) [0, 1, 4] M w V_HookedCityModel_310 G1875 G91 (c137_X12_canGo l D T _ a0 x0 z2 r0 a1 x1 x2 x3 x4 x5 x6 r1 x7 x8 x9 y0 x10 a2 a3 a4 a5 a6 a7 a8 a9 a10 a11 x11 a12 a13 a14 a15 x12 r2 r3 a16 x13 x14 a17 a18 x15 a19 x16 r4 a20 a21 x17 r5 a22 x18 x19 x20 x21 f0 f3 x0_a x0_b (by omega) (by omega) x1_a x1_b x2_a x2_b x3_a x3_b x4_a x4_b x5_a x5_b x6_a x6_b x7_a x7_b x8_a x8_b x9_a x9_b x10_a x10_b x11_a x11_b x12_a x12_b x13_a x13_b x14_a x14_b x15_a x15_b x16_a x16_b x17_a x17_b x18_a x18_b x19_a x19_b x20_a x20_b x21_a x21_b f0_h f3_h) 0 clX12 rfl rfl (by decide) rfl hl.1 rfl (Nat.le_of_ble_eq_true rfl) dX12_findsLoop_15 (by decide) (by decide) (by decide) (by decide)) w [0, 1, 4] [2, 3] rfl rfl (by decide) (by decide) rfl rfl (fun v z6 H locs hp w => ?_)
        have hv : iI z6 = v := hp.1
        subst hv
        have z6_a : 0 ≤ z6 := hp.2.1
        have z6_b : z6 ≤ 1 := hp.2.2
        have w : WD D A s.heap [(a12, .inl (T 0, 9, .inl (cI f1))), (a14, .inl (T 2, 9, .inl (cI ff1))), (a0, .inr (11, [.int r0, .ref a1, .int (iI x1), .int (iI x2), .int (iI x3), .int (iI x4), .int (iI x5), .int (iI x6), .int r1, .int (iI x7), .int (iI x8), .int (iI x9), .long y0, .int (iI x10), .ref a2, .ref a3, .ref a4, .ref a5, .ref a6, .ref a7, .ref a8, .ref a9, .ref a10, .ref a11, .int (iI x11), .ref a12, .ref a13, .ref a14, .ref a15, .int (iI x12), .int r2, .int r3, .ref a16, .int (iI x13), .int (iI x14), .ref a17, .ref a18, .int (iI x15), .ref a19, .int (iI x16), .int r4, .ref a20, .ref a21, .int (iI x17), .int r5, .ref a22, .int (iI x18), .int (iI x19), .int (iI x20), .int (iI x21)])), (a2, .inl (T 0, 329, .inl (cI f0))), (a15, .inl (T 2, 9, .inl (cI f3)))] H locs := w
        refine lv_if_eq (tgt := 75) hx hb dX12_findsLoop_18 (by decide) (fun c_7 => ?_) (fun c_7 => ?_)
        · replace c_7 := (iz_eq (Int.le_trans (by decide) z6_a) (Int.le_trans z6_b (by decide))).mp c_7
          refine lv_iinc (v := iI (z2 + 1)) (lv' := [(2, .int (iI (z2 + 1))), (0, .ref a0), (1, .int (iI x0))]) hx hb dX12_findsLoop_75 hl (k := 0) rfl (ii_inc (by decide +kernel)) (by decide) rfl (fun ls hl => ?_)
          refine lv_goto (tgt := 2) hx hb dX12_findsLoop_78 (by decide) ?_
          exact ih1 ff1 (z2 + 1) _ _ _ ff1_h (by omega) (by omega) lq1_s (by omega) (w.sub [2, 3, 0, 1, 4] (by decide) rfl) (lv_sub hl [0, 1, 2] rfl)
        · replace c_7 : ¬ z6 = 0 := fun h => c_7 ((iz_eq (Int.le_trans (by decide) z6_a) (Int.le_trans z6_b (by decide))).mpr h)
          refine lv_aload_n hx hb dX12_findsLoop_21 rfl (lv_at hl 1 rfl) ?_
          refine r_get (v := .ref a14) M w 2 27 clX12 rfl (by decide) G1490 rfl rfl dX12_findsLoop_22 ?_
          refine lv_iload_n hx hb dX12_findsLoop_25 rfl (lv_at hl 0 rfl) ?_
          refine r_zald (v := iI (ff1 z2)) M w 1 rfl (iI_in (by omega) (by omega) (by decide)) (cI_at (by omega) (by omega)) dX12_findsLoop_26 ?_
          have hh8 : 0 ≤ (ff1 z2) ∧ (ff1 z2) ≤ 1 := ff1_h z2
          refine lv_if_eq (tgt := 33) hx hb dX12_findsLoop_27 (by decide) (fun c_9 => ?_) (fun c_9 => ?_)
          · replace c_9 := (iz_eq (by omega) (by omega)).mp c_9
            refine lv_aload_n hx hb dX12_findsLoop_33 rfl (lv_at hl 1 rfl) ?_
            refine r_get (v := .ref a14) M w 2 27 clX12 rfl (by decide) G1490 rfl rfl dX12_findsLoop_34 ?_
            refine lv_iload_n hx hb dX12_findsLoop_37 rfl (lv_at hl 0 rfl) ?_
            refine lv_iconst (v := iI 1) hx hb dX12_findsLoop_38 (by decide +kernel) ?_
            refine r_zast (x2 := iI 1) (ws' := [(a12, .inl (T 0, 9, .inl (cI f1))), (a14, .inl (T 2, 9, .inl (cI (upz ff1 z2 1)))), (a0, .inr (11, [.int r0, .ref a1, .int (iI x1), .int (iI x2), .int (iI x3), .int (iI x4), .int (iI x5), .int (iI x6), .int r1, .int (iI x7), .int (iI x8), .int (iI x9), .long y0, .int (iI x10), .ref a2, .ref a3, .ref a4, .ref a5, .ref a6, .ref a7, .ref a8, .ref a9, .ref a10, .ref a11, .int (iI x11), .ref a12, .ref a13, .ref a14, .ref a15, .int (iI x12), .int r2, .int r3, .ref a16, .int (iI x13), .int (iI x14), .ref a17, .ref a18, .int (iI x15), .ref a19, .int (iI x16), .int r4, .ref a20, .ref a21, .int (iI x17), .int r5, .ref a22, .int (iI x18), .int (iI x19), .int (iI x20), .int (iI x21)])), (a2, .inl (T 0, 329, .inl (cI f0))), (a15, .inl (T 2, 9, .inl (cI f3)))]) M w 1 rfl (iI_in (by omega) (by omega) (by decide)) (nb_z (by omega) (by omega)) (by rw [cI_up (by omega) (by omega)]; rfl) dX12_findsLoop_39 (fun H locs w => ?_)
            refine lv_aload_n hx hb dX12_findsLoop_40 rfl (lv_at hl 1 rfl) ?_
            refine r_get (v := .ref a12) M w 2 25 clX12 rfl (by decide) G1488 rfl rfl dX12_findsLoop_41 ?_
            refine lv_iload_n hx hb dX12_findsLoop_44 rfl (lv_at hl 0 rfl) ?_
            refine r_iald (v := iI (f1 z2)) M w 0 rfl (iI_in (by omega) (by omega) (by decide)) (cI_at (by omega) (by omega)) dX12_findsLoop_45 ?_
            have hh10 : (-1) ≤ (f1 z2) ∧ (f1 z2) ≤ 8 := f1_h z2
            refine lv_iconst (v := iI (-1)) hx hb dX12_findsLoop_46 (by decide +kernel) ?_
            refine lv_icmp_eq (tgt := 66) hx hb dX12_findsLoop_47 (by decide) (fun c_11 => ?_) (fun c_11 => ?_)
            · replace c_11 := (iI_eq (by omega) (by omega) (by decide) (by decide)).mp c_11
              refine lv_aload_n hx hb dX12_findsLoop_66 rfl (lv_at hl 1 rfl) ?_
              refine r_get (v := .ref a12) M w 2 25 clX12 rfl (by decide) G1488 rfl rfl dX12_findsLoop_67 ?_
              refine lv_iload_n hx hb dX12_findsLoop_70 rfl (lv_at hl 0 rfl) ?_
              refine lv_iload_n hx hb dX12_findsLoop_71 rfl (lv_at hl 2 rfl) ?_
              refine r_iast (ws' := [(a12, .inl (T 0, 9, .inl (cI (upz f1 z2 x0)))), (a14, .inl (T 2, 9, .inl (cI (upz ff1 z2 1)))), (a0, .inr (11, [.int r0, .ref a1, .int (iI x1), .int (iI x2), .int (iI x3), .int (iI x4), .int (iI x5), .int (iI x6), .int r1, .int (iI x7), .int (iI x8), .int (iI x9), .long y0, .int (iI x10), .ref a2, .ref a3, .ref a4, .ref a5, .ref a6, .ref a7, .ref a8, .ref a9, .ref a10, .ref a11, .int (iI x11), .ref a12, .ref a13, .ref a14, .ref a15, .int (iI x12), .int r2, .int r3, .ref a16, .int (iI x13), .int (iI x14), .ref a17, .ref a18, .int (iI x15), .ref a19, .int (iI x16), .int r4, .ref a20, .ref a21, .int (iI x17), .int r5, .ref a22, .int (iI x18), .int (iI x19), .int (iI x20), .int (iI x21)])), (a2, .inl (T 0, 329, .inl (cI f0))), (a15, .inl (T 2, 9, .inl (cI f3)))]) M w 0 rfl (iI_in (by omega) (by omega) (by decide)) (by rw [cI_up (by omega) (by omega)]; rfl) dX12_findsLoop_72 (fun H locs w => ?_)
              refine lv_iconst (v := iI 1) hx hb dX12_findsLoop_73 (by decide +kernel) ?_
              exact ret _ (1, (upz f1 z2 x0), (upz ff1 z2 1)) _ _ _ _ _ [2, 3, 0, 1, 4] dX12_findsLoop_74 (by decide +kernel) ⟨rfl, (show (0 : Int) ≤ 1 from by decide), (show (1 : Int) ≤ 1 from by decide), (rng_up f1_h (by omega) (by omega)), (rng_up ff1_h (by omega) (by omega)), (show sb f2 (upz ff1 z2 1) from (sb_u lq1_s))⟩ w (by decide) rfl
            · replace c_11 : ¬ (f1 z2) = (-1) := fun h => c_11 ((iI_eq (by omega) (by omega) (by decide) (by decide)).mpr h)
              refine lv_aload_n hx hb dX12_findsLoop_50 rfl (lv_at hl 1 rfl) ?_
              refine lv_aload_n hx hb dX12_findsLoop_51 rfl (lv_at hl 1 rfl) ?_
              refine r_get (v := .ref a12) M w 2 25 clX12 rfl (by decide) G1488 rfl rfl dX12_findsLoop_52 ?_
              refine lv_iload_n hx hb dX12_findsLoop_55 rfl (lv_at hl 0 rfl) ?_
              refine r_iald (v := iI (f1 z2)) M w 0 rfl (iI_in (by omega) (by omega) (by decide)) (cI_at (by omega) (by omega)) dX12_findsLoop_56 ?_
              have hh12 : (-1) ≤ (f1 z2) ∧ (f1 z2) ≤ 8 := f1_h z2
              refine k_I (ce := 0) (sl := 0) (rest := []) (wr := [(a12, .inl (T 0, 9, .inl (cI f1)))]) (r_V (f := 2) [2, 3, 1, 4] M w V_HookedCityModel_313 G1871 G90 (c138_X12_findsLoop l D T _ a0 (f1 z2) r0 a1 x1 x2 x3 x4 x5 x6 r1 x7 x8 x9 y0 x10 a2 a3 a4 a5 a6 a7 a8 a9 a10 a11 x11 a12 a13 a14 a15 x12 r2 r3 a16 x13 x14 a17 a18 x15 a19 x16 r4 a20 a21 x17 r5 a22 x18 x19 x20 x21 f0 (upz ff1 z2 1) f3 (by omega) (by omega) x1_a x1_b x2_a x2_b x3_a x3_b x4_a x4_b x5_a x5_b x6_a x6_b x7_a x7_b x8_a x8_b x9_a x9_b x10_a x10_b x11_a x11_b x12_a x12_b x13_a x13_b x14_a x14_b x15_a x15_b x16_a x16_b x17_a x17_b x18_a x18_b x19_a x19_b x20_a x20_b x21_a x21_b f0_h (rng_up ff1_h (by omega) (by omega)) f3_h (by have e8 := cn_m lq1_s; have e9 := cn_u (f := ff1) (k := z2) (by omega) (by omega) (by omega); omega)) 2 clX12 rfl rfl (by decide) rfl hl.1 rfl (Nat.le_of_ble_eq_true rfl) dX12_findsLoop_57 (by decide) (by decide) (by decide) (by decide)) w [2, 3, 1, 4] [0] rfl rfl (by decide) (by decide) rfl rfl (fun v z13 H locs hp w => ?_)
              have hv : iI z13 = v := hp.1
              subst hv
              have z13_a : 0 ≤ z13 := hp.2.1
              have z13_b : z13 ≤ 1 := hp.2.2.1
              have pq14 : sb (upz ff1 z2 1) (upz ff1 z2 1) := hp.2.2.2
              have w : WD D A s.heap [(a12, .inl (T 0, 9, .inl (cI f1))), (a0, .inr (11, [.int r0, .ref a1, .int (iI x1), .int (iI x2), .int (iI x3), .int (iI x4), .int (iI x5), .int (iI x6), .int r1, .int (iI x7), .int (iI x8), .int (iI x9), .long y0, .int (iI x10), .ref a2, .ref a3, .ref a4, .ref a5, .ref a6, .ref a7, .ref a8, .ref a9, .ref a10, .ref a11, .int (iI x11), .ref a12, .ref a13, .ref a14, .ref a15, .int (iI x12), .int r2, .int r3, .ref a16, .int (iI x13), .int (iI x14), .ref a17, .ref a18, .int (iI x15), .ref a19, .int (iI x16), .int r4, .ref a20, .ref a21, .int (iI x17), .int r5, .ref a22, .int (iI x18), .int (iI x19), .int (iI x20), .int (iI x21)])), (a2, .inl (T 0, 329, .inl (cI f0))), (a14, .inl (T 2, 9, .inl (cI (upz ff1 z2 1)))), (a15, .inl (T 2, 9, .inl (cI f3)))] H locs := w
              refine lv_if_ne (tgt := 66) hx hb dX12_findsLoop_60 (by decide) (fun c_15 => ?_) (fun c_15 => ?_)
              · replace c_15 : ¬ z13 = 0 := fun h => c_15 ((iz_eq (Int.le_trans (by decide) z13_a) (Int.le_trans z13_b (by decide))).mpr h)
                refine lv_aload_n hx hb dX12_findsLoop_66 rfl (lv_at hl 1 rfl) ?_
                refine r_get (v := .ref a12) M w 1 25 clX12 rfl (by decide) G1488 rfl rfl dX12_findsLoop_67 ?_
                refine lv_iload_n hx hb dX12_findsLoop_70 rfl (lv_at hl 0 rfl) ?_
                refine lv_iload_n hx hb dX12_findsLoop_71 rfl (lv_at hl 2 rfl) ?_
                refine r_iast (ws' := [(a12, .inl (T 0, 9, .inl (cI (upz f1 z2 x0)))), (a0, .inr (11, [.int r0, .ref a1, .int (iI x1), .int (iI x2), .int (iI x3), .int (iI x4), .int (iI x5), .int (iI x6), .int r1, .int (iI x7), .int (iI x8), .int (iI x9), .long y0, .int (iI x10), .ref a2, .ref a3, .ref a4, .ref a5, .ref a6, .ref a7, .ref a8, .ref a9, .ref a10, .ref a11, .int (iI x11), .ref a12, .ref a13, .ref a14, .ref a15, .int (iI x12), .int r2, .int r3, .ref a16, .int (iI x13), .int (iI x14), .ref a17, .ref a18, .int (iI x15), .ref a19, .int (iI x16), .int r4, .ref a20, .ref a21, .int (iI x17), .int r5, .ref a22, .int (iI x18), .int (iI x19), .int (iI x20), .int (iI x21)])), (a2, .inl (T 0, 329, .inl (cI f0))), (a14, .inl (T 2, 9, .inl (cI (upz ff1 z2 1)))), (a15, .inl (T 2, 9, .inl (cI f3)))]) M w 0 rfl (iI_in (by omega) (by omega) (by decide)) (by rw [cI_up (by omega) (by omega)]; rfl) dX12_findsLoop_72 (fun H locs w => ?_)
                refine lv_iconst (v := iI 1) hx hb dX12_findsLoop_73 (by decide +kernel) ?_
                exact ret _ (1, (upz f1 z2 x0), (upz ff1 z2 1)) _ _ _ _ _ [1, 2, 0, 3, 4] dX12_findsLoop_74 (by decide +kernel) ⟨rfl, (show (0 : Int) ≤ 1 from by decide), (show (1 : Int) ≤ 1 from by decide), (rng_up f1_h (by omega) (by omega)), (rng_up ff1_h (by omega) (by omega)), (show sb f2 (upz ff1 z2 1) from (sb_u lq1_s))⟩ w (by decide) rfl
              · replace c_15 := (iz_eq (Int.le_trans (by decide) z13_a) (Int.le_trans z13_b (by decide))).mp c_15
                refine lv_goto (tgt := 75) hx hb dX12_findsLoop_63 (by decide) ?_
                refine lv_iinc (v := iI (z2 + 1)) (lv' := [(2, .int (iI (z2 + 1))), (0, .ref a0), (1, .int (iI x0))]) hx hb dX12_findsLoop_75 hl (k := 0) rfl (ii_inc (by decide +kernel)) (by decide) rfl (fun ls hl => ?_)
                refine lv_goto (tgt := 2) hx hb dX12_findsLoop_78 (by decide) ?_
                exact ih1 (upz ff1 z2 1) (z2 + 1) _ _ _ (rng_up ff1_h (by omega) (by omega)) (by omega) (by omega) (sb_u lq1_s) (by omega) (w.sub [1, 2, 0, 3, 4] (by decide) rfl) (lv_sub hl [0, 1, 2] rfl)
          · replace c_9 : ¬ (ff1 z2) = 0 := fun h => c_9 ((iz_eq (by omega) (by omega)).mpr h)
            refine lv_goto (tgt := 75) hx hb dX12_findsLoop_30 (by decide) ?_
            refine lv_iinc (v := iI (z2 + 1)) (lv' := [(2, .int (iI (z2 + 1))), (0, .ref a0), (1, .int (iI x0))]) hx hb dX12_findsLoop_75 hl (k := 0) rfl (ii_inc (by decide +kernel)) (by decide) rfl (fun ls hl => ?_)
            refine lv_goto (tgt := 2) hx hb dX12_findsLoop_78 (by decide) ?_
            exact ih1 ff1 (z2 + 1) _ _ _ ff1_h (by omega) (by omega) lq1_s (by omega) (w.sub [2, 3, 0, 1, 4] (by decide) rfl) (lv_sub hl [0, 1, 2] rfl)
  exact loop1 ((9 : Int).toNat + 1) f2 0 _ _ _ f2_h (by decide) (by decide) sb_r (Nat.lt_succ_self _) w (lv_sub hl [0, 1, 2] rfl)
set_option maxRecDepth 100000 in
set_option maxHeartbeats 4000000 in
theorem c140_X12_findsLoop (l : Launch) (D : va_G) (T : Nat → ClassId) (sz : Nat) (a0 : Nat) (x0 : Int) (r0 : Int32) (a1 : Nat) (x1 : Int) (x2 : Int) (x3 : Int) (x4 : Int) (x5 : Int) (x6 : Int) (r1 : Int32) (x7 : Int) (x8 : Int) (x9 : Int) (y0 : Int64) (x10 : Int) (a2 : Nat) (a3 : Nat) (a4 : Nat) (a5 : Nat) (a6 : Nat) (a7 : Nat) (a8 : Nat) (a9 : Nat) (a10 : Nat) (a11 : Nat) (x11 : Int) (a12 : Nat) (a13 : Nat) (a14 : Nat) (a15 : Nat) (x12 : Int) (r2 : Int32) (r3 : Int32) (a16 : Nat) (x13 : Int) (x14 : Int) (a17 : Nat) (a18 : Nat) (x15 : Int) (a19 : Nat) (x16 : Int) (r4 : Int32) (a20 : Nat) (a21 : Nat) (x17 : Int) (r5 : Int32) (a22 : Nat) (x18 : Int) (x19 : Int) (x20 : Int) (x21 : Int) (f0 : Int → Int) (f1 : Int → Int) (f2 : Int → Int) (f3 : Int → Int) (x0_a : 0 ≤ x0) (x0_b : x0 ≤ 8) (x1_a : 0 ≤ x1) (x1_b : x1 ≤ 940) (x2_a : 0 ≤ x2) (x2_b : x2 ≤ 940) (x3_a : 0 ≤ x3) (x3_b : x3 ≤ 940) (x4_a : 0 ≤ x4) (x4_b : x4 ≤ 940) (x5_a : 0 ≤ x5) (x5_b : x5 ≤ 940) (x6_a : 0 ≤ x6) (x6_b : x6 ≤ 4) (x7_a : (-2147483648) ≤ x7) (x7_b : x7 ≤ 2147483647) (x8_a : (-2147483648) ≤ x8) (x8_b : x8 ≤ 2147483647) (x9_a : 0 ≤ x9) (x9_b : x9 ≤ 940) (x10_a : (-2147483648) ≤ x10) (x10_b : x10 ≤ 2147483647) (x11_a : 0 ≤ x11) (x11_b : x11 ≤ 8) (x12_a : 0 ≤ x12) (x12_b : x12 ≤ 9) (x13_a : (-1) ≤ x13) (x13_b : x13 ≤ 9) (x14_a : (-1) ≤ x14) (x14_b : x14 ≤ 8) (x15_a : 0 ≤ x15) (x15_b : x15 ≤ 9) (x16_a : 0 ≤ x16) (x16_b : x16 ≤ 64) (x17_a : 0 ≤ x17) (x17_b : x17 ≤ 40) (x18_a : 0 ≤ x18) (x18_b : x18 ≤ 40) (x19_a : 0 ≤ x19) (x19_b : x19 ≤ 20) (x20_a : 0 ≤ x20) (x20_b : x20 ≤ 8) (x21_a : 0 ≤ x21) (x21_b : x21 ≤ 39) (f0_h : nowI f0) (f1_h : rng (-1) 8 f1) (f2_h : rng 0 1 f2) (f3_h : rng 0 1 f3) (pp_n : cn f2 ≤ 2) : Met l yX12_findsLoop (Cond.code yX12_findsLoop cX12_findsLoop 3 (some .boolean) :: GW) (Rm 4 0 0) (cPre [.ref a0, .int (iI x0)] D T [(a0, .inr (11, [.int r0, .ref a1, .int (iI x1), .int (iI x2), .int (iI x3), .int (iI x4), .int (iI x5), .int (iI x6), .int r1, .int (iI x7), .int (iI x8), .int (iI x9), .long y0, .int (iI x10), .ref a2, .ref a3, .ref a4, .ref a5, .ref a6, .ref a7, .ref a8, .ref a9, .ref a10, .ref a11, .int (iI x11), .ref a12, .ref a13, .ref a14, .ref a15, .int (iI x12), .int r2, .int r3, .ref a16, .int (iI x13), .int (iI x14), .ref a17, .ref a18, .int (iI x15), .ref a19, .int (iI x16), .int r4, .ref a20, .ref a21, .int (iI x17), .int r5, .ref a22, .int (iI x18), .int (iI x19), .int (iI x20), .int (iI x21)])), (a2, .inl (T 0, 329, .inl (cI f0))), (a12, .inl (T 0, 9, .inl (cI f1))), (a14, .inl (T 2, 9, .inl (cI f2))), (a15, .inl (T 2, 9, .inl (cI f3)))] sz) (qI D [(a0, .inr (11, [.int r0, .ref a1, .int (iI x1), .int (iI x2), .int (iI x3), .int (iI x4), .int (iI x5), .int (iI x6), .int r1, .int (iI x7), .int (iI x8), .int (iI x9), .long y0, .int (iI x10), .ref a2, .ref a3, .ref a4, .ref a5, .ref a6, .ref a7, .ref a8, .ref a9, .ref a10, .ref a11, .int (iI x11), .ref a12, .ref a13, .ref a14, .ref a15, .int (iI x12), .int r2, .int r3, .ref a16, .int (iI x13), .int (iI x14), .ref a17, .ref a18, .int (iI x15), .ref a19, .int (iI x16), .int r4, .ref a20, .ref a21, .int (iI x17), .int r5, .ref a22, .int (iI x18), .int (iI x19), .int (iI x20), .int (iI x21)])), (a2, .inl (T 0, 329, .inl (cI f0))), (a12, .inl (T 0, 9, .inl (cI f1))), (a14, .inl (T 2, 9, .inl (cI f2))), (a15, .inl (T 2, 9, .inl (cI f3)))] sz (fun (v : Int32) (u : Int × (Int → Int) × (Int → Int)) => iI u.1 = v ∧ 0 ≤ u.1 ∧ u.1 ≤ 1 ∧ rng (-1) 8 u.2.1 ∧ rng 0 1 u.2.2 ∧ (sb f2 u.2.2)) (fun u => [(a0, .inr (11, [.int r0, .ref a1, .int (iI x1), .int (iI x2), .int (iI x3), .int (iI x4), .int (iI x5), .int (iI x6), .int r1, .int (iI x7), .int (iI x8), .int (iI x9), .long y0, .int (iI x10), .ref a2, .ref a3, .ref a4, .ref a5, .ref a6, .ref a7, .ref a8, .ref a9, .ref a10, .ref a11, .int (iI x11), .ref a12, .ref a13, .ref a14, .ref a15, .int (iI x12), .int r2, .int r3, .ref a16, .int (iI x13), .int (iI x14), .ref a17, .ref a18, .int (iI x15), .ref a19, .int (iI x16), .int r4, .ref a20, .ref a21, .int (iI x17), .int r5, .ref a22, .int (iI x18), .int (iI x19), .int (iI x20), .int (iI x21)])), (a2, .inl (T 0, 329, .inl (cI f0))), (a12, .inl (T 0, 9, .inl (cI u.2.1))), (a14, .inl (T 2, 9, .inl (cI u.2.2))), (a15, .inl (T 2, 9, .inl (cI f3)))])) 0 0 (va_A [(a0, .inr (11, [.int r0, .ref a1, .int (iI x1), .int (iI x2), .int (iI x3), .int (iI x4), .int (iI x5), .int (iI x6), .int r1, .int (iI x7), .int (iI x8), .int (iI x9), .long y0, .int (iI x10), .ref a2, .ref a3, .ref a4, .ref a5, .ref a6, .ref a7, .ref a8, .ref a9, .ref a10, .ref a11, .int (iI x11), .ref a12, .ref a13, .ref a14, .ref a15, .int (iI x12), .int r2, .int r3, .ref a16, .int (iI x13), .int (iI x14), .ref a17, .ref a18, .int (iI x15), .ref a19, .int (iI x16), .int r4, .ref a20, .ref a21, .int (iI x17), .int r5, .ref a22, .int (iI x18), .int (iI x19), .int (iI x20), .int (iI x21)])), (a2, .inl (T 0, 329, .inl (cI f0))), (a12, .inl (T 0, 9, .inl (cI f1))), (a14, .inl (T 2, 9, .inl (cI f2))), (a15, .inl (T 2, 9, .inl (cI f3)))] sz) := by
  refine e_Z (by decide) (Nat.le_of_ble_eq_true rfl) ?_
  intro p e s m args below meth c A Q ls M hin w ret hl
  have hx := M.1.1
  have hb := M.1.2.1
  have hl : lv_has ls 3 [(0, .ref a0), (1, .int (iI x0))] := hl
  refine lv_iconst (v := iI 0) hx hb dX12_findsLoop_0 (by decide +kernel) ?_
  refine lv_istore_n (lv' := [(2, .int (iI 0)), (0, .ref a0), (1, .int (iI x0))]) hx hb dX12_findsLoop_1 rfl hl (by decide) rfl (fun ls hl => ?_)
  have loop1 : ∀ (k1 : Nat) (ff1 : Int → Int) (ff2 : Int → Int) (z3 : Int) (H : Heap) (locs : List Loc) (ls : Array Slot), rng (-1) 8 ff1 → rng 0 1 ff2 → 0 ≤ z3 → z3 ≤ 9 → sb f2 ff2 → ((9 - z3) : Int).toNat < k1 → WD D A s.heap [(a0, .inr (11, [.int r0, .ref a1, .int (iI x1), .int (iI x2), .int (iI x3), .int (iI x4), .int (iI x5), .int (iI x6), .int r1, .int (iI x7), .int (iI x8), .int (iI x9), .long y0, .int (iI x10), .ref a2, .ref a3, .ref a4, .ref a5, .ref a6, .ref a7, .ref a8, .ref a9, .ref a10, .ref a11, .int (iI x11), .ref a12, .ref a13, .ref a14, .ref a15, .int (iI x12), .int r2, .int r3, .ref a16, .int (iI x13), .int (iI x14), .ref a17, .ref a18, .int (iI x15), .ref a19, .int (iI x16), .int r4, .ref a20, .ref a21, .int (iI x17), .int r5, .ref a22, .int (iI x18), .int (iI x19), .int (iI x20), .int (iI x21)])), (a2, .inl (T 0, 329, .inl (cI f0))), (a12, .inl (T 0, 9, .inl (cI ff1))), (a14, .inl (T 2, 9, .inl (cI ff2))), (a15, .inl (T 2, 9, .inl (cI f3)))] H locs → lv_has ls 3 [(2, .int (iI z3)), (0, .ref a0), (1, .int (iI x0))] → W p l e (Rm 4 0 0) s m args below meth c H locs 0 0 Q (F0 m 2 ls []) := by
    intro k1
    induction k1 with
    | zero => intro ff1 ff2 z3 H locs ls ff1_h ff2_h z3_a z3_b lq1_s hm; exact absurd hm (Nat.not_lt_zero _)
    | succ k1 ih1 =>
      intro ff1 ff2 z3 H locs ls ff1_h ff2_h z3_a z3_b lq1_s hm1 w hl
      refine lv_iload_n hx hb dX12_findsLoop_2 rfl (lv_at hl 0 rfl) ?_
      refine lv_aload_n hx hb dX12_findsLoop_3 rfl (lv_at hl 1 rfl) ?_
      refine r_get (v := .ref a2) M w 0 14 clX12 rfl (by decide) G1477 rfl rfl dX12_findsLoop_4 ?_
      refine lv_iconst (v := iI 0) hx hb dX12_findsLoop_7 (by decide +kernel) ?_
      refine r_iald (v := iI (f0 0)) M w 1 rfl (iI_in (by decide) (by decide) (by decide)) (cI_at (by omega) (by omega)) dX12_findsLoop_8 ?_
      have hh4 : (-2147483648) ≤ (f0 0) ∧ (f0 0) ≤ 2147483647 := f0_h.1 0
      have hh5 : 0 ≤ (f0 0) ∧ (f0 0) ≤ 9 := (f0_h.2.1 0).1 (by omega)
      refine lv_icmp_ge (tgt := 81) hx hb dX12_findsLoop_9 (by decide) (fun c_6 => ?_) (fun c_6 => ?_)
      · replace c_6 := (iI_le (by omega) (by omega) (Int.le_trans (by decide) z3_a) (Int.le_trans z3_b (by decide))).mp c_6
        refine lv_iconst (v := iI 0) hx hb dX12_findsLoop_81 (by decide +kernel) ?_
        exact ret _ (0, ff1, ff2) _ _ _ _ _ [0, 1, 2, 3, 4] dX12_findsLoop_82 (by decide +kernel) ⟨rfl, (show (0 : Int) ≤ 0 from by decide), (show (0 : Int) ≤ 1 from by decide), ff1_h, ff2_h, (show sb f2 ff2 from lq1_s)⟩ w (by decide) rfl
      · replace c_6 : z3 < (f0 0) := Int.not_le.mp (fun h => c_6 ((iI_le (by omega) (by omega) (Int.le_trans (by decide) z3_a) (Int.le_trans z3_b (by decide))).mpr h))
        refine lv_aload_n hx hb dX12_findsLoop_12 rfl (lv_at hl 1 rfl) ?_
        refine lv_iload_n hx hb dX12_findsLoop_13 rfl (lv_at hl 2 rfl) ?_
        refine lv_iload_n hx hb dX12_findsLoop_14 rfl (lv_at hl 0 rfl) ?_
        refine k_I (ce := 0) (sl := 0) (rest := []) (wr := [(a12, .inl (T 0, 9, .inl (cI ff1))), (a14, .inl (T 2, 9, .inl (cI ff2)))]) (r_V (f := 1) [0, 1, 4] M w V_HookedCityModel_310 G1875 G91 (c137_X12_canGo l D T _ a0 x0 z3 r0 a1 x1 x2 x3 x4 x5 x6 r1 x7 x8 x9 y0 x10 a2 a3 a4 a5 a6 a7 a8 a9 a10 a11 x11 a12 a13 a14 a15 x12 r2 r3 a16 x13 x14 a17 a18 x15 a19 x16 r4 a20 a21 x17 r5 a22 x18 x19 x20 x21 f0 f3 x0_a x0_b (by omega) (by omega) x1_a x1_b x2_a x2_b x3_a x3_b x4_a x4_b x5_a x5_b x6_a x6_b x7_a x7_b x8_a x8_b x9_a x9_b x10_a x10_b x11_a x11_b x12_a x12_b x13_a x13_b x14_a x14_b x15_a x15_b x16_a x16_b x17_a x17_b x18_a x18_b x19_a x19_b x20_a x20_b x21_a x21_b f0_h f3_h) 0 clX12 rfl rfl (by decide) rfl hl.1 rfl (Nat.le_of_ble_eq_true rfl) dX12_findsLoop_15 (by decide) (by decide) (by decide) (by decide)) w [0, 1, 4] [2, 3] rfl rfl (by decide) (by decide) rfl rfl (fun v z7 H locs hp w => ?_)
        have hv : iI z7 = v := hp.1
        subst hv
        have z7_a : 0 ≤ z7 := hp.2.1
        have z7_b : z7 ≤ 1 := hp.2.2
        have w : WD D A s.heap [(a12, .inl (T 0, 9, .inl (cI ff1))), (a14, .inl (T 2, 9, .inl (cI ff2))), (a0, .inr (11, [.int r0, .ref a1, .int (iI x1), .int (iI x2), .int (iI x3), .int (iI x4), .int (iI x5), .int (iI x6), .int r1, .int (iI x7), .int (iI x8), .int (iI x9), .long y0, .int (iI x10), .ref a2, .ref a3, .ref a4, .ref a5, .ref a6, .ref a7, .ref a8, .ref a9, .ref a10, .ref a11, .int (iI x11), .ref a12, .ref a13, .ref a14, .ref a15, .int (iI x12), .int r2, .int r3, .ref a16, .int (iI x13), .int (iI x14), .ref a17, .ref a18, .int (iI x15), .ref a19, .int (iI x16), .int r4, .ref a20, .ref a21, .int (iI x17), .int r5, .ref a22, .int (iI x18), .int (iI x19), .int (iI x20), .int (iI x21)])), (a2, .inl (T 0, 329, .inl (cI f0))), (a15, .inl (T 2, 9, .inl (cI f3)))] H locs := w
        refine lv_if_eq (tgt := 75) hx hb dX12_findsLoop_18 (by decide) (fun c_8 => ?_) (fun c_8 => ?_)
        · replace c_8 := (iz_eq (Int.le_trans (by decide) z7_a) (Int.le_trans z7_b (by decide))).mp c_8
          refine lv_iinc (v := iI (z3 + 1)) (lv' := [(2, .int (iI (z3 + 1))), (0, .ref a0), (1, .int (iI x0))]) hx hb dX12_findsLoop_75 hl (k := 0) rfl (ii_inc (by decide +kernel)) (by decide) rfl (fun ls hl => ?_)
          refine lv_goto (tgt := 2) hx hb dX12_findsLoop_78 (by decide) ?_
          exact ih1 ff1 ff2 (z3 + 1) _ _ _ ff1_h ff2_h (by omega) (by omega) lq1_s (by omega) (w.sub [2, 3, 0, 1, 4] (by decide) rfl) (lv_sub hl [0, 1, 2] rfl)
        · replace c_8 : ¬ z7 = 0 := fun h => c_8 ((iz_eq (Int.le_trans (by decide) z7_a) (Int.le_trans z7_b (by decide))).mpr h)
          refine lv_aload_n hx hb dX12_findsLoop_21 rfl (lv_at hl 1 rfl) ?_
          refine r_get (v := .ref a14) M w 2 27 clX12 rfl (by decide) G1490 rfl rfl dX12_findsLoop_22 ?_
          refine lv_iload_n hx hb dX12_findsLoop_25 rfl (lv_at hl 0 rfl) ?_
          refine r_zald (v := iI (ff2 z3)) M w 1 rfl (iI_in (by omega) (by omega) (by decide)) (cI_at (by omega) (by omega)) dX12_findsLoop_26 ?_
          have hh9 : 0 ≤ (ff2 z3) ∧ (ff2 z3) ≤ 1 := ff2_h z3
          refine lv_if_eq (tgt := 33) hx hb dX12_findsLoop_27 (by decide) (fun c_10 => ?_) (fun c_10 => ?_)
          · replace c_10 := (iz_eq (by omega) (by omega)).mp c_10
            refine lv_aload_n hx hb dX12_findsLoop_33 rfl (lv_at hl 1 rfl) ?_
            refine r_get (v := .ref a14) M w 2 27 clX12 rfl (by decide) G1490 rfl rfl dX12_findsLoop_34 ?_
            refine lv_iload_n hx hb dX12_findsLoop_37 rfl (lv_at hl 0 rfl) ?_
            refine lv_iconst (v := iI 1) hx hb dX12_findsLoop_38 (by decide +kernel) ?_
            refine r_zast (x2 := iI 1) (ws' := [(a12, .inl (T 0, 9, .inl (cI ff1))), (a14, .inl (T 2, 9, .inl (cI (upz ff2 z3 1)))), (a0, .inr (11, [.int r0, .ref a1, .int (iI x1), .int (iI x2), .int (iI x3), .int (iI x4), .int (iI x5), .int (iI x6), .int r1, .int (iI x7), .int (iI x8), .int (iI x9), .long y0, .int (iI x10), .ref a2, .ref a3, .ref a4, .ref a5, .ref a6, .ref a7, .ref a8, .ref a9, .ref a10, .ref a11, .int (iI x11), .ref a12, .ref a13, .ref a14, .ref a15, .int (iI x12), .int r2, .int r3, .ref a16, .int (iI x13), .int (iI x14), .ref a17, .ref a18, .int (iI x15), .ref a19, .int (iI x16), .int r4, .ref a20, .ref a21, .int (iI x17), .int r5, .ref a22, .int (iI x18), .int (iI x19), .int (iI x20), .int (iI x21)])), (a2, .inl (T 0, 329, .inl (cI f0))), (a15, .inl (T 2, 9, .inl (cI f3)))]) M w 1 rfl (iI_in (by omega) (by omega) (by decide)) (nb_z (by omega) (by omega)) (by rw [cI_up (by omega) (by omega)]; rfl) dX12_findsLoop_39 (fun H locs w => ?_)
            refine lv_aload_n hx hb dX12_findsLoop_40 rfl (lv_at hl 1 rfl) ?_
            refine r_get (v := .ref a12) M w 2 25 clX12 rfl (by decide) G1488 rfl rfl dX12_findsLoop_41 ?_
            refine lv_iload_n hx hb dX12_findsLoop_44 rfl (lv_at hl 0 rfl) ?_
            refine r_iald (v := iI (ff1 z3)) M w 0 rfl (iI_in (by omega) (by omega) (by decide)) (cI_at (by omega) (by omega)) dX12_findsLoop_45 ?_
            have hh11 : (-1) ≤ (ff1 z3) ∧ (ff1 z3) ≤ 8 := ff1_h z3
            refine lv_iconst (v := iI (-1)) hx hb dX12_findsLoop_46 (by decide +kernel) ?_
            refine lv_icmp_eq (tgt := 66) hx hb dX12_findsLoop_47 (by decide) (fun c_12 => ?_) (fun c_12 => ?_)
            · replace c_12 := (iI_eq (by omega) (by omega) (by decide) (by decide)).mp c_12
              refine lv_aload_n hx hb dX12_findsLoop_66 rfl (lv_at hl 1 rfl) ?_
              refine r_get (v := .ref a12) M w 2 25 clX12 rfl (by decide) G1488 rfl rfl dX12_findsLoop_67 ?_
              refine lv_iload_n hx hb dX12_findsLoop_70 rfl (lv_at hl 0 rfl) ?_
              refine lv_iload_n hx hb dX12_findsLoop_71 rfl (lv_at hl 2 rfl) ?_
              refine r_iast (ws' := [(a12, .inl (T 0, 9, .inl (cI (upz ff1 z3 x0)))), (a14, .inl (T 2, 9, .inl (cI (upz ff2 z3 1)))), (a0, .inr (11, [.int r0, .ref a1, .int (iI x1), .int (iI x2), .int (iI x3), .int (iI x4), .int (iI x5), .int (iI x6), .int r1, .int (iI x7), .int (iI x8), .int (iI x9), .long y0, .int (iI x10), .ref a2, .ref a3, .ref a4, .ref a5, .ref a6, .ref a7, .ref a8, .ref a9, .ref a10, .ref a11, .int (iI x11), .ref a12, .ref a13, .ref a14, .ref a15, .int (iI x12), .int r2, .int r3, .ref a16, .int (iI x13), .int (iI x14), .ref a17, .ref a18, .int (iI x15), .ref a19, .int (iI x16), .int r4, .ref a20, .ref a21, .int (iI x17), .int r5, .ref a22, .int (iI x18), .int (iI x19), .int (iI x20), .int (iI x21)])), (a2, .inl (T 0, 329, .inl (cI f0))), (a15, .inl (T 2, 9, .inl (cI f3)))]) M w 0 rfl (iI_in (by omega) (by omega) (by decide)) (by rw [cI_up (by omega) (by omega)]; rfl) dX12_findsLoop_72 (fun H locs w => ?_)
              refine lv_iconst (v := iI 1) hx hb dX12_findsLoop_73 (by decide +kernel) ?_
              exact ret _ (1, (upz ff1 z3 x0), (upz ff2 z3 1)) _ _ _ _ _ [2, 3, 0, 1, 4] dX12_findsLoop_74 (by decide +kernel) ⟨rfl, (show (0 : Int) ≤ 1 from by decide), (show (1 : Int) ≤ 1 from by decide), (rng_up ff1_h (by omega) (by omega)), (rng_up ff2_h (by omega) (by omega)), (show sb f2 (upz ff2 z3 1) from (sb_u lq1_s))⟩ w (by decide) rfl
            · replace c_12 : ¬ (ff1 z3) = (-1) := fun h => c_12 ((iI_eq (by omega) (by omega) (by decide) (by decide)).mpr h)
              refine lv_aload_n hx hb dX12_findsLoop_50 rfl (lv_at hl 1 rfl) ?_
              refine lv_aload_n hx hb dX12_findsLoop_51 rfl (lv_at hl 1 rfl) ?_
              refine r_get (v := .ref a12) M w 2 25 clX12 rfl (by decide) G1488 rfl rfl dX12_findsLoop_52 ?_
              refine lv_iload_n hx hb dX12_findsLoop_55 rfl (lv_at hl 0 rfl) ?_
              refine r_iald (v := iI (ff1 z3)) M w 0 rfl (iI_in (by omega) (by omega) (by decide)) (cI_at (by omega) (by omega)) dX12_findsLoop_56 ?_
              have hh13 : (-1) ≤ (ff1 z3) ∧ (ff1 z3) ≤ 8 := ff1_h z3
              refine k_I (ce := 0) (sl := 0) (rest := []) (wr := []) (r_V (f := 3) [2, 3, 0, 1, 4] M w V_HookedCityModel_313 G1871 G90 (c139_X12_findsLoop l D T _ a0 (ff1 z3) r0 a1 x1 x2 x3 x4 x5 x6 r1 x7 x8 x9 y0 x10 a2 a3 a4 a5 a6 a7 a8 a9 a10 a11 x11 a12 a13 a14 a15 x12 r2 r3 a16 x13 x14 a17 a18 x15 a19 x16 r4 a20 a21 x17 r5 a22 x18 x19 x20 x21 f0 ff1 (upz ff2 z3 1) f3 (by omega) (by omega) x1_a x1_b x2_a x2_b x3_a x3_b x4_a x4_b x5_a x5_b x6_a x6_b x7_a x7_b x8_a x8_b x9_a x9_b x10_a x10_b x11_a x11_b x12_a x12_b x13_a x13_b x14_a x14_b x15_a x15_b x16_a x16_b x17_a x17_b x18_a x18_b x19_a x19_b x20_a x20_b x21_a x21_b f0_h ff1_h (rng_up ff2_h (by omega) (by omega)) f3_h (by have e8 := cn_m lq1_s; have e9 := cn_u (f := ff2) (k := z3) (by omega) (by omega) (by omega); omega)) 2 clX12 rfl rfl (by decide) rfl hl.1 rfl (Nat.le_of_ble_eq_true rfl) dX12_findsLoop_57 (by decide) (by decide) (by decide) (by decide)) w [2, 3, 0, 1, 4] [] rfl rfl (by decide) (by decide) rfl rfl (fun v u H locs hp w => ?_)
              obtain ⟨z14, ff15, ff16⟩ := u
              have hv : iI z14 = v := hp.1
              subst hv
              have z14_a : 0 ≤ z14 := hp.2.1
              have z14_b : z14 ≤ 1 := hp.2.2.1
              have ff15_h : rng (-1) 8 ff15 := hp.2.2.2.1
              have ff16_h : rng 0 1 ff16 := hp.2.2.2.2.1
              have pq17 : sb (upz ff2 z3 1) ff16 := hp.2.2.2.2.2
              have w : WD D A s.heap [(a0, .inr (11, [.int r0, .ref a1, .int (iI x1), .int (iI x2), .int (iI x3), .int (iI x4), .int (iI x5), .int (iI x6), .int r1, .int (iI x7), .int (iI x8), .int (iI x9), .long y0, .int (iI x10), .ref a2, .ref a3, .ref a4, .ref a5, .ref a6, .ref a7, .ref a8, .ref a9, .ref a10, .ref a11, .int (iI x11), .ref a12, .ref a13, .ref a14, .ref a15, .int (iI x12), .int r2, .int r3, .ref a16, .int (iI x13), .int (iI x14), .ref a17, .ref a18, .int (iI x15), .ref a19, .int (iI x16), .int r4, .ref a20, .ref a21, .int (iI x17), .int r5, .ref a22, .int (iI x18), .int (iI x19), .int (iI x20), .int (iI x21)])), (a2, .inl (T 0, 329, .inl (cI f0))), (a12, .inl (T 0, 9, .inl (cI ff15))), (a14, .inl (T 2, 9, .inl (cI ff16))), (a15, .inl (T 2, 9, .inl (cI f3)))] H locs := w
              refine lv_if_ne (tgt := 66) hx hb dX12_findsLoop_60 (by decide) (fun c_18 => ?_) (fun c_18 => ?_)
              · replace c_18 : ¬ z14 = 0 := fun h => c_18 ((iz_eq (Int.le_trans (by decide) z14_a) (Int.le_trans z14_b (by decide))).mpr h)
                refine lv_aload_n hx hb dX12_findsLoop_66 rfl (lv_at hl 1 rfl) ?_
                refine r_get (v := .ref a12) M w 0 25 clX12 rfl (by decide) G1488 rfl rfl dX12_findsLoop_67 ?_
                refine lv_iload_n hx hb dX12_findsLoop_70 rfl (lv_at hl 0 rfl) ?_
                refine lv_iload_n hx hb dX12_findsLoop_71 rfl (lv_at hl 2 rfl) ?_
                refine r_iast (ws' := [(a0, .inr (11, [.int r0, .ref a1, .int (iI x1), .int (iI x2), .int (iI x3), .int (iI x4), .int (iI x5), .int (iI x6), .int r1, .int (iI x7), .int (iI x8), .int (iI x9), .long y0, .int (iI x10), .ref a2, .ref a3, .ref a4, .ref a5, .ref a6, .ref a7, .ref a8, .ref a9, .ref a10, .ref a11, .int (iI x11), .ref a12, .ref a13, .ref a14, .ref a15, .int (iI x12), .int r2, .int r3, .ref a16, .int (iI x13), .int (iI x14), .ref a17, .ref a18, .int (iI x15), .ref a19, .int (iI x16), .int r4, .ref a20, .ref a21, .int (iI x17), .int r5, .ref a22, .int (iI x18), .int (iI x19), .int (iI x20), .int (iI x21)])), (a2, .inl (T 0, 329, .inl (cI f0))), (a12, .inl (T 0, 9, .inl (cI (upz ff15 z3 x0)))), (a14, .inl (T 2, 9, .inl (cI ff16))), (a15, .inl (T 2, 9, .inl (cI f3)))]) M w 2 rfl (iI_in (by omega) (by omega) (by decide)) (by rw [cI_up (by omega) (by omega)]; rfl) dX12_findsLoop_72 (fun H locs w => ?_)
                refine lv_iconst (v := iI 1) hx hb dX12_findsLoop_73 (by decide +kernel) ?_
                exact ret _ (1, (upz ff15 z3 x0), ff16) _ _ _ _ _ [0, 1, 2, 3, 4] dX12_findsLoop_74 (by decide +kernel) ⟨rfl, (show (0 : Int) ≤ 1 from by decide), (show (1 : Int) ≤ 1 from by decide), (rng_up ff15_h (by omega) (by omega)), ff16_h, (show sb f2 ff16 from (sb_t (sb_u lq1_s) pq17))⟩ w (by decide) rfl
              · replace c_18 := (iz_eq (Int.le_trans (by decide) z14_a) (Int.le_trans z14_b (by decide))).mp c_18
                refine lv_goto (tgt := 75) hx hb dX12_findsLoop_63 (by decide) ?_
                refine lv_iinc (v := iI (z3 + 1)) (lv' := [(2, .int (iI (z3 + 1))), (0, .ref a0), (1, .int (iI x0))]) hx hb dX12_findsLoop_75 hl (k := 0) rfl (ii_inc (by decide +kernel)) (by decide) rfl (fun ls hl => ?_)
                refine lv_goto (tgt := 2) hx hb dX12_findsLoop_78 (by decide) ?_
                exact ih1 ff15 ff16 (z3 + 1) _ _ _ ff15_h ff16_h (by omega) (by omega) (sb_t (sb_u lq1_s) pq17) (by omega) w (lv_sub hl [0, 1, 2] rfl)
          · replace c_10 : ¬ (ff2 z3) = 0 := fun h => c_10 ((iz_eq (by omega) (by omega)).mpr h)
            refine lv_goto (tgt := 75) hx hb dX12_findsLoop_30 (by decide) ?_
            refine lv_iinc (v := iI (z3 + 1)) (lv' := [(2, .int (iI (z3 + 1))), (0, .ref a0), (1, .int (iI x0))]) hx hb dX12_findsLoop_75 hl (k := 0) rfl (ii_inc (by decide +kernel)) (by decide) rfl (fun ls hl => ?_)
            refine lv_goto (tgt := 2) hx hb dX12_findsLoop_78 (by decide) ?_
            exact ih1 ff1 ff2 (z3 + 1) _ _ _ ff1_h ff2_h (by omega) (by omega) lq1_s (by omega) (w.sub [2, 3, 0, 1, 4] (by decide) rfl) (lv_sub hl [0, 1, 2] rfl)
  exact loop1 ((9 : Int).toNat + 1) f1 f2 0 _ _ _ f1_h f2_h (by decide) (by decide) sb_r (Nat.lt_succ_self _) w (lv_sub hl [0, 1, 2] rfl)
set_option maxRecDepth 100000 in
set_option maxHeartbeats 4000000 in
theorem c141_X12_findsLoop (l : Launch) (D : va_G) (T : Nat → ClassId) (sz : Nat) (a0 : Nat) (x0 : Int) (r0 : Int32) (a1 : Nat) (x1 : Int) (x2 : Int) (x3 : Int) (x4 : Int) (x5 : Int) (x6 : Int) (r1 : Int32) (x7 : Int) (x8 : Int) (x9 : Int) (y0 : Int64) (x10 : Int) (a2 : Nat) (a3 : Nat) (a4 : Nat) (a5 : Nat) (a6 : Nat) (a7 : Nat) (a8 : Nat) (a9 : Nat) (a10 : Nat) (a11 : Nat) (x11 : Int) (a12 : Nat) (a13 : Nat) (a14 : Nat) (a15 : Nat) (x12 : Int) (r2 : Int32) (r3 : Int32) (a16 : Nat) (x13 : Int) (x14 : Int) (a17 : Nat) (a18 : Nat) (x15 : Int) (a19 : Nat) (x16 : Int) (r4 : Int32) (a20 : Nat) (a21 : Nat) (x17 : Int) (r5 : Int32) (a22 : Nat) (x18 : Int) (x19 : Int) (x20 : Int) (x21 : Int) (f0 : Int → Int) (f1 : Int → Int) (f2 : Int → Int) (f3 : Int → Int) (x0_a : 0 ≤ x0) (x0_b : x0 ≤ 8) (x1_a : 0 ≤ x1) (x1_b : x1 ≤ 940) (x2_a : 0 ≤ x2) (x2_b : x2 ≤ 940) (x3_a : 0 ≤ x3) (x3_b : x3 ≤ 940) (x4_a : 0 ≤ x4) (x4_b : x4 ≤ 940) (x5_a : 0 ≤ x5) (x5_b : x5 ≤ 940) (x6_a : 0 ≤ x6) (x6_b : x6 ≤ 4) (x7_a : (-2147483648) ≤ x7) (x7_b : x7 ≤ 2147483647) (x8_a : (-2147483648) ≤ x8) (x8_b : x8 ≤ 2147483647) (x9_a : 0 ≤ x9) (x9_b : x9 ≤ 940) (x10_a : (-2147483648) ≤ x10) (x10_b : x10 ≤ 2147483647) (x11_a : 0 ≤ x11) (x11_b : x11 ≤ 8) (x12_a : 0 ≤ x12) (x12_b : x12 ≤ 9) (x13_a : (-1) ≤ x13) (x13_b : x13 ≤ 9) (x14_a : (-1) ≤ x14) (x14_b : x14 ≤ 8) (x15_a : 0 ≤ x15) (x15_b : x15 ≤ 9) (x16_a : 0 ≤ x16) (x16_b : x16 ≤ 64) (x17_a : 0 ≤ x17) (x17_b : x17 ≤ 40) (x18_a : 0 ≤ x18) (x18_b : x18 ≤ 40) (x19_a : 0 ≤ x19) (x19_b : x19 ≤ 20) (x20_a : 0 ≤ x20) (x20_b : x20 ≤ 8) (x21_a : 0 ≤ x21) (x21_b : x21 ≤ 39) (f0_h : nowI f0) (f1_h : rng (-1) 8 f1) (f2_h : rng 0 1 f2) (f3_h : rng 0 1 f3) (pp_n : cn f2 ≤ 3) : Met l yX12_findsLoop (Cond.code yX12_findsLoop cX12_findsLoop 3 (some .boolean) :: GW) (Rm 5 0 0) (cPre [.ref a0, .int (iI x0)] D T [(a0, .inr (11, [.int r0, .ref a1, .int (iI x1), .int (iI x2), .int (iI x3), .int (iI x4), .int (iI x5), .int (iI x6), .int r1, .int (iI x7), .int (iI x8), .int (iI x9), .long y0, .int (iI x10), .ref a2, .ref a3, .ref a4, .ref a5, .ref a6, .ref a7, .ref a8, .ref a9, .ref a10, .ref a11, .int (iI x11), .ref a12, .ref a13, .ref a14, .ref a15, .int (iI x12), .int r2, .int r3, .ref a16, .int (iI x13), .int (iI x14), .ref a17, .ref a18, .int (iI x15), .ref a19, .int (iI x16), .int r4, .ref a20, .ref a21, .int (iI x17), .int r5, .ref a22, .int (iI x18), .int (iI x19), .int (iI x20), .int (iI x21)])), (a2, .inl (T 0, 329, .inl (cI f0))), (a12, .inl (T 0, 9, .inl (cI f1))), (a14, .inl (T 2, 9, .inl (cI f2))), (a15, .inl (T 2, 9, .inl (cI f3)))] sz) (qI D [(a0, .inr (11, [.int r0, .ref a1, .int (iI x1), .int (iI x2), .int (iI x3), .int (iI x4), .int (iI x5), .int (iI x6), .int r1, .int (iI x7), .int (iI x8), .int (iI x9), .long y0, .int (iI x10), .ref a2, .ref a3, .ref a4, .ref a5, .ref a6, .ref a7, .ref a8, .ref a9, .ref a10, .ref a11, .int (iI x11), .ref a12, .ref a13, .ref a14, .ref a15, .int (iI x12), .int r2, .int r3, .ref a16, .int (iI x13), .int (iI x14), .ref a17, .ref a18, .int (iI x15), .ref a19, .int (iI x16), .int r4, .ref a20, .ref a21, .int (iI x17), .int r5, .ref a22, .int (iI x18), .int (iI x19), .int (iI x20), .int (iI x21)])), (a2, .inl (T 0, 329, .inl (cI f0))), (a12, .inl (T 0, 9, .inl (cI f1))), (a14, .inl (T 2, 9, .inl (cI f2))), (a15, .inl (T 2, 9, .inl (cI f3)))] sz (fun (v : Int32) (u : Int × (Int → Int) × (Int → Int)) => iI u.1 = v ∧ 0 ≤ u.1 ∧ u.1 ≤ 1 ∧ rng (-1) 8 u.2.1 ∧ rng 0 1 u.2.2 ∧ (sb f2 u.2.2)) (fun u => [(a0, .inr (11, [.int r0, .ref a1, .int (iI x1), .int (iI x2), .int (iI x3), .int (iI x4), .int (iI x5), .int (iI x6), .int r1, .int (iI x7), .int (iI x8), .int (iI x9), .long y0, .int (iI x10), .ref a2, .ref a3, .ref a4, .ref a5, .ref a6, .ref a7, .ref a8, .ref a9, .ref a10, .ref a11, .int (iI x11), .ref a12, .ref a13, .ref a14, .ref a15, .int (iI x12), .int r2, .int r3, .ref a16, .int (iI x13), .int (iI x14), .ref a17, .ref a18, .int (iI x15), .ref a19, .int (iI x16), .int r4, .ref a20, .ref a21, .int (iI x17), .int r5, .ref a22, .int (iI x18), .int (iI x19), .int (iI x20), .int (iI x21)])), (a2, .inl (T 0, 329, .inl (cI f0))), (a12, .inl (T 0, 9, .inl (cI u.2.1))), (a14, .inl (T 2, 9, .inl (cI u.2.2))), (a15, .inl (T 2, 9, .inl (cI f3)))])) 0 0 (va_A [(a0, .inr (11, [.int r0, .ref a1, .int (iI x1), .int (iI x2), .int (iI x3), .int (iI x4), .int (iI x5), .int (iI x6), .int r1, .int (iI x7), .int (iI x8), .int (iI x9), .long y0, .int (iI x10), .ref a2, .ref a3, .ref a4, .ref a5, .ref a6, .ref a7, .ref a8, .ref a9, .ref a10, .ref a11, .int (iI x11), .ref a12, .ref a13, .ref a14, .ref a15, .int (iI x12), .int r2, .int r3, .ref a16, .int (iI x13), .int (iI x14), .ref a17, .ref a18, .int (iI x15), .ref a19, .int (iI x16), .int r4, .ref a20, .ref a21, .int (iI x17), .int r5, .ref a22, .int (iI x18), .int (iI x19), .int (iI x20), .int (iI x21)])), (a2, .inl (T 0, 329, .inl (cI f0))), (a12, .inl (T 0, 9, .inl (cI f1))), (a14, .inl (T 2, 9, .inl (cI f2))), (a15, .inl (T 2, 9, .inl (cI f3)))] sz) := by
  refine e_Z (by decide) (Nat.le_of_ble_eq_true rfl) ?_
  intro p e s m args below meth c A Q ls M hin w ret hl
  have hx := M.1.1
  have hb := M.1.2.1
  have hl : lv_has ls 3 [(0, .ref a0), (1, .int (iI x0))] := hl
  refine lv_iconst (v := iI 0) hx hb dX12_findsLoop_0 (by decide +kernel) ?_
  refine lv_istore_n (lv' := [(2, .int (iI 0)), (0, .ref a0), (1, .int (iI x0))]) hx hb dX12_findsLoop_1 rfl hl (by decide) rfl (fun ls hl => ?_)
  have loop1 : ∀ (k1 : Nat) (ff1 : Int → Int) (ff2 : Int → Int) (z3 : Int) (H : Heap) (locs : List Loc) (ls : Array Slot), rng (-1) 8 ff1 → rng 0 1 ff2 → 0 ≤ z3 → z3 ≤ 9 → sb f2 ff2 → ((9 - z3) : Int).toNat < k1 → WD D A s.heap [(a0, .inr (11, [.int r0, .ref a1, .int (iI x1), .int (iI x2), .int (iI x3), .int (iI x4), .int (iI x5), .int (iI x6), .int r1, .int (iI x7), .int (iI x8), .int (iI x9), .long y0, .int (iI x10), .ref a2, .ref a3, .ref a4, .ref a5, .ref a6, .ref a7, .ref a8, .ref a9, .ref a10, .ref a11, .int (iI x11), .ref a12, .ref a13, .ref a14, .ref a15, .int (iI x12), .int r2, .int r3, .ref a16, .int (iI x13), .int (iI x14), .ref a17, .ref a18, .int (iI x15), .ref a19, .int (iI x16), .int r4, .ref a20, .ref a21, .int (iI x17), .int r5, .ref a22, .int (iI x18), .int (iI x19), .int (iI x20), .int (iI x21)])), (a2, .inl (T 0, 329, .inl (cI f0))), (a12, .inl (T 0, 9, .inl (cI ff1))), (a14, .inl (T 2, 9, .inl (cI ff2))), (a15, .inl (T 2, 9, .inl (cI f3)))] H locs → lv_has ls 3 [(2, .int (iI z3)), (0, .ref a0), (1, .int (iI x0))] → W p l e (Rm 5 0 0) s m args below meth c H locs 0 0 Q (F0 m 2 ls []) := by
    intro k1
    induction k1 with
    | zero => intro ff1 ff2 z3 H locs ls ff1_h ff2_h z3_a z3_b lq1_s hm; exact absurd hm (Nat.not_lt_zero _)
    | succ k1 ih1 =>
      intro ff1 ff2 z3 H locs ls ff1_h ff2_h z3_a z3_b lq1_s hm1 w hl
      refine lv_iload_n hx hb dX12_findsLoop_2 rfl (lv_at hl 0 rfl) ?_
      refine lv_aload_n hx hb dX12_findsLoop_3 rfl (lv_at hl 1 rfl) ?_
      refine r_get (v := .ref a2) M w 0 14 clX12 rfl (by decide) G1477 rfl rfl dX12_findsLoop_4 ?_
      refine lv_iconst (v := iI 0) hx hb dX12_findsLoop_7 (by decide +kernel) ?_
      refine r_iald (v := iI (f0 0)) M w 1 rfl (iI_in (by decide) (by decide) (by decide)) (cI_at (by omega) (by omega)) dX12_findsLoop_8 ?_
      have hh4 : (-2147483648) ≤ (f0 0) ∧ (f0 0) ≤ 2147483647 := f0_h.1 0
      have hh5 : 0 ≤ (f0 0) ∧ (f0 0) ≤ 9 := (f0_h.2.1 0).1 (by omega)
      refine lv_icmp_ge (tgt := 81) hx hb dX12_findsLoop_9 (by decide) (fun c_6 => ?_) (fun c_6 => ?_)
      · replace c_6 := (iI_le (by omega) (by omega) (Int.le_trans (by decide) z3_a) (Int.le_trans z3_b (by decide))).mp c_6
        refine lv_iconst (v := iI 0) hx hb dX12_findsLoop_81 (by decide +kernel) ?_
        exact ret _ (0, ff1, ff2) _ _ _ _ _ [0, 1, 2, 3, 4] dX12_findsLoop_82 (by decide +kernel) ⟨rfl, (show (0 : Int) ≤ 0 from by decide), (show (0 : Int) ≤ 1 from by decide), ff1_h, ff2_h, (show sb f2 ff2 from lq1_s)⟩ w (by decide) rfl
      · replace c_6 : z3 < (f0 0) := Int.not_le.mp (fun h => c_6 ((iI_le (by omega) (by omega) (Int.le_trans (by decide) z3_a) (Int.le_trans z3_b (by decide))).mpr h))
        refine lv_aload_n hx hb dX12_findsLoop_12 rfl (lv_at hl 1 rfl) ?_
        refine lv_iload_n hx hb dX12_findsLoop_13 rfl (lv_at hl 2 rfl) ?_
        refine lv_iload_n hx hb dX12_findsLoop_14 rfl (lv_at hl 0 rfl) ?_
        refine k_I (ce := 0) (sl := 0) (rest := []) (wr := [(a12, .inl (T 0, 9, .inl (cI ff1))), (a14, .inl (T 2, 9, .inl (cI ff2)))]) (r_V (f := 1) [0, 1, 4] M w V_HookedCityModel_310 G1875 G91 (c137_X12_canGo l D T _ a0 x0 z3 r0 a1 x1 x2 x3 x4 x5 x6 r1 x7 x8 x9 y0 x10 a2 a3 a4 a5 a6 a7 a8 a9 a10 a11 x11 a12 a13 a14 a15 x12 r2 r3 a16 x13 x14 a17 a18 x15 a19 x16 r4 a20 a21 x17 r5 a22 x18 x19 x20 x21 f0 f3 x0_a x0_b (by omega) (by omega) x1_a x1_b x2_a x2_b x3_a x3_b x4_a x4_b x5_a x5_b x6_a x6_b x7_a x7_b x8_a x8_b x9_a x9_b x10_a x10_b x11_a x11_b x12_a x12_b x13_a x13_b x14_a x14_b x15_a x15_b x16_a x16_b x17_a x17_b x18_a x18_b x19_a x19_b x20_a x20_b x21_a x21_b f0_h f3_h) 0 clX12 rfl rfl (by decide) rfl hl.1 rfl (Nat.le_of_ble_eq_true rfl) dX12_findsLoop_15 (by decide) (by decide) (by decide) (by decide)) w [0, 1, 4] [2, 3] rfl rfl (by decide) (by decide) rfl rfl (fun v z7 H locs hp w => ?_)
        have hv : iI z7 = v := hp.1
        subst hv
        have z7_a : 0 ≤ z7 := hp.2.1
        have z7_b : z7 ≤ 1 := hp.2.2
        have w : WD D A s.heap [(a12, .inl (T 0, 9, .inl (cI ff1))), (a14, .inl (T 2, 9, .inl (cI ff2))), (a0, .inr (11, [.int r0, .ref a1, .int (iI x1), .int (iI x2), .int (iI x3), .int (iI x4), .int (iI x5), .int (iI x6), .int r1, .int (iI x7), .int (iI x8), .int (iI x9), .long y0, .int (iI x10), .ref a2, .ref a3, .ref a4, .ref a5, .ref a6, .ref a7, .ref a8, .ref a9, .ref a10, .ref a11, .int (iI x11), .ref a12, .ref a13, .ref a14, .ref a15, .int (iI x12), .int r2, .int r3, .ref a16, .int (iI x13), .int (iI x14), .ref a17, .ref a18, .int (iI x15), .ref a19, .int (iI x16), .int r4, .ref a20, .ref a21, .int (iI x17), .int r5, .ref a22, .int (iI x18), .int (iI x19), .int (iI x20), .int (iI x21)])), (a2, .inl (T 0, 329, .inl (cI f0))), (a15, .inl (T 2, 9, .inl (cI f3)))] H locs := w
        refine lv_if_eq (tgt := 75) hx hb dX12_findsLoop_18 (by decide) (fun c_8 => ?_) (fun c_8 => ?_)
        · replace c_8 := (iz_eq (Int.le_trans (by decide) z7_a) (Int.le_trans z7_b (by decide))).mp c_8
          refine lv_iinc (v := iI (z3 + 1)) (lv' := [(2, .int (iI (z3 + 1))), (0, .ref a0), (1, .int (iI x0))]) hx hb dX12_findsLoop_75 hl (k := 0) rfl (ii_inc (by decide +kernel)) (by decide) rfl (fun ls hl => ?_)
          refine lv_goto (tgt := 2) hx hb dX12_findsLoop_78 (by decide) ?_
          exact ih1 ff1 ff2 (z3 + 1) _ _ _ ff1_h ff2_h (by omega) (by omega) lq1_s (by omega) (w.sub [2, 3, 0, 1, 4] (by decide) rfl) (lv_sub hl [0, 1, 2] rfl)
        · replace c_8 : ¬ z7 = 0 := fun h => c_8 ((iz_eq (Int.le_trans (by decide) z7_a) (Int.le_trans z7_b (by decide))).mpr h)
          refine lv_aload_n hx hb dX12_findsLoop_21 rfl (lv_at hl 1 rfl) ?_
          refine r_get (v := .ref a14) M w 2 27 clX12 rfl (by decide) G1490 rfl rfl dX12_findsLoop_22 ?_
          refine lv_iload_n hx hb dX12_findsLoop_25 rfl (lv_at hl 0 rfl) ?_
          refine r_zald (v := iI (ff2 z3)) M w 1 rfl (iI_in (by omega) (by omega) (by decide)) (cI_at (by omega) (by omega)) dX12_findsLoop_26 ?_
          have hh9 : 0 ≤ (ff2 z3) ∧ (ff2 z3) ≤ 1 := ff2_h z3
          refine lv_if_eq (tgt := 33) hx hb dX12_findsLoop_27 (by decide) (fun c_10 => ?_) (fun c_10 => ?_)
          · replace c_10 := (iz_eq (by omega) (by omega)).mp c_10
            refine lv_aload_n hx hb dX12_findsLoop_33 rfl (lv_at hl 1 rfl) ?_
            refine r_get (v := .ref a14) M w 2 27 clX12 rfl (by decide) G1490 rfl rfl dX12_findsLoop_34 ?_
            refine lv_iload_n hx hb dX12_findsLoop_37 rfl (lv_at hl 0 rfl) ?_
            refine lv_iconst (v := iI 1) hx hb dX12_findsLoop_38 (by decide +kernel) ?_
            refine r_zast (x2 := iI 1) (ws' := [(a12, .inl (T 0, 9, .inl (cI ff1))), (a14, .inl (T 2, 9, .inl (cI (upz ff2 z3 1)))), (a0, .inr (11, [.int r0, .ref a1, .int (iI x1), .int (iI x2), .int (iI x3), .int (iI x4), .int (iI x5), .int (iI x6), .int r1, .int (iI x7), .int (iI x8), .int (iI x9), .long y0, .int (iI x10), .ref a2, .ref a3, .ref a4, .ref a5, .ref a6, .ref a7, .ref a8, .ref a9, .ref a10, .ref a11, .int (iI x11), .ref a12, .ref a13, .ref a14, .ref a15, .int (iI x12), .int r2, .int r3, .ref a16, .int (iI x13), .int (iI x14), .ref a17, .ref a18, .int (iI x15), .ref a19, .int (iI x16), .int r4, .ref a20, .ref a21, .int (iI x17), .int r5, .ref a22, .int (iI x18), .int (iI x19), .int (iI x20), .int (iI x21)])), (a2, .inl (T 0, 329, .inl (cI f0))), (a15, .inl (T 2, 9, .inl (cI f3)))]) M w 1 rfl (iI_in (by omega) (by omega) (by decide)) (nb_z (by omega) (by omega)) (by rw [cI_up (by omega) (by omega)]; rfl) dX12_findsLoop_39 (fun H locs w => ?_)
            refine lv_aload_n hx hb dX12_findsLoop_40 rfl (lv_at hl 1 rfl) ?_
            refine r_get (v := .ref a12) M w 2 25 clX12 rfl (by decide) G1488 rfl rfl dX12_findsLoop_41 ?_
            refine lv_iload_n hx hb dX12_findsLoop_44 rfl (lv_at hl 0 rfl) ?_
            refine r_iald (v := iI (ff1 z3)) M w 0 rfl (iI_in (by omega) (by omega) (by decide)) (cI_at (by omega) (by omega)) dX12_findsLoop_45 ?_
            have hh11 : (-1) ≤ (ff1 z3) ∧ (ff1 z3) ≤ 8 := ff1_h z3
            refine lv_iconst (v := iI (-1)) hx hb dX12_findsLoop_46 (by decide +kernel) ?_
            refine lv_icmp_eq (tgt := 66) hx hb dX12_findsLoop_47 (by decide) (fun c_12 => ?_) (fun c_12 => ?_)
            · replace c_12 := (iI_eq (by omega) (by omega) (by decide) (by decide)).mp c_12
              refine lv_aload_n hx hb dX12_findsLoop_66 rfl (lv_at hl 1 rfl) ?_
              refine r_get (v := .ref a12) M w 2 25 clX12 rfl (by decide) G1488 rfl rfl dX12_findsLoop_67 ?_
              refine lv_iload_n hx hb dX12_findsLoop_70 rfl (lv_at hl 0 rfl) ?_
              refine lv_iload_n hx hb dX12_findsLoop_71 rfl (lv_at hl 2 rfl) ?_
              refine r_iast (ws' := [(a12, .inl (T 0, 9, .inl (cI (upz ff1 z3 x0)))), (a14, .inl (T 2, 9, .inl (cI (upz ff2 z3 1)))), (a0, .inr (11, [.int r0, .ref a1, .int (iI x1), .int (iI x2), .int (iI x3), .int (iI x4), .int (iI x5), .int (iI x6), .int r1, .int (iI x7), .int (iI x8), .int (iI x9), .long y0, .int (iI x10), .ref a2, .ref a3, .ref a4, .ref a5, .ref a6, .ref a7, .ref a8, .ref a9, .ref a10, .ref a11, .int (iI x11), .ref a12, .ref a13, .ref a14, .ref a15, .int (iI x12), .int r2, .int r3, .ref a16, .int (iI x13), .int (iI x14), .ref a17, .ref a18, .int (iI x15), .ref a19, .int (iI x16), .int r4, .ref a20, .ref a21, .int (iI x17), .int r5, .ref a22, .int (iI x18), .int (iI x19), .int (iI x20), .int (iI x21)])), (a2, .inl (T 0, 329, .inl (cI f0))), (a15, .inl (T 2, 9, .inl (cI f3)))]) M w 0 rfl (iI_in (by omega) (by omega) (by decide)) (by rw [cI_up (by omega) (by omega)]; rfl) dX12_findsLoop_72 (fun H locs w => ?_)
              refine lv_iconst (v := iI 1) hx hb dX12_findsLoop_73 (by decide +kernel) ?_
              exact ret _ (1, (upz ff1 z3 x0), (upz ff2 z3 1)) _ _ _ _ _ [2, 3, 0, 1, 4] dX12_findsLoop_74 (by decide +kernel) ⟨rfl, (show (0 : Int) ≤ 1 from by decide), (show (1 : Int) ≤ 1 from by decide), (rng_up ff1_h (by omega) (by omega)), (rng_up ff2_h (by omega) (by omega)), (show sb f2 (upz ff2 z3 1) from (sb_u lq1_s))⟩ w (by decide) rfl
            · replace c_12 : ¬ (ff1 z3) = (-1) := fun h => c_12 ((iI_eq (by omega) (by omega) (by decide) (by decide)).mpr h)
              refine lv_aload_n hx hb dX12_findsLoop_50 rfl (lv_at hl 1 rfl) ?_
              refine lv_aload_n hx hb dX12_findsLoop_51 rfl (lv_at hl 1 rfl) ?_
              refine r_get (v := .ref a12) M w 2 25 clX12 rfl (by decide) G1488 rfl rfl dX12_findsLoop_52 ?_
              refine lv_iload_n hx hb dX12_findsLoop_55 rfl (lv_at hl 0 rfl) ?_
              refine r_iald (v := iI (ff1 z3)) M w 0 rfl (iI_in (by omega) (by omega) (by decide)) (cI_at (by omega) (by omega)) dX12_findsLoop_56 ?_
              have hh13 : (-1) ≤ (ff1 z3) ∧ (ff1 z3) ≤ 8 := ff1_h z3
              refine k_I (ce := 0) (sl := 0) (rest := []) (wr := []) (r_V (f := 4) [2, 3, 0, 1, 4] M w V_HookedCityModel_313 G1871 G90 (c140_X12_findsLoop l D T _ a0 (ff1 z3) r0 a1 x1 x2 x3 x4 x5 x6 r1 x7 x8 x9 y0 x10 a2 a3 a4 a5 a6 a7 a8 a9 a10 a11 x11 a12 a13 a14 a15 x12 r2 r3 a16 x13 x14 a17 a18 x15 a19 x16 r4 a20 a21 x17 r5 a22 x18 x19 x20 x21 f0 ff1 (upz ff2 z3 1) f3 (by omega) (by omega) x1_a x1_b x2_a x2_b x3_a x3_b x4_a x4_b x5_a x5_b x6_a x6_b x7_a x7_b x8_a x8_b x9_a x9_b x10_a x10_b x11_a x11_b x12_a x12_b x13_a x13_b x14_a x14_b x15_a x15_b x16_a x16_b x17_a x17_b x18_a x18_b x19_a x19_b x20_a x20_b x21_a x21_b f0_h ff1_h (rng_up ff2_h (by omega) (by omega)) f3_h (by have e8 := cn_m lq1_s; have e9 := cn_u (f := ff2) (k := z3) (by omega) (by omega) (by omega); omega)) 2 clX12 rfl rfl (by decide) rfl hl.1 rfl (Nat.le_of_ble_eq_true rfl) dX12_findsLoop_57 (by decide) (by decide) (by decide) (by decide)) w [2, 3, 0, 1, 4] [] rfl rfl (by decide) (by decide) rfl rfl (fun v u H locs hp w => ?_)
              obtain ⟨z14, ff15, ff16⟩ := u
              have hv : iI z14 = v := hp.1
              subst hv
              have z14_a : 0 ≤ z14 := hp.2.1
              have z14_b : z14 ≤ 1 := hp.2.2.1
              have ff15_h : rng (-1) 8 ff15 := hp.2.2.2.1
              have ff16_h : rng 0 1 ff16 := hp.2.2.2.2.1
              have pq17 : sb (upz ff2 z3 1) ff16 := hp.2.2.2.2.2
              have w : WD D A s.heap [(a0, .inr (11, [.int r0, .ref a1, .int (iI x1), .int (iI x2), .int (iI x3), .int (iI x4), .int (iI x5), .int (iI x6), .int r1, .int (iI x7), .int (iI x8), .int (iI x9), .long y0, .int (iI x10), .ref a2, .ref a3, .ref a4, .ref a5, .ref a6, .ref a7, .ref a8, .ref a9, .ref a10, .ref a11, .int (iI x11), .ref a12, .ref a13, .ref a14, .ref a15, .int (iI x12), .int r2, .int r3, .ref a16, .int (iI x13), .int (iI x14), .ref a17, .ref a18, .int (iI x15), .ref a19, .int (iI x16), .int r4, .ref a20, .ref a21, .int (iI x17), .int r5, .ref a22, .int (iI x18), .int (iI x19), .int (iI x20), .int (iI x21)])), (a2, .inl (T 0, 329, .inl (cI f0))), (a12, .inl (T 0, 9, .inl (cI ff15))), (a14, .inl (T 2, 9, .inl (cI ff16))), (a15, .inl (T 2, 9, .inl (cI f3)))] H locs := w
              refine lv_if_ne (tgt := 66) hx hb dX12_findsLoop_60 (by decide) (fun c_18 => ?_) (fun c_18 => ?_)
              · replace c_18 : ¬ z14 = 0 := fun h => c_18 ((iz_eq (Int.le_trans (by decide) z14_a) (Int.le_trans z14_b (by decide))).mpr h)
                refine lv_aload_n hx hb dX12_findsLoop_66 rfl (lv_at hl 1 rfl) ?_
                refine r_get (v := .ref a12) M w 0 25 clX12 rfl (by decide) G1488 rfl rfl dX12_findsLoop_67 ?_
                refine lv_iload_n hx hb dX12_findsLoop_70 rfl (lv_at hl 0 rfl) ?_
                refine lv_iload_n hx hb dX12_findsLoop_71 rfl (lv_at hl 2 rfl) ?_
                refine r_iast (ws' := [(a0, .inr (11, [.int r0, .ref a1, .int (iI x1), .int (iI x2), .int (iI x3), .int (iI x4), .int (iI x5), .int (iI x6), .int r1, .int (iI x7), .int (iI x8), .int (iI x9), .long y0, .int (iI x10), .ref a2, .ref a3, .ref a4, .ref a5, .ref a6, .ref a7, .ref a8, .ref a9, .ref a10, .ref a11, .int (iI x11), .ref a12, .ref a13, .ref a14, .ref a15, .int (iI x12), .int r2, .int r3, .ref a16, .int (iI x13), .int (iI x14), .ref a17, .ref a18, .int (iI x15), .ref a19, .int (iI x16), .int r4, .ref a20, .ref a21, .int (iI x17), .int r5, .ref a22, .int (iI x18), .int (iI x19), .int (iI x20), .int (iI x21)])), (a2, .inl (T 0, 329, .inl (cI f0))), (a12, .inl (T 0, 9, .inl (cI (upz ff15 z3 x0)))), (a14, .inl (T 2, 9, .inl (cI ff16))), (a15, .inl (T 2, 9, .inl (cI f3)))]) M w 2 rfl (iI_in (by omega) (by omega) (by decide)) (by rw [cI_up (by omega) (by omega)]; rfl) dX12_findsLoop_72 (fun H locs w => ?_)
                refine lv_iconst (v := iI 1) hx hb dX12_findsLoop_73 (by decide +kernel) ?_
                exact ret _ (1, (upz ff15 z3 x0), ff16) _ _ _ _ _ [0, 1, 2, 3, 4] dX12_findsLoop_74 (by decide +kernel) ⟨rfl, (show (0 : Int) ≤ 1 from by decide), (show (1 : Int) ≤ 1 from by decide), (rng_up ff15_h (by omega) (by omega)), ff16_h, (show sb f2 ff16 from (sb_t (sb_u lq1_s) pq17))⟩ w (by decide) rfl
              · replace c_18 := (iz_eq (Int.le_trans (by decide) z14_a) (Int.le_trans z14_b (by decide))).mp c_18
                refine lv_goto (tgt := 75) hx hb dX12_findsLoop_63 (by decide) ?_
                refine lv_iinc (v := iI (z3 + 1)) (lv' := [(2, .int (iI (z3 + 1))), (0, .ref a0), (1, .int (iI x0))]) hx hb dX12_findsLoop_75 hl (k := 0) rfl (ii_inc (by decide +kernel)) (by decide) rfl (fun ls hl => ?_)
                refine lv_goto (tgt := 2) hx hb dX12_findsLoop_78 (by decide) ?_
                exact ih1 ff15 ff16 (z3 + 1) _ _ _ ff15_h ff16_h (by omega) (by omega) (sb_t (sb_u lq1_s) pq17) (by omega) w (lv_sub hl [0, 1, 2] rfl)
          · replace c_10 : ¬ (ff2 z3) = 0 := fun h => c_10 ((iz_eq (by omega) (by omega)).mpr h)
            refine lv_goto (tgt := 75) hx hb dX12_findsLoop_30 (by decide) ?_
            refine lv_iinc (v := iI (z3 + 1)) (lv' := [(2, .int (iI (z3 + 1))), (0, .ref a0), (1, .int (iI x0))]) hx hb dX12_findsLoop_75 hl (k := 0) rfl (ii_inc (by decide +kernel)) (by decide) rfl (fun ls hl => ?_)
            refine lv_goto (tgt := 2) hx hb dX12_findsLoop_78 (by decide) ?_
            exact ih1 ff1 ff2 (z3 + 1) _ _ _ ff1_h ff2_h (by omega) (by omega) lq1_s (by omega) (w.sub [2, 3, 0, 1, 4] (by decide) rfl) (lv_sub hl [0, 1, 2] rfl)
  exact loop1 ((9 : Int).toNat + 1) f1 f2 0 _ _ _ f1_h f2_h (by decide) (by decide) sb_r (Nat.lt_succ_self _) w (lv_sub hl [0, 1, 2] rfl)
set_option maxRecDepth 100000 in
set_option maxHeartbeats 4000000 in
theorem c142_X12_findsLoop (l : Launch) (D : va_G) (T : Nat → ClassId) (sz : Nat) (a0 : Nat) (x0 : Int) (r0 : Int32) (a1 : Nat) (x1 : Int) (x2 : Int) (x3 : Int) (x4 : Int) (x5 : Int) (x6 : Int) (r1 : Int32) (x7 : Int) (x8 : Int) (x9 : Int) (y0 : Int64) (x10 : Int) (a2 : Nat) (a3 : Nat) (a4 : Nat) (a5 : Nat) (a6 : Nat) (a7 : Nat) (a8 : Nat) (a9 : Nat) (a10 : Nat) (a11 : Nat) (x11 : Int) (a12 : Nat) (a13 : Nat) (a14 : Nat) (a15 : Nat) (x12 : Int) (r2 : Int32) (r3 : Int32) (a16 : Nat) (x13 : Int) (x14 : Int) (a17 : Nat) (a18 : Nat) (x15 : Int) (a19 : Nat) (x16 : Int) (r4 : Int32) (a20 : Nat) (a21 : Nat) (x17 : Int) (r5 : Int32) (a22 : Nat) (x18 : Int) (x19 : Int) (x20 : Int) (x21 : Int) (f0 : Int → Int) (f1 : Int → Int) (f2 : Int → Int) (f3 : Int → Int) (x0_a : 0 ≤ x0) (x0_b : x0 ≤ 8) (x1_a : 0 ≤ x1) (x1_b : x1 ≤ 940) (x2_a : 0 ≤ x2) (x2_b : x2 ≤ 940) (x3_a : 0 ≤ x3) (x3_b : x3 ≤ 940) (x4_a : 0 ≤ x4) (x4_b : x4 ≤ 940) (x5_a : 0 ≤ x5) (x5_b : x5 ≤ 940) (x6_a : 0 ≤ x6) (x6_b : x6 ≤ 4) (x7_a : (-2147483648) ≤ x7) (x7_b : x7 ≤ 2147483647) (x8_a : (-2147483648) ≤ x8) (x8_b : x8 ≤ 2147483647) (x9_a : 0 ≤ x9) (x9_b : x9 ≤ 940) (x10_a : (-2147483648) ≤ x10) (x10_b : x10 ≤ 2147483647) (x11_a : 0 ≤ x11) (x11_b : x11 ≤ 8) (x12_a : 0 ≤ x12) (x12_b : x12 ≤ 9) (x13_a : (-1) ≤ x13) (x13_b : x13 ≤ 9) (x14_a : (-1) ≤ x14) (x14_b : x14 ≤ 8) (x15_a : 0 ≤ x15) (x15_b : x15 ≤ 9) (x16_a : 0 ≤ x16) (x16_b : x16 ≤ 64) (x17_a : 0 ≤ x17) (x17_b : x17 ≤ 40) (x18_a : 0 ≤ x18) (x18_b : x18 ≤ 40) (x19_a : 0 ≤ x19) (x19_b : x19 ≤ 20) (x20_a : 0 ≤ x20) (x20_b : x20 ≤ 8) (x21_a : 0 ≤ x21) (x21_b : x21 ≤ 39) (f0_h : nowI f0) (f1_h : rng (-1) 8 f1) (f2_h : rng 0 1 f2) (f3_h : rng 0 1 f3) (pp_n : cn f2 ≤ 4) : Met l yX12_findsLoop (Cond.code yX12_findsLoop cX12_findsLoop 3 (some .boolean) :: GW) (Rm 6 0 0) (cPre [.ref a0, .int (iI x0)] D T [(a0, .inr (11, [.int r0, .ref a1, .int (iI x1), .int (iI x2), .int (iI x3), .int (iI x4), .int (iI x5), .int (iI x6), .int r1, .int (iI x7), .int (iI x8), .int (iI x9), .long y0, .int (iI x10), .ref a2, .ref a3, .ref a4, .ref a5, .ref a6, .ref a7, .ref a8, .ref a9, .ref a10, .ref a11, .int (iI x11), .ref a12, .ref a13, .ref a14, .ref a15, .int (iI x12), .int r2, .int r3, .ref a16, .int (iI x13), .int (iI x14), .ref a17, .ref a18, .int (iI x15), .ref a19, .int (iI x16), .int r4, .ref a20, .ref a21, .int (iI x17), .int r5, .ref a22, .int (iI x18), .int (iI x19), .int (iI x20), .int (iI x21)])), (a2, .inl (T 0, 329, .inl (cI f0))), (a12, .inl (T 0, 9, .inl (cI f1))), (a14, .inl (T 2, 9, .inl (cI f2))), (a15, .inl (T 2, 9, .inl (cI f3)))] sz) (qI D [(a0, .inr (11, [.int r0, .ref a1, .int (iI x1), .int (iI x2), .int (iI x3), .int (iI x4), .int (iI x5), .int (iI x6), .int r1, .int (iI x7), .int (iI x8), .int (iI x9), .long y0, .int (iI x10), .ref a2, .ref a3, .ref a4, .ref a5, .ref a6, .ref a7, .ref a8, .ref a9, .ref a10, .ref a11, .int (iI x11), .ref a12, .ref a13, .ref a14, .ref a15, .int (iI x12), .int r2, .int r3, .ref a16, .int (iI x13), .int (iI x14), .ref a17, .ref a18, .int (iI x15), .ref a19, .int (iI x16), .int r4, .ref a20, .ref a21, .int (iI x17), .int r5, .ref a22, .int (iI x18), .int (iI x19), .int (iI x20), .int (iI x21)])), (a2, .inl (T 0, 329, .inl (cI f0))), (a12, .inl (T 0, 9, .inl (cI f1))), (a14, .inl (T 2, 9, .inl (cI f2))), (a15, .inl (T 2, 9, .inl (cI f3)))] sz (fun (v : Int32) (u : Int × (Int → Int) × (Int → Int)) => iI u.1 = v ∧ 0 ≤ u.1 ∧ u.1 ≤ 1 ∧ rng (-1) 8 u.2.1 ∧ rng 0 1 u.2.2 ∧ (sb f2 u.2.2)) (fun u => [(a0, .inr (11, [.int r0, .ref a1, .int (iI x1), .int (iI x2), .int (iI x3), .int (iI x4), .int (iI x5), .int (iI x6), .int r1, .int (iI x7), .int (iI x8), .int (iI x9), .long y0, .int (iI x10), .ref a2, .ref a3, .ref a4, .ref a5, .ref a6, .ref a7, .ref a8, .ref a9, .ref a10, .ref a11, .int (iI x11), .ref a12, .ref a13, .ref a14, .ref a15, .int (iI x12), .int r2, .int r3, .ref a16, .int (iI x13), .int (iI x14), .ref a17, .ref a18, .int (iI x15), .ref a19, .int (iI x16), .int r4, .ref a20, .ref a21, .int (iI x17), .int r5, .ref a22, .int (iI x18), .int (iI x19), .int (iI x20), .int (iI x21)])), (a2, .inl (T 0, 329, .inl (cI f0))), (a12, .inl (T 0, 9, .inl (cI u.2.1))), (a14, .inl (T 2, 9, .inl (cI u.2.2))), (a15, .inl (T 2, 9, .inl (cI f3)))])) 0 0 (va_A [(a0, .inr (11, [.int r0, .ref a1, .int (iI x1), .int (iI x2), .int (iI x3), .int (iI x4), .int (iI x5), .int (iI x6), .int r1, .int (iI x7), .int (iI x8), .int (iI x9), .long y0, .int (iI x10), .ref a2, .ref a3, .ref a4, .ref a5, .ref a6, .ref a7, .ref a8, .ref a9, .ref a10, .ref a11, .int (iI x11), .ref a12, .ref a13, .ref a14, .ref a15, .int (iI x12), .int r2, .int r3, .ref a16, .int (iI x13), .int (iI x14), .ref a17, .ref a18, .int (iI x15), .ref a19, .int (iI x16), .int r4, .ref a20, .ref a21, .int (iI x17), .int r5, .ref a22, .int (iI x18), .int (iI x19), .int (iI x20), .int (iI x21)])), (a2, .inl (T 0, 329, .inl (cI f0))), (a12, .inl (T 0, 9, .inl (cI f1))), (a14, .inl (T 2, 9, .inl (cI f2))), (a15, .inl (T 2, 9, .inl (cI f3)))] sz) := by
  refine e_Z (by decide) (Nat.le_of_ble_eq_true rfl) ?_
  intro p e s m args below meth c A Q ls M hin w ret hl
  have hx := M.1.1
  have hb := M.1.2.1
  have hl : lv_has ls 3 [(0, .ref a0), (1, .int (iI x0))] := hl
  refine lv_iconst (v := iI 0) hx hb dX12_findsLoop_0 (by decide +kernel) ?_
  refine lv_istore_n (lv' := [(2, .int (iI 0)), (0, .ref a0), (1, .int (iI x0))]) hx hb dX12_findsLoop_1 rfl hl (by decide) rfl (fun ls hl => ?_)
  have loop1 : ∀ (k1 : Nat) (ff1 : Int → Int) (ff2 : Int → Int) (z3 : Int) (H : Heap) (locs : List Loc) (ls : Array Slot), rng (-1) 8 ff1 → rng 0 1 ff2 → 0 ≤ z3 → z3 ≤ 9 → sb f2 ff2 → ((9 - z3) : Int).toNat < k1 → WD D A s.heap [(a0, .inr (11, [.int r0, .ref a1, .int (iI x1), .int (iI x2), .int (iI x3), .int (iI x4), .int (iI x5), .int (iI x6), .int r1, .int (iI x7), .int (iI x8), .int (iI x9), .long y0, .int (iI x10), .ref a2, .ref a3, .ref a4, .ref a5, .ref a6, .ref a7, .ref a8, .ref a9, .ref a10, .ref a11, .int (iI x11), .ref a12, .ref a13, .ref a14, .ref a15, .int (iI x12), .int r2, .int r3, .ref a16, .int (iI x13), .int (iI x14), .ref a17, .ref a18, .int (iI x15), .ref a19, .int (iI x16), .int r4, .ref a20, .ref a21, .int (iI x17), .int r5, .ref a22, .int (iI x18), .int (iI x19), .int (iI x20), .int (iI x21)])), (a2, .inl (T 0, 329, .inl (cI f0))), (a12, .inl (T 0, 9, .inl (cI ff1))), (a14, .inl (T 2, 9, .inl (cI ff2))), (a15, .inl (T 2, 9, .inl (cI f3)))] H locs → lv_has ls 3 [(2, .int (iI z3)), (0, .ref a0), (1, .int (iI x0))] → W p l e (Rm 6 0 0) s m args below meth c H locs 0 0 Q (F0 m 2 ls []) := by
    intro k1
    induction k1 with
    | zero => intro ff1 ff2 z3 H locs ls ff1_h ff2_h z3_a z3_b lq1_s hm; exact absurd hm (Nat.not_lt_zero _)
    | succ k1 ih1 =>
      intro ff1 ff2 z3 H locs ls ff1_h ff2_h z3_a z3_b lq1_s hm1 w hl
      refine lv_iload_n hx hb dX12_findsLoop_2 rfl (lv_at hl 0 rfl) ?_
      refine lv_aload_n hx hb dX12_findsLoop_3 rfl (lv_at hl 1 rfl) ?_
      refine r_get (v := .ref a2) M w 0 14 clX12 rfl (by decide) G1477 rfl rfl dX12_findsLoop_4 ?_
      refine lv_iconst (v := iI 0) hx hb dX12_findsLoop_7 (by decide +kernel) ?_
      refine r_iald (v := iI (f0 0)) M w 1 rfl (iI_in (by decide) (by decide) (by decide)) (cI_at (by omega) (by omega)) dX12_findsLoop_8 ?_
      have hh4 : (-2147483648) ≤ (f0 0) ∧ (f0 0) ≤ 2147483647 := f0_h.1 0
      have hh5 : 0 ≤ (f0 0) ∧ (f0 0) ≤ 9 := (f0_h.2.1 0).1 (by omega)
      refine lv_icmp_ge (tgt := 81) hx hb dX12_findsLoop_9 (by decide) (fun c_6 => ?_) (fun c_6 => ?_)
      · replace c_6 := (iI_le (by omega) (by omega) (Int.le_trans (by decide) z3_a) (Int.le_trans z3_b (by decide))).mp c_6
        refine lv_iconst (v := iI 0) hx hb dX12_findsLoop_81 (by decide +kernel) ?_
        exact ret _ (0, ff1, ff2) _ _ _ _ _ [0, 1, 2, 3, 4] dX12_findsLoop_82 (by decide +kernel) ⟨rfl, (show (0 : Int) ≤ 0 from by decide), (show (0 : Int) ≤ 1 from by decide), ff1_h, ff2_h, (show sb f2 ff2 from lq1_s)⟩ w (by decide) rfl
      · replace c_6 : z3 < (f0 0) := Int.not_le.mp (fun h => c_6 ((iI_le (by omega) (by omega) (Int.le_trans (by decide) z3_a) (Int.le_trans z3_b (by decide))).mpr h))
        refine lv_aload_n hx hb dX12_findsLoop_12 rfl (lv_at hl 1 rfl) ?_
        refine lv_iload_n hx hb dX12_findsLoop_13 rfl (lv_at hl 2 rfl) ?_
        refine lv_iload_n hx hb dX12_findsLoop_14 rfl (lv_at hl 0 rfl) ?_
        refine k_I (ce := 0) (sl := 0) (rest := []) (wr := [(a12, .inl (T 0, 9, .inl (cI ff1))), (a14, .inl (T 2, 9, .inl (cI ff2)))]) (r_V (f := 1) [0, 1, 4] M w V_HookedCityModel_310 G1875 G91 (c137_X12_canGo l D T _ a0 x0 z3 r0 a1 x1 x2 x3 x4 x5 x6 r1 x7 x8 x9 y0 x10 a2 a3 a4 a5 a6 a7 a8 a9 a10 a11 x11 a12 a13 a14 a15 x12 r2 r3 a16 x13 x14 a17 a18 x15 a19 x16 r4 a20 a21 x17 r5 a22 x18 x19 x20 x21 f0 f3 x0_a x0_b (by omega) (by omega) x1_a x1_b x2_a x2_b x3_a x3_b x4_a x4_b x5_a x5_b x6_a x6_b x7_a x7_b x8_a x8_b x9_a x9_b x10_a x10_b x11_a x11_b x12_a x12_b x13_a x13_b x14_a x14_b x15_a x15_b x16_a x16_b x17_a x17_b x18_a x18_b x19_a x19_b x20_a x20_b x21_a x21_b f0_h f3_h) 0 clX12 rfl rfl (by decide) rfl hl.1 rfl (Nat.le_of_ble_eq_true rfl) dX12_findsLoop_15 (by decide) (by decide) (by decide) (by decide)) w [0, 1, 4] [2, 3] rfl rfl (by decide) (by decide) rfl rfl (fun v z7 H locs hp w => ?_)
        have hv : iI z7 = v := hp.1
        subst hv
        have z7_a : 0 ≤ z7 := hp.2.1
        have z7_b : z7 ≤ 1 := hp.2.2
        have w : WD D A s.heap [(a12, .inl (T 0, 9, .inl (cI ff1))), (a14, .inl (T 2, 9, .inl (cI ff2))), (a0, .inr (11, [.int r0, .ref a1, .int (iI x1), .int (iI x2), .int (iI x3), .int (iI x4), .int (iI x5), .int (iI x6), .int r1, .int (iI x7), .int (iI x8), .int (iI x9), .long y0, .int (iI x10), .ref a2, .ref a3, .ref a4, .ref a5, .ref a6, .ref a7, .ref a8, .ref a9, .ref a10, .ref a11, .int (iI x11), .ref a12, .ref a13, .ref a14, .ref a15, .int (iI x12), .int r2, .int r3, .ref a16, .int (iI x13), .int (iI x14), .ref a17, .ref a18, .int (iI x15), .ref a19, .int (iI x16), .int r4, .ref a20, .ref a21, .int (iI x17), .int r5, .ref a22, .int (iI x18), .int (iI x19), .int (iI x20), .int (iI x21)])), (a2, .inl (T 0, 329, .inl (cI f0))), (a15, .inl (T 2, 9, .inl (cI f3)))] H locs := w
        refine lv_if_eq (tgt := 75) hx hb dX12_findsLoop_18 (by decide) (fun c_8 => ?_) (fun c_8 => ?_)
        · replace c_8 := (iz_eq (Int.le_trans (by decide) z7_a) (Int.le_trans z7_b (by decide))).mp c_8
          refine lv_iinc (v := iI (z3 + 1)) (lv' := [(2, .int (iI (z3 + 1))), (0, .ref a0), (1, .int (iI x0))]) hx hb dX12_findsLoop_75 hl (k := 0) rfl (ii_inc (by decide +kernel)) (by decide) rfl (fun ls hl => ?_)
          refine lv_goto (tgt := 2) hx hb dX12_findsLoop_78 (by decide) ?_
          exact ih1 ff1 ff2 (z3 + 1) _ _ _ ff1_h ff2_h (by omega) (by omega) lq1_s (by omega) (w.sub [2, 3, 0, 1, 4] (by decide) rfl) (lv_sub hl [0, 1, 2] rfl)
        · replace c_8 : ¬ z7 = 0 := fun h => c_8 ((iz_eq (Int.le_trans (by decide) z7_a) (Int.le_trans z7_b (by decide))).mpr h)
          refine lv_aload_n hx hb dX12_findsLoop_21 rfl (lv_at hl 1 rfl) ?_
          refine r_get (v := .ref a14) M w 2 27 clX12 rfl (by decide) G1490 rfl rfl dX12_findsLoop_22 ?_
          refine lv_iload_n hx hb dX12_findsLoop_25 rfl (lv_at hl 0 rfl) ?_
          refine r_zald (v := iI (ff2 z3)) M w 1 rfl (iI_in (by omega) (by omega) (by decide)) (cI_at (by omega) (by omega)) dX12_findsLoop_26 ?_
          have hh9 : 0 ≤ (ff2 z3) ∧ (ff2 z3) ≤ 1 := ff2_h z3
          refine lv_if_eq (tgt := 33) hx hb dX12_findsLoop_27 (by decide) (fun c_10 => ?_) (fun c_10 => ?_)
          · replace c_10 := (iz_eq (by omega) (by omega)).mp c_10
            refine lv_aload_n hx hb dX12_findsLoop_33 rfl (lv_at hl 1 rfl) ?_
            refine r_get (v := .ref a14) M w 2 27 clX12 rfl (by decide) G1490 rfl rfl dX12_findsLoop_34 ?_
            refine lv_iload_n hx hb dX12_findsLoop_37 rfl (lv_at hl 0 rfl) ?_
            refine lv_iconst (v := iI 1) hx hb dX12_findsLoop_38 (by decide +kernel) ?_
            refine r_zast (x2 := iI 1) (ws' := [(a12, .inl (T 0, 9, .inl (cI ff1))), (a14, .inl (T 2, 9, .inl (cI (upz ff2 z3 1)))), (a0, .inr (11, [.int r0, .ref a1, .int (iI x1), .int (iI x2), .int (iI x3), .int (iI x4), .int (iI x5), .int (iI x6), .int r1, .int (iI x7), .int (iI x8), .int (iI x9), .long y0, .int (iI x10), .ref a2, .ref a3, .ref a4, .ref a5, .ref a6, .ref a7, .ref a8, .ref a9, .ref a10, .ref a11, .int (iI x11), .ref a12, .ref a13, .ref a14, .ref a15, .int (iI x12), .int r2, .int r3, .ref a16, .int (iI x13), .int (iI x14), .ref a17, .ref a18, .int (iI x15), .ref a19, .int (iI x16), .int r4, .ref a20, .ref a21, .int (iI x17), .int r5, .ref a22, .int (iI x18), .int (iI x19), .int (iI x20), .int (iI x21)])), (a2, .inl (T 0, 329, .inl (cI f0))), (a15, .inl (T 2, 9, .inl (cI f3)))]) M w 1 rfl (iI_in (by omega) (by omega) (by decide)) (nb_z (by omega) (by omega)) (by rw [cI_up (by omega) (by omega)]; rfl) dX12_findsLoop_39 (fun H locs w => ?_)
            refine lv_aload_n hx hb dX12_findsLoop_40 rfl (lv_at hl 1 rfl) ?_
            refine r_get (v := .ref a12) M w 2 25 clX12 rfl (by decide) G1488 rfl rfl dX12_findsLoop_41 ?_
            refine lv_iload_n hx hb dX12_findsLoop_44 rfl (lv_at hl 0 rfl) ?_
            refine r_iald (v := iI (ff1 z3)) M w 0 rfl (iI_in (by omega) (by omega) (by decide)) (cI_at (by omega) (by omega)) dX12_findsLoop_45 ?_
            have hh11 : (-1) ≤ (ff1 z3) ∧ (ff1 z3) ≤ 8 := ff1_h z3
            refine lv_iconst (v := iI (-1)) hx hb dX12_findsLoop_46 (by decide +kernel) ?_
            refine lv_icmp_eq (tgt := 66) hx hb dX12_findsLoop_47 (by decide) (fun c_12 => ?_) (fun c_12 => ?_)
            · replace c_12 := (iI_eq (by omega) (by omega) (by decide) (by decide)).mp c_12
              refine lv_aload_n hx hb dX12_findsLoop_66 rfl (lv_at hl 1 rfl) ?_
              refine r_get (v := .ref a12) M w 2 25 clX12 rfl (by decide) G1488 rfl rfl dX12_findsLoop_67 ?_
              refine lv_iload_n hx hb dX12_findsLoop_70 rfl (lv_at hl 0 rfl) ?_
              refine lv_iload_n hx hb dX12_findsLoop_71 rfl (lv_at hl 2 rfl) ?_
              refine r_iast (ws' := [(a12, .inl (T 0, 9, .inl (cI (upz ff1 z3 x0)))), (a14, .inl (T 2, 9, .inl (cI (upz ff2 z3 1)))), (a0, .inr (11, [.int r0, .ref a1, .int (iI x1), .int (iI x2), .int (iI x3), .int (iI x4), .int (iI x5), .int (iI x6), .int r1, .int (iI x7), .int (iI x8), .int (iI x9), .long y0, .int (iI x10), .ref a2, .ref a3, .ref a4, .ref a5, .ref a6, .ref a7, .ref a8, .ref a9, .ref a10, .ref a11, .int (iI x11), .ref a12, .ref a13, .ref a14, .ref a15, .int (iI x12), .int r2, .int r3, .ref a16, .int (iI x13), .int (iI x14), .ref a17, .ref a18, .int (iI x15), .ref a19, .int (iI x16), .int r4, .ref a20, .ref a21, .int (iI x17), .int r5, .ref a22, .int (iI x18), .int (iI x19), .int (iI x20), .int (iI x21)])), (a2, .inl (T 0, 329, .inl (cI f0))), (a15, .inl (T 2, 9, .inl (cI f3)))]) M w 0 rfl (iI_in (by omega) (by omega) (by decide)) (by rw [cI_up (by omega) (by omega)]; rfl) dX12_findsLoop_72 (fun H locs w => ?_)
              refine lv_iconst (v := iI 1) hx hb dX12_findsLoop_73 (by decide +kernel) ?_
              exact ret _ (1, (upz ff1 z3 x0), (upz ff2 z3 1)) _ _ _ _ _ [2, 3, 0, 1, 4] dX12_findsLoop_74 (by decide +kernel) ⟨rfl, (show (0 : Int) ≤ 1 from by decide), (show (1 : Int) ≤ 1 from by decide), (rng_up ff1_h (by omega) (by omega)), (rng_up ff2_h (by omega) (by omega)), (show sb f2 (upz ff2 z3 1) from (sb_u lq1_s))⟩ w (by decide) rfl
            · replace c_12 : ¬ (ff1 z3) = (-1) := fun h => c_12 ((iI_eq (by omega) (by omega) (by decide) (by decide)).mpr h)
              refine lv_aload_n hx hb dX12_findsLoop_50 rfl (lv_at hl 1 rfl) ?_
              refine lv_aload_n hx hb dX12_findsLoop_51 rfl (lv_at hl 1 rfl) ?_
              refine r_get (v := .ref a12) M w 2 25 clX12 rfl (by decide) G1488 rfl rfl dX12_findsLoop_52 ?_
              refine lv_iload_n hx hb dX12_findsLoop_55 rfl (lv_at hl 0 rfl) ?_
              refine r_iald (v := iI (ff1 z3)) M w 0 rfl (iI_in (by omega) (by omega) (by decide)) (cI_at (by omega) (by omega)) dX12_findsLoop_56 ?_
              have hh13 : (-1) ≤ (ff1 z3) ∧ (ff1 z3) ≤ 8 := ff1_h z3
              refine k_I (ce := 0) (sl := 0) (rest := []) (wr := []) (r_V (f := 5) [2, 3, 0, 1, 4] M w V_HookedCityModel_313 G1871 G90 (c141_X12_findsLoop l D T _ a0 (ff1 z3) r0 a1 x1 x2 x3 x4 x5 x6 r1 x7 x8 x9 y0 x10 a2 a3 a4 a5 a6 a7 a8 a9 a10 a11 x11 a12 a13 a14 a15 x12 r2 r3 a16 x13 x14 a17 a18 x15 a19 x16 r4 a20 a21 x17 r5 a22 x18 x19 x20 x21 f0 ff1 (upz ff2 z3 1) f3 (by omega) (by omega) x1_a x1_b x2_a x2_b x3_a x3_b x4_a x4_b x5_a x5_b x6_a x6_b x7_a x7_b x8_a x8_b x9_a x9_b x10_a x10_b x11_a x11_b x12_a x12_b x13_a x13_b x14_a x14_b x15_a x15_b x16_a x16_b x17_a x17_b x18_a x18_b x19_a x19_b x20_a x20_b x21_a x21_b f0_h ff1_h (rng_up ff2_h (by omega) (by omega)) f3_h (by have e8 := cn_m lq1_s; have e9 := cn_u (f := ff2) (k := z3) (by omega) (by omega) (by omega); omega)) 2 clX12 rfl rfl (by decide) rfl hl.1 rfl (Nat.le_of_ble_eq_true rfl) dX12_findsLoop_57 (by decide) (by decide) (by decide) (by decide)) w [2, 3, 0, 1, 4] [] rfl rfl (by decide) (by decide) rfl rfl (fun v u H locs hp w => ?_)
              obtain ⟨z14, ff15, ff16⟩ := u
              have hv : iI z14 = v := hp.1
              subst hv
              have z14_a : 0 ≤ z14 := hp.2.1
              have z14_b : z14 ≤ 1 := hp.2.2.1
              have ff15_h : rng (-1) 8 ff15 := hp.2.2.2.1
              have ff16_h : rng 0 1 ff16 := hp.2.2.2.2.1
              have pq17 : sb (upz ff2 z3 1) ff16 := hp.2.2.2.2.2
              have w : WD D A s.heap [(a0, .inr (11, [.int r0, .ref a1, .int (iI x1), .int (iI x2), .int (iI x3), .int (iI x4), .int (iI x5), .int (iI x6), .int r1, .int (iI x7), .int (iI x8), .int (iI x9), .long y0, .int (iI x10), .ref a2, .ref a3, .ref a4, .ref a5, .ref a6, .ref a7, .ref a8, .ref a9, .ref a10, .ref a11, .int (iI x11), .ref a12, .ref a13, .ref a14, .ref a15, .int (iI x12), .int r2, .int r3, .ref a16, .int (iI x13), .int (iI x14), .ref a17, .ref a18, .int (iI x15), .ref a19, .int (iI x16), .int r4, .ref a20, .ref a21, .int (iI x17), .int r5, .ref a22, .int (iI x18), .int (iI x19), .int (iI x20), .int (iI x21)])), (a2, .inl (T 0, 329, .inl (cI f0))), (a12, .inl (T 0, 9, .inl (cI ff15))), (a14, .inl (T 2, 9, .inl (cI ff16))), (a15, .inl (T 2, 9, .inl (cI f3)))] H locs := w
              refine lv_if_ne (tgt := 66) hx hb dX12_findsLoop_60 (by decide) (fun c_18 => ?_) (fun c_18 => ?_)
              · replace c_18 : ¬ z14 = 0 := fun h => c_18 ((iz_eq (Int.le_trans (by decide) z14_a) (Int.le_trans z14_b (by decide))).mpr h)
                refine lv_aload_n hx hb dX12_findsLoop_66 rfl (lv_at hl 1 rfl) ?_
                refine r_get (v := .ref a12) M w 0 25 clX12 rfl (by decide) G1488 rfl rfl dX12_findsLoop_67 ?_
                refine lv_iload_n hx hb dX12_findsLoop_70 rfl (lv_at hl 0 rfl) ?_
                refine lv_iload_n hx hb dX12_findsLoop_71 rfl (lv_at hl 2 rfl) ?_
                refine r_iast (ws' := [(a0, .inr (11, [.int r0, .ref a1, .int (iI x1), .int (iI x2), .int (iI x3), .int (iI x4), .int (iI x5), .int (iI x6), .int r1, .int (iI x7), .int (iI x8), .int (iI x9), .long y0, .int (iI x10), .ref a2, .ref a3, .ref a4, .ref a5, .ref a6, .ref a7, .ref a8, .ref a9, .ref a10, .ref a11, .int (iI x11), .ref a12, .ref a13, .ref a14, .ref a15, .int (iI x12), .int r2, .int r3, .ref a16, .int (iI x13), .int (iI x14), .ref a17, .ref a18, .int (iI x15), .ref a19, .int (iI x16), .int r4, .ref a20, .ref a21, .int (iI x17), .int r5, .ref a22, .int (iI x18), .int (iI x19), .int (iI x20), .int (iI x21)])), (a2, .inl (T 0, 329, .inl (cI f0))), (a12, .inl (T 0, 9, .inl (cI (upz ff15 z3 x0)))), (a14, .inl (T 2, 9, .inl (cI ff16))), (a15, .inl (T 2, 9, .inl (cI f3)))]) M w 2 rfl (iI_in (by omega) (by omega) (by decide)) (by rw [cI_up (by omega) (by omega)]; rfl) dX12_findsLoop_72 (fun H locs w => ?_)
                refine lv_iconst (v := iI 1) hx hb dX12_findsLoop_73 (by decide +kernel) ?_
                exact ret _ (1, (upz ff15 z3 x0), ff16) _ _ _ _ _ [0, 1, 2, 3, 4] dX12_findsLoop_74 (by decide +kernel) ⟨rfl, (show (0 : Int) ≤ 1 from by decide), (show (1 : Int) ≤ 1 from by decide), (rng_up ff15_h (by omega) (by omega)), ff16_h, (show sb f2 ff16 from (sb_t (sb_u lq1_s) pq17))⟩ w (by decide) rfl
              · replace c_18 := (iz_eq (Int.le_trans (by decide) z14_a) (Int.le_trans z14_b (by decide))).mp c_18
                refine lv_goto (tgt := 75) hx hb dX12_findsLoop_63 (by decide) ?_
                refine lv_iinc (v := iI (z3 + 1)) (lv' := [(2, .int (iI (z3 + 1))), (0, .ref a0), (1, .int (iI x0))]) hx hb dX12_findsLoop_75 hl (k := 0) rfl (ii_inc (by decide +kernel)) (by decide) rfl (fun ls hl => ?_)
                refine lv_goto (tgt := 2) hx hb dX12_findsLoop_78 (by decide) ?_
                exact ih1 ff15 ff16 (z3 + 1) _ _ _ ff15_h ff16_h (by omega) (by omega) (sb_t (sb_u lq1_s) pq17) (by omega) w (lv_sub hl [0, 1, 2] rfl)
          · replace c_10 : ¬ (ff2 z3) = 0 := fun h => c_10 ((iz_eq (by omega) (by omega)).mpr h)
            refine lv_goto (tgt := 75) hx hb dX12_findsLoop_30 (by decide) ?_
            refine lv_iinc (v := iI (z3 + 1)) (lv' := [(2, .int (iI (z3 + 1))), (0, .ref a0), (1, .int (iI x0))]) hx hb dX12_findsLoop_75 hl (k := 0) rfl (ii_inc (by decide +kernel)) (by decide) rfl (fun ls hl => ?_)
            refine lv_goto (tgt := 2) hx hb dX12_findsLoop_78 (by decide) ?_
            exact ih1 ff1 ff2 (z3 + 1) _ _ _ ff1_h ff2_h (by omega) (by omega) lq1_s (by omega) (w.sub [2, 3, 0, 1, 4] (by decide) rfl) (lv_sub hl [0, 1, 2] rfl)
  exact loop1 ((9 : Int).toNat + 1) f1 f2 0 _ _ _ f1_h f2_h (by decide) (by decide) sb_r (Nat.lt_succ_self _) w (lv_sub hl [0, 1, 2] rfl)
set_option maxRecDepth 100000 in
set_option maxHeartbeats 4000000 in
theorem c143_X12_findsLoop (l : Launch) (D : va_G) (T : Nat → ClassId) (sz : Nat) (a0 : Nat) (x0 : Int) (r0 : Int32) (a1 : Nat) (x1 : Int) (x2 : Int) (x3 : Int) (x4 : Int) (x5 : Int) (x6 : Int) (r1 : Int32) (x7 : Int) (x8 : Int) (x9 : Int) (y0 : Int64) (x10 : Int) (a2 : Nat) (a3 : Nat) (a4 : Nat) (a5 : Nat) (a6 : Nat) (a7 : Nat) (a8 : Nat) (a9 : Nat) (a10 : Nat) (a11 : Nat) (x11 : Int) (a12 : Nat) (a13 : Nat) (a14 : Nat) (a15 : Nat) (x12 : Int) (r2 : Int32) (r3 : Int32) (a16 : Nat) (x13 : Int) (x14 : Int) (a17 : Nat) (a18 : Nat) (x15 : Int) (a19 : Nat) (x16 : Int) (r4 : Int32) (a20 : Nat) (a21 : Nat) (x17 : Int) (r5 : Int32) (a22 : Nat) (x18 : Int) (x19 : Int) (x20 : Int) (x21 : Int) (f0 : Int → Int) (f1 : Int → Int) (f2 : Int → Int) (f3 : Int → Int) (x0_a : 0 ≤ x0) (x0_b : x0 ≤ 8) (x1_a : 0 ≤ x1) (x1_b : x1 ≤ 940) (x2_a : 0 ≤ x2) (x2_b : x2 ≤ 940) (x3_a : 0 ≤ x3) (x3_b : x3 ≤ 940) (x4_a : 0 ≤ x4) (x4_b : x4 ≤ 940) (x5_a : 0 ≤ x5) (x5_b : x5 ≤ 940) (x6_a : 0 ≤ x6) (x6_b : x6 ≤ 4) (x7_a : (-2147483648) ≤ x7) (x7_b : x7 ≤ 2147483647) (x8_a : (-2147483648) ≤ x8) (x8_b : x8 ≤ 2147483647) (x9_a : 0 ≤ x9) (x9_b : x9 ≤ 940) (x10_a : (-2147483648) ≤ x10) (x10_b : x10 ≤ 2147483647) (x11_a : 0 ≤ x11) (x11_b : x11 ≤ 8) (x12_a : 0 ≤ x12) (x12_b : x12 ≤ 9) (x13_a : (-1) ≤ x13) (x13_b : x13 ≤ 9) (x14_a : (-1) ≤ x14) (x14_b : x14 ≤ 8) (x15_a : 0 ≤ x15) (x15_b : x15 ≤ 9) (x16_a : 0 ≤ x16) (x16_b : x16 ≤ 64) (x17_a : 0 ≤ x17) (x17_b : x17 ≤ 40) (x18_a : 0 ≤ x18) (x18_b : x18 ≤ 40) (x19_a : 0 ≤ x19) (x19_b : x19 ≤ 20) (x20_a : 0 ≤ x20) (x20_b : x20 ≤ 8) (x21_a : 0 ≤ x21) (x21_b : x21 ≤ 39) (f0_h : nowI f0) (f1_h : rng (-1) 8 f1) (f2_h : rng 0 1 f2) (f3_h : rng 0 1 f3) (pp_n : cn f2 ≤ 5) : Met l yX12_findsLoop (Cond.code yX12_findsLoop cX12_findsLoop 3 (some .boolean) :: GW) (Rm 7 0 0) (cPre [.ref a0, .int (iI x0)] D T [(a0, .inr (11, [.int r0, .ref a1, .int (iI x1), .int (iI x2), .int (iI x3), .int (iI x4), .int (iI x5), .int (iI x6), .int r1, .int (iI x7), .int (iI x8), .int (iI x9), .long y0, .int (iI x10), .ref a2, .ref a3, .ref a4, .ref a5, .ref a6, .ref a7, .ref a8, .ref a9, .ref a10, .ref a11, .int (iI x11), .ref a12, .ref a13, .ref a14, .ref a15, .int (iI x12), .int r2, .int r3, .ref a16, .int (iI x13), .int (iI x14), .ref a17, .ref a18, .int (iI x15), .ref a19, .int (iI x16), .int r4, .ref a20, .ref a21, .int (iI x17), .int r5, .ref a22, .int (iI x18), .int (iI x19), .int (iI x20), .int (iI x21)])), (a2, .inl (T 0, 329, .inl (cI f0))), (a12, .inl (T 0, 9, .inl (cI f1))), (a14, .inl (T 2, 9, .inl (cI f2))), (a15, .inl (T 2, 9, .inl (cI f3)))] sz) (qI D [(a0, .inr (11, [.int r0, .ref a1, .int (iI x1), .int (iI x2), .int (iI x3), .int (iI x4), .int (iI x5), .int (iI x6), .int r1, .int (iI x7), .int (iI x8), .int (iI x9), .long y0, .int (iI x10), .ref a2, .ref a3, .ref a4, .ref a5, .ref a6, .ref a7, .ref a8, .ref a9, .ref a10, .ref a11, .int (iI x11), .ref a12, .ref a13, .ref a14, .ref a15, .int (iI x12), .int r2, .int r3, .ref a16, .int (iI x13), .int (iI x14), .ref a17, .ref a18, .int (iI x15), .ref a19, .int (iI x16), .int r4, .ref a20, .ref a21, .int (iI x17), .int r5, .ref a22, .int (iI x18), .int (iI x19), .int (iI x20), .int (iI x21)])), (a2, .inl (T 0, 329, .inl (cI f0))), (a12, .inl (T 0, 9, .inl (cI f1))), (a14, .inl (T 2, 9, .inl (cI f2))), (a15, .inl (T 2, 9, .inl (cI f3)))] sz (fun (v : Int32) (u : Int × (Int → Int) × (Int → Int)) => iI u.1 = v ∧ 0 ≤ u.1 ∧ u.1 ≤ 1 ∧ rng (-1) 8 u.2.1 ∧ rng 0 1 u.2.2 ∧ (sb f2 u.2.2)) (fun u => [(a0, .inr (11, [.int r0, .ref a1, .int (iI x1), .int (iI x2), .int (iI x3), .int (iI x4), .int (iI x5), .int (iI x6), .int r1, .int (iI x7), .int (iI x8), .int (iI x9), .long y0, .int (iI x10), .ref a2, .ref a3, .ref a4, .ref a5, .ref a6, .ref a7, .ref a8, .ref a9, .ref a10, .ref a11, .int (iI x11), .ref a12, .ref a13, .ref a14, .ref a15, .int (iI x12), .int r2, .int r3, .ref a16, .int (iI x13), .int (iI x14), .ref a17, .ref a18, .int (iI x15), .ref a19, .int (iI x16), .int r4, .ref a20, .ref a21, .int (iI x17), .int r5, .ref a22, .int (iI x18), .int (iI x19), .int (iI x20), .int (iI x21)])), (a2, .inl (T 0, 329, .inl (cI f0))), (a12, .inl (T 0, 9, .inl (cI u.2.1))), (a14, .inl (T 2, 9, .inl (cI u.2.2))), (a15, .inl (T 2, 9, .inl (cI f3)))])) 0 0 (va_A [(a0, .inr (11, [.int r0, .ref a1, .int (iI x1), .int (iI x2), .int (iI x3), .int (iI x4), .int (iI x5), .int (iI x6), .int r1, .int (iI x7), .int (iI x8), .int (iI x9), .long y0, .int (iI x10), .ref a2, .ref a3, .ref a4, .ref a5, .ref a6, .ref a7, .ref a8, .ref a9, .ref a10, .ref a11, .int (iI x11), .ref a12, .ref a13, .ref a14, .ref a15, .int (iI x12), .int r2, .int r3, .ref a16, .int (iI x13), .int (iI x14), .ref a17, .ref a18, .int (iI x15), .ref a19, .int (iI x16), .int r4, .ref a20, .ref a21, .int (iI x17), .int r5, .ref a22, .int (iI x18), .int (iI x19), .int (iI x20), .int (iI x21)])), (a2, .inl (T 0, 329, .inl (cI f0))), (a12, .inl (T 0, 9, .inl (cI f1))), (a14, .inl (T 2, 9, .inl (cI f2))), (a15, .inl (T 2, 9, .inl (cI f3)))] sz) := by
  refine e_Z (by decide) (Nat.le_of_ble_eq_true rfl) ?_
  intro p e s m args below meth c A Q ls M hin w ret hl
  have hx := M.1.1
  have hb := M.1.2.1
  have hl : lv_has ls 3 [(0, .ref a0), (1, .int (iI x0))] := hl
  refine lv_iconst (v := iI 0) hx hb dX12_findsLoop_0 (by decide +kernel) ?_
  refine lv_istore_n (lv' := [(2, .int (iI 0)), (0, .ref a0), (1, .int (iI x0))]) hx hb dX12_findsLoop_1 rfl hl (by decide) rfl (fun ls hl => ?_)
  have loop1 : ∀ (k1 : Nat) (ff1 : Int → Int) (ff2 : Int → Int) (z3 : Int) (H : Heap) (locs : List Loc) (ls : Array Slot), rng (-1) 8 ff1 → rng 0 1 ff2 → 0 ≤ z3 → z3 ≤ 9 → sb f2 ff2 → ((9 - z3) : Int).toNat < k1 → WD D A s.heap [(a0, .inr (11, [.int r0, .ref a1, .int (iI x1), .int (iI x2), .int (iI x3), .int (iI x4), .int (iI x5), .int (iI x6), .int r1, .int (iI x7), .int (iI x8), .int (iI x9), .long y0, .int (iI x10), .ref a2, .ref a3, .ref a4, .ref a5, .ref a6, .ref a7, .ref a8, .ref a9, .ref a10, .ref a11, .int (iI x11), .ref a12, .ref a13, .ref a14, .ref a15, .int (iI x12), .int r2, .int r3, .ref a16, .int (iI x13), .int (iI x14), .ref a17, .ref a18, .int (iI x15), .ref a19, .int (iI x16), .int r4, .ref a20, .ref a21, .int (iI x17), .int r5, .ref a22, .int (iI x18), .int (iI x19), .int (iI x20), .int (iI x21)])), (a2, .inl (T 0, 329, .inl (cI f0))), (a12, .inl (T 0, 9, .inl (cI ff1))), (a14, .inl (T 2, 9, .inl (cI ff2))), (a15, .inl (T 2, 9, .inl (cI f3)))] H locs → lv_has ls 3 [(2, .int (iI z3)), (0, .ref a0), (1, .int (iI x0))] → W p l e (Rm 7 0 0) s m args below meth c H locs 0 0 Q (F0 m 2 ls []) := by
    intro k1
    induction k1 with
    | zero => intro ff1 ff2 z3 H locs ls ff1_h ff2_h z3_a z3_b lq1_s hm; exact absurd hm (Nat.not_lt_zero _)
    | succ k1 ih1 =>
      intro ff1 ff2 z3 H locs ls ff1_h ff2_h z3_a z3_b lq1_s hm1 w hl
      refine lv_iload_n hx hb dX12_findsLoop_2 rfl (lv_at hl 0 rfl) ?_
      refine lv_aload_n hx hb dX12_findsLoop_3 rfl (lv_at hl 1 rfl) ?_
      refine r_get (v := .ref a2) M w 0 14 clX12 rfl (by decide) G1477 rfl rfl dX12_findsLoop_4 ?_
      refine lv_iconst (v := iI 0) hx hb dX12_findsLoop_7 (by decide +kernel) ?_
      refine r_iald (v := iI (f0 0)) M w 1 rfl (iI_in (by decide) (by decide) (by decide)) (cI_at (by omega) (by omega)) dX12_findsLoop_8 ?_
      have hh4 : (-2147483648) ≤ (f0 0) ∧ (f0 0) ≤ 2147483647 := f0_h.1 0
      have hh5 : 0 ≤ (f0 0) ∧ (f0 0) ≤ 9 := (f0_h.2.1 0).1 (by omega)
      refine lv_icmp_ge (tgt := 81) hx hb dX12_findsLoop_9 (by decide) (fun c_6 => ?_) (fun c_6 => ?_)
      · replace c_6 := (iI_le (by omega) (by omega) (Int.le_trans (by decide) z3_a) (Int.le_trans z3_b (by decide))).mp c_6
        refine lv_iconst (v := iI 0) hx hb dX12_findsLoop_81 (by decide +kernel) ?_
        exact ret _ (0, ff1, ff2) _ _ _ _ _ [0, 1, 2, 3, 4] dX12_findsLoop_82 (by decide +kernel) ⟨rfl, (show (0 : Int) ≤ 0 from by decide), (show (0 : Int) ≤ 1 from by decide), ff1_h, ff2_h, (show sb f2 ff2 from lq1_s)⟩ w (by decide) rfl
      · replace c_6 : z3 < (f0 0) := Int.not_le.mp (fun h => c_6 ((iI_le (by omega) (by omega) (Int.le_trans (by decide) z3_a) (Int.le_trans z3_b (by decide))).mpr h))
        refine lv_aload_n hx hb dX12_findsLoop_12 rfl (lv_at hl 1 rfl) ?_
        refine lv_iload_n hx hb dX12_findsLoop_13 rfl (lv_at hl 2 rfl) ?_
        refine lv_iload_n hx hb dX12_findsLoop_14 rfl (lv_at hl 0 rfl) ?_
        refine k_I (ce := 0) (sl := 0) (rest := []) (wr := [(a12, .inl (T 0, 9, .inl (cI ff1))), (a14, .inl (T 2, 9, .inl (cI ff2)))]) (r_V (f := 1) [0, 1, 4] M w V_HookedCityModel_310 G1875 G91 (c137_X12_canGo l D T _ a0 x0 z3 r0 a1 x1 x2 x3 x4 x5 x6 r1 x7 x8 x9 y0 x10 a2 a3 a4 a5 a6 a7 a8 a9 a10 a11 x11 a12 a13 a14 a15 x12 r2 r3 a16 x13 x14 a17 a18 x15 a19 x16 r4 a20 a21 x17 r5 a22 x18 x19 x20 x21 f0 f3 x0_a x0_b (by omega) (by omega) x1_a x1_b x2_a x2_b x3_a x3_b x4_a x4_b x5_a x5_b x6_a x6_b x7_a x7_b x8_a x8_b x9_a x9_b x10_a x10_b x11_a x11_b x12_a x12_b x13_a x13_b x14_a x14_b x15_a x15_b x16_a x16_b x17_a x17_b x18_a x18_b x19_a x19_b x20_a x20_b x21_a x21_b f0_h f3_h) 0 clX12 rfl rfl (by decide) rfl hl.1 rfl (Nat.le_of_ble_eq_true rfl) dX12_findsLoop_15 (by decide) (by decide) (by decide) (by decide)) w [0, 1, 4] [2, 3] rfl rfl (by decide) (by decide) rfl rfl (fun v z7 H locs hp w => ?_)
        have hv : iI z7 = v := hp.1
        subst hv
        have z7_a : 0 ≤ z7 := hp.2.1
        have z7_b : z7 ≤ 1 := hp.2.2
        have w : WD D A s.heap [(a12, .inl (T 0, 9, .inl (cI ff1))), (a14, .inl (T 2, 9, .inl (cI ff2))), (a0, .inr (11, [.int r0, .ref a1, .int (iI x1), .int (iI x2), .int (iI x3), .int (iI x4), .int (iI x5), .int (iI x6), .int r1, .int (iI x7), .int (iI x8), .int (iI x9), .long y0, .int (iI x10), .ref a2, .ref a3, .ref a4, .ref a5, .ref a6, .ref a7, .ref a8, .ref a9, .ref a10, .ref a11, .int (iI x11), .ref a12, .ref a13, .ref a14, .ref a15, .int (iI x12), .int r2, .int r3, .ref a16, .int (iI x13), .int (iI x14), .ref a17, .ref a18, .int (iI x15), .ref a19, .int (iI x16), .int r4, .ref a20, .ref a21, .int (iI x17), .int r5, .ref a22, .int (iI x18), .int (iI x19), .int (iI x20), .int (iI x21)])), (a2, .inl (T 0, 329, .inl (cI f0))), (a15, .inl (T 2, 9, .inl (cI f3)))] H locs := w
        refine lv_if_eq (tgt := 75) hx hb dX12_findsLoop_18 (by decide) (fun c_8 => ?_) (fun c_8 => ?_)
        · replace c_8 := (iz_eq (Int.le_trans (by decide) z7_a) (Int.le_trans z7_b (by decide))).mp c_8
          refine lv_iinc (v := iI (z3 + 1)) (lv' := [(2, .int (iI (z3 + 1))), (0, .ref a0), (1, .int (iI x0))]) hx hb dX12_findsLoop_75 hl (k := 0) rfl (ii_inc (by decide +kernel)) (by decide) rfl (fun ls hl => ?_)
          refine lv_goto (tgt := 2) hx hb dX12_findsLoop_78 (by decide) ?_
          exact ih1 ff1 ff2 (z3 + 1) _ _ _ ff1_h ff2_h (by omega) (by omega) lq1_s (by omega) (w.sub [2, 3, 0, 1, 4] (by decide) rfl) (lv_sub hl [0, 1, 2] rfl)
        · replace c_8 : ¬ z7 = 0 := fun h => c_8 ((iz_eq (Int.le_trans (by decide) z7_a) (Int.le_trans z7_b (by decide))).mpr h)
          refine lv_aload_n hx hb dX12_findsLoop_21 rfl (lv_at hl 1 rfl) ?_
          refine r_get (v := .ref a14) M w 2 27 clX12 rfl (by decide) G1490 rfl rfl dX12_findsLoop_22 ?_
          refine lv_iload_n hx hb dX12_findsLoop_25 rfl (lv_at hl 0 rfl) ?_
          refine r_zald (v := iI (ff2 z3)) M w 1 rfl (iI_in (by omega) (by omega) (by decide)) (cI_at (by omega) (by omega)) dX12_findsLoop_26 ?_
          have hh9 : 0 ≤ (ff2 z3) ∧ (ff2 z3) ≤ 1 := ff2_h z3
          refine lv_if_eq (tgt := 33) hx hb dX12_findsLoop_27 (by decide) (fun c_10 => ?_) (fun c_10 => ?_)
          · replace c_10 := (iz_eq (by omega) (by omega)).mp c_10
            refine lv_aload_n hx hb dX12_findsLoop_33 rfl (lv_at hl 1 rfl) ?_
            refine r_get (v := .ref a14) M w 2 27 clX12 rfl (by decide) G1490 rfl rfl dX12_findsLoop_34 ?_
            refine lv_iload_n hx hb dX12_findsLoop_37 rfl (lv_at hl 0 rfl) ?_
            refine lv_iconst (v := iI 1) hx hb dX12_findsLoop_38 (by decide +kernel) ?_
            refine r_zast (x2 := iI 1) (ws' := [(a12, .inl (T 0, 9, .inl (cI ff1))), (a14, .inl (T 2, 9, .inl (cI (upz ff2 z3 1)))), (a0, .inr (11, [.int r0, .ref a1, .int (iI x1), .int (iI x2), .int (iI x3), .int (iI x4), .int (iI x5), .int (iI x6), .int r1, .int (iI x7), .int (iI x8), .int (iI x9), .long y0, .int (iI x10), .ref a2, .ref a3, .ref a4, .ref a5, .ref a6, .ref a7, .ref a8, .ref a9, .ref a10, .ref a11, .int (iI x11), .ref a12, .ref a13, .ref a14, .ref a15, .int (iI x12), .int r2, .int r3, .ref a16, .int (iI x13), .int (iI x14), .ref a17, .ref a18, .int (iI x15), .ref a19, .int (iI x16), .int r4, .ref a20, .ref a21, .int (iI x17), .int r5, .ref a22, .int (iI x18), .int (iI x19), .int (iI x20), .int (iI x21)])), (a2, .inl (T 0, 329, .inl (cI f0))), (a15, .inl (T 2, 9, .inl (cI f3)))]) M w 1 rfl (iI_in (by omega) (by omega) (by decide)) (nb_z (by omega) (by omega)) (by rw [cI_up (by omega) (by omega)]; rfl) dX12_findsLoop_39 (fun H locs w => ?_)
            refine lv_aload_n hx hb dX12_findsLoop_40 rfl (lv_at hl 1 rfl) ?_
            refine r_get (v := .ref a12) M w 2 25 clX12 rfl (by decide) G1488 rfl rfl dX12_findsLoop_41 ?_
            refine lv_iload_n hx hb dX12_findsLoop_44 rfl (lv_at hl 0 rfl) ?_
            refine r_iald (v := iI (ff1 z3)) M w 0 rfl (iI_in (by omega) (by omega) (by decide)) (cI_at (by omega) (by omega)) dX12_findsLoop_45 ?_
            have hh11 : (-1) ≤ (ff1 z3) ∧ (ff1 z3) ≤ 8 := ff1_h z3
            refine lv_iconst (v := iI (-1)) hx hb dX12_findsLoop_46 (by decide +kernel) ?_
            refine lv_icmp_eq (tgt := 66) hx hb dX12_findsLoop_47 (by decide) (fun c_12 => ?_) (fun c_12 => ?_)
            · replace c_12 := (iI_eq (by omega) (by omega) (by decide) (by decide)).mp c_12
              refine lv_aload_n hx hb dX12_findsLoop_66 rfl (lv_at hl 1 rfl) ?_
              refine r_get (v := .ref a12) M w 2 25 clX12 rfl (by decide) G1488 rfl rfl dX12_findsLoop_67 ?_
              refine lv_iload_n hx hb dX12_findsLoop_70 rfl (lv_at hl 0 rfl) ?_
              refine lv_iload_n hx hb dX12_findsLoop_71 rfl (lv_at hl 2 rfl) ?_
              refine r_iast (ws' := [(a12, .inl (T 0, 9, .inl (cI (upz ff1 z3 x0)))), (a14, .inl (T 2, 9, .inl (cI (upz ff2 z3 1)))), (a0, .inr (11, [.int r0, .ref a1, .int (iI x1), .int (iI x2), .int (iI x3), .int (iI x4), .int (iI x5), .int (iI x6), .int r1, .int (iI x7), .int (iI x8), .int (iI x9), .long y0, .int (iI x10), .ref a2, .ref a3, .ref a4, .ref a5, .ref a6, .ref a7, .ref a8, .ref a9, .ref a10, .ref a11, .int (iI x11), .ref a12, .ref a13, .ref a14, .ref a15, .int (iI x12), .int r2, .int r3, .ref a16, .int (iI x13), .int (iI x14), .ref a17, .ref a18, .int (iI x15), .ref a19, .int (iI x16), .int r4, .ref a20, .ref a21, .int (iI x17), .int r5, .ref a22, .int (iI x18), .int (iI x19), .int (iI x20), .int (iI x21)])), (a2, .inl (T 0, 329, .inl (cI f0))), (a15, .inl (T 2, 9, .inl (cI f3)))]) M w 0 rfl (iI_in (by omega) (by omega) (by decide)) (by rw [cI_up (by omega) (by omega)]; rfl) dX12_findsLoop_72 (fun H locs w => ?_)
              refine lv_iconst (v := iI 1) hx hb dX12_findsLoop_73 (by decide +kernel) ?_
              exact ret _ (1, (upz ff1 z3 x0), (upz ff2 z3 1)) _ _ _ _ _ [2, 3, 0, 1, 4] dX12_findsLoop_74 (by decide +kernel) ⟨rfl, (show (0 : Int) ≤ 1 from by decide), (show (1 : Int) ≤ 1 from by decide), (rng_up ff1_h (by omega) (by omega)), (rng_up ff2_h (by omega) (by omega)), (show sb f2 (upz ff2 z3 1) from (sb_u lq1_s))⟩ w (by decide) rfl
            · replace c_12 : ¬ (ff1 z3) = (-1) := fun h => c_12 ((iI_eq (by omega) (by omega) (by decide) (by decide)).mpr h)
              refine lv_aload_n hx hb dX12_findsLoop_50 rfl (lv_at hl 1 rfl) ?_
              refine lv_aload_n hx hb dX12_findsLoop_51 rfl (lv_at hl 1 rfl) ?_
              refine r_get (v := .ref a12) M w 2 25 clX12 rfl (by decide) G1488 rfl rfl dX12_findsLoop_52 ?_
              refine lv_iload_n hx hb dX12_findsLoop_55 rfl (lv_at hl 0 rfl) ?_
              refine r_iald (v := iI (ff1 z3)) M w 0 rfl (iI_in (by omega) (by omega) (by decide)) (cI_at (by omega) (by omega)) dX12_findsLoop_56 ?_
              have hh13 : (-1) ≤ (ff1 z3) ∧ (ff1 z3) ≤ 8 := ff1_h z3
              refine k_I (ce := 0) (sl := 0) (rest := []) (wr := []) (r_V (f := 6) [2, 3, 0, 1, 4] M w V_HookedCityModel_313 G1871 G90 (c142_X12_findsLoop l D T _ a0 (ff1 z3) r0 a1 x1 x2 x3 x4 x5 x6 r1 x7 x8 x9 y0 x10 a2 a3 a4 a5 a6 a7 a8 a9 a10 a11 x11 a12 a13 a14 a15 x12 r2 r3 a16 x13 x14 a17 a18 x15 a19 x16 r4 a20 a21 x17 r5 a22 x18 x19 x20 x21 f0 ff1 (upz ff2 z3 1) f3 (by omega) (by omega) x1_a x1_b x2_a x2_b x3_a x3_b x4_a x4_b x5_a x5_b x6_a x6_b x7_a x7_b x8_a x8_b x9_a x9_b x10_a x10_b x11_a x11_b x12_a x12_b x13_a x13_b x14_a x14_b x15_a x15_b x16_a x16_b x17_a x17_b x18_a x18_b x19_a x19_b x20_a x20_b x21_a x21_b f0_h ff1_h (rng_up ff2_h (by omega) (by omega)) f3_h (by have e8 := cn_m lq1_s; have e9 := cn_u (f := ff2) (k := z3) (by omega) (by omega) (by omega); omega)) 2 clX12 rfl rfl (by decide) rfl hl.1 rfl (Nat.le_of_ble_eq_true rfl) dX12_findsLoop_57 (by decide) (by decide) (by decide) (by decide)) w [2, 3, 0, 1, 4] [] rfl rfl (by decide) (by decide) rfl rfl (fun v u H locs hp w => ?_)
              obtain ⟨z14, ff15, ff16⟩ := u
              have hv : iI z14 = v := hp.1
              subst hv
              have z14_a : 0 ≤ z14 := hp.2.1
              have z14_b : z14 ≤ 1 := hp.2.2.1
              have ff15_h : rng (-1) 8 ff15 := hp.2.2.2.1
              have ff16_h : rng 0 1 ff16 := hp.2.2.2.2.1
              have pq17 : sb (upz ff2 z3 1) ff16 := hp.2.2.2.2.2
              have w : WD D A s.heap [(a0, .inr (11, [.int r0, .ref a1, .int (iI x1), .int (iI x2), .int (iI x3), .int (iI x4), .int (iI x5), .int (iI x6), .int r1, .int (iI x7), .int (iI x8), .int (iI x9), .long y0, .int (iI x10), .ref a2, .ref a3, .ref a4, .ref a5, .ref a6, .ref a7, .ref a8, .ref a9, .ref a10, .ref a11, .int (iI x11), .ref a12, .ref a13, .ref a14, .ref a15, .int (iI x12), .int r2, .int r3, .ref a16, .int (iI x13), .int (iI x14), .ref a17, .ref a18, .int (iI x15), .ref a19, .int (iI x16), .int r4, .ref a20, .ref a21, .int (iI x17), .int r5, .ref a22, .int (iI x18), .int (iI x19), .int (iI x20), .int (iI x21)])), (a2, .inl (T 0, 329, .inl (cI f0))), (a12, .inl (T 0, 9, .inl (cI ff15))), (a14, .inl (T 2, 9, .inl (cI ff16))), (a15, .inl (T 2, 9, .inl (cI f3)))] H locs := w
              refine lv_if_ne (tgt := 66) hx hb dX12_findsLoop_60 (by decide) (fun c_18 => ?_) (fun c_18 => ?_)
              · replace c_18 : ¬ z14 = 0 := fun h => c_18 ((iz_eq (Int.le_trans (by decide) z14_a) (Int.le_trans z14_b (by decide))).mpr h)
                refine lv_aload_n hx hb dX12_findsLoop_66 rfl (lv_at hl 1 rfl) ?_
                refine r_get (v := .ref a12) M w 0 25 clX12 rfl (by decide) G1488 rfl rfl dX12_findsLoop_67 ?_
                refine lv_iload_n hx hb dX12_findsLoop_70 rfl (lv_at hl 0 rfl) ?_
                refine lv_iload_n hx hb dX12_findsLoop_71 rfl (lv_at hl 2 rfl) ?_
                refine r_iast (ws' := [(a0, .inr (11, [.int r0, .ref a1, .int (iI x1), .int (iI x2), .int (iI x3), .int (iI x4), .int (iI x5), .int (iI x6), .int r1, .int (iI x7), .int (iI x8), .int (iI x9), .long y0, .int (iI x10), .ref a2, .ref a3, .ref a4, .ref a5, .ref a6, .ref a7, .ref a8, .ref a9, .ref a10, .ref a11, .int (iI x11), .ref a12, .ref a13, .ref a14, .ref a15, .int (iI x12), .int r2, .int r3, .ref a16, .int (iI x13), .int (iI x14), .ref a17, .ref a18, .int (iI x15), .ref a19, .int (iI x16), .int r4, .ref a20, .ref a21, .int (iI x17), .int r5, .ref a22, .int (iI x18), .int (iI x19), .int (iI x20), .int (iI x21)])), (a2, .inl (T 0, 329, .inl (cI f0))), (a12, .inl (T 0, 9, .inl (cI (upz ff15 z3 x0)))), (a14, .inl (T 2, 9, .inl (cI ff16))), (a15, .inl (T 2, 9, .inl (cI f3)))]) M w 2 rfl (iI_in (by omega) (by omega) (by decide)) (by rw [cI_up (by omega) (by omega)]; rfl) dX12_findsLoop_72 (fun H locs w => ?_)
                refine lv_iconst (v := iI 1) hx hb dX12_findsLoop_73 (by decide +kernel) ?_
                exact ret _ (1, (upz ff15 z3 x0), ff16) _ _ _ _ _ [0, 1, 2, 3, 4] dX12_findsLoop_74 (by decide +kernel) ⟨rfl, (show (0 : Int) ≤ 1 from by decide), (show (1 : Int) ≤ 1 from by decide), (rng_up ff15_h (by omega) (by omega)), ff16_h, (show sb f2 ff16 from (sb_t (sb_u lq1_s) pq17))⟩ w (by decide) rfl
              · replace c_18 := (iz_eq (Int.le_trans (by decide) z14_a) (Int.le_trans z14_b (by decide))).mp c_18
                refine lv_goto (tgt := 75) hx hb dX12_findsLoop_63 (by decide) ?_
                refine lv_iinc (v := iI (z3 + 1)) (lv' := [(2, .int (iI (z3 + 1))), (0, .ref a0), (1, .int (iI x0))]) hx hb dX12_findsLoop_75 hl (k := 0) rfl (ii_inc (by decide +kernel)) (by decide) rfl (fun ls hl => ?_)
                refine lv_goto (tgt := 2) hx hb dX12_findsLoop_78 (by decide) ?_
                exact ih1 ff15 ff16 (z3 + 1) _ _ _ ff15_h ff16_h (by omega) (by omega) (sb_t (sb_u lq1_s) pq17) (by omega) w (lv_sub hl [0, 1, 2] rfl)
          · replace c_10 : ¬ (ff2 z3) = 0 := fun h => c_10 ((iz_eq (by omega) (by omega)).mpr h)
            refine lv_goto (tgt := 75) hx hb dX12_findsLoop_30 (by decide) ?_
            refine lv_iinc (v := iI (z3 + 1)) (lv' := [(2, .int (iI (z3 + 1))), (0, .ref a0), (1, .int (iI x0))]) hx hb dX12_findsLoop_75 hl (k := 0) rfl (ii_inc (by decide +kernel)) (by decide) rfl (fun ls hl => ?_)
            refine lv_goto (tgt := 2) hx hb dX12_findsLoop_78 (by decide) ?_
            exact ih1 ff1 ff2 (z3 + 1) _ _ _ ff1_h ff2_h (by omega) (by omega) lq1_s (by omega) (w.sub [2, 3, 0, 1, 4] (by decide) rfl) (lv_sub hl [0, 1, 2] rfl)
  exact loop1 ((9 : Int).toNat + 1) f1 f2 0 _ _ _ f1_h f2_h (by decide) (by decide) sb_r (Nat.lt_succ_self _) w (lv_sub hl [0, 1, 2] rfl)
set_option maxRecDepth 100000 in
set_option maxHeartbeats 4000000 in
theorem c144_X12_findsLoop (l : Launch) (D : va_G) (T : Nat → ClassId) (sz : Nat) (a0 : Nat) (x0 : Int) (r0 : Int32) (a1 : Nat) (x1 : Int) (x2 : Int) (x3 : Int) (x4 : Int) (x5 : Int) (x6 : Int) (r1 : Int32) (x7 : Int) (x8 : Int) (x9 : Int) (y0 : Int64) (x10 : Int) (a2 : Nat) (a3 : Nat) (a4 : Nat) (a5 : Nat) (a6 : Nat) (a7 : Nat) (a8 : Nat) (a9 : Nat) (a10 : Nat) (a11 : Nat) (x11 : Int) (a12 : Nat) (a13 : Nat) (a14 : Nat) (a15 : Nat) (x12 : Int) (r2 : Int32) (r3 : Int32) (a16 : Nat) (x13 : Int) (x14 : Int) (a17 : Nat) (a18 : Nat) (x15 : Int) (a19 : Nat) (x16 : Int) (r4 : Int32) (a20 : Nat) (a21 : Nat) (x17 : Int) (r5 : Int32) (a22 : Nat) (x18 : Int) (x19 : Int) (x20 : Int) (x21 : Int) (f0 : Int → Int) (f1 : Int → Int) (f2 : Int → Int) (f3 : Int → Int) (x0_a : 0 ≤ x0) (x0_b : x0 ≤ 8) (x1_a : 0 ≤ x1) (x1_b : x1 ≤ 940) (x2_a : 0 ≤ x2) (x2_b : x2 ≤ 940) (x3_a : 0 ≤ x3) (x3_b : x3 ≤ 940) (x4_a : 0 ≤ x4) (x4_b : x4 ≤ 940) (x5_a : 0 ≤ x5) (x5_b : x5 ≤ 940) (x6_a : 0 ≤ x6) (x6_b : x6 ≤ 4) (x7_a : (-2147483648) ≤ x7) (x7_b : x7 ≤ 2147483647) (x8_a : (-2147483648) ≤ x8) (x8_b : x8 ≤ 2147483647) (x9_a : 0 ≤ x9) (x9_b : x9 ≤ 940) (x10_a : (-2147483648) ≤ x10) (x10_b : x10 ≤ 2147483647) (x11_a : 0 ≤ x11) (x11_b : x11 ≤ 8) (x12_a : 0 ≤ x12) (x12_b : x12 ≤ 9) (x13_a : (-1) ≤ x13) (x13_b : x13 ≤ 9) (x14_a : (-1) ≤ x14) (x14_b : x14 ≤ 8) (x15_a : 0 ≤ x15) (x15_b : x15 ≤ 9) (x16_a : 0 ≤ x16) (x16_b : x16 ≤ 64) (x17_a : 0 ≤ x17) (x17_b : x17 ≤ 40) (x18_a : 0 ≤ x18) (x18_b : x18 ≤ 40) (x19_a : 0 ≤ x19) (x19_b : x19 ≤ 20) (x20_a : 0 ≤ x20) (x20_b : x20 ≤ 8) (x21_a : 0 ≤ x21) (x21_b : x21 ≤ 39) (f0_h : nowI f0) (f1_h : rng (-1) 8 f1) (f2_h : rng 0 1 f2) (f3_h : rng 0 1 f3) (pp_n : cn f2 ≤ 6) : Met l yX12_findsLoop (Cond.code yX12_findsLoop cX12_findsLoop 3 (some .boolean) :: GW) (Rm 8 0 0) (cPre [.ref a0, .int (iI x0)] D T [(a0, .inr (11, [.int r0, .ref a1, .int (iI x1), .int (iI x2), .int (iI x3), .int (iI x4), .int (iI x5), .int (iI x6), .int r1, .int (iI x7), .int (iI x8), .int (iI x9), .long y0, .int (iI x10), .ref a2, .ref a3, .ref a4, .ref a5, .ref a6, .ref a7, .ref a8, .ref a9, .ref a10, .ref a11, .int (iI x11), .ref a12, .ref a13, .ref a14, .ref a15, .int (iI x12), .int r2, .int r3, .ref a16, .int (iI x13), .int (iI x14), .ref a17, .ref a18, .int (iI x15), .ref a19, .int (iI x16), .int r4, .ref a20, .ref a21, .int (iI x17), .int r5, .ref a22, .int (iI x18), .int (iI x19), .int (iI x20), .int (iI x21)])), (a2, .inl (T 0, 329, .inl (cI f0))), (a12, .inl (T 0, 9, .inl (cI f1))), (a14, .inl (T 2, 9, .inl (cI f2))), (a15, .inl (T 2, 9, .inl (cI f3)))] sz) (qI D [(a0, .inr (11, [.int r0, .ref a1, .int (iI x1), .int (iI x2), .int (iI x3), .int (iI x4), .int (iI x5), .int (iI x6), .int r1, .int (iI x7), .int (iI x8), .int (iI x9), .long y0, .int (iI x10), .ref a2, .ref a3, .ref a4, .ref a5, .ref a6, .ref a7, .ref a8, .ref a9, .ref a10, .ref a11, .int (iI x11), .ref a12, .ref a13, .ref a14, .ref a15, .int (iI x12), .int r2, .int r3, .ref a16, .int (iI x13), .int (iI x14), .ref a17, .ref a18, .int (iI x15), .ref a19, .int (iI x16), .int r4, .ref a20, .ref a21, .int (iI x17), .int r5, .ref a22, .int (iI x18), .int (iI x19), .int (iI x20), .int (iI x21)])), (a2, .inl (T 0, 329, .inl (cI f0))), (a12, .inl (T 0, 9, .inl (cI f1))), (a14, .inl (T 2, 9, .inl (cI f2))), (a15, .inl (T 2, 9, .inl (cI f3)))] sz (fun (v : Int32) (u : Int × (Int → Int) × (Int → Int)) => iI u.1 = v ∧ 0 ≤ u.1 ∧ u.1 ≤ 1 ∧ rng (-1) 8 u.2.1 ∧ rng 0 1 u.2.2 ∧ (sb f2 u.2.2)) (fun u => [(a0, .inr (11, [.int r0, .ref a1, .int (iI x1), .int (iI x2), .int (iI x3), .int (iI x4), .int (iI x5), .int (iI x6), .int r1, .int (iI x7), .int (iI x8), .int (iI x9), .long y0, .int (iI x10), .ref a2, .ref a3, .ref a4, .ref a5, .ref a6, .ref a7, .ref a8, .ref a9, .ref a10, .ref a11, .int (iI x11), .ref a12, .ref a13, .ref a14, .ref a15, .int (iI x12), .int r2, .int r3, .ref a16, .int (iI x13), .int (iI x14), .ref a17, .ref a18, .int (iI x15), .ref a19, .int (iI x16), .int r4, .ref a20, .ref a21, .int (iI x17), .int r5, .ref a22, .int (iI x18), .int (iI x19), .int (iI x20), .int (iI x21)])), (a2, .inl (T 0, 329, .inl (cI f0))), (a12, .inl (T 0, 9, .inl (cI u.2.1))), (a14, .inl (T 2, 9, .inl (cI u.2.2))), (a15, .inl (T 2, 9, .inl (cI f3)))])) 0 0 (va_A [(a0, .inr (11, [.int r0, .ref a1, .int (iI x1), .int (iI x2), .int (iI x3), .int (iI x4), .int (iI x5), .int (iI x6), .int r1, .int (iI x7), .int (iI x8), .int (iI x9), .long y0, .int (iI x10), .ref a2, .ref a3, .ref a4, .ref a5, .ref a6, .ref a7, .ref a8, .ref a9, .ref a10, .ref a11, .int (iI x11), .ref a12, .ref a13, .ref a14, .ref a15, .int (iI x12), .int r2, .int r3, .ref a16, .int (iI x13), .int (iI x14), .ref a17, .ref a18, .int (iI x15), .ref a19, .int (iI x16), .int r4, .ref a20, .ref a21, .int (iI x17), .int r5, .ref a22, .int (iI x18), .int (iI x19), .int (iI x20), .int (iI x21)])), (a2, .inl (T 0, 329, .inl (cI f0))), (a12, .inl (T 0, 9, .inl (cI f1))), (a14, .inl (T 2, 9, .inl (cI f2))), (a15, .inl (T 2, 9, .inl (cI f3)))] sz) := by
  refine e_Z (by decide) (Nat.le_of_ble_eq_true rfl) ?_
  intro p e s m args below meth c A Q ls M hin w ret hl
  have hx := M.1.1
  have hb := M.1.2.1
  have hl : lv_has ls 3 [(0, .ref a0), (1, .int (iI x0))] := hl
  refine lv_iconst (v := iI 0) hx hb dX12_findsLoop_0 (by decide +kernel) ?_
  refine lv_istore_n (lv' := [(2, .int (iI 0)), (0, .ref a0), (1, .int (iI x0))]) hx hb dX12_findsLoop_1 rfl hl (by decide) rfl (fun ls hl => ?_)
  have loop1 : ∀ (k1 : Nat) (ff1 : Int → Int) (ff2 : Int → Int) (z3 : Int) (H : Heap) (locs : List Loc) (ls : Array Slot), rng (-1) 8 ff1 → rng 0 1 ff2 → 0 ≤ z3 → z3 ≤ 9 → sb f2 ff2 → ((9 - z3) : Int).toNat < k1 → WD D A s.heap [(a0, .inr (11, [.int r0, .ref a1, .int (iI x1), .int (iI x2), .int (iI x3), .int (iI x4), .int (iI x5), .int (iI x6), .int r1, .int (iI x7), .int (iI x8), .int (iI x9), .long y0, .int (iI x10), .ref a2, .ref a3, .ref a4, .ref a5, .ref a6, .ref a7, .ref a8, .ref a9, .ref a10, .ref a11, .int (iI x11), .ref a12, .ref a13, .ref a14, .ref a15, .int (iI x12), .int r2, .int r3, .ref a16, .int (iI x13), .int (iI x14), .ref a17, .ref a18, .int (iI x15), .ref a19, .int (iI x16), .int r4, .ref a20, .ref a21, .int (iI x17), .int r5, .ref a22, .int (iI x18), .int (iI x19), .int (iI x20), .int (iI x21)])), (a2, .inl (T 0, 329, .inl (cI f0))), (a12, .inl (T 0, 9, .inl (cI ff1))), (a14, .inl (T 2, 9, .inl (cI ff2))), (a15, .inl (T 2, 9, .inl (cI f3)))] H locs → lv_has ls 3 [(2, .int (iI z3)), (0, .ref a0), (1, .int (iI x0))] → W p l e (Rm 8 0 0) s m args below meth c H locs 0 0 Q (F0 m 2 ls []) := by
    intro k1
    induction k1 with
    | zero => intro ff1 ff2 z3 H locs ls ff1_h ff2_h z3_a z3_b lq1_s hm; exact absurd hm (Nat.not_lt_zero _)
    | succ k1 ih1 =>
      intro ff1 ff2 z3 H locs ls ff1_h ff2_h z3_a z3_b lq1_s hm1 w hl
      refine lv_iload_n hx hb dX12_findsLoop_2 rfl (lv_at hl 0 rfl) ?_
      refine lv_aload_n hx hb dX12_findsLoop_3 rfl (lv_at hl 1 rfl) ?_
      refine r_get (v := .ref a2) M w 0 14 clX12 rfl (by decide) G1477 rfl rfl dX12_findsLoop_4 ?_
      refine lv_iconst (v := iI 0) hx hb dX12_findsLoop_7 (by decide +kernel) ?_
      refine r_iald (v := iI (f0 0)) M w 1 rfl (iI_in (by decide) (by decide) (by decide)) (cI_at (by omega) (by omega)) dX12_findsLoop_8 ?_
      have hh4 : (-2147483648) ≤ (f0 0) ∧ (f0 0) ≤ 2147483647 := f0_h.1 0
      have hh5 : 0 ≤ (f0 0) ∧ (f0 0) ≤ 9 := (f0_h.2.1 0).1 (by omega)
      refine lv_icmp_ge (tgt := 81) hx hb dX12_findsLoop_9 (by decide) (fun c_6 => ?_) (fun c_6 => ?_)
      · replace c_6 := (iI_le (by omega) (by omega) (Int.le_trans (by decide) z3_a) (Int.le_trans z3_b (by decide))).mp c_6
        refine lv_iconst (v := iI 0) hx hb dX12_findsLoop_81 (by decide +kernel) ?_
        exact ret _ (0, ff1, ff2) _ _ _ _ _ [0, 1, 2, 3, 4] dX12_findsLoop_82 (by decide +kernel) ⟨rfl, (show (0 : Int) ≤ 0 from by decide), (show (0 : Int) ≤ 1 from by decide), ff1_h, ff2_h, (show sb f2 ff2 from lq1_s)⟩ w (by decide) rfl
      · replace c_6 : z3 < (f0 0) := Int.not_le.mp (fun h => c_6 ((iI_le (by omega) (by omega) (Int.le_trans (by decide) z3_a) (Int.le_trans z3_b (by decide))).mpr h))
        refine lv_aload_n hx hb dX12_findsLoop_12 rfl (lv_at hl 1 rfl) ?_
        refine lv_iload_n hx hb dX12_findsLoop_13 rfl (lv_at hl 2 rfl) ?_
        refine lv_iload_n hx hb dX12_findsLoop_14 rfl (lv_at hl 0 rfl) ?_
        refine k_I (ce := 0) (sl := 0) (rest := []) (wr := [(a12, .inl (T 0, 9, .inl (cI ff1))), (a14, .inl (T 2, 9, .inl (cI ff2)))]) (r_V (f := 1) [0, 1, 4] M w V_HookedCityModel_310 G1875 G91 (c137_X12_canGo l D T _ a0 x0 z3 r0 a1 x1 x2 x3 x4 x5 x6 r1 x7 x8 x9 y0 x10 a2 a3 a4 a5 a6 a7 a8 a9 a10 a11 x11 a12 a13 a14 a15 x12 r2 r3 a16 x13 x14 a17 a18 x15 a19 x16 r4 a20 a21 x17 r5 a22 x18 x19 x20 x21 f0 f3 x0_a x0_b (by omega) (by omega) x1_a x1_b x2_a x2_b x3_a x3_b x4_a x4_b x5_a x5_b x6_a x6_b x7_a x7_b x8_a x8_b x9_a x9_b x10_a x10_b x11_a x11_b x12_a x12_b x13_a x13_b x14_a x14_b x15_a x15_b x16_a x16_b x17_a x17_b x18_a x18_b x19_a x19_b x20_a x20_b x21_a x21_b f0_h f3_h) 0 clX12 rfl rfl (by decide) rfl hl.1 rfl (Nat.le_of_ble_eq_true rfl) dX12_findsLoop_15 (by decide) (by decide) (by decide) (by decide)) w [0, 1, 4] [2, 3] rfl rfl (by decide) (by decide) rfl rfl (fun v z7 H locs hp w => ?_)
        have hv : iI z7 = v := hp.1
        subst hv
        have z7_a : 0 ≤ z7 := hp.2.1
        have z7_b : z7 ≤ 1 := hp.2.2
        have w : WD D A s.heap [(a12, .inl (T 0, 9, .inl (cI ff1))), (a14, .inl (T 2, 9, .inl (cI ff2))), (a0, .inr (11, [.int r0, .ref a1, .int (iI x1), .int (iI x2), .int (iI x3), .int (iI x4), .int (iI x5), .int (iI x6), .int r1, .int (iI x7), .int (iI x8), .int (iI x9), .long y0, .int (iI x10), .ref a2, .ref a3, .ref a4, .ref a5, .ref a6, .ref a7, .ref a8, .ref a9, .ref a10, .ref a11, .int (iI x11), .ref a12, .ref a13, .ref a14, .ref a15, .int (iI x12), .int r2, .int r3, .ref a16, .int (iI x13), .int (iI x14), .ref a17, .ref a18, .int (iI x15), .ref a19, .int (iI x16), .int r4, .ref a20, .ref a21, .int (iI x17), .int r5, .ref a22, .int (iI x18), .int (iI x19), .int (iI x20), .int (iI x21)])), (a2, .inl (T 0, 329, .inl (cI f0))), (a15, .inl (T 2, 9, .inl (cI f3)))] H locs := w
        refine lv_if_eq (tgt := 75) hx hb dX12_findsLoop_18 (by decide) (fun c_8 => ?_) (fun c_8 => ?_)
        · replace c_8 := (iz_eq (Int.le_trans (by decide) z7_a) (Int.le_trans z7_b (by decide))).mp c_8
          refine lv_iinc (v := iI (z3 + 1)) (lv' := [(2, .int (iI (z3 + 1))), (0, .ref a0), (1, .int (iI x0))]) hx hb dX12_findsLoop_75 hl (k := 0) rfl (ii_inc (by decide +kernel)) (by decide) rfl (fun ls hl => ?_)
          refine lv_goto (tgt := 2) hx hb dX12_findsLoop_78 (by decide) ?_
          exact ih1 ff1 ff2 (z3 + 1) _ _ _ ff1_h ff2_h (by omega) (by omega) lq1_s (by omega) (w.sub [2, 3, 0, 1, 4] (by decide) rfl) (lv_sub hl [0, 1, 2] rfl)
        · replace c_8 : ¬ z7 = 0 := fun h => c_8 ((iz_eq (Int.le_trans (by decide) z7_a) (Int.le_trans z7_b (by decide))).mpr h)
          refine lv_aload_n hx hb dX12_findsLoop_21 rfl (lv_at hl 1 rfl) ?_
          refine r_get (v := .ref a14) M w 2 27 clX12 rfl (by decide) G1490 rfl rfl dX12_findsLoop_22 ?_
          refine lv_iload_n hx hb dX12_findsLoop_25 rfl (lv_at hl 0 rfl) ?_
          refine r_zald (v := iI (ff2 z3)) M w 1 rfl (iI_in (by omega) (by omega) (by decide)) (cI_at (by omega) (by omega)) dX12_findsLoop_26 ?_
          have hh9 : 0 ≤ (ff2 z3) ∧ (ff2 z3) ≤ 1 := ff2_h z3
          refine lv_if_eq (tgt := 33) hx hb dX12_findsLoop_27 (by decide) (fun c_10 => ?_) (fun c_10 => ?_)
          · replace c_10 := (iz_eq (by omega) (by omega)).mp c_10
            refine lv_aload_n hx hb dX12_findsLoop_33 rfl (lv_at hl 1 rfl) ?_
            refine r_get (v := .ref a14) M w 2 27 clX12 rfl (by decide) G1490 rfl rfl dX12_findsLoop_34 ?_
            refine lv_iload_n hx hb dX12_findsLoop_37 rfl (lv_at hl 0 rfl) ?_
            refine lv_iconst (v := iI 1) hx hb dX12_findsLoop_38 (by decide +kernel) ?_
            refine r_zast (x2 := iI 1) (ws' := [(a12, .inl (T 0, 9, .inl (cI ff1))), (a14, .inl (T 2, 9, .inl (cI (upz ff2 z3 1)))), (a0, .inr (11, [.int r0, .ref a1, .int (iI x1), .int (iI x2), .int (iI x3), .int (iI x4), .int (iI x5), .int (iI x6), .int r1, .int (iI x7), .int (iI x8), .int (iI x9), .long y0, .int (iI x10), .ref a2, .ref a3, .ref a4, .ref a5, .ref a6, .ref a7, .ref a8, .ref a9, .ref a10, .ref a11, .int (iI x11), .ref a12, .ref a13, .ref a14, .ref a15, .int (iI x12), .int r2, .int r3, .ref a16, .int (iI x13), .int (iI x14), .ref a17, .ref a18, .int (iI x15), .ref a19, .int (iI x16), .int r4, .ref a20, .ref a21, .int (iI x17), .int r5, .ref a22, .int (iI x18), .int (iI x19), .int (iI x20), .int (iI x21)])), (a2, .inl (T 0, 329, .inl (cI f0))), (a15, .inl (T 2, 9, .inl (cI f3)))]) M w 1 rfl (iI_in (by omega) (by omega) (by decide)) (nb_z (by omega) (by omega)) (by rw [cI_up (by omega) (by omega)]; rfl) dX12_findsLoop_39 (fun H locs w => ?_)
            refine lv_aload_n hx hb dX12_findsLoop_40 rfl (lv_at hl 1 rfl) ?_
            refine r_get (v := .ref a12) M w 2 25 clX12 rfl (by decide) G1488 rfl rfl dX12_findsLoop_41 ?_
            refine lv_iload_n hx hb dX12_findsLoop_44 rfl (lv_at hl 0 rfl) ?_
            refine r_iald (v := iI (ff1 z3)) M w 0 rfl (iI_in (by omega) (by omega) (by decide)) (cI_at (by omega) (by omega)) dX12_findsLoop_45 ?_
            have hh11 : (-1) ≤ (ff1 z3) ∧ (ff1 z3) ≤ 8 := ff1_h z3
            refine lv_iconst (v := iI (-1)) hx hb dX12_findsLoop_46 (by decide +kernel) ?_
            refine lv_icmp_eq (tgt := 66) hx hb dX12_findsLoop_47 (by decide) (fun c_12 => ?_) (fun c_12 => ?_)
            · replace c_12 := (iI_eq (by omega) (by omega) (by decide) (by decide)).mp c_12
              refine lv_aload_n hx hb dX12_findsLoop_66 rfl (lv_at hl 1 rfl) ?_
              refine r_get (v := .ref a12) M w 2 25 clX12 rfl (by decide) G1488 rfl rfl dX12_findsLoop_67 ?_
              refine lv_iload_n hx hb dX12_findsLoop_70 rfl (lv_at hl 0 rfl) ?_
              refine lv_iload_n hx hb dX12_findsLoop_71 rfl (lv_at hl 2 rfl) ?_
              refine r_iast (ws' := [(a12, .inl (T 0, 9, .inl (cI (upz ff1 z3 x0)))), (a14, .inl (T 2, 9, .inl (cI (upz ff2 z3 1)))), (a0, .inr (11, [.int r0, .ref a1, .int (iI x1), .int (iI x2), .int (iI x3), .int (iI x4), .int (iI x5), .int (iI x6), .int r1, .int (iI x7), .int (iI x8), .int (iI x9), .long y0, .int (iI x10), .ref a2, .ref a3, .ref a4, .ref a5, .ref a6, .ref a7, .ref a8, .ref a9, .ref a10, .ref a11, .int (iI x11), .ref a12, .ref a13, .ref a14, .ref a15, .int (iI x12), .int r2, .int r3, .ref a16, .int (iI x13), .int (iI x14), .ref a17, .ref a18, .int (iI x15), .ref a19, .int (iI x16), .int r4, .ref a20, .ref a21, .int (iI x17), .int r5, .ref a22, .int (iI x18), .int (iI x19), .int (iI x20), .int (iI x21)])), (a2, .inl (T 0, 329, .inl (cI f0))), (a15, .inl (T 2, 9, .inl (cI f3)))]) M w 0 rfl (iI_in (by omega) (by omega) (by decide)) (by rw [cI_up (by omega) (by omega)]; rfl) dX12_findsLoop_72 (fun H locs w => ?_)
              refine lv_iconst (v := iI 1) hx hb dX12_findsLoop_73 (by decide +kernel) ?_
              exact ret _ (1, (upz ff1 z3 x0), (upz ff2 z3 1)) _ _ _ _ _ [2, 3, 0, 1, 4] dX12_findsLoop_74 (by decide +kernel) ⟨rfl, (show (0 : Int) ≤ 1 from by decide), (show (1 : Int) ≤ 1 from by decide), (rng_up ff1_h (by omega) (by omega)), (rng_up ff2_h (by omega) (by omega)), (show sb f2 (upz ff2 z3 1) from (sb_u lq1_s))⟩ w (by decide) rfl
            · replace c_12 : ¬ (ff1 z3) = (-1) := fun h => c_12 ((iI_eq (by omega) (by omega) (by decide) (by decide)).mpr h)
              refine lv_aload_n hx hb dX12_findsLoop_50 rfl (lv_at hl 1 rfl) ?_
              refine lv_aload_n hx hb dX12_findsLoop_51 rfl (lv_at hl 1 rfl) ?_
              refine r_get (v := .ref a12) M w 2 25 clX12 rfl (by decide) G1488 rfl rfl dX12_findsLoop_52 ?_
              refine lv_iload_n hx hb dX12_findsLoop_55 rfl (lv_at hl 0 rfl) ?_
              refine r_iald (v := iI (ff1 z3)) M w 0 rfl (iI_in (by omega) (by omega) (by decide)) (cI_at (by omega) (by omega)) dX12_findsLoop_56 ?_
              have hh13 : (-1) ≤ (ff1 z3) ∧ (ff1 z3) ≤ 8 := ff1_h z3
              refine k_I (ce := 0) (sl := 0) (rest := []) (wr := []) (r_V (f := 7) [2, 3, 0, 1, 4] M w V_HookedCityModel_313 G1871 G90 (c143_X12_findsLoop l D T _ a0 (ff1 z3) r0 a1 x1 x2 x3 x4 x5 x6 r1 x7 x8 x9 y0 x10 a2 a3 a4 a5 a6 a7 a8 a9 a10 a11 x11 a12 a13 a14 a15 x12 r2 r3 a16 x13 x14 a17 a18 x15 a19 x16 r4 a20 a21 x17 r5 a22 x18 x19 x20 x21 f0 ff1 (upz ff2 z3 1) f3 (by omega) (by omega) x1_a x1_b x2_a x2_b x3_a x3_b x4_a x4_b x5_a x5_b x6_a x6_b x7_a x7_b x8_a x8_b x9_a x9_b x10_a x10_b x11_a x11_b x12_a x12_b x13_a x13_b x14_a x14_b x15_a x15_b x16_a x16_b x17_a x17_b x18_a x18_b x19_a x19_b x20_a x20_b x21_a x21_b f0_h ff1_h (rng_up ff2_h (by omega) (by omega)) f3_h (by have e8 := cn_m lq1_s; have e9 := cn_u (f := ff2) (k := z3) (by omega) (by omega) (by omega); omega)) 2 clX12 rfl rfl (by decide) rfl hl.1 rfl (Nat.le_of_ble_eq_true rfl) dX12_findsLoop_57 (by decide) (by decide) (by decide) (by decide)) w [2, 3, 0, 1, 4] [] rfl rfl (by decide) (by decide) rfl rfl (fun v u H locs hp w => ?_)
              obtain ⟨z14, ff15, ff16⟩ := u
              have hv : iI z14 = v := hp.1
              subst hv
              have z14_a : 0 ≤ z14 := hp.2.1
              have z14_b : z14 ≤ 1 := hp.2.2.1
              have ff15_h : rng (-1) 8 ff15 := hp.2.2.2.1
              have ff16_h : rng 0 1 ff16 := hp.2.2.2.2.1
              have pq17 : sb (upz ff2 z3 1) ff16 := hp.2.2.2.2.2
              have w : WD D A s.heap [(a0, .inr (11, [.int r0, .ref a1, .int (iI x1), .int (iI x2), .int (iI x3), .int (iI x4), .int (iI x5), .int (iI x6), .int r1, .int (iI x7), .int (iI x8), .int (iI x9), .long y0, .int (iI x10), .ref a2, .ref a3, .ref a4, .ref a5, .ref a6, .ref a7, .ref a8, .ref a9, .ref a10, .ref a11, .int (iI x11), .ref a12, .ref a13, .ref a14, .ref a15, .int (iI x12), .int r2, .int r3, .ref a16, .int (iI x13), .int (iI x14), .ref a17, .ref a18, .int (iI x15), .ref a19, .int (iI x16), .int r4, .ref a20, .ref a21, .int (iI x17), .int r5, .ref a22, .int (iI x18), .int (iI x19), .int (iI x20), .int (iI x21)])), (a2, .inl (T 0, 329, .inl (cI f0))), (a12, .inl (T 0, 9, .inl (cI ff15))), (a14, .inl (T 2, 9, .inl (cI ff16))), (a15, .inl (T 2, 9, .inl (cI f3)))] H locs := w
              refine lv_if_ne (tgt := 66) hx hb dX12_findsLoop_60 (by decide) (fun c_18 => ?_) (fun c_18 => ?_)
              · replace c_18 : ¬ z14 = 0 := fun h => c_18 ((iz_eq (Int.le_trans (by decide) z14_a) (Int.le_trans z14_b (by decide))).mpr h)
                refine lv_aload_n hx hb dX12_findsLoop_66 rfl (lv_at hl 1 rfl) ?_
                refine r_get (v := .ref a12) M w 0 25 clX12 rfl (by decide) G1488 rfl rfl dX12_findsLoop_67 ?_
                refine lv_iload_n hx hb dX12_findsLoop_70 rfl (lv_at hl 0 rfl) ?_
                refine lv_iload_n hx hb dX12_findsLoop_71 rfl (lv_at hl 2 rfl) ?_
                refine r_iast (ws' := [(a0, .inr (11, [.int r0, .ref a1, .int (iI x1), .int (iI x2), .int (iI x3), .int (iI x4), .int (iI x5), .int (iI x6), .int r1, .int (iI x7), .int (iI x8), .int (iI x9), .long y0, .int (iI x10), .ref a2, .ref a3, .ref a4, .ref a5, .ref a6, .ref a7, .ref a8, .ref a9, .ref a10, .ref a11, .int (iI x11), .ref a12, .ref a13, .ref a14, .ref a15, .int (iI x12), .int r2, .int r3, .ref a16, .int (iI x13), .int (iI x14), .ref a17, .ref a18, .int (iI x15), .ref a19, .int (iI x16), .int r4, .ref a20, .ref a21, .int (iI x17), .int r5, .ref a22, .int (iI x18), .int (iI x19), .int (iI x20), .int (iI x21)])), (a2, .inl (T 0, 329, .inl (cI f0))), (a12, .inl (T 0, 9, .inl (cI (upz ff15 z3 x0)))), (a14, .inl (T 2, 9, .inl (cI ff16))), (a15, .inl (T 2, 9, .inl (cI f3)))]) M w 2 rfl (iI_in (by omega) (by omega) (by decide)) (by rw [cI_up (by omega) (by omega)]; rfl) dX12_findsLoop_72 (fun H locs w => ?_)
                refine lv_iconst (v := iI 1) hx hb dX12_findsLoop_73 (by decide +kernel) ?_
                exact ret _ (1, (upz ff15 z3 x0), ff16) _ _ _ _ _ [0, 1, 2, 3, 4] dX12_findsLoop_74 (by decide +kernel) ⟨rfl, (show (0 : Int) ≤ 1 from by decide), (show (1 : Int) ≤ 1 from by decide), (rng_up ff15_h (by omega) (by omega)), ff16_h, (show sb f2 ff16 from (sb_t (sb_u lq1_s) pq17))⟩ w (by decide) rfl
              · replace c_18 := (iz_eq (Int.le_trans (by decide) z14_a) (Int.le_trans z14_b (by decide))).mp c_18
                refine lv_goto (tgt := 75) hx hb dX12_findsLoop_63 (by decide) ?_
                refine lv_iinc (v := iI (z3 + 1)) (lv' := [(2, .int (iI (z3 + 1))), (0, .ref a0), (1, .int (iI x0))]) hx hb dX12_findsLoop_75 hl (k := 0) rfl (ii_inc (by decide +kernel)) (by decide) rfl (fun ls hl => ?_)
                refine lv_goto (tgt := 2) hx hb dX12_findsLoop_78 (by decide) ?_
                exact ih1 ff15 ff16 (z3 + 1) _ _ _ ff15_h ff16_h (by omega) (by omega) (sb_t (sb_u lq1_s) pq17) (by omega) w (lv_sub hl [0, 1, 2] rfl)
          · replace c_10 : ¬ (ff2 z3) = 0 := fun h => c_10 ((iz_eq (by omega) (by omega)).mpr h)
            refine lv_goto (tgt := 75) hx hb dX12_findsLoop_30 (by decide) ?_
            refine lv_iinc (v := iI (z3 + 1)) (lv' := [(2, .int (iI (z3 + 1))), (0, .ref a0), (1, .int (iI x0))]) hx hb dX12_findsLoop_75 hl (k := 0) rfl (ii_inc (by decide +kernel)) (by decide) rfl (fun ls hl => ?_)
            refine lv_goto (tgt := 2) hx hb dX12_findsLoop_78 (by decide) ?_
            exact ih1 ff1 ff2 (z3 + 1) _ _ _ ff1_h ff2_h (by omega) (by omega) lq1_s (by omega) (w.sub [2, 3, 0, 1, 4] (by decide) rfl) (lv_sub hl [0, 1, 2] rfl)
  exact loop1 ((9 : Int).toNat + 1) f1 f2 0 _ _ _ f1_h f2_h (by decide) (by decide) sb_r (Nat.lt_succ_self _) w (lv_sub hl [0, 1, 2] rfl)
set_option maxRecDepth 100000 in
set_option maxHeartbeats 4000000 in
theorem c145_X12_findsLoop (l : Launch) (D : va_G) (T : Nat → ClassId) (sz : Nat) (a0 : Nat) (x0 : Int) (r0 : Int32) (a1 : Nat) (x1 : Int) (x2 : Int) (x3 : Int) (x4 : Int) (x5 : Int) (x6 : Int) (r1 : Int32) (x7 : Int) (x8 : Int) (x9 : Int) (y0 : Int64) (x10 : Int) (a2 : Nat) (a3 : Nat) (a4 : Nat) (a5 : Nat) (a6 : Nat) (a7 : Nat) (a8 : Nat) (a9 : Nat) (a10 : Nat) (a11 : Nat) (x11 : Int) (a12 : Nat) (a13 : Nat) (a14 : Nat) (a15 : Nat) (x12 : Int) (r2 : Int32) (r3 : Int32) (a16 : Nat) (x13 : Int) (x14 : Int) (a17 : Nat) (a18 : Nat) (x15 : Int) (a19 : Nat) (x16 : Int) (r4 : Int32) (a20 : Nat) (a21 : Nat) (x17 : Int) (r5 : Int32) (a22 : Nat) (x18 : Int) (x19 : Int) (x20 : Int) (x21 : Int) (f0 : Int → Int) (f1 : Int → Int) (f2 : Int → Int) (f3 : Int → Int) (x0_a : 0 ≤ x0) (x0_b : x0 ≤ 8) (x1_a : 0 ≤ x1) (x1_b : x1 ≤ 940) (x2_a : 0 ≤ x2) (x2_b : x2 ≤ 940) (x3_a : 0 ≤ x3) (x3_b : x3 ≤ 940) (x4_a : 0 ≤ x4) (x4_b : x4 ≤ 940) (x5_a : 0 ≤ x5) (x5_b : x5 ≤ 940) (x6_a : 0 ≤ x6) (x6_b : x6 ≤ 4) (x7_a : (-2147483648) ≤ x7) (x7_b : x7 ≤ 2147483647) (x8_a : (-2147483648) ≤ x8) (x8_b : x8 ≤ 2147483647) (x9_a : 0 ≤ x9) (x9_b : x9 ≤ 940) (x10_a : (-2147483648) ≤ x10) (x10_b : x10 ≤ 2147483647) (x11_a : 0 ≤ x11) (x11_b : x11 ≤ 8) (x12_a : 0 ≤ x12) (x12_b : x12 ≤ 9) (x13_a : (-1) ≤ x13) (x13_b : x13 ≤ 9) (x14_a : (-1) ≤ x14) (x14_b : x14 ≤ 8) (x15_a : 0 ≤ x15) (x15_b : x15 ≤ 9) (x16_a : 0 ≤ x16) (x16_b : x16 ≤ 64) (x17_a : 0 ≤ x17) (x17_b : x17 ≤ 40) (x18_a : 0 ≤ x18) (x18_b : x18 ≤ 40) (x19_a : 0 ≤ x19) (x19_b : x19 ≤ 20) (x20_a : 0 ≤ x20) (x20_b : x20 ≤ 8) (x21_a : 0 ≤ x21) (x21_b : x21 ≤ 39) (f0_h : nowI f0) (f1_h : rng (-1) 8 f1) (f2_h : rng 0 1 f2) (f3_h : rng 0 1 f3) (pp_n : cn f2 ≤ 7) : Met l yX12_findsLoop (Cond.code yX12_findsLoop cX12_findsLoop 3 (some .boolean) :: GW) (Rm 9 0 0) (cPre [.ref a0, .int (iI x0)] D T [(a0, .inr (11, [.int r0, .ref a1, .int (iI x1), .int (iI x2), .int (iI x3), .int (iI x4), .int (iI x5), .int (iI x6), .int r1, .int (iI x7), .int (iI x8), .int (iI x9), .long y0, .int (iI x10), .ref a2, .ref a3, .ref a4, .ref a5, .ref a6, .ref a7, .ref a8, .ref a9, .ref a10, .ref a11, .int (iI x11), .ref a12, .ref a13, .ref a14, .ref a15, .int (iI x12), .int r2, .int r3, .ref a16, .int (iI x13), .int (iI x14), .ref a17, .ref a18, .int (iI x15), .ref a19, .int (iI x16), .int r4, .ref a20, .ref a21, .int (iI x17), .int r5, .ref a22, .int (iI x18), .int (iI x19), .int (iI x20), .int (iI x21)])), (a2, .inl (T 0, 329, .inl (cI f0))), (a12, .inl (T 0, 9, .inl (cI f1))), (a14, .inl (T 2, 9, .inl (cI f2))), (a15, .inl (T 2, 9, .inl (cI f3)))] sz) (qI D [(a0, .inr (11, [.int r0, .ref a1, .int (iI x1), .int (iI x2), .int (iI x3), .int (iI x4), .int (iI x5), .int (iI x6), .int r1, .int (iI x7), .int (iI x8), .int (iI x9), .long y0, .int (iI x10), .ref a2, .ref a3, .ref a4, .ref a5, .ref a6, .ref a7, .ref a8, .ref a9, .ref a10, .ref a11, .int (iI x11), .ref a12, .ref a13, .ref a14, .ref a15, .int (iI x12), .int r2, .int r3, .ref a16, .int (iI x13), .int (iI x14), .ref a17, .ref a18, .int (iI x15), .ref a19, .int (iI x16), .int r4, .ref a20, .ref a21, .int (iI x17), .int r5, .ref a22, .int (iI x18), .int (iI x19), .int (iI x20), .int (iI x21)])), (a2, .inl (T 0, 329, .inl (cI f0))), (a12, .inl (T 0, 9, .inl (cI f1))), (a14, .inl (T 2, 9, .inl (cI f2))), (a15, .inl (T 2, 9, .inl (cI f3)))] sz (fun (v : Int32) (u : Int × (Int → Int) × (Int → Int)) => iI u.1 = v ∧ 0 ≤ u.1 ∧ u.1 ≤ 1 ∧ rng (-1) 8 u.2.1 ∧ rng 0 1 u.2.2 ∧ (sb f2 u.2.2)) (fun u => [(a0, .inr (11, [.int r0, .ref a1, .int (iI x1), .int (iI x2), .int (iI x3), .int (iI x4), .int (iI x5), .int (iI x6), .int r1, .int (iI x7), .int (iI x8), .int (iI x9), .long y0, .int (iI x10), .ref a2, .ref a3, .ref a4, .ref a5, .ref a6, .ref a7, .ref a8, .ref a9, .ref a10, .ref a11, .int (iI x11), .ref a12, .ref a13, .ref a14, .ref a15, .int (iI x12), .int r2, .int r3, .ref a16, .int (iI x13), .int (iI x14), .ref a17, .ref a18, .int (iI x15), .ref a19, .int (iI x16), .int r4, .ref a20, .ref a21, .int (iI x17), .int r5, .ref a22, .int (iI x18), .int (iI x19), .int (iI x20), .int (iI x21)])), (a2, .inl (T 0, 329, .inl (cI f0))), (a12, .inl (T 0, 9, .inl (cI u.2.1))), (a14, .inl (T 2, 9, .inl (cI u.2.2))), (a15, .inl (T 2, 9, .inl (cI f3)))])) 0 0 (va_A [(a0, .inr (11, [.int r0, .ref a1, .int (iI x1), .int (iI x2), .int (iI x3), .int (iI x4), .int (iI x5), .int (iI x6), .int r1, .int (iI x7), .int (iI x8), .int (iI x9), .long y0, .int (iI x10), .ref a2, .ref a3, .ref a4, .ref a5, .ref a6, .ref a7, .ref a8, .ref a9, .ref a10, .ref a11, .int (iI x11), .ref a12, .ref a13, .ref a14, .ref a15, .int (iI x12), .int r2, .int r3, .ref a16, .int (iI x13), .int (iI x14), .ref a17, .ref a18, .int (iI x15), .ref a19, .int (iI x16), .int r4, .ref a20, .ref a21, .int (iI x17), .int r5, .ref a22, .int (iI x18), .int (iI x19), .int (iI x20), .int (iI x21)])), (a2, .inl (T 0, 329, .inl (cI f0))), (a12, .inl (T 0, 9, .inl (cI f1))), (a14, .inl (T 2, 9, .inl (cI f2))), (a15, .inl (T 2, 9, .inl (cI f3)))] sz) := by
  refine e_Z (by decide) (Nat.le_of_ble_eq_true rfl) ?_
  intro p e s m args below meth c A Q ls M hin w ret hl
  have hx := M.1.1
  have hb := M.1.2.1
  have hl : lv_has ls 3 [(0, .ref a0), (1, .int (iI x0))] := hl
  refine lv_iconst (v := iI 0) hx hb dX12_findsLoop_0 (by decide +kernel) ?_
  refine lv_istore_n (lv' := [(2, .int (iI 0)), (0, .ref a0), (1, .int (iI x0))]) hx hb dX12_findsLoop_1 rfl hl (by decide) rfl (fun ls hl => ?_)
  have loop1 : ∀ (k1 : Nat) (ff1 : Int → Int) (ff2 : Int → Int) (z3 : Int) (H : Heap) (locs : List Loc) (ls : Array Slot), rng (-1) 8 ff1 → rng 0 1 ff2 → 0 ≤ z3 → z3 ≤ 9 → sb f2 ff2 → ((9 - z3) : Int).toNat < k1 → WD D A s.heap [(a0, .inr (11, [.int r0, .ref a1, .int (iI x1), .int (iI x2), .int (iI x3), .int (iI x4), .int (iI x5), .int (iI x6), .int r1, .int (iI x7), .int (iI x8), .int (iI x9), .long y0, .int (iI x10), .ref a2, .ref a3, .ref a4, .ref a5, .ref a6, .ref a7, .ref a8, .ref a9, .ref a10, .ref a11, .int (iI x11), .ref a12, .ref a13, .ref a14, .ref a15, .int (iI x12), .int r2, .int r3, .ref a16, .int (iI x13), .int (iI x14), .ref a17, .ref a18, .int (iI x15), .ref a19, .int (iI x16), .int r4, .ref a20, .ref a21, .int (iI x17), .int r5, .ref a22, .int (iI x18), .int (iI x19), .int (iI x20), .int (iI x21)])), (a2, .inl (T 0, 329, .inl (cI f0))), (a12, .inl (T 0, 9, .inl (cI ff1))), (a14, .inl (T 2, 9, .inl (cI ff2))), (a15, .inl (T 2, 9, .inl (cI f3)))] H locs → lv_has ls 3 [(2, .int (iI z3)), (0, .ref a0), (1, .int (iI x0))] → W p l e (Rm 9 0 0) s m args below meth c H locs 0 0 Q (F0 m 2 ls []) := by
    intro k1
    induction k1 with
    | zero => intro ff1 ff2 z3 H locs ls ff1_h ff2_h z3_a z3_b lq1_s hm; exact absurd hm (Nat.not_lt_zero _)
    | succ k1 ih1 =>
      intro ff1 ff2 z3 H locs ls ff1_h ff2_h z3_a z3_b lq1_s hm1 w hl
      refine lv_iload_n hx hb dX12_findsLoop_2 rfl (lv_at hl 0 rfl) ?_
      refine lv_aload_n hx hb dX12_findsLoop_3 rfl (lv_at hl 1 rfl) ?_
      refine r_get (v := .ref a2) M w 0 14 clX12 rfl (by decide) G1477 rfl rfl dX12_findsLoop_4 ?_
      refine lv_iconst (v := iI 0) hx hb dX12_findsLoop_7 (by decide +kernel) ?_
      refine r_iald (v := iI (f0 0)) M w 1 rfl (iI_in (by decide) (by decide) (by decide)) (cI_at (by omega) (by omega)) dX12_findsLoop_8 ?_
      have hh4 : (-2147483648) ≤ (f0 0) ∧ (f0 0) ≤ 2147483647 := f0_h.1 0
      have hh5 : 0 ≤ (f0 0) ∧ (f0 0) ≤ 9 := (f0_h.2.1 0).1 (by omega)
      refine lv_icmp_ge (tgt := 81) hx hb dX12_findsLoop_9 (by decide) (fun c_6 => ?_) (fun c_6 => ?_)
      · replace c_6 := (iI_le (by omega) (by omega) (Int.le_trans (by decide) z3_a) (Int.le_trans z3_b (by decide))).mp c_6
        refine lv_iconst (v := iI 0) hx hb dX12_findsLoop_81 (by decide +kernel) ?_
        exact ret _ (0, ff1, ff2) _ _ _ _ _ [0, 1, 2, 3, 4] dX12_findsLoop_82 (by decide +kernel) ⟨rfl, (show (0 : Int) ≤ 0 from by decide), (show (0 : Int) ≤ 1 from by decide), ff1_h, ff2_h, (show sb f2 ff2 from lq1_s)⟩ w (by decide) rfl
      · replace c_6 : z3 < (f0 0) := Int.not_le.mp (fun h => c_6 ((iI_le (by omega) (by omega) (Int.le_trans (by decide) z3_a) (Int.le_trans z3_b (by decide))).mpr h))
        refine lv_aload_n hx hb dX12_findsLoop_12 rfl (lv_at hl 1 rfl) ?_
        refine lv_iload_n hx hb dX12_findsLoop_13 rfl (lv_at hl 2 rfl) ?_
        refine lv_iload_n hx hb dX12_findsLoop_14 rfl (lv_at hl 0 rfl) ?_
        refine k_I (ce := 0) (sl := 0) (rest := []) (wr := [(a12, .inl (T 0, 9, .inl (cI ff1))), (a14, .inl (T 2, 9, .inl (cI ff2)))]) (r_V (f := 1) [0, 1, 4] M w V_HookedCityModel_310 G1875 G91 (c137_X12_canGo l D T _ a0 x0 z3 r0 a1 x1 x2 x3 x4 x5 x6 r1 x7 x8 x9 y0 x10 a2 a3 a4 a5 a6 a7 a8 a9 a10 a11 x11 a12 a13 a14 a15 x12 r2 r3 a16 x13 x14 a17 a18 x15 a19 x16 r4 a20 a21 x17 r5 a22 x18 x19 x20 x21 f0 f3 x0_a x0_b (by omega) (by omega) x1_a x1_b x2_a x2_b x3_a x3_b x4_a x4_b x5_a x5_b x6_a x6_b x7_a x7_b x8_a x8_b x9_a x9_b x10_a x10_b x11_a x11_b x12_a x12_b x13_a x13_b x14_a x14_b x15_a x15_b x16_a x16_b x17_a x17_b x18_a x18_b x19_a x19_b x20_a x20_b x21_a x21_b f0_h f3_h) 0 clX12 rfl rfl (by decide) rfl hl.1 rfl (Nat.le_of_ble_eq_true rfl) dX12_findsLoop_15 (by decide) (by decide) (by decide) (by decide)) w [0, 1, 4] [2, 3] rfl rfl (by decide) (by decide) rfl rfl (fun v z7 H locs hp w => ?_)
        have hv : iI z7 = v := hp.1
        subst hv
        have z7_a : 0 ≤ z7 := hp.2.1
        have z7_b : z7 ≤ 1 := hp.2.2
        have w : WD D A s.heap [(a12, .inl (T 0, 9, .inl (cI ff1))), (a14, .inl (T 2, 9, .inl (cI ff2))), (a0, .inr (11, [.int r0, .ref a1, .int (iI x1), .int (iI x2), .int (iI x3), .int (iI x4), .int (iI x5), .int (iI x6), .int r1, .int (iI x7), .int (iI x8), .int (iI x9), .long y0, .int (iI x10), .ref a2, .ref a3, .ref a4, .ref a5, .ref a6, .ref a7, .ref a8, .ref a9, .ref a10, .ref a11, .int (iI x11), .ref a12, .ref a13, .ref a14, .ref a15, .int (iI x12), .int r2, .int r3, .ref a16, .int (iI x13), .int (iI x14), .ref a17, .ref a18, .int (iI x15), .ref a19, .int (iI x16), .int r4, .ref a20, .ref a21, .int (iI x17), .int r5, .ref a22, .int (iI x18), .int (iI x19), .int (iI x20), .int (iI x21)])), (a2, .inl (T 0, 329, .inl (cI f0))), (a15, .inl (T 2, 9, .inl (cI f3)))] H locs := w
        refine lv_if_eq (tgt := 75) hx hb dX12_findsLoop_18 (by decide) (fun c_8 => ?_) (fun c_8 => ?_)
        · replace c_8 := (iz_eq (Int.le_trans (by decide) z7_a) (Int.le_trans z7_b (by decide))).mp c_8
          refine lv_iinc (v := iI (z3 + 1)) (lv' := [(2, .int (iI (z3 + 1))), (0, .ref a0), (1, .int (iI x0))]) hx hb dX12_findsLoop_75 hl (k := 0) rfl (ii_inc (by decide +kernel)) (by decide) rfl (fun ls hl => ?_)
          refine lv_goto (tgt := 2) hx hb dX12_findsLoop_78 (by decide) ?_
          exact ih1 ff1 ff2 (z3 + 1) _ _ _ ff1_h ff2_h (by omega) (by omega) lq1_s (by omega) (w.sub [2, 3, 0, 1, 4] (by decide) rfl) (lv_sub hl [0, 1, 2] rfl)
        · replace c_8 : ¬ z7 = 0 := fun h => c_8 ((iz_eq (Int.le_trans (by decide) z7_a) (Int.le_trans z7_b (by decide))).mpr h)
          refine lv_aload_n hx hb dX12_findsLoop_21 rfl (lv_at hl 1 rfl) ?_
          refine r_get (v := .ref a14) M w 2 27 clX12 rfl (by decide) G1490 rfl rfl dX12_findsLoop_22 ?_
          refine lv_iload_n hx hb dX12_findsLoop_25 rfl (lv_at hl 0 rfl) ?_
          refine r_zald (v := iI (ff2 z3)) M w 1 rfl (iI_in (by omega) (by omega) (by decide)) (cI_at (by omega) (by omega)) dX12_findsLoop_26 ?_
          have hh9 : 0 ≤ (ff2 z3) ∧ (ff2 z3) ≤ 1 := ff2_h z3
          refine lv_if_eq (tgt := 33) hx hb dX12_findsLoop_27 (by decide) (fun c_10 => ?_) (fun c_10 => ?_)
          · replace c_10 := (iz_eq (by omega) (by omega)).mp c_10
            refine lv_aload_n hx hb dX12_findsLoop_33 rfl (lv_at hl 1 rfl) ?_
            refine r_get (v := .ref a14) M w 2 27 clX12 rfl (by decide) G1490 rfl rfl dX12_findsLoop_34 ?_
            refine lv_iload_n hx hb dX12_findsLoop_37 rfl (lv_at hl 0 rfl) ?_
            refine lv_iconst (v := iI 1) hx hb dX12_findsLoop_38 (by decide +kernel) ?_
            refine r_zast (x2 := iI 1) (ws' := [(a12, .inl (T 0, 9, .inl (cI ff1))), (a14, .inl (T 2, 9, .inl (cI (upz ff2 z3 1)))), (a0, .inr (11, [.int r0, .ref a1, .int (iI x1), .int (iI x2), .int (iI x3), .int (iI x4), .int (iI x5), .int (iI x6), .int r1, .int (iI x7), .int (iI x8), .int (iI x9), .long y0, .int (iI x10), .ref a2, .ref a3, .ref a4, .ref a5, .ref a6, .ref a7, .ref a8, .ref a9, .ref a10, .ref a11, .int (iI x11), .ref a12, .ref a13, .ref a14, .ref a15, .int (iI x12), .int r2, .int r3, .ref a16, .int (iI x13), .int (iI x14), .ref a17, .ref a18, .int (iI x15), .ref a19, .int (iI x16), .int r4, .ref a20, .ref a21, .int (iI x17), .int r5, .ref a22, .int (iI x18), .int (iI x19), .int (iI x20), .int (iI x21)])), (a2, .inl (T 0, 329, .inl (cI f0))), (a15, .inl (T 2, 9, .inl (cI f3)))]) M w 1 rfl (iI_in (by omega) (by omega) (by decide)) (nb_z (by omega) (by omega)) (by rw [cI_up (by omega) (by omega)]; rfl) dX12_findsLoop_39 (fun H locs w => ?_)
            refine lv_aload_n hx hb dX12_findsLoop_40 rfl (lv_at hl 1 rfl) ?_
            refine r_get (v := .ref a12) M w 2 25 clX12 rfl (by decide) G1488 rfl rfl dX12_findsLoop_41 ?_
            refine lv_iload_n hx hb dX12_findsLoop_44 rfl (lv_at hl 0 rfl) ?_
            refine r_iald (v := iI (ff1 z3)) M w 0 rfl (iI_in (by omega) (by omega) (by decide)) (cI_at (by omega) (by omega)) dX12_findsLoop_45 ?_
            have hh11 : (-1) ≤ (ff1 z3) ∧ (ff1 z3) ≤ 8 := ff1_h z3
            refine lv_iconst (v := iI (-1)) hx hb dX12_findsLoop_46 (by decide +kernel) ?_
            refine lv_icmp_eq (tgt := 66) hx hb dX12_findsLoop_47 (by decide) (fun c_12 => ?_) (fun c_12 => ?_)
            · replace c_12 := (iI_eq (by omega) (by omega) (by decide) (by decide)).mp c_12
              refine lv_aload_n hx hb dX12_findsLoop_66 rfl (lv_at hl 1 rfl) ?_
              refine r_get (v := .ref a12) M w 2 25 clX12 rfl (by decide) G1488 rfl rfl dX12_findsLoop_67 ?_
              refine lv_iload_n hx hb dX12_findsLoop_70 rfl (lv_at hl 0 rfl) ?_
              refine lv_iload_n hx hb dX12_findsLoop_71 rfl (lv_at hl 2 rfl) ?_
              refine r_iast (ws' := [(a12, .inl (T 0, 9, .inl (cI (upz ff1 z3 x0)))), (a14, .inl (T 2, 9, .inl (cI (upz ff2 z3 1)))), (a0, .inr (11, [.int r0, .ref a1, .int (iI x1), .int (iI x2), .int (iI x3), .int (iI x4), .int (iI x5), .int (iI x6), .int r1, .int (iI x7), .int (iI x8), .int (iI x9), .long y0, .int (iI x10), .ref a2, .ref a3, .ref a4, .ref a5, .ref a6, .ref a7, .ref a8, .ref a9, .ref a10, .ref a11, .int (iI x11), .ref a12, .ref a13, .ref a14, .ref a15, .int (iI x12), .int r2, .int r3, .ref a16, .int (iI x13), .int (iI x14), .ref a17, .ref a18, .int (iI x15), .ref a19, .int (iI x16), .int r4, .ref a20, .ref a21, .int (iI x17), .int r5, .ref a22, .int (iI x18), .int (iI x19), .int (iI x20), .int (iI x21)])), (a2, .inl (T 0, 329, .inl (cI f0))), (a15, .inl (T 2, 9, .inl (cI f3)))]) M w 0 rfl (iI_in (by omega) (by omega) (by decide)) (by rw [cI_up (by omega) (by omega)]; rfl) dX12_findsLoop_72 (fun H locs w => ?_)
              refine lv_iconst (v := iI 1) hx hb dX12_findsLoop_73 (by decide +kernel) ?_
              exact ret _ (1, (upz ff1 z3 x0), (upz ff2 z3 1)) _ _ _ _ _ [2, 3, 0, 1, 4] dX12_findsLoop_74 (by decide +kernel) ⟨rfl, (show (0 : Int) ≤ 1 from by decide), (show (1 : Int) ≤ 1 from by decide), (rng_up ff1_h (by omega) (by omega)), (rng_up ff2_h (by omega) (by omega)), (show sb f2 (upz ff2 z3 1) from (sb_u lq1_s))⟩ w (by decide) rfl
            · replace c_12 : ¬ (ff1 z3) = (-1) := fun h => c_12 ((iI_eq (by omega) (by omega) (by decide) (by decide)).mpr h)
              refine lv_aload_n hx hb dX12_findsLoop_50 rfl (lv_at hl 1 rfl) ?_
              refine lv_aload_n hx hb dX12_findsLoop_51 rfl (lv_at hl 1 rfl) ?_
              refine r_get (v := .ref a12) M w 2 25 clX12 rfl (by decide) G1488 rfl rfl dX12_findsLoop_52 ?_
              refine lv_iload_n hx hb dX12_findsLoop_55 rfl (lv_at hl 0 rfl) ?_
              refine r_iald (v := iI (ff1 z3)) M w 0 rfl (iI_in (by omega) (by omega) (by decide)) (cI_at (by omega) (by omega)) dX12_findsLoop_56 ?_
              have hh13 : (-1) ≤ (ff1 z3) ∧ (ff1 z3) ≤ 8 := ff1_h z3
              refine k_I (ce := 0) (sl := 0) (rest := []) (wr := []) (r_V (f := 8) [2, 3, 0, 1, 4] M w V_HookedCityModel_313 G1871 G90 (c144_X12_findsLoop l D T _ a0 (ff1 z3) r0 a1 x1 x2 x3 x4 x5 x6 r1 x7 x8 x9 y0 x10 a2 a3 a4 a5 a6 a7 a8 a9 a10 a11 x11 a12 a13 a14 a15 x12 r2 r3 a16 x13 x14 a17 a18 x15 a19 x16 r4 a20 a21 x17 r5 a22 x18 x19 x20 x21 f0 ff1 (upz ff2 z3 1) f3 (by omega) (by omega) x1_a x1_b x2_a x2_b x3_a x3_b x4_a x4_b x5_a x5_b x6_a x6_b x7_a x7_b x8_a x8_b x9_a x9_b x10_a x10_b x11_a x11_b x12_a x12_b x13_a x13_b x14_a x14_b x15_a x15_b x16_a x16_b x17_a x17_b x18_a x18_b x19_a x19_b x20_a x20_b x21_a x21_b f0_h ff1_h (rng_up ff2_h (by omega) (by omega)) f3_h (by have e8 := cn_m lq1_s; have e9 := cn_u (f := ff2) (k := z3) (by omega) (by omega) (by omega); omega)) 2 clX12 rfl rfl (by decide) rfl hl.1 rfl (Nat.le_of_ble_eq_true rfl) dX12_findsLoop_57 (by decide) (by decide) (by decide) (by decide)) w [2, 3, 0, 1, 4] [] rfl rfl (by decide) (by decide) rfl rfl (fun v u H locs hp w => ?_)
              obtain ⟨z14, ff15, ff16⟩ := u
              have hv : iI z14 = v := hp.1
              subst hv
              have z14_a : 0 ≤ z14 := hp.2.1
              have z14_b : z14 ≤ 1 := hp.2.2.1
              have ff15_h : rng (-1) 8 ff15 := hp.2.2.2.1
              have ff16_h : rng 0 1 ff16 := hp.2.2.2.2.1
              have pq17 : sb (upz ff2 z3 1) ff16 := hp.2.2.2.2.2
              have w : WD D A s.heap [(a0, .inr (11, [.int r0, .ref a1, .int (iI x1), .int (iI x2), .int (iI x3), .int (iI x4), .int (iI x5), .int (iI x6), .int r1, .int (iI x7), .int (iI x8), .int (iI x9), .long y0, .int (iI x10), .ref a2, .ref a3, .ref a4, .ref a5, .ref a6, .ref a7, .ref a8, .ref a9, .ref a10, .ref a11, .int (iI x11), .ref a12, .ref a13, .ref a14, .ref a15, .int (iI x12), .int r2, .int r3, .ref a16, .int (iI x13), .int (iI x14), .ref a17, .ref a18, .int (iI x15), .ref a19, .int (iI x16), .int r4, .ref a20, .ref a21, .int (iI x17), .int r5, .ref a22, .int (iI x18), .int (iI x19), .int (iI x20), .int (iI x21)])), (a2, .inl (T 0, 329, .inl (cI f0))), (a12, .inl (T 0, 9, .inl (cI ff15))), (a14, .inl (T 2, 9, .inl (cI ff16))), (a15, .inl (T 2, 9, .inl (cI f3)))] H locs := w
              refine lv_if_ne (tgt := 66) hx hb dX12_findsLoop_60 (by decide) (fun c_18 => ?_) (fun c_18 => ?_)
              · replace c_18 : ¬ z14 = 0 := fun h => c_18 ((iz_eq (Int.le_trans (by decide) z14_a) (Int.le_trans z14_b (by decide))).mpr h)
                refine lv_aload_n hx hb dX12_findsLoop_66 rfl (lv_at hl 1 rfl) ?_
                refine r_get (v := .ref a12) M w 0 25 clX12 rfl (by decide) G1488 rfl rfl dX12_findsLoop_67 ?_
                refine lv_iload_n hx hb dX12_findsLoop_70 rfl (lv_at hl 0 rfl) ?_
                refine lv_iload_n hx hb dX12_findsLoop_71 rfl (lv_at hl 2 rfl) ?_
                refine r_iast (ws' := [(a0, .inr (11, [.int r0, .ref a1, .int (iI x1), .int (iI x2), .int (iI x3), .int (iI x4), .int (iI x5), .int (iI x6), .int r1, .int (iI x7), .int (iI x8), .int (iI x9), .long y0, .int (iI x10), .ref a2, .ref a3, .ref a4, .ref a5, .ref a6, .ref a7, .ref a8, .ref a9, .ref a10, .ref a11, .int (iI x11), .ref a12, .ref a13, .ref a14, .ref a15, .int (iI x12), .int r2, .int r3, .ref a16, .int (iI x13), .int (iI x14), .ref a17, .ref a18, .int (iI x15), .ref a19, .int (iI x16), .int r4, .ref a20, .ref a21, .int (iI x17), .int r5, .ref a22, .int (iI x18), .int (iI x19), .int (iI x20), .int (iI x21)])), (a2, .inl (T 0, 329, .inl (cI f0))), (a12, .inl (T 0, 9, .inl (cI (upz ff15 z3 x0)))), (a14, .inl (T 2, 9, .inl (cI ff16))), (a15, .inl (T 2, 9, .inl (cI f3)))]) M w 2 rfl (iI_in (by omega) (by omega) (by decide)) (by rw [cI_up (by omega) (by omega)]; rfl) dX12_findsLoop_72 (fun H locs w => ?_)
                refine lv_iconst (v := iI 1) hx hb dX12_findsLoop_73 (by decide +kernel) ?_
                exact ret _ (1, (upz ff15 z3 x0), ff16) _ _ _ _ _ [0, 1, 2, 3, 4] dX12_findsLoop_74 (by decide +kernel) ⟨rfl, (show (0 : Int) ≤ 1 from by decide), (show (1 : Int) ≤ 1 from by decide), (rng_up ff15_h (by omega) (by omega)), ff16_h, (show sb f2 ff16 from (sb_t (sb_u lq1_s) pq17))⟩ w (by decide) rfl
              · replace c_18 := (iz_eq (Int.le_trans (by decide) z14_a) (Int.le_trans z14_b (by decide))).mp c_18
                refine lv_goto (tgt := 75) hx hb dX12_findsLoop_63 (by decide) ?_
                refine lv_iinc (v := iI (z3 + 1)) (lv' := [(2, .int (iI (z3 + 1))), (0, .ref a0), (1, .int (iI x0))]) hx hb dX12_findsLoop_75 hl (k := 0) rfl (ii_inc (by decide +kernel)) (by decide) rfl (fun ls hl => ?_)
                refine lv_goto (tgt := 2) hx hb dX12_findsLoop_78 (by decide) ?_
                exact ih1 ff15 ff16 (z3 + 1) _ _ _ ff15_h ff16_h (by omega) (by omega) (sb_t (sb_u lq1_s) pq17) (by omega) w (lv_sub hl [0, 1, 2] rfl)
          · replace c_10 : ¬ (ff2 z3) = 0 := fun h => c_10 ((iz_eq (by omega) (by omega)).mpr h)
            refine lv_goto (tgt := 75) hx hb dX12_findsLoop_30 (by decide) ?_
            refine lv_iinc (v := iI (z3 + 1)) (lv' := [(2, .int (iI (z3 + 1))), (0, .ref a0), (1, .int (iI x0))]) hx hb dX12_findsLoop_75 hl (k := 0) rfl (ii_inc (by decide +kernel)) (by decide) rfl (fun ls hl => ?_)
            refine lv_goto (tgt := 2) hx hb dX12_findsLoop_78 (by decide) ?_
            exact ih1 ff1 ff2 (z3 + 1) _ _ _ ff1_h ff2_h (by omega) (by omega) lq1_s (by omega) (w.sub [2, 3, 0, 1, 4] (by decide) rfl) (lv_sub hl [0, 1, 2] rfl)
  exact loop1 ((9 : Int).toNat + 1) f1 f2 0 _ _ _ f1_h f2_h (by decide) (by decide) sb_r (Nat.lt_succ_self _) w (lv_sub hl [0, 1, 2] rfl)
set_option maxRecDepth 100000 in
set_option maxHeartbeats 4000000 in
theorem c146_X12_findsLoop (l : Launch) (D : va_G) (T : Nat → ClassId) (sz : Nat) (a0 : Nat) (x0 : Int) (r0 : Int32) (a1 : Nat) (x1 : Int) (x2 : Int) (x3 : Int) (x4 : Int) (x5 : Int) (x6 : Int) (r1 : Int32) (x7 : Int) (x8 : Int) (x9 : Int) (y0 : Int64) (x10 : Int) (a2 : Nat) (a3 : Nat) (a4 : Nat) (a5 : Nat) (a6 : Nat) (a7 : Nat) (a8 : Nat) (a9 : Nat) (a10 : Nat) (a11 : Nat) (x11 : Int) (a12 : Nat) (a13 : Nat) (a14 : Nat) (a15 : Nat) (x12 : Int) (r2 : Int32) (r3 : Int32) (a16 : Nat) (x13 : Int) (x14 : Int) (a17 : Nat) (a18 : Nat) (x15 : Int) (a19 : Nat) (x16 : Int) (r4 : Int32) (a20 : Nat) (a21 : Nat) (x17 : Int) (r5 : Int32) (a22 : Nat) (x18 : Int) (x19 : Int) (x20 : Int) (x21 : Int) (f0 : Int → Int) (f1 : Int → Int) (f2 : Int → Int) (f3 : Int → Int) (x0_a : 0 ≤ x0) (x0_b : x0 ≤ 8) (x1_a : 0 ≤ x1) (x1_b : x1 ≤ 940) (x2_a : 0 ≤ x2) (x2_b : x2 ≤ 940) (x3_a : 0 ≤ x3) (x3_b : x3 ≤ 940) (x4_a : 0 ≤ x4) (x4_b : x4 ≤ 940) (x5_a : 0 ≤ x5) (x5_b : x5 ≤ 940) (x6_a : 0 ≤ x6) (x6_b : x6 ≤ 4) (x7_a : (-2147483648) ≤ x7) (x7_b : x7 ≤ 2147483647) (x8_a : (-2147483648) ≤ x8) (x8_b : x8 ≤ 2147483647) (x9_a : 0 ≤ x9) (x9_b : x9 ≤ 940) (x10_a : (-2147483648) ≤ x10) (x10_b : x10 ≤ 2147483647) (x11_a : 0 ≤ x11) (x11_b : x11 ≤ 8) (x12_a : 0 ≤ x12) (x12_b : x12 ≤ 9) (x13_a : (-1) ≤ x13) (x13_b : x13 ≤ 9) (x14_a : (-1) ≤ x14) (x14_b : x14 ≤ 8) (x15_a : 0 ≤ x15) (x15_b : x15 ≤ 9) (x16_a : 0 ≤ x16) (x16_b : x16 ≤ 64) (x17_a : 0 ≤ x17) (x17_b : x17 ≤ 40) (x18_a : 0 ≤ x18) (x18_b : x18 ≤ 40) (x19_a : 0 ≤ x19) (x19_b : x19 ≤ 20) (x20_a : 0 ≤ x20) (x20_b : x20 ≤ 8) (x21_a : 0 ≤ x21) (x21_b : x21 ≤ 39) (f0_h : nowI f0) (f1_h : rng (-1) 8 f1) (f2_h : rng 0 1 f2) (f3_h : rng 0 1 f3) (pp_n : cn f2 ≤ 8) : Met l yX12_findsLoop (Cond.code yX12_findsLoop cX12_findsLoop 3 (some .boolean) :: GW) (Rm 10 0 0) (cPre [.ref a0, .int (iI x0)] D T [(a0, .inr (11, [.int r0, .ref a1, .int (iI x1), .int (iI x2), .int (iI x3), .int (iI x4), .int (iI x5), .int (iI x6), .int r1, .int (iI x7), .int (iI x8), .int (iI x9), .long y0, .int (iI x10), .ref a2, .ref a3, .ref a4, .ref a5, .ref a6, .ref a7, .ref a8, .ref a9, .ref a10, .ref a11, .int (iI x11), .ref a12, .ref a13, .ref a14, .ref a15, .int (iI x12), .int r2, .int r3, .ref a16, .int (iI x13), .int (iI x14), .ref a17, .ref a18, .int (iI x15), .ref a19, .int (iI x16), .int r4, .ref a20, .ref a21, .int (iI x17), .int r5, .ref a22, .int (iI x18), .int (iI x19), .int (iI x20), .int (iI x21)])), (a2, .inl (T 0, 329, .inl (cI f0))), (a12, .inl (T 0, 9, .inl (cI f1))), (a14, .inl (T 2, 9, .inl (cI f2))), (a15, .inl (T 2, 9, .inl (cI f3)))] sz) (qI D [(a0, .inr (11, [.int r0, .ref a1, .int (iI x1), .int (iI x2), .int (iI x3), .int (iI x4), .int (iI x5), .int (iI x6), .int r1, .int (iI x7), .int (iI x8), .int (iI x9), .long y0, .int (iI x10), .ref a2, .ref a3, .ref a4, .ref a5, .ref a6, .ref a7, .ref a8, .ref a9, .ref a10, .ref a11, .int (iI x11), .ref a12, .ref a13, .ref a14, .ref a15, .int (iI x12), .int r2, .int r3, .ref a16, .int (iI x13), .int (iI x14), .ref a17, .ref a18, .int (iI x15), .ref a19, .int (iI x16), .int r4, .ref a20, .ref a21, .int (iI x17), .int r5, .ref a22, .int (iI x18), .int (iI x19), .int (iI x20), .int (iI x21)])), (a2, .inl (T 0, 329, .inl (cI f0))), (a12, .inl (T 0, 9, .inl (cI f1))), (a14, .inl (T 2, 9, .inl (cI f2))), (a15, .inl (T 2, 9, .inl (cI f3)))] sz (fun (v : Int32) (u : Int × (Int → Int) × (Int → Int)) => iI u.1 = v ∧ 0 ≤ u.1 ∧ u.1 ≤ 1 ∧ rng (-1) 8 u.2.1 ∧ rng 0 1 u.2.2 ∧ (sb f2 u.2.2)) (fun u => [(a0, .inr (11, [.int r0, .ref a1, .int (iI x1), .int (iI x2), .int (iI x3), .int (iI x4), .int (iI x5), .int (iI x6), .int r1, .int (iI x7), .int (iI x8), .int (iI x9), .long y0, .int (iI x10), .ref a2, .ref a3, .ref a4, .ref a5, .ref a6, .ref a7, .ref a8, .ref a9, .ref a10, .ref a11, .int (iI x11), .ref a12, .ref a13, .ref a14, .ref a15, .int (iI x12), .int r2, .int r3, .ref a16, .int (iI x13), .int (iI x14), .ref a17, .ref a18, .int (iI x15), .ref a19, .int (iI x16), .int r4, .ref a20, .ref a21, .int (iI x17), .int r5, .ref a22, .int (iI x18), .int (iI x19), .int (iI x20), .int (iI x21)])), (a2, .inl (T 0, 329, .inl (cI f0))), (a12, .inl (T 0, 9, .inl (cI u.2.1))), (a14, .inl (T 2, 9, .inl (cI u.2.2))), (a15, .inl (T 2, 9, .inl (cI f3)))])) 0 0 (va_A [(a0, .inr (11, [.int r0, .ref a1, .int (iI x1), .int (iI x2), .int (iI x3), .int (iI x4), .int (iI x5), .int (iI x6), .int r1, .int (iI x7), .int (iI x8), .int (iI x9), .long y0, .int (iI x10), .ref a2, .ref a3, .ref a4, .ref a5, .ref a6, .ref a7, .ref a8, .ref a9, .ref a10, .ref a11, .int (iI x11), .ref a12, .ref a13, .ref a14, .ref a15, .int (iI x12), .int r2, .int r3, .ref a16, .int (iI x13), .int (iI x14), .ref a17, .ref a18, .int (iI x15), .ref a19, .int (iI x16), .int r4, .ref a20, .ref a21, .int (iI x17), .int r5, .ref a22, .int (iI x18), .int (iI x19), .int (iI x20), .int (iI x21)])), (a2, .inl (T 0, 329, .inl (cI f0))), (a12, .inl (T 0, 9, .inl (cI f1))), (a14, .inl (T 2, 9, .inl (cI f2))), (a15, .inl (T 2, 9, .inl (cI f3)))] sz) := by
  refine e_Z (by decide) (Nat.le_of_ble_eq_true rfl) ?_
  intro p e s m args below meth c A Q ls M hin w ret hl
  have hx := M.1.1
  have hb := M.1.2.1
  have hl : lv_has ls 3 [(0, .ref a0), (1, .int (iI x0))] := hl
  refine lv_iconst (v := iI 0) hx hb dX12_findsLoop_0 (by decide +kernel) ?_
  refine lv_istore_n (lv' := [(2, .int (iI 0)), (0, .ref a0), (1, .int (iI x0))]) hx hb dX12_findsLoop_1 rfl hl (by decide) rfl (fun ls hl => ?_)
  have loop1 : ∀ (k1 : Nat) (ff1 : Int → Int) (ff2 : Int → Int) (z3 : Int) (H : Heap) (locs : List Loc) (ls : Array Slot), rng (-1) 8 ff1 → rng 0 1 ff2 → 0 ≤ z3 → z3 ≤ 9 → sb f2 ff2 → ((9 - z3) : Int).toNat < k1 → WD D A s.heap [(a0, .inr (11, [.int r0, .ref a1, .int (iI x1), .int (iI x2), .int (iI x3), .int (iI x4), .int (iI x5), .int (iI x6), .int r1, .int (iI x7), .int (iI x8), .int (iI x9), .long y0, .int (iI x10), .ref a2, .ref a3, .ref a4, .ref a5, .ref a6, .ref a7, .ref a8, .ref a9, .ref a10, .ref a11, .int (iI x11), .ref a12, .ref a13, .ref a14, .ref a15, .int (iI x12), .int r2, .int r3, .ref a16, .int (iI x13), .int (iI x14), .ref a17, .ref a18, .int (iI x15), .ref a19, .int (iI x16), .int r4, .ref a20, .ref a21, .int (iI x17), .int r5, .ref a22, .int (iI x18), .int (iI x19), .int (iI x20), .int (iI x21)])), (a2, .inl (T 0, 329, .inl (cI f0))), (a12, .inl (T 0, 9, .inl (cI ff1))), (a14, .inl (T 2, 9, .inl (cI ff2))), (a15, .inl (T 2, 9, .inl (cI f3)))] H locs → lv_has ls 3 [(2, .int (iI z3)), (0, .ref a0), (1, .int (iI x0))] → W p l e (Rm 10 0 0) s m args below meth c H locs 0 0 Q (F0 m 2 ls []) := by
    intro k1
    induction k1 with
    | zero => intro ff1 ff2 z3 H locs ls ff1_h ff2_h z3_a z3_b lq1_s hm; exact absurd hm (Nat.not_lt_zero _)
    | succ k1 ih1 =>
      intro ff1 ff2 z3 H locs ls ff1_h ff2_h z3_a z3_b lq1_s hm1 w hl
      refine lv_iload_n hx hb dX12_findsLoop_2 rfl (lv_at hl 0 rfl) ?_
      refine lv_aload_n hx hb dX12_findsLoop_3 rfl (lv_at hl 1 rfl) ?_
      refine r_get (v := .ref a2) M w 0 14 clX12 rfl (by decide) G1477 rfl rfl dX12_findsLoop_4 ?_
      refine lv_iconst (v := iI 0) hx hb dX12_findsLoop_7 (by decide +kernel) ?_
      refine r_iald (v := iI (f0 0)) M w 1 rfl (iI_in (by decide) (by decide) (by decide)) (cI_at (by omega) (by omega)) dX12_findsLoop_8 ?_
      have hh4 : (-2147483648) ≤ (f0 0) ∧ (f0 0) ≤ 2147483647 := f0_h.1 0
      have hh5 : 0 ≤ (f0 0) ∧ (f0 0) ≤ 9 := (f0_h.2.1 0).1 (by omega)
      refine lv_icmp_ge (tgt := 81) hx hb dX12_findsLoop_9 (by decide) (fun c_6 => ?_) (fun c_6 => ?_)
      · replace c_6 := (iI_le (by omega) (by omega) (Int.le_trans (by decide) z3_a) (Int.le_trans z3_b (by decide))).mp c_6
        refine lv_iconst (v := iI 0) hx hb dX12_findsLoop_81 (by decide +kernel) ?_
        exact ret _ (0, ff1, ff2) _ _ _ _ _ [0, 1, 2, 3, 4] dX12_findsLoop_82 (by decide +kernel) ⟨rfl, (show (0 : Int) ≤ 0 from by decide), (show (0 : Int) ≤ 1 from by decide), ff1_h, ff2_h, (show sb f2 ff2 from lq1_s)⟩ w (by decide) rfl
      · replace c_6 : z3 < (f0 0) := Int.not_le.mp (fun h => c_6 ((iI_le (by omega) (by omega) (Int.le_trans (by decide) z3_a) (Int.le_trans z3_b (by decide))).mpr h))
        refine lv_aload_n hx hb dX12_findsLoop_12 rfl (lv_at hl 1 rfl) ?_
        refine lv_iload_n hx hb dX12_findsLoop_13 rfl (lv_at hl 2 rfl) ?_
        refine lv_iload_n hx hb dX12_findsLoop_14 rfl (lv_at hl 0 rfl) ?_
        refine k_I (ce := 0) (sl := 0) (rest := []) (wr := [(a12, .inl (T 0, 9, .inl (cI ff1))), (a14, .inl (T 2, 9, .inl (cI ff2)))]) (r_V (f := 1) [0, 1, 4] M w V_HookedCityModel_310 G1875 G91 (c137_X12_canGo l D T _ a0 x0 z3 r0 a1 x1 x2 x3 x4 x5 x6 r1 x7 x8 x9 y0 x10 a2 a3 a4 a5 a6 a7 a8 a9 a10 a11 x11 a12 a13 a14 a15 x12 r2 r3 a16 x13 x14 a17 a18 x15 a19 x16 r4 a20 a21 x17 r5 a22 x18 x19 x20 x21 f0 f3 x0_a x0_b (by omega) (by omega) x1_a x1_b x2_a x2_b x3_a x3_b x4_a x4_b x5_a x5_b x6_a x6_b x7_a x7_b x8_a x8_b x9_a x9_b x10_a x10_b x11_a x11_b x12_a x12_b x13_a x13_b x14_a x14_b x15_a x15_b x16_a x16_b x17_a x17_b x18_a x18_b x19_a x19_b x20_a x20_b x21_a x21_b f0_h f3_h) 0 clX12 rfl rfl (by decide) rfl hl.1 rfl (Nat.le_of_ble_eq_true rfl) dX12_findsLoop_15 (by decide) (by decide) (by decide) (by decide)) w [0, 1, 4] [2, 3] rfl rfl (by decide) (by decide) rfl rfl (fun v z7 H locs hp w => ?_)
        have hv : iI z7 = v := hp.1
        subst hv
        have z7_a : 0 ≤ z7 := hp.2.1
        have z7_b : z7 ≤ 1 := hp.2.2
        have w : WD D A s.heap [(a12, .inl (T 0, 9, .inl (cI ff1))), (a14, .inl (T 2, 9, .inl (cI ff2))), (a0, .inr (11, [.int r0, .ref a1, .int (iI x1), .int (iI x2), .int (iI x3), .int (iI x4), .int (iI x5), .int (iI x6), .int r1, .int (iI x7), .int (iI x8), .int (iI x9), .long y0, .int (iI x10), .ref a2, .ref a3, .ref a4, .ref a5, .ref a6, .ref a7, .ref a8, .ref a9, .ref a10, .ref a11, .int (iI x11), .ref a12, .ref a13, .ref a14, .ref a15, .int (iI x12), .int r2, .int r3, .ref a16, .int (iI x13), .int (iI x14), .ref a17, .ref a18, .int (iI x15), .ref a19, .int (iI x16), .int r4, .ref a20, .ref a21, .int (iI x17), .int r5, .ref a22, .int (iI x18), .int (iI x19), .int (iI x20), .int (iI x21)])), (a2, .inl (T 0, 329, .inl (cI f0))), (a15, .inl (T 2, 9, .inl (cI f3)))] H locs := w
        refine lv_if_eq (tgt := 75) hx hb dX12_findsLoop_18 (by decide) (fun c_8 => ?_) (fun c_8 => ?_)
        · replace c_8 := (iz_eq (Int.le_trans (by decide) z7_a) (Int.le_trans z7_b (by decide))).mp c_8
          refine lv_iinc (v := iI (z3 + 1)) (lv' := [(2, .int (iI (z3 + 1))), (0, .ref a0), (1, .int (iI x0))]) hx hb dX12_findsLoop_75 hl (k := 0) rfl (ii_inc (by decide +kernel)) (by decide) rfl (fun ls hl => ?_)
          refine lv_goto (tgt := 2) hx hb dX12_findsLoop_78 (by decide) ?_
          exact ih1 ff1 ff2 (z3 + 1) _ _ _ ff1_h ff2_h (by omega) (by omega) lq1_s (by omega) (w.sub [2, 3, 0, 1, 4] (by decide) rfl) (lv_sub hl [0, 1, 2] rfl)
        · replace c_8 : ¬ z7 = 0 := fun h => c_8 ((iz_eq (Int.le_trans (by decide) z7_a) (Int.le_trans z7_b (by decide))).mpr h)
          refine lv_aload_n hx hb dX12_findsLoop_21 rfl (lv_at hl 1 rfl) ?_
          refine r_get (v := .ref a14) M w 2 27 clX12 rfl (by decide) G1490 rfl rfl dX12_findsLoop_22 ?_
          refine lv_iload_n hx hb dX12_findsLoop_25 rfl (lv_at hl 0 rfl) ?_
          refine r_zald (v := iI (ff2 z3)) M w 1 rfl (iI_in (by omega) (by omega) (by decide)) (cI_at (by omega) (by omega)) dX12_findsLoop_26 ?_
          have hh9 : 0 ≤ (ff2 z3) ∧ (ff2 z3) ≤ 1 := ff2_h z3
          refine lv_if_eq (tgt := 33) hx hb dX12_findsLoop_27 (by decide) (fun c_10 => ?_) (fun c_10 => ?_)
          · replace c_10 := (iz_eq (by omega) (by omega)).mp c_10
            refine lv_aload_n hx hb dX12_findsLoop_33 rfl (lv_at hl 1 rfl) ?_
            refine r_get (v := .ref a14) M w 2 27 clX12 rfl (by decide) G1490 rfl rfl dX12_findsLoop_34 ?_
            refine lv_iload_n hx hb dX12_findsLoop_37 rfl (lv_at hl 0 rfl) ?_
            refine lv_iconst (v := iI 1) hx hb dX12_findsLoop_38 (by decide +kernel) ?_
            refine r_zast (x2 := iI 1) (ws' := [(a12, .inl (T 0, 9, .inl (cI ff1))), (a14, .inl (T 2, 9, .inl (cI (upz ff2 z3 1)))), (a0, .inr (11, [.int r0, .ref a1, .int (iI x1), .int (iI x2), .int (iI x3), .int (iI x4), .int (iI x5), .int (iI x6), .int r1, .int (iI x7), .int (iI x8), .int (iI x9), .long y0, .int (iI x10), .ref a2, .ref a3, .ref a4, .ref a5, .ref a6, .ref a7, .ref a8, .ref a9, .ref a10, .ref a11, .int (iI x11), .ref a12, .ref a13, .ref a14, .ref a15, .int (iI x12), .int r2, .int r3, .ref a16, .int (iI x13), .int (iI x14), .ref a17, .ref a18, .int (iI x15), .ref a19, .int (iI x16), .int r4, .ref a20, .ref a21, .int (iI x17), .int r5, .ref a22, .int (iI x18), .int (iI x19), .int (iI x20), .int (iI x21)])), (a2, .inl (T 0, 329, .inl (cI f0))), (a15, .inl (T 2, 9, .inl (cI f3)))]) M w 1 rfl (iI_in (by omega) (by omega) (by decide)) (nb_z (by omega) (by omega)) (by rw [cI_up (by omega) (by omega)]; rfl) dX12_findsLoop_39 (fun H locs w => ?_)
            refine lv_aload_n hx hb dX12_findsLoop_40 rfl (lv_at hl 1 rfl) ?_
            refine r_get (v := .ref a12) M w 2 25 clX12 rfl (by decide) G1488 rfl rfl dX12_findsLoop_41 ?_
            refine lv_iload_n hx hb dX12_findsLoop_44 rfl (lv_at hl 0 rfl) ?_
            refine r_iald (v := iI (ff1 z3)) M w 0 rfl (iI_in (by omega) (by omega) (by decide)) (cI_at (by omega) (by omega)) dX12_findsLoop_45 ?_
            have hh11 : (-1) ≤ (ff1 z3) ∧ (ff1 z3) ≤ 8 := ff1_h z3
            refine lv_iconst (v := iI (-1)) hx hb dX12_findsLoop_46 (by decide +kernel) ?_
            refine lv_icmp_eq (tgt := 66) hx hb dX12_findsLoop_47 (by decide) (fun c_12 => ?_) (fun c_12 => ?_)
            · replace c_12 := (iI_eq (by omega) (by omega) (by decide) (by decide)).mp c_12
              refine lv_aload_n hx hb dX12_findsLoop_66 rfl (lv_at hl 1 rfl) ?_
              refine r_get (v := .ref a12) M w 2 25 clX12 rfl (by decide) G1488 rfl rfl dX12_findsLoop_67 ?_
              refine lv_iload_n hx hb dX12_findsLoop_70 rfl (lv_at hl 0 rfl) ?_
              refine lv_iload_n hx hb dX12_findsLoop_71 rfl (lv_at hl 2 rfl) ?_
              refine r_iast (ws' := [(a12, .inl (T 0, 9, .inl (cI (upz ff1 z3 x0)))), (a14, .inl (T 2, 9, .inl (cI (upz ff2 z3 1)))), (a0, .inr (11, [.int r0, .ref a1, .int (iI x1), .int (iI x2), .int (iI x3), .int (iI x4), .int (iI x5), .int (iI x6), .int r1, .int (iI x7), .int (iI x8), .int (iI x9), .long y0, .int (iI x10), .ref a2, .ref a3, .ref a4, .ref a5, .ref a6, .ref a7, .ref a8, .ref a9, .ref a10, .ref a11, .int (iI x11), .ref a12, .ref a13, .ref a14, .ref a15, .int (iI x12), .int r2, .int r3, .ref a16, .int (iI x13), .int (iI x14), .ref a17, .ref a18, .int (iI x15), .ref a19, .int (iI x16), .int r4, .ref a20, .ref a21, .int (iI x17), .int r5, .ref a22, .int (iI x18), .int (iI x19), .int (iI x20), .int (iI x21)])), (a2, .inl (T 0, 329, .inl (cI f0))), (a15, .inl (T 2, 9, .inl (cI f3)))]) M w 0 rfl (iI_in (by omega) (by omega) (by decide)) (by rw [cI_up (by omega) (by omega)]; rfl) dX12_findsLoop_72 (fun H locs w => ?_)
              refine lv_iconst (v := iI 1) hx hb dX12_findsLoop_73 (by decide +kernel) ?_
              exact ret _ (1, (upz ff1 z3 x0), (upz ff2 z3 1)) _ _ _ _ _ [2, 3, 0, 1, 4] dX12_findsLoop_74 (by decide +kernel) ⟨rfl, (show (0 : Int) ≤ 1 from by decide), (show (1 : Int) ≤ 1 from by decide), (rng_up ff1_h (by omega) (by omega)), (rng_up ff2_h (by omega) (by omega)), (show sb f2 (upz ff2 z3 1) from (sb_u lq1_s))⟩ w (by decide) rfl
            · replace c_12 : ¬ (ff1 z3) = (-1) := fun h => c_12 ((iI_eq (by omega) (by omega) (by decide) (by decide)).mpr h)
              refine lv_aload_n hx hb dX12_findsLoop_50 rfl (lv_at hl 1 rfl) ?_
              refine lv_aload_n hx hb dX12_findsLoop_51 rfl (lv_at hl 1 rfl) ?_
              refine r_get (v := .ref a12) M w 2 25 clX12 rfl (by decide) G1488 rfl rfl dX12_findsLoop_52 ?_
              refine lv_iload_n hx hb dX12_findsLoop_55 rfl (lv_at hl 0 rfl) ?_
              refine r_iald (v := iI (ff1 z3)) M w 0 rfl (iI_in (by omega) (by omega) (by decide)) (cI_at (by omega) (by omega)) dX12_findsLoop_56 ?_
              have hh13 : (-1) ≤ (ff1 z3) ∧ (ff1 z3) ≤ 8 := ff1_h z3
              refine k_I (ce := 0) (sl := 0) (rest := []) (wr := []) (r_V (f := 9) [2, 3, 0, 1, 4] M w V_HookedCityModel_313 G1871 G90 (c145_X12_findsLoop l D T _ a0 (ff1 z3) r0 a1 x1 x2 x3 x4 x5 x6 r1 x7 x8 x9 y0 x10 a2 a3 a4 a5 a6 a7 a8 a9 a10 a11 x11 a12 a13 a14 a15 x12 r2 r3 a16 x13 x14 a17 a18 x15 a19 x16 r4 a20 a21 x17 r5 a22 x18 x19 x20 x21 f0 ff1 (upz ff2 z3 1) f3 (by omega) (by omega) x1_a x1_b x2_a x2_b x3_a x3_b x4_a x4_b x5_a x5_b x6_a x6_b x7_a x7_b x8_a x8_b x9_a x9_b x10_a x10_b x11_a x11_b x12_a x12_b x13_a x13_b x14_a x14_b x15_a x15_b x16_a x16_b x17_a x17_b x18_a x18_b x19_a x19_b x20_a x20_b x21_a x21_b f0_h ff1_h (rng_up ff2_h (by omega) (by omega)) f3_h (by have e8 := cn_m lq1_s; have e9 := cn_u (f := ff2) (k := z3) (by omega) (by omega) (by omega); omega)) 2 clX12 rfl rfl (by decide) rfl hl.1 rfl (Nat.le_of_ble_eq_true rfl) dX12_findsLoop_57 (by decide) (by decide) (by decide) (by decide)) w [2, 3, 0, 1, 4] [] rfl rfl (by decide) (by decide) rfl rfl (fun v u H locs hp w => ?_)
              obtain ⟨z14, ff15, ff16⟩ := u
              have hv : iI z14 = v := hp.1
              subst hv
              have z14_a : 0 ≤ z14 := hp.2.1
              have z14_b : z14 ≤ 1 := hp.2.2.1
              have ff15_h : rng (-1) 8 ff15 := hp.2.2.2.1
              have ff16_h : rng 0 1 ff16 := hp.2.2.2.2.1
              have pq17 : sb (upz ff2 z3 1) ff16 := hp.2.2.2.2.2
              have w : WD D A s.heap [(a0, .inr (11, [.int r0, .ref a1, .int (iI x1), .int (iI x2), .int (iI x3), .int (iI x4), .int (iI x5), .int (iI x6), .int r1, .int (iI x7), .int (iI x8), .int (iI x9), .long y0, .int (iI x10), .ref a2, .ref a3, .ref a4, .ref a5, .ref a6, .ref a7, .ref a8, .ref a9, .ref a10, .ref a11, .int (iI x11), .ref a12, .ref a13, .ref a14, .ref a15, .int (iI x12), .int r2, .int r3, .ref a16, .int (iI x13), .int (iI x14), .ref a17, .ref a18, .int (iI x15), .ref a19, .int (iI x16), .int r4, .ref a20, .ref a21, .int (iI x17), .int r5, .ref a22, .int (iI x18), .int (iI x19), .int (iI x20), .int (iI x21)])), (a2, .inl (T 0, 329, .inl (cI f0))), (a12, .inl (T 0, 9, .inl (cI ff15))), (a14, .inl (T 2, 9, .inl (cI ff16))), (a15, .inl (T 2, 9, .inl (cI f3)))] H locs := w
              refine lv_if_ne (tgt := 66) hx hb dX12_findsLoop_60 (by decide) (fun c_18 => ?_) (fun c_18 => ?_)
              · replace c_18 : ¬ z14 = 0 := fun h => c_18 ((iz_eq (Int.le_trans (by decide) z14_a) (Int.le_trans z14_b (by decide))).mpr h)
                refine lv_aload_n hx hb dX12_findsLoop_66 rfl (lv_at hl 1 rfl) ?_
                refine r_get (v := .ref a12) M w 0 25 clX12 rfl (by decide) G1488 rfl rfl dX12_findsLoop_67 ?_
                refine lv_iload_n hx hb dX12_findsLoop_70 rfl (lv_at hl 0 rfl) ?_
                refine lv_iload_n hx hb dX12_findsLoop_71 rfl (lv_at hl 2 rfl) ?_
                refine r_iast (ws' := [(a0, .inr (11, [.int r0, .ref a1, .int (iI x1), .int (iI x2), .int (iI x3), .int (iI x4), .int (iI x5), .int (iI x6), .int r1, .int (iI x7), .int (iI x8), .int (iI x9), .long y0, .int (iI x10), .ref a2, .ref a3, .ref a4, .ref a5, .ref a6, .ref a7, .ref a8, .ref a9, .ref a10, .ref a11, .int (iI x11), .ref a12, .ref a13, .ref a14, .ref a15, .int (iI x12), .int r2, .int r3, .ref a16, .int (iI x13), .int (iI x14), .ref a17, .ref a18, .int (iI x15), .ref a19, .int (iI x16), .int r4, .ref a20, .ref a21, .int (iI x17), .int r5, .ref a22, .int (iI x18), .int (iI x19), .int (iI x20), .int (iI x21)])), (a2, .inl (T 0, 329, .inl (cI f0))), (a12, .inl (T 0, 9, .inl (cI (upz ff15 z3 x0)))), (a14, .inl (T 2, 9, .inl (cI ff16))), (a15, .inl (T 2, 9, .inl (cI f3)))]) M w 2 rfl (iI_in (by omega) (by omega) (by decide)) (by rw [cI_up (by omega) (by omega)]; rfl) dX12_findsLoop_72 (fun H locs w => ?_)
                refine lv_iconst (v := iI 1) hx hb dX12_findsLoop_73 (by decide +kernel) ?_
                exact ret _ (1, (upz ff15 z3 x0), ff16) _ _ _ _ _ [0, 1, 2, 3, 4] dX12_findsLoop_74 (by decide +kernel) ⟨rfl, (show (0 : Int) ≤ 1 from by decide), (show (1 : Int) ≤ 1 from by decide), (rng_up ff15_h (by omega) (by omega)), ff16_h, (show sb f2 ff16 from (sb_t (sb_u lq1_s) pq17))⟩ w (by decide) rfl
              · replace c_18 := (iz_eq (Int.le_trans (by decide) z14_a) (Int.le_trans z14_b (by decide))).mp c_18
                refine lv_goto (tgt := 75) hx hb dX12_findsLoop_63 (by decide) ?_
                refine lv_iinc (v := iI (z3 + 1)) (lv' := [(2, .int (iI (z3 + 1))), (0, .ref a0), (1, .int (iI x0))]) hx hb dX12_findsLoop_75 hl (k := 0) rfl (ii_inc (by decide +kernel)) (by decide) rfl (fun ls hl => ?_)
                refine lv_goto (tgt := 2) hx hb dX12_findsLoop_78 (by decide) ?_
                exact ih1 ff15 ff16 (z3 + 1) _ _ _ ff15_h ff16_h (by omega) (by omega) (sb_t (sb_u lq1_s) pq17) (by omega) w (lv_sub hl [0, 1, 2] rfl)
          · replace c_10 : ¬ (ff2 z3) = 0 := fun h => c_10 ((iz_eq (by omega) (by omega)).mpr h)
            refine lv_goto (tgt := 75) hx hb dX12_findsLoop_30 (by decide) ?_
            refine lv_iinc (v := iI (z3 + 1)) (lv' := [(2, .int (iI (z3 + 1))), (0, .ref a0), (1, .int (iI x0))]) hx hb dX12_findsLoop_75 hl (k := 0) rfl (ii_inc (by decide +kernel)) (by decide) rfl (fun ls hl => ?_)
            refine lv_goto (tgt := 2) hx hb dX12_findsLoop_78 (by decide) ?_
            exact ih1 ff1 ff2 (z3 + 1) _ _ _ ff1_h ff2_h (by omega) (by omega) lq1_s (by omega) (w.sub [2, 3, 0, 1, 4] (by decide) rfl) (lv_sub hl [0, 1, 2] rfl)
  exact loop1 ((9 : Int).toNat + 1) f1 f2 0 _ _ _ f1_h f2_h (by decide) (by decide) sb_r (Nat.lt_succ_self _) w (lv_sub hl [0, 1, 2] rfl)
set_option maxRecDepth 100000 in
set_option maxHeartbeats 4000000 in
theorem c147_X12_findsLoop (l : Launch) (D : va_G) (T : Nat → ClassId) (sz : Nat) (a0 : Nat) (x0 : Int) (r0 : Int32) (a1 : Nat) (x1 : Int) (x2 : Int) (x3 : Int) (x4 : Int) (x5 : Int) (x6 : Int) (r1 : Int32) (x7 : Int) (x8 : Int) (x9 : Int) (y0 : Int64) (x10 : Int) (a2 : Nat) (a3 : Nat) (a4 : Nat) (a5 : Nat) (a6 : Nat) (a7 : Nat) (a8 : Nat) (a9 : Nat) (a10 : Nat) (a11 : Nat) (x11 : Int) (a12 : Nat) (a13 : Nat) (a14 : Nat) (a15 : Nat) (x12 : Int) (r2 : Int32) (r3 : Int32) (a16 : Nat) (x13 : Int) (x14 : Int) (a17 : Nat) (a18 : Nat) (x15 : Int) (a19 : Nat) (x16 : Int) (r4 : Int32) (a20 : Nat) (a21 : Nat) (x17 : Int) (r5 : Int32) (a22 : Nat) (x18 : Int) (x19 : Int) (x20 : Int) (x21 : Int) (f0 : Int → Int) (f1 : Int → Int) (f2 : Int → Int) (f3 : Int → Int) (x0_a : 0 ≤ x0) (x0_b : x0 ≤ 8) (x1_a : 0 ≤ x1) (x1_b : x1 ≤ 940) (x2_a : 0 ≤ x2) (x2_b : x2 ≤ 940) (x3_a : 0 ≤ x3) (x3_b : x3 ≤ 940) (x4_a : 0 ≤ x4) (x4_b : x4 ≤ 940) (x5_a : 0 ≤ x5) (x5_b : x5 ≤ 940) (x6_a : 0 ≤ x6) (x6_b : x6 ≤ 4) (x7_a : (-2147483648) ≤ x7) (x7_b : x7 ≤ 2147483647) (x8_a : (-2147483648) ≤ x8) (x8_b : x8 ≤ 2147483647) (x9_a : 0 ≤ x9) (x9_b : x9 ≤ 940) (x10_a : (-2147483648) ≤ x10) (x10_b : x10 ≤ 2147483647) (x11_a : 0 ≤ x11) (x11_b : x11 ≤ 8) (x12_a : 0 ≤ x12) (x12_b : x12 ≤ 9) (x13_a : (-1) ≤ x13) (x13_b : x13 ≤ 9) (x14_a : (-1) ≤ x14) (x14_b : x14 ≤ 8) (x15_a : 0 ≤ x15) (x15_b : x15 ≤ 9) (x16_a : 0 ≤ x16) (x16_b : x16 ≤ 64) (x17_a : 0 ≤ x17) (x17_b : x17 ≤ 40) (x18_a : 0 ≤ x18) (x18_b : x18 ≤ 40) (x19_a : 0 ≤ x19) (x19_b : x19 ≤ 20) (x20_a : 0 ≤ x20) (x20_b : x20 ≤ 8) (x21_a : 0 ≤ x21) (x21_b : x21 ≤ 39) (f0_h : nowI f0) (f1_h : rng (-1) 8 f1) (f2_h : rng 0 1 f2) (f3_h : rng 0 1 f3) (pp_n : cn f2 ≤ 9) : Met l yX12_findsLoop (Cond.code yX12_findsLoop cX12_findsLoop 3 (some .boolean) :: GW) (Rm 11 0 0) (cPre [.ref a0, .int (iI x0)] D T [(a0, .inr (11, [.int r0, .ref a1, .int (iI x1), .int (iI x2), .int (iI x3), .int (iI x4), .int (iI x5), .int (iI x6), .int r1, .int (iI x7), .int (iI x8), .int (iI x9), .long y0, .int (iI x10), .ref a2, .ref a3, .ref a4, .ref a5, .ref a6, .ref a7, .ref a8, .ref a9, .ref a10, .ref a11, .int (iI x11), .ref a12, .ref a13, .ref a14, .ref a15, .int (iI x12), .int r2, .int r3, .ref a16, .int (iI x13), .int (iI x14), .ref a17, .ref a18, .int (iI x15), .ref a19, .int (iI x16), .int r4, .ref a20, .ref a21, .int (iI x17), .int r5, .ref a22, .int (iI x18), .int (iI x19), .int (iI x20), .int (iI x21)])), (a2, .inl (T 0, 329, .inl (cI f0))), (a12, .inl (T 0, 9, .inl (cI f1))), (a14, .inl (T 2, 9, .inl (cI f2))), (a15, .inl (T 2, 9, .inl (cI f3)))] sz) (qI D [(a0, .inr (11, [.int r0, .ref a1, .int (iI x1), .int (iI x2), .int (iI x3), .int (iI x4), .int (iI x5), .int (iI x6), .int r1, .int (iI x7), .int (iI x8), .int (iI x9), .long y0, .int (iI x10), .ref a2, .ref a3, .ref a4, .ref a5, .ref a6, .ref a7, .ref a8, .ref a9, .ref a10, .ref a11, .int (iI x11), .ref a12, .ref a13, .ref a14, .ref a15, .int (iI x12), .int r2, .int r3, .ref a16, .int (iI x13), .int (iI x14), .ref a17, .ref a18, .int (iI x15), .ref a19, .int (iI x16), .int r4, .ref a20, .ref a21, .int (iI x17), .int r5, .ref a22, .int (iI x18), .int (iI x19), .int (iI x20), .int (iI x21)])), (a2, .inl (T 0, 329, .inl (cI f0))), (a12, .inl (T 0, 9, .inl (cI f1))), (a14, .inl (T 2, 9, .inl (cI f2))), (a15, .inl (T 2, 9, .inl (cI f3)))] sz (fun (v : Int32) (u : Int × (Int → Int) × (Int → Int)) => iI u.1 = v ∧ 0 ≤ u.1 ∧ u.1 ≤ 1 ∧ rng (-1) 8 u.2.1 ∧ rng 0 1 u.2.2 ∧ (sb f2 u.2.2)) (fun u => [(a0, .inr (11, [.int r0, .ref a1, .int (iI x1), .int (iI x2), .int (iI x3), .int (iI x4), .int (iI x5), .int (iI x6), .int r1, .int (iI x7), .int (iI x8), .int (iI x9), .long y0, .int (iI x10), .ref a2, .ref a3, .ref a4, .ref a5, .ref a6, .ref a7, .ref a8, .ref a9, .ref a10, .ref a11, .int (iI x11), .ref a12, .ref a13, .ref a14, .ref a15, .int (iI x12), .int r2, .int r3, .ref a16, .int (iI x13), .int (iI x14), .ref a17, .ref a18, .int (iI x15), .ref a19, .int (iI x16), .int r4, .ref a20, .ref a21, .int (iI x17), .int r5, .ref a22, .int (iI x18), .int (iI x19), .int (iI x20), .int (iI x21)])), (a2, .inl (T 0, 329, .inl (cI f0))), (a12, .inl (T 0, 9, .inl (cI u.2.1))), (a14, .inl (T 2, 9, .inl (cI u.2.2))), (a15, .inl (T 2, 9, .inl (cI f3)))])) 0 0 (va_A [(a0, .inr (11, [.int r0, .ref a1, .int (iI x1), .int (iI x2), .int (iI x3), .int (iI x4), .int (iI x5), .int (iI x6), .int r1, .int (iI x7), .int (iI x8), .int (iI x9), .long y0, .int (iI x10), .ref a2, .ref a3, .ref a4, .ref a5, .ref a6, .ref a7, .ref a8, .ref a9, .ref a10, .ref a11, .int (iI x11), .ref a12, .ref a13, .ref a14, .ref a15, .int (iI x12), .int r2, .int r3, .ref a16, .int (iI x13), .int (iI x14), .ref a17, .ref a18, .int (iI x15), .ref a19, .int (iI x16), .int r4, .ref a20, .ref a21, .int (iI x17), .int r5, .ref a22, .int (iI x18), .int (iI x19), .int (iI x20), .int (iI x21)])), (a2, .inl (T 0, 329, .inl (cI f0))), (a12, .inl (T 0, 9, .inl (cI f1))), (a14, .inl (T 2, 9, .inl (cI f2))), (a15, .inl (T 2, 9, .inl (cI f3)))] sz) := by
  refine e_Z (by decide) (Nat.le_of_ble_eq_true rfl) ?_
  intro p e s m args below meth c A Q ls M hin w ret hl
  have hx := M.1.1
  have hb := M.1.2.1
  have hl : lv_has ls 3 [(0, .ref a0), (1, .int (iI x0))] := hl
  refine lv_iconst (v := iI 0) hx hb dX12_findsLoop_0 (by decide +kernel) ?_
  refine lv_istore_n (lv' := [(2, .int (iI 0)), (0, .ref a0), (1, .int (iI x0))]) hx hb dX12_findsLoop_1 rfl hl (by decide) rfl (fun ls hl => ?_)
  have loop1 : ∀ (k1 : Nat) (ff1 : Int → Int) (ff2 : Int → Int) (z3 : Int) (H : Heap) (locs : List Loc) (ls : Array Slot), rng (-1) 8 ff1 → rng 0 1 ff2 → 0 ≤ z3 → z3 ≤ 9 → sb f2 ff2 → ((9 - z3) : Int).toNat < k1 → WD D A s.heap [(a0, .inr (11, [.int r0, .ref a1, .int (iI x1), .int (iI x2), .int (iI x3), .int (iI x4), .int (iI x5), .int (iI x6), .int r1, .int (iI x7), .int (iI x8), .int (iI x9), .long y0, .int (iI x10), .ref a2, .ref a3, .ref a4, .ref a5, .ref a6, .ref a7, .ref a8, .ref a9, .ref a10, .ref a11, .int (iI x11), .ref a12, .ref a13, .ref a14, .ref a15, .int (iI x12), .int r2, .int r3, .ref a16, .int (iI x13), .int (iI x14), .ref a17, .ref a18, .int (iI x15), .ref a19, .int (iI x16), .int r4, .ref a20, .ref a21, .int (iI x17), .int r5, .ref a22, .int (iI x18), .int (iI x19), .int (iI x20), .int (iI x21)])), (a2, .inl (T 0, 329, .inl (cI f0))), (a12, .inl (T 0, 9, .inl (cI ff1))), (a14, .inl (T 2, 9, .inl (cI ff2))), (a15, .inl (T 2, 9, .inl (cI f3)))] H locs → lv_has ls 3 [(2, .int (iI z3)), (0, .ref a0), (1, .int (iI x0))] → W p l e (Rm 11 0 0) s m args below meth c H locs 0 0 Q (F0 m 2 ls []) := by
    intro k1
    induction k1 with
    | zero => intro ff1 ff2 z3 H locs ls ff1_h ff2_h z3_a z3_b lq1_s hm; exact absurd hm (Nat.not_lt_zero _)
    | succ k1 ih1 =>
      intro ff1 ff2 z3 H locs ls ff1_h ff2_h z3_a z3_b lq1_s hm1 w hl
      refine lv_iload_n hx hb dX12_findsLoop_2 rfl (lv_at hl 0 rfl) ?_
      refine lv_aload_n hx hb dX12_findsLoop_3 rfl (lv_at hl 1 rfl) ?_
      refine r_get (v := .ref a2) M w 0 14 clX12 rfl (by decide) G1477 rfl rfl dX12_findsLoop_4 ?_
      refine lv_iconst (v := iI 0) hx hb dX12_findsLoop_7 (by decide +kernel) ?_
      refine r_iald (v := iI (f0 0)) M w 1 rfl (iI_in (by decide) (by decide) (by decide)) (cI_at (by omega) (by omega)) dX12_findsLoop_8 ?_
      have hh4 : (-2147483648) ≤ (f0 0) ∧ (f0 0) ≤ 2147483647 := f0_h.1 0
      have hh5 : 0 ≤ (f0 0) ∧ (f0 0) ≤ 9 := (f0_h.2.1 0).1 (by omega)
      refine lv_icmp_ge (tgt := 81) hx hb dX12_findsLoop_9 (by decide) (fun c_6 => ?_) (fun c_6 => ?_)
      · replace c_6 := (iI_le (by omega) (by omega) (Int.le_trans (by decide) z3_a) (Int.le_trans z3_b (by decide))).mp c_6
        refine lv_iconst (v := iI 0) hx hb dX12_findsLoop_81 (by decide +kernel) ?_
        exact ret _ (0, ff1, ff2) _ _ _ _ _ [0, 1, 2, 3, 4] dX12_findsLoop_82 (by decide +kernel) ⟨rfl, (show (0 : Int) ≤ 0 from by decide), (show (0 : Int) ≤ 1 from by decide), ff1_h, ff2_h, (show sb f2 ff2 from lq1_s)⟩ w (by decide) rfl
      · replace c_6 : z3 < (f0 0) := Int.not_le.mp (fun h => c_6 ((iI_le (by omega) (by omega) (Int.le_trans (by decide) z3_a) (Int.le_trans z3_b (by decide))).mpr h))
        refine lv_aload_n hx hb dX12_findsLoop_12 rfl (lv_at hl 1 rfl) ?_
        refine lv_iload_n hx hb dX12_findsLoop_13 rfl (lv_at hl 2 rfl) ?_
        refine lv_iload_n hx hb dX12_findsLoop_14 rfl (lv_at hl 0 rfl) ?_
        refine k_I (ce := 0) (sl := 0) (rest := []) (wr := [(a12, .inl (T 0, 9, .inl (cI ff1))), (a14, .inl (T 2, 9, .inl (cI ff2)))]) (r_V (f := 1) [0, 1, 4] M w V_HookedCityModel_310 G1875 G91 (c137_X12_canGo l D T _ a0 x0 z3 r0 a1 x1 x2 x3 x4 x5 x6 r1 x7 x8 x9 y0 x10 a2 a3 a4 a5 a6 a7 a8 a9 a10 a11 x11 a12 a13 a14 a15 x12 r2 r3 a16 x13 x14 a17 a18 x15 a19 x16 r4 a20 a21 x17 r5 a22 x18 x19 x20 x21 f0 f3 x0_a x0_b (by omega) (by omega) x1_a x1_b x2_a x2_b x3_a x3_b x4_a x4_b x5_a x5_b x6_a x6_b x7_a x7_b x8_a x8_b x9_a x9_b x10_a x10_b x11_a x11_b x12_a x12_b x13_a x13_b x14_a x14_b x15_a x15_b x16_a x16_b x17_a x17_b x18_a x18_b x19_a x19_b x20_a x20_b x21_a x21_b f0_h f3_h) 0 clX12 rfl rfl (by decide) rfl hl.1 rfl (Nat.le_of_ble_eq_true rfl) dX12_findsLoop_15 (by decide) (by decide) (by decide) (by decide)) w [0, 1, 4] [2, 3] rfl rfl (by decide) (by decide) rfl rfl (fun v z7 H locs hp w => ?_)
        have hv : iI z7 = v := hp.1
        subst hv
        have z7_a : 0 ≤ z7 := hp.2.1
        have z7_b : z7 ≤ 1 := hp.2.2
        have w : WD D A s.heap [(a12, .inl (T 0, 9, .inl (cI ff1))), (a14, .inl (T 2, 9, .inl (cI ff2))), (a0, .inr (11, [.int r0, .ref a1, .int (iI x1), .int (iI x2), .int (iI x3), .int (iI x4), .int (iI x5), .int (iI x6), .int r1, .int (iI x7), .int (iI x8), .int (iI x9), .long y0, .int (iI x10), .ref a2, .ref a3, .ref a4, .ref a5, .ref a6, .ref a7, .ref a8, .ref a9, .ref a10, .ref a11, .int (iI x11), .ref a12, .ref a13, .ref a14, .ref a15, .int (iI x12), .int r2, .int r3, .ref a16, .int (iI x13), .int (iI x14), .ref a17, .ref a18, .int (iI x15), .ref a19, .int (iI x16), .int r4, .ref a20, .ref a21, .int (iI x17), .int r5, .ref a22, .int (iI x18), .int (iI x19), .int (iI x20), .int (iI x21)])), (a2, .inl (T 0, 329, .inl (cI f0))), (a15, .inl (T 2, 9, .inl (cI f3)))] H locs := w
        refine lv_if_eq (tgt := 75) hx hb dX12_findsLoop_18 (by decide) (fun c_8 => ?_) (fun c_8 => ?_)
        · replace c_8 := (iz_eq (Int.le_trans (by decide) z7_a) (Int.le_trans z7_b (by decide))).mp c_8
          refine lv_iinc (v := iI (z3 + 1)) (lv' := [(2, .int (iI (z3 + 1))), (0, .ref a0), (1, .int (iI x0))]) hx hb dX12_findsLoop_75 hl (k := 0) rfl (ii_inc (by decide +kernel)) (by decide) rfl (fun ls hl => ?_)
          refine lv_goto (tgt := 2) hx hb dX12_findsLoop_78 (by decide) ?_
          exact ih1 ff1 ff2 (z3 + 1) _ _ _ ff1_h ff2_h (by omega) (by omega) lq1_s (by omega) (w.sub [2, 3, 0, 1, 4] (by decide) rfl) (lv_sub hl [0, 1, 2] rfl)
        · replace c_8 : ¬ z7 = 0 := fun h => c_8 ((iz_eq (Int.le_trans (by decide) z7_a) (Int.le_trans z7_b (by decide))).mpr h)
          refine lv_aload_n hx hb dX12_findsLoop_21 rfl (lv_at hl 1 rfl) ?_
          refine r_get (v := .ref a14) M w 2 27 clX12 rfl (by decide) G1490 rfl rfl dX12_findsLoop_22 ?_
          refine lv_iload_n hx hb dX12_findsLoop_25 rfl (lv_at hl 0 rfl) ?_
          refine r_zald (v := iI (ff2 z3)) M w 1 rfl (iI_in (by omega) (by omega) (by decide)) (cI_at (by omega) (by omega)) dX12_findsLoop_26 ?_
          have hh9 : 0 ≤ (ff2 z3) ∧ (ff2 z3) ≤ 1 := ff2_h z3
          refine lv_if_eq (tgt := 33) hx hb dX12_findsLoop_27 (by decide) (fun c_10 => ?_) (fun c_10 => ?_)
          · replace c_10 := (iz_eq (by omega) (by omega)).mp c_10
            refine lv_aload_n hx hb dX12_findsLoop_33 rfl (lv_at hl 1 rfl) ?_
            refine r_get (v := .ref a14) M w 2 27 clX12 rfl (by decide) G1490 rfl rfl dX12_findsLoop_34 ?_
            refine lv_iload_n hx hb dX12_findsLoop_37 rfl (lv_at hl 0 rfl) ?_
            refine lv_iconst (v := iI 1) hx hb dX12_findsLoop_38 (by decide +kernel) ?_
            refine r_zast (x2 := iI 1) (ws' := [(a12, .inl (T 0, 9, .inl (cI ff1))), (a14, .inl (T 2, 9, .inl (cI (upz ff2 z3 1)))), (a0, .inr (11, [.int r0, .ref a1, .int (iI x1), .int (iI x2), .int (iI x3), .int (iI x4), .int (iI x5), .int (iI x6), .int r1, .int (iI x7), .int (iI x8), .int (iI x9), .long y0, .int (iI x10), .ref a2, .ref a3, .ref a4, .ref a5, .ref a6, .ref a7, .ref a8, .ref a9, .ref a10, .ref a11, .int (iI x11), .ref a12, .ref a13, .ref a14, .ref a15, .int (iI x12), .int r2, .int r3, .ref a16, .int (iI x13), .int (iI x14), .ref a17, .ref a18, .int (iI x15), .ref a19, .int (iI x16), .int r4, .ref a20, .ref a21, .int (iI x17), .int r5, .ref a22, .int (iI x18), .int (iI x19), .int (iI x20), .int (iI x21)])), (a2, .inl (T 0, 329, .inl (cI f0))), (a15, .inl (T 2, 9, .inl (cI f3)))]) M w 1 rfl (iI_in (by omega) (by omega) (by decide)) (nb_z (by omega) (by omega)) (by rw [cI_up (by omega) (by omega)]; rfl) dX12_findsLoop_39 (fun H locs w => ?_)
            refine lv_aload_n hx hb dX12_findsLoop_40 rfl (lv_at hl 1 rfl) ?_
            refine r_get (v := .ref a12) M w 2 25 clX12 rfl (by decide) G1488 rfl rfl dX12_findsLoop_41 ?_
            refine lv_iload_n hx hb dX12_findsLoop_44 rfl (lv_at hl 0 rfl) ?_
            refine r_iald (v := iI (ff1 z3)) M w 0 rfl (iI_in (by omega) (by omega) (by decide)) (cI_at (by omega) (by omega)) dX12_findsLoop_45 ?_
            have hh11 : (-1) ≤ (ff1 z3) ∧ (ff1 z3) ≤ 8 := ff1_h z3
            refine lv_iconst (v := iI (-1)) hx hb dX12_findsLoop_46 (by decide +kernel) ?_
            refine lv_icmp_eq (tgt := 66) hx hb dX12_findsLoop_47 (by decide) (fun c_12 => ?_) (fun c_12 => ?_)
            · replace c_12 := (iI_eq (by omega) (by omega) (by decide) (by decide)).mp c_12
              refine lv_aload_n hx hb dX12_findsLoop_66 rfl (lv_at hl 1 rfl) ?_
              refine r_get (v := .ref a12) M w 2 25 clX12 rfl (by decide) G1488 rfl rfl dX12_findsLoop_67 ?_
              refine lv_iload_n hx hb dX12_findsLoop_70 rfl (lv_at hl 0 rfl) ?_
              refine lv_iload_n hx hb dX12_findsLoop_71 rfl (lv_at hl 2 rfl) ?_
              refine r_iast (ws' := [(a12, .inl (T 0, 9, .inl (cI (upz ff1 z3 x0)))), (a14, .inl (T 2, 9, .inl (cI (upz ff2 z3 1)))), (a0, .inr (11, [.int r0, .ref a1, .int (iI x1), .int (iI x2), .int (iI x3), .int (iI x4), .int (iI x5), .int (iI x6), .int r1, .int (iI x7), .int (iI x8), .int (iI x9), .long y0, .int (iI x10), .ref a2, .ref a3, .ref a4, .ref a5, .ref a6, .ref a7, .ref a8, .ref a9, .ref a10, .ref a11, .int (iI x11), .ref a12, .ref a13, .ref a14, .ref a15, .int (iI x12), .int r2, .int r3, .ref a16, .int (iI x13), .int (iI x14), .ref a17, .ref a18, .int (iI x15), .ref a19, .int (iI x16), .int r4, .ref a20, .ref a21, .int (iI x17), .int r5, .ref a22, .int (iI x18), .int (iI x19), .int (iI x20), .int (iI x21)])), (a2, .inl (T 0, 329, .inl (cI f0))), (a15, .inl (T 2, 9, .inl (cI f3)))]) M w 0 rfl (iI_in (by omega) (by omega) (by decide)) (by rw [cI_up (by omega) (by omega)]; rfl) dX12_findsLoop_72 (fun H locs w => ?_)
              refine lv_iconst (v := iI 1) hx hb dX12_findsLoop_73 (by decide +kernel) ?_
              exact ret _ (1, (upz ff1 z3 x0), (upz ff2 z3 1)) _ _ _ _ _ [2, 3, 0, 1, 4] dX12_findsLoop_74 (by decide +kernel) ⟨rfl, (show (0 : Int) ≤ 1 from by decide), (show (1 : Int) ≤ 1 from by decide), (rng_up ff1_h (by omega) (by omega)), (rng_up ff2_h (by omega) (by omega)), (show sb f2 (upz ff2 z3 1) from (sb_u lq1_s))⟩ w (by decide) rfl
            · replace c_12 : ¬ (ff1 z3) = (-1) := fun h => c_12 ((iI_eq (by omega) (by omega) (by decide) (by decide)).mpr h)
              refine lv_aload_n hx hb dX12_findsLoop_50 rfl (lv_at hl 1 rfl) ?_
              refine lv_aload_n hx hb dX12_findsLoop_51 rfl (lv_at hl 1 rfl) ?_
              refine r_get (v := .ref a12) M w 2 25 clX12 rfl (by decide) G1488 rfl rfl dX12_findsLoop_52 ?_
              refine lv_iload_n hx hb dX12_findsLoop_55 rfl (lv_at hl 0 rfl) ?_
              refine r_iald (v := iI (ff1 z3)) M w 0 rfl (iI_in (by omega) (by omega) (by decide)) (cI_at (by omega) (by omega)) dX12_findsLoop_56 ?_
              have hh13 : (-1) ≤ (ff1 z3) ∧ (ff1 z3) ≤ 8 := ff1_h z3
              refine k_I (ce := 0) (sl := 0) (rest := []) (wr := []) (r_V (f := 10) [2, 3, 0, 1, 4] M w V_HookedCityModel_313 G1871 G90 (c146_X12_findsLoop l D T _ a0 (ff1 z3) r0 a1 x1 x2 x3 x4 x5 x6 r1 x7 x8 x9 y0 x10 a2 a3 a4 a5 a6 a7 a8 a9 a10 a11 x11 a12 a13 a14 a15 x12 r2 r3 a16 x13 x14 a17 a18 x15 a19 x16 r4 a20 a21 x17 r5 a22 x18 x19 x20 x21 f0 ff1 (upz ff2 z3 1) f3 (by omega) (by omega) x1_a x1_b x2_a x2_b x3_a x3_b x4_a x4_b x5_a x5_b x6_a x6_b x7_a x7_b x8_a x8_b x9_a x9_b x10_a x10_b x11_a x11_b x12_a x12_b x13_a x13_b x14_a x14_b x15_a x15_b x16_a x16_b x17_a x17_b x18_a x18_b x19_a x19_b x20_a x20_b x21_a x21_b f0_h ff1_h (rng_up ff2_h (by omega) (by omega)) f3_h (by have e8 := cn_m lq1_s; have e9 := cn_u (f := ff2) (k := z3) (by omega) (by omega) (by omega); omega)) 2 clX12 rfl rfl (by decide) rfl hl.1 rfl (Nat.le_of_ble_eq_true rfl) dX12_findsLoop_57 (by decide) (by decide) (by decide) (by decide)) w [2, 3, 0, 1, 4] [] rfl rfl (by decide) (by decide) rfl rfl (fun v u H locs hp w => ?_)
              obtain ⟨z14, ff15, ff16⟩ := u
              have hv : iI z14 = v := hp.1
              subst hv
              have z14_a : 0 ≤ z14 := hp.2.1
              have z14_b : z14 ≤ 1 := hp.2.2.1
              have ff15_h : rng (-1) 8 ff15 := hp.2.2.2.1
              have ff16_h : rng 0 1 ff16 := hp.2.2.2.2.1
              have pq17 : sb (upz ff2 z3 1) ff16 := hp.2.2.2.2.2
              have w : WD D A s.heap [(a0, .inr (11, [.int r0, .ref a1, .int (iI x1), .int (iI x2), .int (iI x3), .int (iI x4), .int (iI x5), .int (iI x6), .int r1, .int (iI x7), .int (iI x8), .int (iI x9), .long y0, .int (iI x10), .ref a2, .ref a3, .ref a4, .ref a5, .ref a6, .ref a7, .ref a8, .ref a9, .ref a10, .ref a11, .int (iI x11), .ref a12, .ref a13, .ref a14, .ref a15, .int (iI x12), .int r2, .int r3, .ref a16, .int (iI x13), .int (iI x14), .ref a17, .ref a18, .int (iI x15), .ref a19, .int (iI x16), .int r4, .ref a20, .ref a21, .int (iI x17), .int r5, .ref a22, .int (iI x18), .int (iI x19), .int (iI x20), .int (iI x21)])), (a2, .inl (T 0, 329, .inl (cI f0))), (a12, .inl (T 0, 9, .inl (cI ff15))), (a14, .inl (T 2, 9, .inl (cI ff16))), (a15, .inl (T 2, 9, .inl (cI f3)))] H locs := w
              refine lv_if_ne (tgt := 66) hx hb dX12_findsLoop_60 (by decide) (fun c_18 => ?_) (fun c_18 => ?_)
              · replace c_18 : ¬ z14 = 0 := fun h => c_18 ((iz_eq (Int.le_trans (by decide) z14_a) (Int.le_trans z14_b (by decide))).mpr h)
                refine lv_aload_n hx hb dX12_findsLoop_66 rfl (lv_at hl 1 rfl) ?_
                refine r_get (v := .ref a12) M w 0 25 clX12 rfl (by decide) G1488 rfl rfl dX12_findsLoop_67 ?_
                refine lv_iload_n hx hb dX12_findsLoop_70 rfl (lv_at hl 0 rfl) ?_
                refine lv_iload_n hx hb dX12_findsLoop_71 rfl (lv_at hl 2 rfl) ?_
                refine r_iast (ws' := [(a0, .inr (11, [.int r0, .ref a1, .int (iI x1), .int (iI x2), .int (iI x3), .int (iI x4), .int (iI x5), .int (iI x6), .int r1, .int (iI x7), .int (iI x8), .int (iI x9), .long y0, .int (iI x10), .ref a2, .ref a3, .ref a4, .ref a5, .ref a6, .ref a7, .ref a8, .ref a9, .ref a10, .ref a11, .int (iI x11), .ref a12, .ref a13, .ref a14, .ref a15, .int (iI x12), .int r2, .int r3, .ref a16, .int (iI x13), .int (iI x14), .ref a17, .ref a18, .int (iI x15), .ref a19, .int (iI x16), .int r4, .ref a20, .ref a21, .int (iI x17), .int r5, .ref a22, .int (iI x18), .int (iI x19), .int (iI x20), .int (iI x21)])), (a2, .inl (T 0, 329, .inl (cI f0))), (a12, .inl (T 0, 9, .inl (cI (upz ff15 z3 x0)))), (a14, .inl (T 2, 9, .inl (cI ff16))), (a15, .inl (T 2, 9, .inl (cI f3)))]) M w 2 rfl (iI_in (by omega) (by omega) (by decide)) (by rw [cI_up (by omega) (by omega)]; rfl) dX12_findsLoop_72 (fun H locs w => ?_)
                refine lv_iconst (v := iI 1) hx hb dX12_findsLoop_73 (by decide +kernel) ?_
                exact ret _ (1, (upz ff15 z3 x0), ff16) _ _ _ _ _ [0, 1, 2, 3, 4] dX12_findsLoop_74 (by decide +kernel) ⟨rfl, (show (0 : Int) ≤ 1 from by decide), (show (1 : Int) ≤ 1 from by decide), (rng_up ff15_h (by omega) (by omega)), ff16_h, (show sb f2 ff16 from (sb_t (sb_u lq1_s) pq17))⟩ w (by decide) rfl
              · replace c_18 := (iz_eq (Int.le_trans (by decide) z14_a) (Int.le_trans z14_b (by decide))).mp c_18
                refine lv_goto (tgt := 75) hx hb dX12_findsLoop_63 (by decide) ?_
                refine lv_iinc (v := iI (z3 + 1)) (lv' := [(2, .int (iI (z3 + 1))), (0, .ref a0), (1, .int (iI x0))]) hx hb dX12_findsLoop_75 hl (k := 0) rfl (ii_inc (by decide +kernel)) (by decide) rfl (fun ls hl => ?_)
                refine lv_goto (tgt := 2) hx hb dX12_findsLoop_78 (by decide) ?_
                exact ih1 ff15 ff16 (z3 + 1) _ _ _ ff15_h ff16_h (by omega) (by omega) (sb_t (sb_u lq1_s) pq17) (by omega) w (lv_sub hl [0, 1, 2] rfl)
          · replace c_10 : ¬ (ff2 z3) = 0 := fun h => c_10 ((iz_eq (by omega) (by omega)).mpr h)
            refine lv_goto (tgt := 75) hx hb dX12_findsLoop_30 (by decide) ?_
            refine lv_iinc (v := iI (z3 + 1)) (lv' := [(2, .int (iI (z3 + 1))), (0, .ref a0), (1, .int (iI x0))]) hx hb dX12_findsLoop_75 hl (k := 0) rfl (ii_inc (by decide +kernel)) (by decide) rfl (fun ls hl => ?_)
            refine lv_goto (tgt := 2) hx hb dX12_findsLoop_78 (by decide) ?_
            exact ih1 ff1 ff2 (z3 + 1) _ _ _ ff1_h ff2_h (by omega) (by omega) lq1_s (by omega) (w.sub [2, 3, 0, 1, 4] (by decide) rfl) (lv_sub hl [0, 1, 2] rfl)
  exact loop1 ((9 : Int).toNat + 1) f1 f2 0 _ _ _ f1_h f2_h (by decide) (by decide) sb_r (Nat.lt_succ_self _) w (lv_sub hl [0, 1, 2] rfl)
set_option maxRecDepth 100000 in
set_option maxHeartbeats 4000000 in
theorem c148_X12_mostFrom (l : Launch) (D : va_G) (T : Nat → ClassId) (sz : Nat) (a0 : Nat) (x0 : Int) (r0 : Int32) (a1 : Nat) (x1 : Int) (x2 : Int) (x3 : Int) (x4 : Int) (x5 : Int) (x6 : Int) (r1 : Int32) (x7 : Int) (x8 : Int) (x9 : Int) (y0 : Int64) (x10 : Int) (a2 : Nat) (a3 : Nat) (a4 : Nat) (a5 : Nat) (a6 : Nat) (a7 : Nat) (a8 : Nat) (a9 : Nat) (a10 : Nat) (a11 : Nat) (x11 : Int) (a12 : Nat) (a13 : Nat) (a14 : Nat) (a15 : Nat) (x12 : Int) (r2 : Int32) (r3 : Int32) (a16 : Nat) (x13 : Int) (x14 : Int) (a17 : Nat) (a18 : Nat) (x15 : Int) (a19 : Nat) (x16 : Int) (r4 : Int32) (a20 : Nat) (a21 : Nat) (x17 : Int) (r5 : Int32) (a22 : Nat) (x18 : Int) (x19 : Int) (x20 : Int) (x21 : Int) (f0 : Int → Int) (f1 : Int → Int) (f2 : Int → Int) (f3 : Int → Int) (x0_a : 0 ≤ x0) (x0_b : x0 ≤ 9) (x1_a : 0 ≤ x1) (x1_b : x1 ≤ 940) (x2_a : 0 ≤ x2) (x2_b : x2 ≤ 940) (x3_a : 0 ≤ x3) (x3_b : x3 ≤ 940) (x4_a : 0 ≤ x4) (x4_b : x4 ≤ 940) (x5_a : 0 ≤ x5) (x5_b : x5 ≤ 940) (x6_a : 0 ≤ x6) (x6_b : x6 ≤ 4) (x7_a : (-2147483648) ≤ x7) (x7_b : x7 ≤ 2147483647) (x8_a : (-2147483648) ≤ x8) (x8_b : x8 ≤ 2147483647) (x9_a : 0 ≤ x9) (x9_b : x9 ≤ 940) (x10_a : (-2147483648) ≤ x10) (x10_b : x10 ≤ 2147483647) (x11_a : 0 ≤ x11) (x11_b : x11 ≤ 8) (x12_a : 0 ≤ x12) (x12_b : x12 ≤ 9) (x13_a : (-1) ≤ x13) (x13_b : x13 ≤ 9) (x14_a : (-1) ≤ x14) (x14_b : x14 ≤ 8) (x15_a : 0 ≤ x15) (x15_b : x15 ≤ 9) (x16_a : 0 ≤ x16) (x16_b : x16 ≤ 64) (x17_a : 0 ≤ x17) (x17_b : x17 ≤ 40) (x18_a : 0 ≤ x18) (x18_b : x18 ≤ 40) (x19_a : 0 ≤ x19) (x19_b : x19 ≤ 20) (x20_a : 0 ≤ x20) (x20_b : x20 ≤ 8) (x21_a : 0 ≤ x21) (x21_b : x21 ≤ 39) (f0_h : nowI f0) (f1_h : rng (-1) 8 f1) (f2_h : rng 0 1 f2) (f3_h : rng 0 1 f3) : Met l yX12_mostFrom (Cond.code yX12_mostFrom cX12_mostFrom 5 (some .int) :: GW) (Rm 12 0 0) (cPre [.ref a0, .int (iI x0)] D T [(a0, .inr (11, [.int r0, .ref a1, .int (iI x1), .int (iI x2), .int (iI x3), .int (iI x4), .int (iI x5), .int (iI x6), .int r1, .int (iI x7), .int (iI x8), .int (iI x9), .long y0, .int (iI x10), .ref a2, .ref a3, .ref a4, .ref a5, .ref a6, .ref a7, .ref a8, .ref a9, .ref a10, .ref a11, .int (iI x11), .ref a12, .ref a13, .ref a14, .ref a15, .int (iI x12), .int r2, .int r3, .ref a16, .int (iI x13), .int (iI x14), .ref a17, .ref a18, .int (iI x15), .ref a19, .int (iI x16), .int r4, .ref a20, .ref a21, .int (iI x17), .int r5, .ref a22, .int (iI x18), .int (iI x19), .int (iI x20), .int (iI x21)])), (a2, .inl (T 0, 329, .inl (cI f0))), (a12, .inl (T 0, 9, .inl (cI f1))), (a14, .inl (T 2, 9, .inl (cI f2))), (a15, .inl (T 2, 9, .inl (cI f3)))] sz) (qI D [(a0, .inr (11, [.int r0, .ref a1, .int (iI x1), .int (iI x2), .int (iI x3), .int (iI x4), .int (iI x5), .int (iI x6), .int r1, .int (iI x7), .int (iI x8), .int (iI x9), .long y0, .int (iI x10), .ref a2, .ref a3, .ref a4, .ref a5, .ref a6, .ref a7, .ref a8, .ref a9, .ref a10, .ref a11, .int (iI x11), .ref a12, .ref a13, .ref a14, .ref a15, .int (iI x12), .int r2, .int r3, .ref a16, .int (iI x13), .int (iI x14), .ref a17, .ref a18, .int (iI x15), .ref a19, .int (iI x16), .int r4, .ref a20, .ref a21, .int (iI x17), .int r5, .ref a22, .int (iI x18), .int (iI x19), .int (iI x20), .int (iI x21)])), (a2, .inl (T 0, 329, .inl (cI f0))), (a12, .inl (T 0, 9, .inl (cI f1))), (a14, .inl (T 2, 9, .inl (cI f2))), (a15, .inl (T 2, 9, .inl (cI f3)))] sz (fun (v : Int32) (u : Int × (Int → Int) × (Int → Int)) => iI u.1 = v ∧ 0 ≤ u.1 ∧ u.1 ≤ 9 ∧ rng (-1) 8 u.2.1 ∧ rng 0 1 u.2.2) (fun u => [(a0, .inr (11, [.int r0, .ref a1, .int (iI x1), .int (iI x2), .int (iI x3), .int (iI x4), .int (iI x5), .int (iI x6), .int r1, .int (iI x7), .int (iI x8), .int (iI x9), .long y0, .int (iI x10), .ref a2, .ref a3, .ref a4, .ref a5, .ref a6, .ref a7, .ref a8, .ref a9, .ref a10, .ref a11, .int (iI x11), .ref a12, .ref a13, .ref a14, .ref a15, .int (iI x12), .int r2, .int r3, .ref a16, .int (iI x13), .int (iI x14), .ref a17, .ref a18, .int (iI x15), .ref a19, .int (iI x16), .int r4, .ref a20, .ref a21, .int (iI x17), .int r5, .ref a22, .int (iI x18), .int (iI x19), .int (iI x20), .int (iI x21)])), (a2, .inl (T 0, 329, .inl (cI f0))), (a12, .inl (T 0, 9, .inl (cI u.2.1))), (a14, .inl (T 2, 9, .inl (cI u.2.2))), (a15, .inl (T 2, 9, .inl (cI f3)))])) 0 0 (va_A [(a0, .inr (11, [.int r0, .ref a1, .int (iI x1), .int (iI x2), .int (iI x3), .int (iI x4), .int (iI x5), .int (iI x6), .int r1, .int (iI x7), .int (iI x8), .int (iI x9), .long y0, .int (iI x10), .ref a2, .ref a3, .ref a4, .ref a5, .ref a6, .ref a7, .ref a8, .ref a9, .ref a10, .ref a11, .int (iI x11), .ref a12, .ref a13, .ref a14, .ref a15, .int (iI x12), .int r2, .int r3, .ref a16, .int (iI x13), .int (iI x14), .ref a17, .ref a18, .int (iI x15), .ref a19, .int (iI x16), .int r4, .ref a20, .ref a21, .int (iI x17), .int r5, .ref a22, .int (iI x18), .int (iI x19), .int (iI x20), .int (iI x21)])), (a2, .inl (T 0, 329, .inl (cI f0))), (a12, .inl (T 0, 9, .inl (cI f1))), (a14, .inl (T 2, 9, .inl (cI f2))), (a15, .inl (T 2, 9, .inl (cI f3)))] sz) := by
  refine e_I (by decide) (Nat.le_of_ble_eq_true rfl) ?_
  intro p e s m args below meth c A Q ls M hin w ret hl
  have hx := M.1.1
  have hb := M.1.2.1
  have hl : lv_has ls 5 [(0, .ref a0), (1, .int (iI x0))] := hl
  refine lv_iconst (v := iI 0) hx hb dX12_mostFrom_0 (by decide +kernel) ?_
  refine lv_istore_n (lv' := [(2, .int (iI 0)), (0, .ref a0), (1, .int (iI x0))]) hx hb dX12_mostFrom_1 rfl hl (by decide) rfl (fun ls hl => ?_)
  have loop1 : ∀ (k1 : Nat) (ff1 : Int → Int) (z2 : Int) (H : Heap) (locs : List Loc) (ls : Array Slot), rng (-1) 8 ff1 → 0 ≤ z2 → z2 ≤ 9 → ((9 - z2) : Int).toNat < k1 → WD D A s.heap [(a0, .inr (11, [.int r0, .ref a1, .int (iI x1), .int (iI x2), .int (iI x3), .int (iI x4), .int (iI x5), .int (iI x6), .int r1, .int (iI x7), .int (iI x8), .int (iI x9), .long y0, .int (iI x10), .ref a2, .ref a3, .ref a4, .ref a5, .ref a6, .ref a7, .ref a8, .ref a9, .ref a10, .ref a11, .int (iI x11), .ref a12, .ref a13, .ref a14, .ref a15, .int (iI x12), .int r2, .int r3, .ref a16, .int (iI x13), .int (iI x14), .ref a17, .ref a18, .int (iI x15), .ref a19, .int (iI x16), .int r4, .ref a20, .ref a21, .int (iI x17), .int r5, .ref a22, .int (iI x18), .int (iI x19), .int (iI x20), .int (iI x21)])), (a2, .inl (T 0, 329, .inl (cI f0))), (a12, .inl (T 0, 9, .inl (cI ff1))), (a14, .inl (T 2, 9, .inl (cI f2))), (a15, .inl (T 2, 9, .inl (cI f3)))] H locs → lv_has ls 5 [(2, .int (iI z2)), (0, .ref a0), (1, .int (iI x0))] → W p l e (Rm 12 0 0) s m args below meth c H locs 0 0 Q (F0 m 2 ls []) := by
    intro k1
    induction k1 with
    | zero => intro ff1 z2 H locs ls ff1_h z2_a z2_b hm; exact absurd hm (Nat.not_lt_zero _)
    | succ k1 ih1 =>
      intro ff1 z2 H locs ls ff1_h z2_a z2_b hm1 w hl
      refine lv_iload_n hx hb dX12_mostFrom_2 rfl (lv_at hl 0 rfl) ?_
      refine lv_bipush (v := iI 9) hx hb dX12_mostFrom_3 (by decide +kernel) ?_
      refine lv_icmp_ge (tgt := 21) hx hb dX12_mostFrom_5 (by decide) (fun c_3 => ?_) (fun c_3 => ?_)
      · replace c_3 := (iI_le (by decide) (by decide) (Int.le_trans (by decide) z2_a) (Int.le_trans z2_b (by decide))).mp c_3
        refine lv_iconst (v := iI 0) hx hb dX12_mostFrom_21 (by decide +kernel) ?_
        refine lv_istore_n (lv' := [(2, .int (iI 0)), (0, .ref a0), (1, .int (iI x0))]) hx hb dX12_mostFrom_22 rfl hl (by decide) rfl (fun ls hl => ?_)
        refine lv_iload_n hx hb dX12_mostFrom_23 rfl (lv_at hl 2 rfl) ?_
        refine lv_istore_n (lv' := [(3, .int (iI x0)), (2, .int (iI 0)), (0, .ref a0), (1, .int (iI x0))]) hx hb dX12_mostFrom_24 rfl hl (by decide) rfl (fun ls hl => ?_)
        have loop2 : ∀ (k2 : Nat) (ff4 : Int → Int) (ff5 : Int → Int) (z6 : Int) (z7 : Int) (H : Heap) (locs : List Loc) (ls : Array Slot), rng (-1) 8 ff4 → rng 0 1 ff5 → 0 ≤ z6 → z6 ≤ 9 → 0 ≤ z7 → z7 ≤ 9 → 0 ≤ (z6 - z7) → ((9 - z6) : Int).toNat < k2 → WD D A s.heap [(a0, .inr (11, [.int r0, .ref a1, .int (iI x1), .int (iI x2), .int (iI x3), .int (iI x4), .int (iI x5), .int (iI x6), .int r1, .int (iI x7), .int (iI x8), .int (iI x9), .long y0, .int (iI x10), .ref a2, .ref a3, .ref a4, .ref a5, .ref a6, .ref a7, .ref a8, .ref a9, .ref a10, .ref a11, .int (iI x11), .ref a12, .ref a13, .ref a14, .ref a15, .int (iI x12), .int r2, .int r3, .ref a16, .int (iI x13), .int (iI x14), .ref a17, .ref a18, .int (iI x15), .ref a19, .int (iI x16), .int r4, .ref a20, .ref a21, .int (iI x17), .int r5, .ref a22, .int (iI x18), .int (iI x19), .int (iI x20), .int (iI x21)])), (a2, .inl (T 0, 329, .inl (cI f0))), (a12, .inl (T 0, 9, .inl (cI ff4))), (a14, .inl (T 2, 9, .inl (cI ff5))), (a15, .inl (T 2, 9, .inl (cI f3)))] H locs → lv_has ls 5 [(3, .int (iI z6)), (2, .int (iI z7)), (0, .ref a0), (1, .int (iI x0))] → W p l e (Rm 12 0 0) s m args below meth c H locs 0 0 Q (F0 m 25 ls []) := by
          intro k2
          induction k2 with
          | zero => intro ff4 ff5 z6 z7 H locs ls ff4_h ff5_h z6_a z6_b z7_a z7_b q2_0 hm; exact absurd hm (Nat.not_lt_zero _)
          | succ k2 ih2 =>
            intro ff4 ff5 z6 z7 H locs ls ff4_h ff5_h z6_a z6_b z7_a z7_b q2_0 hm2 w hl
            refine lv_iload_n hx hb dX12_mostFrom_25 rfl (lv_at hl 0 rfl) ?_
            refine lv_aload_n hx hb dX12_mostFrom_26 rfl (lv_at hl 2 rfl) ?_
            refine r_get (v := .ref a2) M w 0 14 clX12 rfl (by decide) G1477 rfl rfl dX12_mostFrom_27 ?_
            refine lv_iconst (v := iI 0) hx hb dX12_mostFrom_30 (by decide +kernel) ?_
            refine r_iald (v := iI (f0 0)) M w 1 rfl (iI_in (by decide) (by decide) (by decide)) (cI_at (by omega) (by omega)) dX12_mostFrom_31 ?_
            have hh8 : (-2147483648) ≤ (f0 0) ∧ (f0 0) ≤ 2147483647 := f0_h.1 0
            have hh9 : 0 ≤ (f0 0) ∧ (f0 0) ≤ 9 := (f0_h.2.1 0).1 (by omega)
            refine lv_icmp_ge (tgt := 76) hx hb dX12_mostFrom_32 (by decide) (fun c_10 => ?_) (fun c_10 => ?_)
            · replace c_10 := (iI_le (by omega) (by omega) (Int.le_trans (by decide) z6_a) (Int.le_trans z6_b (by decide))).mp c_10
              refine lv_iload_n hx hb dX12_mostFrom_76 rfl (lv_at hl 1 rfl) ?_
              exact ret _ (z7, ff4, ff5) _ _ _ _ _ [0, 1, 2, 3, 4] dX12_mostFrom_77 ⟨rfl, z7_a, z7_b, ff4_h, ff5_h⟩ w (by decide) rfl
            · replace c_10 : z6 < (f0 0) := Int.not_le.mp (fun h => c_10 ((iI_le (by omega) (by omega) (Int.le_trans (by decide) z6_a) (Int.le_trans z6_b (by decide))).mpr h))
              refine lv_iconst (v := iI 0) hx hb dX12_mostFrom_35 (by decide +kernel) ?_
              refine lv_istore (lv' := [(4, .int (iI 0)), (3, .int (iI z6)), (2, .int (iI z7)), (0, .ref a0), (1, .int (iI x0))]) hx hb dX12_mostFrom_36 hl (by decide) rfl (fun ls hl => ?_)
              have loop3 : ∀ (k3 : Nat) (ff11 : Int → Int) (z12 : Int) (H : Heap) (locs : List Loc) (ls : Array Slot), rng 0 1 ff11 → 0 ≤ z12 → z12 ≤ 9 → ((9 - z12) : Int).toNat < k3 → WD D A s.heap [(a0, .inr (11, [.int r0, .ref a1, .int (iI x1), .int (iI x2), .int (iI x3), .int (iI x4), .int (iI x5), .int (iI x6), .int r1, .int (iI x7), .int (iI x8), .int (iI x9), .long y0, .int (iI x10), .ref a2, .ref a3, .ref a4, .ref a5, .ref a6, .ref a7, .ref a8, .ref a9, .ref a10, .ref a11, .int (iI x11), .ref a12, .ref a13, .ref a14, .ref a15, .int (iI x12), .int r2, .int r3, .ref a16, .int (iI x13), .int (iI x14), .ref a17, .ref a18, .int (iI x15), .ref a19, .int (iI x16), .int r4, .ref a20, .ref a21, .int (iI x17), .int r5, .ref a22, .int (iI x18), .int (iI x19), .int (iI x20), .int (iI x21)])), (a2, .inl (T 0, 329, .inl (cI f0))), (a12, .inl (T 0, 9, .inl (cI ff4))), (a14, .inl (T 2, 9, .inl (cI ff11))), (a15, .inl (T 2, 9, .inl (cI f3)))] H locs → lv_has ls 5 [(4, .int (iI z12)), (3, .int (iI z6)), (2, .int (iI z7)), (0, .ref a0), (1, .int (iI x0))] → W p l e (Rm 12 0 0) s m args below meth c H locs 0 0 Q (F0 m 38 ls []) := by
                intro k3
                induction k3 with
                | zero => intro ff11 z12 H locs ls ff11_h z12_a z12_b hm; exact absurd hm (Nat.not_lt_zero _)
                | succ k3 ih3 =>
                  intro ff11 z12 H locs ls ff11_h z12_a z12_b hm3 w hl
                  refine lv_iload hx hb dX12_mostFrom_38 (lv_at hl 0 rfl) ?_
                  refine lv_bipush (v := iI 9) hx hb dX12_mostFrom_40 (by decide +kernel) ?_
                  refine lv_icmp_ge (tgt := 59) hx hb dX12_mostFrom_42 (by decide) (fun c_13 => ?_) (fun c_13 => ?_)
                  · replace c_13 := (iI_le (by decide) (by decide) (Int.le_trans (by decide) z12_a) (Int.le_trans z12_b (by decide))).mp c_13
                    refine lv_aload_n hx hb dX12_mostFrom_59 rfl (lv_at hl 3 rfl) ?_
                    refine lv_iload_n hx hb dX12_mostFrom_60 rfl (lv_at hl 1 rfl) ?_
                    refine k_I (ce := 0) (sl := 0) (rest := []) (wr := []) (r_V (f := 11) [0, 1, 2, 3, 4] M w V_HookedCityModel_313 G1871 G90 (c147_X12_findsLoop l D T _ a0 z6 r0 a1 x1 x2 x3 x4 x5 x6 r1 x7 x8 x9 y0 x10 a2 a3 a4 a5 a6 a7 a8 a9 a10 a11 x11 a12 a13 a14 a15 x12 r2 r3 a16 x13 x14 a17 a18 x15 a19 x16 r4 a20 a21 x17 r5 a22 x18 x19 x20 x21 f0 ff4 ff11 f3 (by omega) (by omega) x1_a x1_b x2_a x2_b x3_a x3_b x4_a x4_b x5_a x5_b x6_a x6_b x7_a x7_b x8_a x8_b x9_a x9_b x10_a x10_b x11_a x11_b x12_a x12_b x13_a x13_b x14_a x14_b x15_a x15_b x16_a x16_b x17_a x17_b x18_a x18_b x19_a x19_b x20_a x20_b x21_a x21_b f0_h ff4_h ff11_h f3_h (cn_9 _)) 0 clX12 rfl rfl (by decide) rfl hl.1 rfl (Nat.le_of_ble_eq_true rfl) dX12_mostFrom_61 (by decide) (by decide) (by decide) (by decide)) w [0, 1, 2, 3, 4] [] rfl rfl (by decide) (by decide) rfl rfl (fun v u H locs hp w => ?_)
                    obtain ⟨z14, ff15, ff16⟩ := u
                    have hv : iI z14 = v := hp.1
                    subst hv
                    have z14_a : 0 ≤ z14 := hp.2.1
                    have z14_b : z14 ≤ 1 := hp.2.2.1
                    have ff15_h : rng (-1) 8 ff15 := hp.2.2.2.1
                    have ff16_h : rng 0 1 ff16 := hp.2.2.2.2.1
                    have pq17 : sb ff11 ff16 := hp.2.2.2.2.2
                    have w : WD D A s.heap [(a0, .inr (11, [.int r0, .ref a1, .int (iI x1), .int (iI x2), .int (iI x3), .int (iI x4), .int (iI x5), .int (iI x6), .int r1, .int (iI x7), .int (iI x8), .int (iI x9), .long y0, .int (iI x10), .ref a2, .ref a3, .ref a4, .ref a5, .ref a6, .ref a7, .ref a8, .ref a9, .ref a10, .ref a11, .int (iI x11), .ref a12, .ref a13, .ref a14, .ref a15, .int (iI x12), .int r2, .int r3, .ref a16, .int (iI x13), .int (iI x14), .ref a17, .ref a18, .int (iI x15), .ref a19, .int (iI x16), .int r4, .ref a20, .ref a21, .int (iI x17), .int r5, .ref a22, .int (iI x18), .int (iI x19), .int (iI x20), .int (iI x21)])), (a2, .inl (T 0, 329, .inl (cI f0))), (a12, .inl (T 0, 9, .inl (cI ff15))), (a14, .inl (T 2, 9, .inl (cI ff16))), (a15, .inl (T 2, 9, .inl (cI f3)))] H locs := w
                    refine lv_if_eq (tgt := 70) hx hb dX12_mostFrom_64 (by decide) (fun c_18 => ?_) (fun c_18 => ?_)
                    · replace c_18 := (iz_eq (Int.le_trans (by decide) z14_a) (Int.le_trans z14_b (by decide))).mp c_18
                      refine lv_iinc (v := iI (z6 + 1)) (lv' := [(3, .int (iI (z6 + 1))), (4, .int (iI z12)), (2, .int (iI z7)), (0, .ref a0), (1, .int (iI x0))]) hx hb dX12_mostFrom_70 hl (k := 1) rfl (ii_inc (by decide +kernel)) (by decide) rfl (fun ls hl => ?_)
                      refine lv_goto (tgt := 25) hx hb dX12_mostFrom_73 (by decide) ?_
                      exact ih2 ff15 ff16 (z6 + 1) z7 _ _ _ ff15_h ff16_h (by omega) (by omega) z7_a z7_b (by omega) (by omega) w (lv_sub hl [0, 2, 3, 4] rfl)
                    · replace c_18 : ¬ z14 = 0 := fun h => c_18 ((iz_eq (Int.le_trans (by decide) z14_a) (Int.le_trans z14_b (by decide))).mpr h)
                      refine lv_iinc (v := iI (z7 + 1)) (lv' := [(2, .int (iI (z7 + 1))), (4, .int (iI z12)), (3, .int (iI z6)), (0, .ref a0), (1, .int (iI x0))]) hx hb dX12_mostFrom_67 hl (k := 2) rfl (ii_inc (by decide +kernel)) (by decide) rfl (fun ls hl => ?_)
                      refine lv_iinc (v := iI (z6 + 1)) (lv' := [(3, .int (iI (z6 + 1))), (2, .int (iI (z7 + 1))), (4, .int (iI z12)), (0, .ref a0), (1, .int (iI x0))]) hx hb dX12_mostFrom_70 hl (k := 2) rfl (ii_inc (by decide +kernel)) (by decide) rfl (fun ls hl => ?_)
                      refine lv_goto (tgt := 25) hx hb dX12_mostFrom_73 (by decide) ?_
                      exact ih2 ff15 ff16 (z6 + 1) (z7 + 1) _ _ _ ff15_h ff16_h (by omega) (by omega) (by omega) (by omega) (by omega) (by omega) w (lv_sub hl [0, 1, 3, 4] rfl)
                  · replace c_13 : z12 < 9 := Int.not_le.mp (fun h => c_13 ((iI_le (by decide) (by decide) (Int.le_trans (by decide) z12_a) (Int.le_trans z12_b (by decide))).mpr h))
                    refine lv_aload_n hx hb dX12_mostFrom_45 rfl (lv_at hl 3 rfl) ?_
                    refine r_get (v := .ref a14) M w 0 27 clX12 rfl (by decide) G1490 rfl rfl dX12_mostFrom_46 ?_
                    refine lv_iload hx hb dX12_mostFrom_49 (lv_at hl 0 rfl) ?_
                    refine lv_iconst (v := iI 0) hx hb dX12_mostFrom_51 (by decide +kernel) ?_
                    refine r_zast (x2 := iI 0) (ws' := [(a0, .inr (11, [.int r0, .ref a1, .int (iI x1), .int (iI x2), .int (iI x3), .int (iI x4), .int (iI x5), .int (iI x6), .int r1, .int (iI x7), .int (iI x8), .int (iI x9), .long y0, .int (iI x10), .ref a2, .ref a3, .ref a4, .ref a5, .ref a6, .ref a7, .ref a8, .ref a9, .ref a10, .ref a11, .int (iI x11), .ref a12, .ref a13, .ref a14, .ref a15, .int (iI x12), .int r2, .int r3, .ref a16, .int (iI x13), .int (iI x14), .ref a17, .ref a18, .int (iI x15), .ref a19, .int (iI x16), .int r4, .ref a20, .ref a21, .int (iI x17), .int r5, .ref a22, .int (iI x18), .int (iI x19), .int (iI x20), .int (iI x21)])), (a2, .inl (T 0, 329, .inl (cI f0))), (a12, .inl (T 0, 9, .inl (cI ff4))), (a14, .inl (T 2, 9, .inl (cI (upz ff11 z12 0)))), (a15, .inl (T 2, 9, .inl (cI f3)))]) M w 3 rfl (iI_in (by omega) (by omega) (by decide)) (nb_z (by omega) (by omega)) (by rw [cI_up (by omega) (by omega)]; rfl) dX12_mostFrom_52 (fun H locs w => ?_)
                    refine lv_iinc (v := iI (z12 + 1)) (lv' := [(4, .int (iI (z12 + 1))), (3, .int (iI z6)), (2, .int (iI z7)), (0, .ref a0), (1, .int (iI x0))]) hx hb dX12_mostFrom_53 hl (k := 0) rfl (ii_inc (by decide +kernel)) (by decide) rfl (fun ls hl => ?_)
                    refine lv_goto (tgt := 38) hx hb dX12_mostFrom_56 (by decide) ?_
                    exact ih3 (upz ff11 z12 0) (z12 + 1) _ _ _ (rng_up ff11_h (by omega) (by omega)) (by omega) (by omega) (by omega) w (lv_sub hl [0, 1, 2, 3, 4] rfl)
              exact loop3 ((9 : Int).toNat + 1) ff5 0 _ _ _ ff5_h (by decide) (by decide) (Nat.lt_succ_self _) w (lv_sub hl [0, 1, 2, 3, 4] rfl)
        exact loop2 (((9 - x0) : Int).toNat + 1) ff1 f2 x0 0 _ _ _ ff1_h f2_h x0_a x0_b (by decide) (by decide) (by omega) (Nat.lt_succ_self _) w (lv_sub hl [0, 1, 2, 3] rfl)
      · replace c_3 : z2 < 9 := Int.not_le.mp (fun h => c_3 ((iI_le (by decide) (by decide) (Int.le_trans (by decide) z2_a) (Int.le_trans z2_b (by decide))).mpr h))
        refine lv_aload_n hx hb dX12_mostFrom_8 rfl (lv_at hl 1 rfl) ?_
        refine r_get (v := .ref a12) M w 0 25 clX12 rfl (by decide) G1488 rfl rfl dX12_mostFrom_9 ?_
        refine lv_iload_n hx hb dX12_mostFrom_12 rfl (lv_at hl 0 rfl) ?_
        refine lv_iconst (v := iI (-1)) hx hb dX12_mostFrom_13 (by decide +kernel) ?_
        refine r_iast (ws' := [(a0, .inr (11, [.int r0, .ref a1, .int (iI x1), .int (iI x2), .int (iI x3), .int (iI x4), .int (iI x5), .int (iI x6), .int r1, .int (iI x7), .int (iI x8), .int (iI x9), .long y0, .int (iI x10), .ref a2, .ref a3, .ref a4, .ref a5, .ref a6, .ref a7, .ref a8, .ref a9, .ref a10, .ref a11, .int (iI x11), .ref a12, .ref a13, .ref a14, .ref a15, .int (iI x12), .int r2, .int r3, .ref a16, .int (iI x13), .int (iI x14), .ref a17, .ref a18, .int (iI x15), .ref a19, .int (iI x16), .int r4, .ref a20, .ref a21, .int (iI x17), .int r5, .ref a22, .int (iI x18), .int (iI x19), .int (iI x20), .int (iI x21)])), (a2, .inl (T 0, 329, .inl (cI f0))), (a12, .inl (T 0, 9, .inl (cI (upz ff1 z2 (-1))))), (a14, .inl (T 2, 9, .inl (cI f2))), (a15, .inl (T 2, 9, .inl (cI f3)))]) M w 2 rfl (iI_in (by omega) (by omega) (by decide)) (by rw [cI_up (by omega) (by omega)]; rfl) dX12_mostFrom_14 (fun H locs w => ?_)
        refine lv_iinc (v := iI (z2 + 1)) (lv' := [(2, .int (iI (z2 + 1))), (0, .ref a0), (1, .int (iI x0))]) hx hb dX12_mostFrom_15 hl (k := 0) rfl (ii_inc (by decide +kernel)) (by decide) rfl (fun ls hl => ?_)
        refine lv_goto (tgt := 2) hx hb dX12_mostFrom_18 (by decide) ?_
        exact ih1 (upz ff1 z2 (-1)) (z2 + 1) _ _ _ (rng_up ff1_h (by omega) (by omega)) (by omega) (by omega) (by omega) w (lv_sub hl [0, 1, 2] rfl)
  exact loop1 ((9 : Int).toNat + 1) f1 0 _ _ _ f1_h (by decide) (by decide) (Nat.lt_succ_self _) w (lv_sub hl [0, 1, 2] rfl)
set_option maxRecDepth 100000 in
set_option maxHeartbeats 4000000 in
theorem c149_X12_leastLoop (l : Launch) (D : va_G) (T : Nat → ClassId) (sz : Nat) (a0 : Nat) (x0 : Int) (x1 : Int) (r0 : Int32) (a1 : Nat) (x2 : Int) (x3 : Int) (x4 : Int) (x5 : Int) (x6 : Int) (x7 : Int) (r1 : Int32) (x8 : Int) (x9 : Int) (x10 : Int) (y0 : Int64) (x11 : Int) (a2 : Nat) (a3 : Nat) (a4 : Nat) (a5 : Nat) (a6 : Nat) (a7 : Nat) (a8 : Nat) (a9 : Nat) (a10 : Nat) (a11 : Nat) (x12 : Int) (a12 : Nat) (a13 : Nat) (a14 : Nat) (a15 : Nat) (x13 : Int) (r2 : Int32) (r3 : Int32) (a16 : Nat) (x14 : Int) (x15 : Int) (a17 : Nat) (a18 : Nat) (x16 : Int) (a19 : Nat) (x17 : Int) (r4 : Int32) (a20 : Nat) (a21 : Nat) (x18 : Int) (r5 : Int32) (a22 : Nat) (x19 : Int) (x20 : Int) (x21 : Int) (x22 : Int) (f0 : Int → Int) (f1 : Int → Int) (f2 : Int → Int) (f3 : Int → Int) (x0_a : 0 ≤ x0) (x0_b : x0 ≤ 8) (x1_a : (-2147483648) ≤ x1) (x1_b : x1 ≤ 2147483647) (x2_a : 0 ≤ x2) (x2_b : x2 ≤ 940) (x3_a : 0 ≤ x3) (x3_b : x3 ≤ 940) (x4_a : 0 ≤ x4) (x4_b : x4 ≤ 940) (x5_a : 0 ≤ x5) (x5_b : x5 ≤ 940) (x6_a : 0 ≤ x6) (x6_b : x6 ≤ 940) (x7_a : 0 ≤ x7) (x7_b : x7 ≤ 4) (x8_a : (-2147483648) ≤ x8) (x8_b : x8 ≤ 2147483647) (x9_a : (-2147483648) ≤ x9) (x9_b : x9 ≤ 2147483647) (x10_a : 0 ≤ x10) (x10_b : x10 ≤ 940) (x11_a : (-2147483648) ≤ x11) (x11_b : x11 ≤ 2147483647) (x12_a : 0 ≤ x12) (x12_b : x12 ≤ 8) (x13_a : 0 ≤ x13) (x13_b : x13 ≤ 9) (x14_a : (-1) ≤ x14) (x14_b : x14 ≤ 9) (x15_a : (-1) ≤ x15) (x15_b : x15 ≤ 8) (x16_a : 0 ≤ x16) (x16_b : x16 ≤ 9) (x17_a : 0 ≤ x17) (x17_b : x17 ≤ 64) (x18_a : 0 ≤ x18) (x18_b : x18 ≤ 40) (x19_a : 0 ≤ x19) (x19_b : x19 ≤ 40) (x20_a : 0 ≤ x20) (x20_b : x20 ≤ 20) (x21_a : 0 ≤ x21) (x21_b : x21 ≤ 8) (x22_a : 0 ≤ x22) (x22_b : x22 ≤ 39) (f0_h : nowI f0) (f1_h : rng (-1) 8 f1) (f2_h : rng 0 1 f2) (f3_h : rng 0 1 f3) : Met l yX12_leastLoop (Cond.code yX12_leastLoop cX12_leastLoop 4 (some .int) :: GW) (Rm 13 0 0) (cPre [.ref a0, .int (iI x0), .int (iI x1)] D T [(a0, .inr (11, [.int r0, .ref a1, .int (iI x2), .int (iI x3), .int (iI x4), .int (iI x5), .int (iI x6), .int (iI x7), .int r1, .int (iI x8), .int (iI x9), .int (iI x10), .long y0, .int (iI x11), .ref a2, .ref a3, .ref a4, .ref a5, .ref a6, .ref a7, .ref a8, .ref a9, .ref a10, .ref a11, .int (iI x12), .ref a12, .ref a13, .ref a14, .ref a15, .int (iI x13), .int r2, .int r3, .ref a16, .int (iI x14), .int (iI x15), .ref a17, .ref a18, .int (iI x16), .ref a19, .int (iI x17), .int r4, .ref a20, .ref a21, .int (iI x18), .int r5, .ref a22, .int (iI x19), .int (iI x20), .int (iI x21), .int (iI x22)])), (a2, .inl (T 0, 329, .inl (cI f0))), (a12, .inl (T 0, 9, .inl (cI f1))), (a14, .inl (T 2, 9, .inl (cI f2))), (a15, .inl (T 2, 9, .inl (cI f3)))] sz) (qI D [(a0, .inr (11, [.int r0, .ref a1, .int (iI x2), .int (iI x3), .int (iI x4), .int (iI x5), .int (iI x6), .int (iI x7), .int r1, .int (iI x8), .int (iI x9), .int (iI x10), .long y0, .int (iI x11), .ref a2, .ref a3, .ref a4, .ref a5, .ref a6, .ref a7, .ref a8, .ref a9, .ref a10, .ref a11, .int (iI x12), .ref a12, .ref a13, .ref a14, .ref a15, .int (iI x13), .int r2, .int r3, .ref a16, .int (iI x14), .int (iI x15), .ref a17, .ref a18, .int (iI x16), .ref a19, .int (iI x17), .int r4, .ref a20, .ref a21, .int (iI x18), .int r5, .ref a22, .int (iI x19), .int (iI x20), .int (iI x21), .int (iI x22)])), (a2, .inl (T 0, 329, .inl (cI f0))), (a12, .inl (T 0, 9, .inl (cI f1))), (a14, .inl (T 2, 9, .inl (cI f2))), (a15, .inl (T 2, 9, .inl (cI f3)))] sz (fun (v : Int32) (u : Int × (Int → Int) × (Int → Int) × (Int → Int)) => iI u.1 = v ∧ (-1) ≤ u.1 ∧ u.1 ≤ 8 ∧ rng (-1) 8 u.2.1 ∧ rng 0 1 u.2.2.1 ∧ rng 0 1 u.2.2.2) (fun u => [(a0, .inr (11, [.int r0, .ref a1, .int (iI x2), .int (iI x3), .int (iI x4), .int (iI x5), .int (iI x6), .int (iI x7), .int r1, .int (iI x8), .int (iI x9), .int (iI x10), .long y0, .int (iI x11), .ref a2, .ref a3, .ref a4, .ref a5, .ref a6, .ref a7, .ref a8, .ref a9, .ref a10, .ref a11, .int (iI x12), .ref a12, .ref a13, .ref a14, .ref a15, .int (iI x13), .int r2, .int r3, .ref a16, .int (iI x14), .int (iI x15), .ref a17, .ref a18, .int (iI x16), .ref a19, .int (iI x17), .int r4, .ref a20, .ref a21, .int (iI x18), .int r5, .ref a22, .int (iI x19), .int (iI x20), .int (iI x21), .int (iI x22)])), (a2, .inl (T 0, 329, .inl (cI f0))), (a12, .inl (T 0, 9, .inl (cI u.2.1))), (a14, .inl (T 2, 9, .inl (cI u.2.2.1))), (a15, .inl (T 2, 9, .inl (cI u.2.2.2)))])) 0 0 (va_A [(a0, .inr (11, [.int r0, .ref a1, .int (iI x2), .int (iI x3), .int (iI x4), .int (iI x5), .int (iI x6), .int (iI x7), .int r1, .int (iI x8), .int (iI x9), .int (iI x10), .long y0, .int (iI x11), .ref a2, .ref a3, .ref a4, .ref a5, .ref a6, .ref a7, .ref a8, .ref a9, .ref a10, .ref a11, .int (iI x12), .ref a12, .ref a13, .ref a14, .ref a15, .int (iI x13), .int r2, .int r3, .ref a16, .int (iI x14), .int (iI x15), .ref a17, .ref a18, .int (iI x16), .ref a19, .int (iI x17), .int r4, .ref a20, .ref a21, .int (iI x18), .int r5, .ref a22, .int (iI x19), .int (iI x20), .int (iI x21), .int (iI x22)])), (a2, .inl (T 0, 329, .inl (cI f0))), (a12, .inl (T 0, 9, .inl (cI f1))), (a14, .inl (T 2, 9, .inl (cI f2))), (a15, .inl (T 2, 9, .inl (cI f3)))] sz) := by
  refine e_I (by decide) (Nat.le_of_ble_eq_true rfl) ?_
  intro p e s m args below meth c A Q ls M hin w ret hl
  have hx := M.1.1
  have hb := M.1.2.1
  have hl : lv_has ls 4 [(0, .ref a0), (1, .int (iI x0)), (2, .int (iI x1))] := hl
  refine lv_iconst (v := iI 0) hx hb dX12_leastLoop_0 (by decide +kernel) ?_
  refine lv_istore_n (lv' := [(3, .int (iI 0)), (0, .ref a0), (1, .int (iI x0)), (2, .int (iI x1))]) hx hb dX12_leastLoop_1 rfl hl (by decide) rfl (fun ls hl => ?_)
  have loop1 : ∀ (k1 : Nat) (ff1 : Int → Int) (ff2 : Int → Int) (ff3 : Int → Int) (z4 : Int) (H : Heap) (locs : List Loc) (ls : Array Slot), rng (-1) 8 ff1 → rng 0 1 ff2 → rng 0 1 ff3 → 0 ≤ z4 → z4 ≤ 9 → ((9 - z4) : Int).toNat < k1 → WD D A s.heap [(a0, .inr (11, [.int r0, .ref a1, .int (iI x2), .int (iI x3), .int (iI x4), .int (iI x5), .int (iI x6), .int (iI x7), .int r1, .int (iI x8), .int (iI x9), .int (iI x10), .long y0, .int (iI x11), .ref a2, .ref a3, .ref a4, .ref a5, .ref a6, .ref a7, .ref a8, .ref a9, .ref a10, .ref a11, .int (iI x12), .ref a12, .ref a13, .ref a14, .ref a15, .int (iI x13), .int r2, .int r3, .ref a16, .int (iI x14), .int (iI x15), .ref a17, .ref a18, .int (iI x16), .ref a19, .int (iI x17), .int r4, .ref a20, .ref a21, .int (iI x18), .int r5, .ref a22, .int (iI x19), .int (iI x20), .int (iI x21), .int (iI x22)])), (a2, .inl (T 0, 329, .inl (cI f0))), (a12, .inl (T 0, 9, .inl (cI ff1))), (a14, .inl (T 2, 9, .inl (cI ff2))), (a15, .inl (T 2, 9, .inl (cI ff3)))] H locs → lv_has ls 4 [(3, .int (iI z4)), (0, .ref a0), (1, .int (iI x0)), (2, .int (iI x1))] → W p l e (Rm 13 0 0) s m args below meth c H locs 0 0 Q (F0 m 2 ls []) := by
    intro k1
    induction k1 with
    | zero => intro ff1 ff2 ff3 z4 H locs ls ff1_h ff2_h ff3_h z4_a z4_b hm; exact absurd hm (Nat.not_lt_zero _)
    | succ k1 ih1 =>
      intro ff1 ff2 ff3 z4 H locs ls ff1_h ff2_h ff3_h z4_a z4_b hm1 w hl
      refine lv_iload_n hx hb dX12_leastLoop_2 rfl (lv_at hl 0 rfl) ?_
      refine lv_aload_n hx hb dX12_leastLoop_3 rfl (lv_at hl 1 rfl) ?_
      refine r_get (v := .ref a2) M w 0 14 clX12 rfl (by decide) G1477 rfl rfl dX12_leastLoop_4 ?_
      refine lv_iconst (v := iI 0) hx hb dX12_leastLoop_7 (by decide +kernel) ?_
      refine r_iald (v := iI (f0 0)) M w 1 rfl (iI_in (by decide) (by decide) (by decide)) (cI_at (by omega) (by omega)) dX12_leastLoop_8 ?_
      have hh5 : (-2147483648) ≤ (f0 0) ∧ (f0 0) ≤ 2147483647 := f0_h.1 0
      have hh6 : 0 ≤ (f0 0) ∧ (f0 0) ≤ 9 := (f0_h.2.1 0).1 (by omega)
      refine lv_icmp_ge (tgt := 59) hx hb dX12_leastLoop_9 (by decide) (fun c_7 => ?_) (fun c_7 => ?_)
      · replace c_7 := (iI_le (by omega) (by omega) (Int.le_trans (by decide) z4_a) (Int.le_trans z4_b (by decide))).mp c_7
        refine lv_iconst (v := iI (-1)) hx hb dX12_leastLoop_59 (by decide +kernel) ?_
        exact ret _ ((-1), ff1, ff2, ff3) _ _ _ _ _ [0, 1, 2, 3, 4] dX12_leastLoop_60 ⟨rfl, (show (-1) ≤ (-1) from by decide), (show ((-1) : Int) ≤ 8 from by decide), ff1_h, ff2_h, ff3_h⟩ w (by decide) rfl
      · replace c_7 : z4 < (f0 0) := Int.not_le.mp (fun h => c_7 ((iI_le (by omega) (by omega) (Int.le_trans (by decide) z4_a) (Int.le_trans z4_b (by decide))).mpr h))
        refine lv_aload_n hx hb dX12_leastLoop_12 rfl (lv_at hl 1 rfl) ?_
        refine lv_iload_n hx hb dX12_leastLoop_13 rfl (lv_at hl 2 rfl) ?_
        refine lv_iload_n hx hb dX12_leastLoop_14 rfl (lv_at hl 0 rfl) ?_
        refine k_I (ce := 0) (sl := 0) (rest := []) (wr := [(a12, .inl (T 0, 9, .inl (cI ff1))), (a14, .inl (T 2, 9, .inl (cI ff2)))]) (r_V (f := 1) [0, 1, 4] M w V_HookedCityModel_310 G1875 G91 (c137_X12_canGo l D T _ a0 x0 z4 r0 a1 x2 x3 x4 x5 x6 x7 r1 x8 x9 x10 y0 x11 a2 a3 a4 a5 a6 a7 a8 a9 a10 a11 x12 a12 a13 a14 a15 x13 r2 r3 a16 x14 x15 a17 a18 x16 a19 x17 r4 a20 a21 x18 r5 a22 x19 x20 x21 x22 f0 ff3 x0_a x0_b (by omega) (by omega) x2_a x2_b x3_a x3_b x4_a x4_b x5_a x5_b x6_a x6_b x7_a x7_b x8_a x8_b x9_a x9_b x10_a x10_b x11_a x11_b x12_a x12_b x13_a x13_b x14_a x14_b x15_a x15_b x16_a x16_b x17_a x17_b x18_a x18_b x19_a x19_b x20_a x20_b x21_a x21_b x22_a x22_b f0_h ff3_h) 0 clX12 rfl rfl (by decide) rfl hl.1 rfl (Nat.le_of_ble_eq_true rfl) dX12_leastLoop_15 (by decide) (by decide) (by decide) (by decide)) w [0, 1, 4] [2, 3] rfl rfl (by decide) (by decide) rfl rfl (fun v z8 H locs hp w => ?_)
        have hv : iI z8 = v := hp.1
        subst hv
        have z8_a : 0 ≤ z8 := hp.2.1
        have z8_b : z8 ≤ 1 := hp.2.2
        have w : WD D A s.heap [(a12, .inl (T 0, 9, .inl (cI ff1))), (a14, .inl (T 2, 9, .inl (cI ff2))), (a0, .inr (11, [.int r0, .ref a1, .int (iI x2), .int (iI x3), .int (iI x4), .int (iI x5), .int (iI x6), .int (iI x7), .int r1, .int (iI x8), .int (iI x9), .int (iI x10), .long y0, .int (iI x11), .ref a2, .ref a3, .ref a4, .ref a5, .ref a6, .ref a7, .ref a8, .ref a9, .ref a10, .ref a11, .int (iI x12), .ref a12, .ref a13, .ref a14, .ref a15, .int (iI x13), .int r2, .int r3, .ref a16, .int (iI x14), .int (iI x15), .ref a17, .ref a18, .int (iI x16), .ref a19, .int (iI x17), .int r4, .ref a20, .ref a21, .int (iI x18), .int r5, .ref a22, .int (iI x19), .int (iI x20), .int (iI x21), .int (iI x22)])), (a2, .inl (T 0, 329, .inl (cI f0))), (a15, .inl (T 2, 9, .inl (cI ff3)))] H locs := w
        refine lv_if_ne (tgt := 24) hx hb dX12_leastLoop_18 (by decide) (fun c_9 => ?_) (fun c_9 => ?_)
        · replace c_9 : ¬ z8 = 0 := fun h => c_9 ((iz_eq (Int.le_trans (by decide) z8_a) (Int.le_trans z8_b (by decide))).mpr h)
          refine lv_aload_n hx hb dX12_leastLoop_24 rfl (lv_at hl 1 rfl) ?_
          refine r_get (v := .ref a15) M w 2 28 clX12 rfl (by decide) G1491 rfl rfl dX12_leastLoop_25 ?_
          refine lv_iload_n hx hb dX12_leastLoop_28 rfl (lv_at hl 0 rfl) ?_
          refine lv_iconst (v := iI 1) hx hb dX12_leastLoop_29 (by decide +kernel) ?_
          refine r_zast (x2 := iI 1) (ws' := [(a12, .inl (T 0, 9, .inl (cI ff1))), (a14, .inl (T 2, 9, .inl (cI ff2))), (a0, .inr (11, [.int r0, .ref a1, .int (iI x2), .int (iI x3), .int (iI x4), .int (iI x5), .int (iI x6), .int (iI x7), .int r1, .int (iI x8), .int (iI x9), .int (iI x10), .long y0, .int (iI x11), .ref a2, .ref a3, .ref a4, .ref a5, .ref a6, .ref a7, .ref a8, .ref a9, .ref a10, .ref a11, .int (iI x12), .ref a12, .ref a13, .ref a14, .ref a15, .int (iI x13), .int r2, .int r3, .ref a16, .int (iI x14), .int (iI x15), .ref a17, .ref a18, .int (iI x16), .ref a19, .int (iI x17), .int r4, .ref a20, .ref a21, .int (iI x18), .int r5, .ref a22, .int (iI x19), .int (iI x20), .int (iI x21), .int (iI x22)])), (a2, .inl (T 0, 329, .inl (cI f0))), (a15, .inl (T 2, 9, .inl (cI (upz ff3 z4 1))))]) M w 4 rfl (iI_in (by omega) (by omega) (by decide)) (nb_z (by omega) (by omega)) (by rw [cI_up (by omega) (by omega)]; rfl) dX12_leastLoop_30 (fun H locs w => ?_)
          refine lv_aload_n hx hb dX12_leastLoop_31 rfl (lv_at hl 1 rfl) ?_
          refine lv_iload_n hx hb dX12_leastLoop_32 rfl (lv_at hl 2 rfl) ?_
          refine lv_iconst (v := iI 1) hx hb dX12_leastLoop_33 (by decide +kernel) ?_
          refine r_iadd (v := iI (x0 + 1)) M (iI_add _ _) dX12_leastLoop_34 ?_
          refine k_I (ce := 0) (sl := 0) (rest := []) (wr := []) (r_V (f := 12) [2, 3, 0, 1, 4] M w V_HookedCityModel_316 G1867 G89 (c148_X12_mostFrom l D T _ a0 (x0 + 1) r0 a1 x2 x3 x4 x5 x6 x7 r1 x8 x9 x10 y0 x11 a2 a3 a4 a5 a6 a7 a8 a9 a10 a11 x12 a12 a13 a14 a15 x13 r2 r3 a16 x14 x15 a17 a18 x16 a19 x17 r4 a20 a21 x18 r5 a22 x19 x20 x21 x22 f0 ff1 ff2 (upz ff3 z4 1) (by omega) (by omega) x2_a x2_b x3_a x3_b x4_a x4_b x5_a x5_b x6_a x6_b x7_a x7_b x8_a x8_b x9_a x9_b x10_a x10_b x11_a x11_b x12_a x12_b x13_a x13_b x14_a x14_b x15_a x15_b x16_a x16_b x17_a x17_b x18_a x18_b x19_a x19_b x20_a x20_b x21_a x21_b x22_a x22_b f0_h ff1_h ff2_h (rng_up ff3_h (by omega) (by omega))) 2 clX12 rfl rfl (by decide) rfl hl.1 rfl (Nat.le_of_ble_eq_true rfl) dX12_leastLoop_35 (by decide) (by decide) (by decide) (by decide)) w [2, 3, 0, 1, 4] [] rfl rfl (by decide) (by decide) rfl rfl (fun v u H locs hp w => ?_)
          obtain ⟨z10, ff11, ff12⟩ := u
          have hv : iI z10 = v := hp.1
          subst hv
          have z10_a : 0 ≤ z10 := hp.2.1
          have z10_b : z10 ≤ 9 := hp.2.2.1
          have ff11_h : rng (-1) 8 ff11 := hp.2.2.2.1
          have ff12_h : rng 0 1 ff12 := hp.2.2.2.2
          have w : WD D A s.heap [(a0, .inr (11, [.int r0, .ref a1, .int (iI x2), .int (iI x3), .int (iI x4), .int (iI x5), .int (iI x6), .int (iI x7), .int r1, .int (iI x8), .int (iI x9), .int (iI x10), .long y0, .int (iI x11), .ref a2, .ref a3, .ref a4, .ref a5, .ref a6, .ref a7, .ref a8, .ref a9, .ref a10, .ref a11, .int (iI x12), .ref a12, .ref a13, .ref a14, .ref a15, .int (iI x13), .int r2, .int r3, .ref a16, .int (iI x14), .int (iI x15), .ref a17, .ref a18, .int (iI x16), .ref a19, .int (iI x17), .int r4, .ref a20, .ref a21, .int (iI x18), .int r5, .ref a22, .int (iI x19), .int (iI x20), .int (iI x21), .int (iI x22)])), (a2, .inl (T 0, 329, .inl (cI f0))), (a12, .inl (T 0, 9, .inl (cI ff11))), (a14, .inl (T 2, 9, .inl (cI ff12))), (a15, .inl (T 2, 9, .inl (cI (upz ff3 z4 1))))] H locs := w
          refine lv_iconst (v := iI 1) hx hb dX12_leastLoop_38 (by decide +kernel) ?_
          refine r_iadd (v := iI (z10 + 1)) M (iI_add _ _) dX12_leastLoop_39 ?_
          refine lv_iload_n hx hb dX12_leastLoop_40 rfl (lv_at hl 3 rfl) ?_
          refine lv_icmp_ne (tgt := 46) hx hb dX12_leastLoop_41 (by decide) (fun c_13 => ?_) (fun c_13 => ?_)
          · replace c_13 : ¬ (z10 + 1) = x1 := fun h => c_13 ((iI_eq (by omega) (by omega) (Int.le_trans (by decide) x1_a) (Int.le_trans x1_b (by decide))).mpr h)
            refine lv_aload_n hx hb dX12_leastLoop_46 rfl (lv_at hl 1 rfl) ?_
            refine r_get (v := .ref a15) M w 0 28 clX12 rfl (by decide) G1491 rfl rfl dX12_leastLoop_47 ?_
            refine lv_iload_n hx hb dX12_leastLoop_50 rfl (lv_at hl 0 rfl) ?_
            refine lv_iconst (v := iI 0) hx hb dX12_leastLoop_51 (by decide +kernel) ?_
            refine r_zast (x2 := iI 0) (ws' := [(a0, .inr (11, [.int r0, .ref a1, .int (iI x2), .int (iI x3), .int (iI x4), .int (iI x5), .int (iI x6), .int (iI x7), .int r1, .int (iI x8), .int (iI x9), .int (iI x10), .long y0, .int (iI x11), .ref a2, .ref a3, .ref a4, .ref a5, .ref a6, .ref a7, .ref a8, .ref a9, .ref a10, .ref a11, .int (iI x12), .ref a12, .ref a13, .ref a14, .ref a15, .int (iI x13), .int r2, .int r3, .ref a16, .int (iI x14), .int (iI x15), .ref a17, .ref a18, .int (iI x16), .ref a19, .int (iI x17), .int r4, .ref a20, .ref a21, .int (iI x18), .int r5, .ref a22, .int (iI x19), .int (iI x20), .int (iI x21), .int (iI x22)])), (a2, .inl (T 0, 329, .inl (cI f0))), (a12, .inl (T 0, 9, .inl (cI ff11))), (a14, .inl (T 2, 9, .inl (cI ff12))), (a15, .inl (T 2, 9, .inl (cI (upz (upz ff3 z4 1) z4 0))))]) M w 4 rfl (iI_in (by omega) (by omega) (by decide)) (nb_z (by omega) (by omega)) (by rw [cI_up (by omega) (by omega)]; rfl) dX12_leastLoop_52 (fun H locs w => ?_)
            refine lv_iinc (v := iI (z4 + 1)) (lv' := [(3, .int (iI (z4 + 1))), (0, .ref a0), (1, .int (iI x0)), (2, .int (iI x1))]) hx hb dX12_leastLoop_53 hl (k := 0) rfl (ii_inc (by decide +kernel)) (by decide) rfl (fun ls hl => ?_)
            refine lv_goto (tgt := 2) hx hb dX12_leastLoop_56 (by decide) ?_
            exact ih1 ff11 ff12 (upz (upz ff3 z4 1) z4 0) (z4 + 1) _ _ _ ff11_h ff12_h (rng_up (rng_up ff3_h (by omega) (by omega)) (by omega) (by omega)) (by omega) (by omega) (by omega) w (lv_sub hl [0, 1, 2, 3] rfl)
          · replace c_13 := (iI_eq (by omega) (by omega) (Int.le_trans (by decide) x1_a) (Int.le_trans x1_b (by decide))).mp c_13
            refine lv_iload_n hx hb dX12_leastLoop_44 rfl (lv_at hl 0 rfl) ?_
            exact ret _ (z4, ff11, ff12, (upz ff3 z4 1)) _ _ _ _ _ [0, 1, 2, 3, 4] dX12_leastLoop_45 ⟨rfl, (show (-1) ≤ z4 from by omega), (show z4 ≤ 8 from by omega), ff11_h, ff12_h, (rng_up ff3_h (by omega) (by omega))⟩ w (by decide) rfl
        · replace c_9 := (iz_eq (Int.le_trans (by decide) z8_a) (Int.le_trans z8_b (by decide))).mp c_9
          refine lv_goto (tgt := 53) hx hb dX12_leastLoop_21 (by decide) ?_
          refine lv_iinc (v := iI (z4 + 1)) (lv' := [(3, .int (iI (z4 + 1))), (0, .ref a0), (1, .int (iI x0)), (2, .int (iI x1))]) hx hb dX12_leastLoop_53 hl (k := 0) rfl (ii_inc (by decide +kernel)) (by decide) rfl (fun ls hl => ?_)
          refine lv_goto (tgt := 2) hx hb dX12_leastLoop_56 (by decide) ?_
          exact ih1 ff1 ff2 ff3 (z4 + 1) _ _ _ ff1_h ff2_h ff3_h (by omega) (by omega) (by omega) (w.sub [2, 3, 0, 1, 4] (by decide) rfl) (lv_sub hl [0, 1, 2, 3] rfl)
  exact loop1 ((9 : Int).toNat + 1) f1 f2 f3 0 _ _ _ f1_h f2_h f3_h (by decide) (by decide) (Nat.lt_succ_self _) w (lv_sub hl [0, 1, 2, 3] rfl)
set_option maxRecDepth 100000 in
set_option maxHeartbeats 4000000 in
theorem c150_X12_match (l : Launch) (D : va_G) (T : Nat → ClassId) (sz : Nat) (a0 : Nat) (r0 : Int32) (a1 : Nat) (x0 : Int) (x1 : Int) (x2 : Int) (x3 : Int) (x4 : Int) (x5 : Int) (r1 : Int32) (x6 : Int) (x7 : Int) (x8 : Int) (y0 : Int64) (x9 : Int) (a2 : Nat) (a3 : Nat) (a4 : Nat) (a5 : Nat) (a6 : Nat) (a7 : Nat) (a8 : Nat) (a9 : Nat) (a10 : Nat) (a11 : Nat) (x10 : Int) (a12 : Nat) (a13 : Nat) (a14 : Nat) (a15 : Nat) (x11 : Int) (r2 : Int32) (r3 : Int32) (a16 : Nat) (x12 : Int) (x13 : Int) (a17 : Nat) (a18 : Nat) (x14 : Int) (a19 : Nat) (x15 : Int) (r4 : Int32) (a20 : Nat) (a21 : Nat) (x16 : Int) (r5 : Int32) (a22 : Nat) (x17 : Int) (x18 : Int) (x19 : Int) (x20 : Int) (f0 : Int → Int) (f1 : Int → Int) (f2 : Nat → Int32) (f3 : Int → Int) (f4 : Int → Int) (x0_a : 0 ≤ x0) (x0_b : x0 ≤ 940) (x1_a : 0 ≤ x1) (x1_b : x1 ≤ 940) (x2_a : 0 ≤ x2) (x2_b : x2 ≤ 940) (x3_a : 0 ≤ x3) (x3_b : x3 ≤ 940) (x4_a : 0 ≤ x4) (x4_b : x4 ≤ 940) (x5_a : 0 ≤ x5) (x5_b : x5 ≤ 4) (x6_a : (-2147483648) ≤ x6) (x6_b : x6 ≤ 2147483647) (x7_a : (-2147483648) ≤ x7) (x7_b : x7 ≤ 2147483647) (x8_a : 0 ≤ x8) (x8_b : x8 ≤ 940) (x9_a : (-2147483648) ≤ x9) (x9_b : x9 ≤ 2147483647) (x10_a : 0 ≤ x10) (x10_b : x10 ≤ 8) (x11_a : 0 ≤ x11) (x11_b : x11 ≤ 9) (x12_a : (-1) ≤ x12) (x12_b : x12 ≤ 9) (x13_a : (-1) ≤ x13) (x13_b : x13 ≤ 8) (x14_a : 0 ≤ x14) (x14_b : x14 ≤ 9) (x15_a : 0 ≤ x15) (x15_b : x15 ≤ 64) (x16_a : 0 ≤ x16) (x16_b : x16 ≤ 40) (x17_a : 0 ≤ x17) (x17_b : x17 ≤ 40) (x18_a : 0 ≤ x18) (x18_b : x18 ≤ 20) (x19_a : 0 ≤ x19) (x19_b : x19 ≤ 8) (x20_a : 0 ≤ x20) (x20_b : x20 ≤ 39) (f0_h : nowI f0) (f1_h : rng (-1) 8 f1) (f3_h : rng 0 1 f3) (f4_h : rng 0 1 f4) : Met l yX12_match (Cond.code yX12_match cX12_match 4 (some .int) :: GW) (Rm 14 0 0) (cPre [.ref a0] D T [(a0, .inr (11, [.int r0, .ref a1, .int (iI x0), .int (iI x1), .int (iI x2), .int (iI x3), .int (iI x4), .int (iI x5), .int r1, .int (iI x6), .int (iI x7), .int (iI x8), .long y0, .int (iI x9), .ref a2, .ref a3, .ref a4, .ref a5, .ref a6, .ref a7, .ref a8, .ref a9, .ref a10, .ref a11, .int (iI x10), .ref a12, .ref a13, .ref a14, .ref a15, .int (iI x11), .int r2, .int r3, .ref a16, .int (iI x12), .int (iI x13), .ref a17, .ref a18, .int (iI x14), .ref a19, .int (iI x15), .int r4, .ref a20, .ref a21, .int (iI x16), .int r5, .ref a22, .int (iI x17), .int (iI x18), .int (iI x19), .int (iI x20)])), (a2, .inl (T 0, 329, .inl (cI f0))), (a12, .inl (T 0, 9, .inl (cI f1))), (a13, .inl (T 0, 9, .inl f2)), (a14, .inl (T 2, 9, .inl (cI f3))), (a15, .inl (T 2, 9, .inl (cI f4)))] sz) (qI D [(a0, .inr (11, [.int r0, .ref a1, .int (iI x0), .int (iI x1), .int (iI x2), .int (iI x3), .int (iI x4), .int (iI x5), .int r1, .int (iI x6), .int (iI x7), .int (iI x8), .long y0, .int (iI x9), .ref a2, .ref a3, .ref a4, .ref a5, .ref a6, .ref a7, .ref a8, .ref a9, .ref a10, .ref a11, .int (iI x10), .ref a12, .ref a13, .ref a14, .ref a15, .int (iI x11), .int r2, .int r3, .ref a16, .int (iI x12), .int (iI x13), .ref a17, .ref a18, .int (iI x14), .ref a19, .int (iI x15), .int r4, .ref a20, .ref a21, .int (iI x16), .int r5, .ref a22, .int (iI x17), .int (iI x18), .int (iI x19), .int (iI x20)])), (a2, .inl (T 0, 329, .inl (cI f0))), (a12, .inl (T 0, 9, .inl (cI f1))), (a13, .inl (T 0, 9, .inl f2)), (a14, .inl (T 2, 9, .inl (cI f3))), (a15, .inl (T 2, 9, .inl (cI f4)))] sz (fun (v : Int32) (u : Int × Int32 × Int × Int32 × Int32 × (Int → Int) × (Nat → Int32) × (Int → Int) × (Int → Int)) => iI u.1 = v ∧ (-2147483648) ≤ u.1 ∧ u.1 ≤ 2147483647 ∧ 0 ≤ u.2.2.1 ∧ u.2.2.1 ≤ 9 ∧ rng (-1) 8 u.2.2.2.2.2.1 ∧ rng 0 1 u.2.2.2.2.2.2.2.1 ∧ rng 0 1 u.2.2.2.2.2.2.2.2) (fun u => [(a0, .inr (11, [.int u.2.1, .ref a1, .int (iI x0), .int (iI x1), .int (iI x2), .int (iI x3), .int (iI x4), .int (iI x5), .int r1, .int (iI x6), .int (iI x7), .int (iI x8), .long y0, .int (iI x9), .ref a2, .ref a3, .ref a4, .ref a5, .ref a6, .ref a7, .ref a8, .ref a9, .ref a10, .ref a11, .int (iI x10), .ref a12, .ref a13, .ref a14, .ref a15, .int (iI u.2.2.1), .int u.2.2.2.1, .int u.2.2.2.2.1, .ref a16, .int (iI x12), .int (iI x13), .ref a17, .ref a18, .int (iI x14), .ref a19, .int (iI x15), .int r4, .ref a20, .ref a21, .int (iI x16), .int r5, .ref a22, .int (iI x17), .int (iI x18), .int (iI x19), .int (iI x20)])), (a2, .inl (T 0, 329, .inl (cI f0))), (a12, .inl (T 0, 9, .inl (cI u.2.2.2.2.2.1))), (a13, .inl (T 0, 9, .inl u.2.2.2.2.2.2.1)), (a14, .inl (T 2, 9, .inl (cI u.2.2.2.2.2.2.2.1))), (a15, .inl (T 2, 9, .inl (cI u.2.2.2.2.2.2.2.2)))])) 0 0 (va_A [(a0, .inr (11, [.int r0, .ref a1, .int (iI x0), .int (iI x1), .int (iI x2), .int (iI x3), .int (iI x4), .int (iI x5), .int r1, .int (iI x6), .int (iI x7), .int (iI x8), .long y0, .int (iI x9), .ref a2, .ref a3, .ref a4, .ref a5, .ref a6, .ref a7, .ref a8, .ref a9, .ref a10, .ref a11, .int (iI x10), .ref a12, .ref a13, .ref a14, .ref a15, .int (iI x11), .int r2, .int r3, .ref a16, .int (iI x12), .int (iI x13), .ref a17, .ref a18, .int (iI x14), .ref a19, .int (iI x15), .int r4, .ref a20, .ref a21, .int (iI x16), .int r5, .ref a22, .int (iI x17), .int (iI x18), .int (iI x19), .int (iI x20)])), (a2, .inl (T 0, 329, .inl (cI f0))), (a12, .inl (T 0, 9, .inl (cI f1))), (a13, .inl (T 0, 9, .inl f2)), (a14, .inl (T 2, 9, .inl (cI f3))), (a15, .inl (T 2, 9, .inl (cI f4)))] sz) := by
  refine e_I (by decide) (Nat.le_of_ble_eq_true rfl) ?_
  intro p e s m args below meth c A Q ls M hin w ret hl
  have hx := M.1.1
  have hb := M.1.2.1
  have hl : lv_has ls 4 [(0, .ref a0)] := hl
  refine lv_aload_n hx hb dX12_match_0 rfl (lv_at hl 0 rfl) ?_
  refine lv_iconst (v := iI 0) hx hb dX12_match_1 (by decide +kernel) ?_
  refine r_put (ws' := [(a0, .inr (11, [.int (iI 0), .ref a1, .int (iI x0), .int (iI x1), .int (iI x2), .int (iI x3), .int (iI x4), .int (iI x5), .int r1, .int (iI x6), .int (iI x7), .int (iI x8), .long y0, .int (iI x9), .ref a2, .ref a3, .ref a4, .ref a5, .ref a6, .ref a7, .ref a8, .ref a9, .ref a10, .ref a11, .int (iI x10), .ref a12, .ref a13, .ref a14, .ref a15, .int (iI x11), .int r2, .int r3, .ref a16, .int (iI x12), .int (iI x13), .ref a17, .ref a18, .int (iI x14), .ref a19, .int (iI x15), .int r4, .ref a20, .ref a21, .int (iI x16), .int r5, .ref a22, .int (iI x17), .int (iI x18), .int (iI x19), .int (iI x20)])), (a2, .inl (T 0, 329, .inl (cI f0))), (a12, .inl (T 0, 9, .inl (cI f1))), (a13, .inl (T 0, 9, .inl f2)), (a14, .inl (T 2, 9, .inl (cI f3))), (a15, .inl (T 2, 9, .inl (cI f4)))]) M w 0 0 clX12 rfl (by decide) G1463 rfl rfl rfl rfl (Nat.le_of_ble_eq_true rfl) rfl dX12_match_2 (fun H locs w => ?_)
  refine lv_iconst (v := iI 0) hx hb dX12_match_5 (by decide +kernel) ?_
  refine lv_istore_n (lv' := [(1, .int (iI 0)), (0, .ref a0)]) hx hb dX12_match_6 rfl hl (by decide) rfl (fun ls hl => ?_)
  have loop1 : ∀ (k1 : Nat) (ff1 : Int → Int) (z2 : Int) (H : Heap) (locs : List Loc) (ls : Array Slot), rng 0 1 ff1 → 0 ≤ z2 → z2 ≤ 9 → ((9 - z2) : Int).toNat < k1 → WD D A s.heap [(a0, .inr (11, [.int (iI 0), .ref a1, .int (iI x0), .int (iI x1), .int (iI x2), .int (iI x3), .int (iI x4), .int (iI x5), .int r1, .int (iI x6), .int (iI x7), .int (iI x8), .long y0, .int (iI x9), .ref a2, .ref a3, .ref a4, .ref a5, .ref a6, .ref a7, .ref a8, .ref a9, .ref a10, .ref a11, .int (iI x10), .ref a12, .ref a13, .ref a14, .ref a15, .int (iI x11), .int r2, .int r3, .ref a16, .int (iI x12), .int (iI x13), .ref a17, .ref a18, .int (iI x14), .ref a19, .int (iI x15), .int r4, .ref a20, .ref a21, .int (iI x16), .int r5, .ref a22, .int (iI x17), .int (iI x18), .int (iI x19), .int (iI x20)])), (a2, .inl (T 0, 329, .inl (cI f0))), (a12, .inl (T 0, 9, .inl (cI f1))), (a13, .inl (T 0, 9, .inl f2)), (a14, .inl (T 2, 9, .inl (cI f3))), (a15, .inl (T 2, 9, .inl (cI ff1)))] H locs → lv_has ls 4 [(1, .int (iI z2)), (0, .ref a0)] → W p l e (Rm 14 0 0) s m args below meth c H locs 0 0 Q (F0 m 7 ls []) := by
    intro k1
    induction k1 with
    | zero => intro ff1 z2 H locs ls ff1_h z2_a z2_b hm; exact absurd hm (Nat.not_lt_zero _)
    | succ k1 ih1 =>
      intro ff1 z2 H locs ls ff1_h z2_a z2_b hm1 w hl
      refine lv_iload_n hx hb dX12_match_7 rfl (lv_at hl 0 rfl) ?_
      refine lv_bipush (v := iI 9) hx hb dX12_match_8 (by decide +kernel) ?_
      refine lv_icmp_ge (tgt := 26) hx hb dX12_match_10 (by decide) (fun c_3 => ?_) (fun c_3 => ?_)
      · replace c_3 := (iI_le (by decide) (by decide) (Int.le_trans (by decide) z2_a) (Int.le_trans z2_b (by decide))).mp c_3
        refine lv_aload_n hx hb dX12_match_26 rfl (lv_at hl 1 rfl) ?_
        refine lv_iconst (v := iI 0) hx hb dX12_match_27 (by decide +kernel) ?_
        refine k_I (ce := 0) (sl := 0) (rest := []) (wr := [(a13, .inl (T 0, 9, .inl f2))]) (r_V (f := 12) [0, 1, 2, 4, 5] M w V_HookedCityModel_316 G1867 G89 (c148_X12_mostFrom l D T _ a0 0 (iI 0) a1 x0 x1 x2 x3 x4 x5 r1 x6 x7 x8 y0 x9 a2 a3 a4 a5 a6 a7 a8 a9 a10 a11 x10 a12 a13 a14 a15 x11 r2 r3 a16 x12 x13 a17 a18 x14 a19 x15 r4 a20 a21 x16 r5 a22 x17 x18 x19 x20 f0 f1 f3 ff1 (by decide) (by decide) x0_a x0_b x1_a x1_b x2_a x2_b x3_a x3_b x4_a x4_b x5_a x5_b x6_a x6_b x7_a x7_b x8_a x8_b x9_a x9_b x10_a x10_b x11_a x11_b x12_a x12_b x13_a x13_b x14_a x14_b x15_a x15_b x16_a x16_b x17_a x17_b x18_a x18_b x19_a x19_b x20_a x20_b f0_h f1_h f3_h ff1_h) 0 clX12 rfl rfl (by decide) rfl hl.1 rfl (Nat.le_of_ble_eq_true rfl) dX12_match_28 (by decide) (by decide) (by decide) (by decide)) w [0, 1, 2, 4, 5] [3] rfl rfl (by decide) (by decide) rfl rfl (fun v u H locs hp w => ?_)
        obtain ⟨z4, ff5, ff6⟩ := u
        have hv : iI z4 = v := hp.1
        subst hv
        have z4_a : 0 ≤ z4 := hp.2.1
        have z4_b : z4 ≤ 9 := hp.2.2.1
        have ff5_h : rng (-1) 8 ff5 := hp.2.2.2.1
        have ff6_h : rng 0 1 ff6 := hp.2.2.2.2
        have w : WD D A s.heap [(a13, .inl (T 0, 9, .inl f2)), (a0, .inr (11, [.int (iI 0), .ref a1, .int (iI x0), .int (iI x1), .int (iI x2), .int (iI x3), .int (iI x4), .int (iI x5), .int r1, .int (iI x6), .int (iI x7), .int (iI x8), .long y0, .int (iI x9), .ref a2, .ref a3, .ref a4, .ref a5, .ref a6, .ref a7, .ref a8, .ref a9, .ref a10, .ref a11, .int (iI x10), .ref a12, .ref a13, .ref a14, .ref a15, .int (iI x11), .int r2, .int r3, .ref a16, .int (iI x12), .int (iI x13), .ref a17, .ref a18, .int (iI x14), .ref a19, .int (iI x15), .int r4, .ref a20, .ref a21, .int (iI x16), .int r5, .ref a22, .int (iI x17), .int (iI x18), .int (iI x19), .int (iI x20)])), (a2, .inl (T 0, 329, .inl (cI f0))), (a12, .inl (T 0, 9, .inl (cI ff5))), (a14, .inl (T 2, 9, .inl (cI ff6))), (a15, .inl (T 2, 9, .inl (cI ff1)))] H locs := w
        refine lv_istore_n (lv' := [(1, .int (iI z4)), (0, .ref a0)]) hx hb dX12_match_31 rfl hl (by decide) rfl (fun ls hl => ?_)
        refine lv_iload_n hx hb dX12_match_32 rfl (lv_at hl 0 rfl) ?_
        refine lv_istore_n (lv' := [(2, .int (iI z4)), (1, .int (iI z4)), (0, .ref a0)]) hx hb dX12_match_33 rfl hl (by decide) rfl (fun ls hl => ?_)
        refine lv_iconst (v := iI 0) hx hb dX12_match_34 (by decide +kernel) ?_
        refine lv_istore_n (lv' := [(3, .int (iI 0)), (2, .int (iI z4)), (1, .int (iI z4)), (0, .ref a0)]) hx hb dX12_match_35 rfl hl (by decide) rfl (fun ls hl => ?_)
        have loop2 : ∀ (k2 : Nat) (ff7 : Int → Int) (ff8 : Nat → Int32) (ff9 : Int → Int) (ff10 : Int → Int) (z11 : Int) (z12 : Int) (H : Heap) (locs : List Loc) (ls : Array Slot), rng (-1) 8 ff7 → rng 0 1 ff9 → rng 0 1 ff10 → 0 ≤ z11 → z11 ≤ 9 → (-9) ≤ z12 → z12 ≤ 9 → 0 ≤ (z12 + z11) → ((9 - z11) : Int).toNat < k2 → WD D A s.heap [(a13, .inl (T 0, 9, .inl ff8)), (a0, .inr (11, [.int (iI 0), .ref a1, .int (iI x0), .int (iI x1), .int (iI x2), .int (iI x3), .int (iI x4), .int (iI x5), .int r1, .int (iI x6), .int (iI x7), .int (iI x8), .long y0, .int (iI x9), .ref a2, .ref a3, .ref a4, .ref a5, .ref a6, .ref a7, .ref a8, .ref a9, .ref a10, .ref a11, .int (iI x10), .ref a12, .ref a13, .ref a14, .ref a15, .int (iI x11), .int r2, .int r3, .ref a16, .int (iI x12), .int (iI x13), .ref a17, .ref a18, .int (iI x14), .ref a19, .int (iI x15), .int r4, .ref a20, .ref a21, .int (iI x16), .int r5, .ref a22, .int (iI x17), .int (iI x18), .int (iI x19), .int (iI x20)])), (a2, .inl (T 0, 329, .inl (cI f0))), (a12, .inl (T 0, 9, .inl (cI ff7))), (a14, .inl (T 2, 9, .inl (cI ff9))), (a15, .inl (T 2, 9, .inl (cI ff10)))] H locs → lv_has ls 4 [(3, .int (iI z11)), (2, .int (iI z12)), (1, .int (iI z4)), (0, .ref a0)] → W p l e (Rm 14 0 0) s m args below meth c H locs 0 0 Q (F0 m 36 ls []) := by
          intro k2
          induction k2 with
          | zero => intro ff7 ff8 ff9 ff10 z11 z12 H locs ls ff7_h ff9_h ff10_h z11_a z11_b z12_a z12_b q2_0 hm; exact absurd hm (Nat.not_lt_zero _)
          | succ k2 ih2 =>
            intro ff7 ff8 ff9 ff10 z11 z12 H locs ls ff7_h ff9_h ff10_h z11_a z11_b z12_a z12_b q2_0 hm2 w hl
            refine lv_iload_n hx hb dX12_match_36 rfl (lv_at hl 0 rfl) ?_
            refine lv_aload_n hx hb dX12_match_37 rfl (lv_at hl 3 rfl) ?_
            refine r_get (v := .ref a2) M w 1 14 clX12 rfl (by decide) G1477 rfl rfl dX12_match_38 ?_
            refine lv_iconst (v := iI 0) hx hb dX12_match_41 (by decide +kernel) ?_
            refine r_iald (v := iI (f0 0)) M w 2 rfl (iI_in (by decide) (by decide) (by decide)) (cI_at (by omega) (by omega)) dX12_match_42 ?_
            have hh13 : (-2147483648) ≤ (f0 0) ∧ (f0 0) ≤ 2147483647 := f0_h.1 0
            have hh14 : 0 ≤ (f0 0) ∧ (f0 0) ≤ 9 := (f0_h.2.1 0).1 (by omega)
            refine lv_icmp_ge (tgt := 77) hx hb dX12_match_43 (by decide) (fun c_15 => ?_) (fun c_15 => ?_)
            · replace c_15 := (iI_le (by omega) (by omega) (Int.le_trans (by decide) z11_a) (Int.le_trans z11_b (by decide))).mp c_15
              refine lv_aload_n hx hb dX12_match_77 rfl (lv_at hl 3 rfl) ?_
              refine lv_aload_n hx hb dX12_match_78 rfl (lv_at hl 3 rfl) ?_
              refine r_get (v := .ref a2) M w 1 14 clX12 rfl (by decide) G1477 rfl rfl dX12_match_79 ?_
              refine lv_iconst (v := iI 0) hx hb dX12_match_82 (by decide +kernel) ?_
              refine r_iald (v := iI (f0 0)) M w 2 rfl (iI_in (by decide) (by decide) (by decide)) (cI_at (by omega) (by omega)) dX12_match_83 ?_
              have hh16 : (-2147483648) ≤ (f0 0) ∧ (f0 0) ≤ 2147483647 := f0_h.1 0
              have hh17 : 0 ≤ (f0 0) ∧ (f0 0) ≤ 9 := (f0_h.2.1 0).1 (by omega)
              refine r_put (ws' := [(a13, .inl (T 0, 9, .inl ff8)), (a0, .inr (11, [.int (iI 0), .ref a1, .int (iI x0), .int (iI x1), .int (iI x2), .int (iI x3), .int (iI x4), .int (iI x5), .int r1, .int (iI x6), .int (iI x7), .int (iI x8), .long y0, .int (iI x9), .ref a2, .ref a3, .ref a4, .ref a5, .ref a6, .ref a7, .ref a8, .ref a9, .ref a10, .ref a11, .int (iI x10), .ref a12, .ref a13, .ref a14, .ref a15, .int (iI (f0 0)), .int r2, .int r3, .ref a16, .int (iI x12), .int (iI x13), .ref a17, .ref a18, .int (iI x14), .ref a19, .int (iI x15), .int r4, .ref a20, .ref a21, .int (iI x16), .int r5, .ref a22, .int (iI x17), .int (iI x18), .int (iI x19), .int (iI x20)])), (a2, .inl (T 0, 329, .inl (cI f0))), (a12, .inl (T 0, 9, .inl (cI ff7))), (a14, .inl (T 2, 9, .inl (cI ff9))), (a15, .inl (T 2, 9, .inl (cI ff10)))]) M w 1 29 clX12 rfl (by decide) G1492 rfl rfl rfl rfl (Nat.le_of_ble_eq_true rfl) rfl dX12_match_84 (fun H locs w => ?_)
              refine lv_aload_n hx hb dX12_match_87 rfl (lv_at hl 3 rfl) ?_
              refine lv_iconst (v := iI 1) hx hb dX12_match_88 (by decide +kernel) ?_
              refine r_put (ws' := [(a13, .inl (T 0, 9, .inl ff8)), (a0, .inr (11, [.int (iI 0), .ref a1, .int (iI x0), .int (iI x1), .int (iI x2), .int (iI x3), .int (iI x4), .int (iI x5), .int r1, .int (iI x6), .int (iI x7), .int (iI x8), .long y0, .int (iI x9), .ref a2, .ref a3, .ref a4, .ref a5, .ref a6, .ref a7, .ref a8, .ref a9, .ref a10, .ref a11, .int (iI x10), .ref a12, .ref a13, .ref a14, .ref a15, .int (iI (f0 0)), .int (iI 1), .int r3, .ref a16, .int (iI x12), .int (iI x13), .ref a17, .ref a18, .int (iI x14), .ref a19, .int (iI x15), .int r4, .ref a20, .ref a21, .int (iI x16), .int r5, .ref a22, .int (iI x17), .int (iI x18), .int (iI x19), .int (iI x20)])), (a2, .inl (T 0, 329, .inl (cI f0))), (a12, .inl (T 0, 9, .inl (cI ff7))), (a14, .inl (T 2, 9, .inl (cI ff9))), (a15, .inl (T 2, 9, .inl (cI ff10)))]) M w 1 30 clX12 rfl (by decide) G1493 rfl rfl (by decide +kernel) (by decide +kernel) (Nat.le_of_ble_eq_true rfl) rfl dX12_match_89 (fun H locs w => ?_)
              refine lv_aload_n hx hb dX12_match_92 rfl (lv_at hl 3 rfl) ?_
              refine lv_iconst (v := iI 1) hx hb dX12_match_93 (by decide +kernel) ?_
              refine r_put (ws' := [(a13, .inl (T 0, 9, .inl ff8)), (a0, .inr (11, [.int (iI 0), .ref a1, .int (iI x0), .int (iI x1), .int (iI x2), .int (iI x3), .int (iI x4), .int (iI x5), .int r1, .int (iI x6), .int (iI x7), .int (iI x8), .long y0, .int (iI x9), .ref a2, .ref a3, .ref a4, .ref a5, .ref a6, .ref a7, .ref a8, .ref a9, .ref a10, .ref a11, .int (iI x10), .ref a12, .ref a13, .ref a14, .ref a15, .int (iI (f0 0)), .int (iI 1), .int (iI 1), .ref a16, .int (iI x12), .int (iI x13), .ref a17, .ref a18, .int (iI x14), .ref a19, .int (iI x15), .int r4, .ref a20, .ref a21, .int (iI x16), .int r5, .ref a22, .int (iI x17), .int (iI x18), .int (iI x19), .int (iI x20)])), (a2, .inl (T 0, 329, .inl (cI f0))), (a12, .inl (T 0, 9, .inl (cI ff7))), (a14, .inl (T 2, 9, .inl (cI ff9))), (a15, .inl (T 2, 9, .inl (cI ff10)))]) M w 1 31 clX12 rfl (by decide) G1494 rfl rfl (by decide +kernel) (by decide +kernel) (Nat.le_of_ble_eq_true rfl) rfl dX12_match_94 (fun H locs w => ?_)
              refine lv_iload_n hx hb dX12_match_97 rfl (lv_at hl 2 rfl) ?_
              exact ret _ (z4, (iI 0), (f0 0), (iI 1), (iI 1), ff7, ff8, ff9, ff10) _ _ _ _ _ [1, 2, 3, 0, 4, 5] dX12_match_98 ⟨rfl, (show (-2147483648) ≤ z4 from by omega), (show z4 ≤ 2147483647 from by omega), (show 0 ≤ (f0 0) from by omega), (show (f0 0) ≤ 9 from by omega), ff7_h, ff9_h, ff10_h⟩ w (by decide) rfl
            · replace c_15 : z11 < (f0 0) := Int.not_le.mp (fun h => c_15 ((iI_le (by omega) (by omega) (Int.le_trans (by decide) z11_a) (Int.le_trans z11_b (by decide))).mpr h))
              refine lv_aload_n hx hb dX12_match_46 rfl (lv_at hl 3 rfl) ?_
              refine r_get (v := .ref a13) M w 1 26 clX12 rfl (by decide) G1489 rfl rfl dX12_match_47 ?_
              refine lv_iload_n hx hb dX12_match_50 rfl (lv_at hl 0 rfl) ?_
              refine lv_aload_n hx hb dX12_match_51 rfl (lv_at hl 3 rfl) ?_
              refine lv_iload_n hx hb dX12_match_52 rfl (lv_at hl 0 rfl) ?_
              refine lv_iload_n hx hb dX12_match_53 rfl (lv_at hl 1 rfl) ?_
              refine k_I (ce := 0) (sl := 0) (rest := [.int (iI z11), .ref a13]) (wr := [(a13, .inl (T 0, 9, .inl ff8))]) (r_V (f := 13) [1, 2, 3, 4, 5] M w V_HookedCityModel_319 G1879 G92 (c149_X12_leastLoop l D T _ a0 z11 z12 (iI 0) a1 x0 x1 x2 x3 x4 x5 r1 x6 x7 x8 y0 x9 a2 a3 a4 a5 a6 a7 a8 a9 a10 a11 x10 a12 a13 a14 a15 x11 r2 r3 a16 x12 x13 a17 a18 x14 a19 x15 r4 a20 a21 x16 r5 a22 x17 x18 x19 x20 f0 ff7 ff9 ff10 (by omega) (by omega) (by omega) (by omega) x0_a x0_b x1_a x1_b x2_a x2_b x3_a x3_b x4_a x4_b x5_a x5_b x6_a x6_b x7_a x7_b x8_a x8_b x9_a x9_b x10_a x10_b x11_a x11_b x12_a x12_b x13_a x13_b x14_a x14_b x15_a x15_b x16_a x16_b x17_a x17_b x18_a x18_b x19_a x19_b x20_a x20_b f0_h ff7_h ff9_h ff10_h) 1 clX12 rfl rfl (by decide) rfl hl.1 rfl (Nat.le_of_ble_eq_true rfl) dX12_match_54 (by decide) (by decide) (by decide) (by decide)) w [1, 2, 3, 4, 5] [0] rfl rfl (by decide) (by decide) rfl rfl (fun v u H locs hp w => ?_)
              obtain ⟨z18, ff19, ff20, ff21⟩ := u
              have hv : iI z18 = v := hp.1
              subst hv
              have z18_a : (-1) ≤ z18 := hp.2.1
              have z18_b : z18 ≤ 8 := hp.2.2.1
              have ff19_h : rng (-1) 8 ff19 := hp.2.2.2.1
              have ff20_h : rng 0 1 ff20 := hp.2.2.2.2.1
              have ff21_h : rng 0 1 ff21 := hp.2.2.2.2.2
              have w : WD D A s.heap [(a13, .inl (T 0, 9, .inl ff8)), (a0, .inr (11, [.int (iI 0), .ref a1, .int (iI x0), .int (iI x1), .int (iI x2), .int (iI x3), .int (iI x4), .int (iI x5), .int r1, .int (iI x6), .int (iI x7), .int (iI x8), .long y0, .int (iI x9), .ref a2, .ref a3, .ref a4, .ref a5, .ref a6, .ref a7, .ref a8, .ref a9, .ref a10, .ref a11, .int (iI x10), .ref a12, .ref a13, .ref a14, .ref a15, .int (iI x11), .int r2, .int r3, .ref a16, .int (iI x12), .int (iI x13), .ref a17, .ref a18, .int (iI x14), .ref a19, .int (iI x15), .int r4, .ref a20, .ref a21, .int (iI x16), .int r5, .ref a22, .int (iI x17), .int (iI x18), .int (iI x19), .int (iI x20)])), (a2, .inl (T 0, 329, .inl (cI f0))), (a12, .inl (T 0, 9, .inl (cI ff19))), (a14, .inl (T 2, 9, .inl (cI ff20))), (a15, .inl (T 2, 9, .inl (cI ff21)))] H locs := w
              refine r_iast (ws' := [(a13, .inl (T 0, 9, .inl (upd ff8 (Int32.toNatClampNeg (iI z11)) (iI z18)))), (a0, .inr (11, [.int (iI 0), .ref a1, .int (iI x0), .int (iI x1), .int (iI x2), .int (iI x3), .int (iI x4), .int (iI x5), .int r1, .int (iI x6), .int (iI x7), .int (iI x8), .long y0, .int (iI x9), .ref a2, .ref a3, .ref a4, .ref a5, .ref a6, .ref a7, .ref a8, .ref a9, .ref a10, .ref a11, .int (iI x10), .ref a12, .ref a13, .ref a14, .ref a15, .int (iI x11), .int r2, .int r3, .ref a16, .int (iI x12), .int (iI x13), .ref a17, .ref a18, .int (iI x14), .ref a19, .int (iI x15), .int r4, .ref a20, .ref a21, .int (iI x16), .int r5, .ref a22, .int (iI x17), .int (iI x18), .int (iI x19), .int (iI x20)])), (a2, .inl (T 0, 329, .inl (cI f0))), (a12, .inl (T 0, 9, .inl (cI ff19))), (a14, .inl (T 2, 9, .inl (cI ff20))), (a15, .inl (T 2, 9, .inl (cI ff21)))]) M w 0 rfl (iI_in (by omega) (by omega) (by decide)) rfl dX12_match_57 (fun H locs w => ?_)
              refine lv_aload_n hx hb dX12_match_58 rfl (lv_at hl 3 rfl) ?_
              refine r_get (v := .ref a13) M w 1 26 clX12 rfl (by decide) G1489 rfl rfl dX12_match_59 ?_
              refine lv_iload_n hx hb dX12_match_62 rfl (lv_at hl 0 rfl) ?_
              refine r_iald (v := _) M w 0 rfl (iI_in (by omega) (by omega) (by decide)) rfl dX12_match_63 ?_
              refine b_any (fun z22 z22_a z22_b => ?_)
              refine lv_iconst (v := iI (-1)) hx hb dX12_match_64 (by decide +kernel) ?_
              refine lv_icmp_eq (tgt := 71) hx hb dX12_match_65 (by decide) (fun c_23 => ?_) (fun c_23 => ?_)
              · replace c_23 := (iI_eq (Int.le_trans (by decide) z22_a) (Int.le_trans z22_b (by decide)) (by decide) (by decide)).mp c_23
                refine lv_iinc (v := iI (z11 + 1)) (lv' := [(3, .int (iI (z11 + 1))), (2, .int (iI z12)), (1, .int (iI z4)), (0, .ref a0)]) hx hb dX12_match_71 hl (k := 0) rfl (ii_inc (by decide +kernel)) (by decide) rfl (fun ls hl => ?_)
                refine lv_goto (tgt := 36) hx hb dX12_match_74 (by decide) ?_
                exact ih2 ff19 (upd ff8 (Int32.toNatClampNeg (iI z11)) (iI z18)) ff20 ff21 (z11 + 1) z12 _ _ _ ff19_h ff20_h ff21_h (by omega) (by omega) z12_a z12_b (by omega) (by omega) w (lv_sub hl [0, 1, 2, 3] rfl)
              · replace c_23 : ¬ z22 = (-1) := fun h => c_23 ((iI_eq (Int.le_trans (by decide) z22_a) (Int.le_trans z22_b (by decide)) (by decide) (by decide)).mpr h)
                refine lv_iinc (v := iI (z12 + (-1))) (lv' := [(2, .int (iI (z12 + (-1)))), (3, .int (iI z11)), (1, .int (iI z4)), (0, .ref a0)]) hx hb dX12_match_68 hl (k := 1) rfl (ii_inc (by decide +kernel)) (by decide) rfl (fun ls hl => ?_)
                refine lv_iinc (v := iI (z11 + 1)) (lv' := [(3, .int (iI (z11 + 1))), (2, .int (iI (z12 + (-1)))), (1, .int (iI z4)), (0, .ref a0)]) hx hb dX12_match_71 hl (k := 1) rfl (ii_inc (by decide +kernel)) (by decide) rfl (fun ls hl => ?_)
                refine lv_goto (tgt := 36) hx hb dX12_match_74 (by decide) ?_
                exact ih2 ff19 (upd ff8 (Int32.toNatClampNeg (iI z11)) (iI z18)) ff20 ff21 (z11 + 1) (z12 + (-1)) _ _ _ ff19_h ff20_h ff21_h (by omega) (by omega) (by omega) (by omega) (by omega) (by omega) w (lv_sub hl [0, 1, 2, 3] rfl)
        exact loop2 ((9 : Int).toNat + 1) ff5 f2 ff6 ff1 0 z4 _ _ _ ff5_h ff6_h ff1_h (by decide) (by decide) (by omega) (by omega) (by omega) (Nat.lt_succ_self _) w (lv_sub hl [0, 1, 2, 3] rfl)
      · replace c_3 : z2 < 9 := Int.not_le.mp (fun h => c_3 ((iI_le (by decide) (by decide) (Int.le_trans (by decide) z2_a) (Int.le_trans z2_b (by decide))).mpr h))
        refine lv_aload_n hx hb dX12_match_13 rfl (lv_at hl 1 rfl) ?_
        refine r_get (v := .ref a15) M w 0 28 clX12 rfl (by decide) G1491 rfl rfl dX12_match_14 ?_
        refine lv_iload_n hx hb dX12_match_17 rfl (lv_at hl 0 rfl) ?_
        refine lv_iconst (v := iI 0) hx hb dX12_match_18 (by decide +kernel) ?_
        refine r_zast (x2 := iI 0) (ws' := [(a0, .inr (11, [.int (iI 0), .ref a1, .int (iI x0), .int (iI x1), .int (iI x2), .int (iI x3), .int (iI x4), .int (iI x5), .int r1, .int (iI x6), .int (iI x7), .int (iI x8), .long y0, .int (iI x9), .ref a2, .ref a3, .ref a4, .ref a5, .ref a6, .ref a7, .ref a8, .ref a9, .ref a10, .ref a11, .int (iI x10), .ref a12, .ref a13, .ref a14, .ref a15, .int (iI x11), .int r2, .int r3, .ref a16, .int (iI x12), .int (iI x13), .ref a17, .ref a18, .int (iI x14), .ref a19, .int (iI x15), .int r4, .ref a20, .ref a21, .int (iI x16), .int r5, .ref a22, .int (iI x17), .int (iI x18), .int (iI x19), .int (iI x20)])), (a2, .inl (T 0, 329, .inl (cI f0))), (a12, .inl (T 0, 9, .inl (cI f1))), (a13, .inl (T 0, 9, .inl f2)), (a14, .inl (T 2, 9, .inl (cI f3))), (a15, .inl (T 2, 9, .inl (cI (upz ff1 z2 0))))]) M w 5 rfl (iI_in (by omega) (by omega) (by decide)) (nb_z (by omega) (by omega)) (by rw [cI_up (by omega) (by omega)]; rfl) dX12_match_19 (fun H locs w => ?_)
        refine lv_iinc (v := iI (z2 + 1)) (lv' := [(1, .int (iI (z2 + 1))), (0, .ref a0)]) hx hb dX12_match_20 hl (k := 0) rfl (ii_inc (by decide +kernel)) (by decide) rfl (fun ls hl => ?_)
        refine lv_goto (tgt := 7) hx hb dX12_match_23 (by decide) ?_
        exact ih1 (upz ff1 z2 0) (z2 + 1) _ _ _ (rng_up ff1_h (by omega) (by omega)) (by omega) (by omega) (by omega) w (lv_sub hl [0, 1] rfl)
  exact loop1 ((9 : Int).toNat + 1) f4 0 _ _ _ f4_h (by decide) (by decide) (Nat.lt_succ_self _) w (lv_sub hl [0, 1] rfl)
