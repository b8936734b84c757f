theorem dX12_chainOf_0 : decode cX12_chainOf 0 = .ok (.iconst 0, 1) := by decide +kernel
theorem dX12_chainOf_1 : decode cX12_chainOf 1 = .ok (.istore_n 2, 1) := by decide +kernel
theorem dX12_chainOf_2 : decode cX12_chainOf 2 = .ok (.aload_n 0, 1) := by decide +kernel
theorem dX12_chainOf_3 : decode cX12_chainOf 3 = .ok (.getfield 98, 3) := by decide +kernel
theorem dX12_chainOf_6 : decode cX12_chainOf 6 = .ok (.bipush 57, 2) := by decide +kernel
theorem dX12_chainOf_8 : decode cX12_chainOf 8 = .ok (.iload_n 1, 1) := by decide +kernel
theorem dX12_chainOf_9 : decode cX12_chainOf 9 = .ok (.iadd, 1) := by decide +kernel
theorem dX12_chainOf_10 : decode cX12_chainOf 10 = .ok (.iaload, 1) := by decide +kernel
theorem dX12_chainOf_11 : decode cX12_chainOf 11 = .ok (.istore_n 3, 1) := by decide +kernel
theorem dX12_chainOf_12 : decode cX12_chainOf 12 = .ok (.iload_n 3, 1) := by decide +kernel
theorem dX12_chainOf_13 : decode cX12_chainOf 13 = .ok (.iconst (-1), 1) := by decide +kernel
theorem dX12_chainOf_14 : decode cX12_chainOf 14 = .ok (.if_icmp .eq 24, 3) := by decide +kernel
theorem dX12_chainOf_38 : decode cX12_chainOf 38 = .ok (.iload_n 2, 1) := by decide +kernel
theorem dX12_chainOf_39 : decode cX12_chainOf 39 = .ok (.ireturn, 1) := by decide +kernel
theorem dX12_chainOf_17 : decode cX12_chainOf 17 = .ok (.iload_n 3, 1) := by decide +kernel
theorem dX12_chainOf_18 : decode cX12_chainOf 18 = .ok (.iload_n 1, 1) := by decide +kernel
theorem dX12_chainOf_19 : decode cX12_chainOf 19 = .ok (.if_icmp .eq 19, 3) := by decide +kernel
theorem dX12_chainOf_22 : decode cX12_chainOf 22 = .ok (.iinc 2 1, 3) := by decide +kernel
theorem dX12_chainOf_25 : decode cX12_chainOf 25 = .ok (.aload_n 0, 1) := by decide +kernel
theorem dX12_chainOf_26 : decode cX12_chainOf 26 = .ok (.getfield 98, 3) := by decide +kernel
theorem dX12_chainOf_29 : decode cX12_chainOf 29 = .ok (.bipush 57, 2) := by decide +kernel
theorem dX12_chainOf_31 : decode cX12_chainOf 31 = .ok (.iload_n 3, 1) := by decide +kernel
theorem dX12_chainOf_32 : decode cX12_chainOf 32 = .ok (.iadd, 1) := by decide +kernel
theorem dX12_chainOf_33 : decode cX12_chainOf 33 = .ok (.iaload, 1) := by decide +kernel
theorem dX12_chainOf_34 : decode cX12_chainOf 34 = .ok (.istore_n 3, 1) := by decide +kernel
theorem dX12_chainOf_35 : decode cX12_chainOf 35 = .ok (.goto (-23), 3) := by decide +kernel
theorem dX12_isOnRing_0 : decode cX12_isOnRing 0 = .ok (.aload_n 0, 1) := by decide +kernel
theorem dX12_isOnRing_1 : decode cX12_isOnRing 1 = .ok (.getfield 98, 3) := by decide +kernel
theorem dX12_isOnRing_4 : decode cX12_isOnRing 4 = .ok (.bipush 57, 2) := by decide +kernel
theorem dX12_isOnRing_6 : decode cX12_isOnRing 6 = .ok (.iload_n 1, 1) := by decide +kernel
theorem dX12_isOnRing_7 : decode cX12_isOnRing 7 = .ok (.iadd, 1) := by decide +kernel
theorem dX12_isOnRing_8 : decode cX12_isOnRing 8 = .ok (.iaload, 1) := by decide +kernel
theorem dX12_isOnRing_9 : decode cX12_isOnRing 9 = .ok (.istore_n 2, 1) := by decide +kernel
theorem dX12_isOnRing_10 : decode cX12_isOnRing 10 = .ok (.iload_n 2, 1) := by decide +kernel
theorem dX12_isOnRing_11 : decode cX12_isOnRing 11 = .ok (.iconst (-1), 1) := by decide +kernel
theorem dX12_isOnRing_12 : decode cX12_isOnRing 12 = .ok (.if_icmp .eq 21, 3) := by decide +kernel
theorem dX12_isOnRing_33 : decode cX12_isOnRing 33 = .ok (.iload_n 2, 1) := by decide +kernel
theorem dX12_isOnRing_34 : decode cX12_isOnRing 34 = .ok (.iload_n 1, 1) := by decide +kernel
theorem dX12_isOnRing_35 : decode cX12_isOnRing 35 = .ok (.if_icmp .ne 7, 3) := by decide +kernel
theorem dX12_isOnRing_42 : decode cX12_isOnRing 42 = .ok (.iconst 0, 1) := by decide +kernel
theorem dX12_isOnRing_43 : decode cX12_isOnRing 43 = .ok (.ireturn, 1) := by decide +kernel
theorem dX12_isOnRing_15 : decode cX12_isOnRing 15 = .ok (.iload_n 2, 1) := by decide +kernel
theorem dX12_isOnRing_16 : decode cX12_isOnRing 16 = .ok (.iload_n 1, 1) := by decide +kernel
theorem dX12_isOnRing_17 : decode cX12_isOnRing 17 = .ok (.if_icmp .eq 16, 3) := by decide +kernel
theorem dX12_isOnRing_38 : decode cX12_isOnRing 38 = .ok (.iconst 1, 1) := by decide +kernel
theorem dX12_isOnRing_39 : decode cX12_isOnRing 39 = .ok (.goto 4, 3) := by decide +kernel
theorem dX12_isOnRing_20 : decode cX12_isOnRing 20 = .ok (.aload_n 0, 1) := by decide +kernel
theorem dX12_isOnRing_21 : decode cX12_isOnRing 21 = .ok (.getfield 98, 3) := by decide +kernel
theorem dX12_isOnRing_24 : decode cX12_isOnRing 24 = .ok (.bipush 57, 2) := by decide +kernel
theorem dX12_isOnRing_26 : decode cX12_isOnRing 26 = .ok (.iload_n 2, 1) := by decide +kernel
theorem dX12_isOnRing_27 : decode cX12_isOnRing 27 = .ok (.iadd, 1) := by decide +kernel
theorem dX12_isOnRing_28 : decode cX12_isOnRing 28 = .ok (.iaload, 1) := by decide +kernel
theorem dX12_isOnRing_29 : decode cX12_isOnRing 29 = .ok (.istore_n 2, 1) := by decide +kernel
theorem dX12_isOnRing_30 : decode cX12_isOnRing 30 = .ok (.goto (-20), 3) := by decide +kernel
theorem dX12_quiet_0 : decode cX12_quiet 0 = .ok (.aload_n 0, 1) := by decide +kernel
theorem dX12_quiet_1 : decode cX12_quiet 1 = .ok (.iconst 0, 1) := by decide +kernel
theorem dX12_quiet_2 : decode cX12_quiet 2 = .ok (.putfield 1, 3) := by decide +kernel
theorem dX12_quiet_5 : decode cX12_quiet 5 = .ok (.iconst 0, 1) := by decide +kernel
theorem dX12_quiet_6 : decode cX12_quiet 6 = .ok (.istore_n 1, 1) := by decide +kernel
theorem dX12_quiet_7 : decode cX12_quiet 7 = .ok (.iconst 0, 1) := by decide +kernel
theorem dX12_quiet_8 : decode cX12_quiet 8 = .ok (.istore_n 2, 1) := by decide +kernel
theorem dX12_quiet_9 : decode cX12_quiet 9 = .ok (.iload_n 2, 1) := by decide +kernel
theorem dX12_quiet_10 : decode cX12_quiet 10 = .ok (.aload_n 0, 1) := by decide +kernel
theorem dX12_quiet_11 : decode cX12_quiet 11 = .ok (.getfield 98, 3) := by decide +kernel
theorem dX12_quiet_14 : decode cX12_quiet 14 = .ok (.iconst 0, 1) := by decide +kernel
theorem dX12_quiet_15 : decode cX12_quiet 15 = .ok (.iaload, 1) := by decide +kernel
theorem dX12_quiet_16 : decode cX12_quiet 16 = .ok (.if_icmp .ge 23, 3) := by decide +kernel
theorem dX12_quiet_39 : decode cX12_quiet 39 = .ok (.iload_n 1, 1) := by decide +kernel
theorem dX12_quiet_40 : decode cX12_quiet 40 = .ok (.ireturn, 1) := by decide +kernel
theorem dX12_quiet_19 : decode cX12_quiet 19 = .ok (.aload_n 0, 1) := by decide +kernel
theorem dX12_quiet_20 : decode cX12_quiet 20 = .ok (.iload_n 2, 1) := by decide +kernel
theorem dX12_quiet_21 : decode cX12_quiet 21 = .ok (.invokevirtual 249, 3) := by decide +kernel
theorem G1749 : Cond.code ⟨"HookedCityModel", "isOnRing", "(I)Z"⟩ prog_14_method_49_code 3 (some .boolean) ∈ GW := gw_i 1749 (by decide +kernel) rfl
theorem G1746 : Cond.methodLink "HookedCityModel" 249 ⟨"HookedCityModel", "isOnRing", "(I)Z"⟩ ∈ GW := gw_i 1746 (by decide +kernel) rfl
theorem V_HookedCityModel_249 : VL "HookedCityModel" 249 yX12_isOnRing cX12_isOnRing 3 (some .boolean) 1 := ⟨G1749, G1746, G131, by decide +kernel, by decide +kernel, by decide +kernel⟩
theorem G1748 : Cond.instanceMethod ⟨"HookedCityModel", "isOnRing", "(I)Z"⟩ ∈ GW := gw_i 1748 (by decide +kernel) rfl
theorem G71 : Cond.selects "HookedCityModel" ⟨"HookedCityModel", "isOnRing", "(I)Z"⟩ ⟨"HookedCityModel", "isOnRing", "(I)Z"⟩ ∈ GW := gw_i 71 (by decide +kernel) rfl
theorem dX12_quiet_24 : decode cX12_quiet 24 = .ok (.ifCond .eq 9, 3) := by decide +kernel
theorem dX12_quiet_33 : decode cX12_quiet 33 = .ok (.iinc 2 1, 3) := by decide +kernel
theorem dX12_quiet_36 : decode cX12_quiet 36 = .ok (.goto (-27), 3) := by decide +kernel
theorem dX12_quiet_27 : decode cX12_quiet 27 = .ok (.iload_n 1, 1) := by decide +kernel
theorem dX12_quiet_28 : decode cX12_quiet 28 = .ok (.iconst 1, 1) := by decide +kernel
theorem dX12_quiet_29 : decode cX12_quiet 29 = .ok (.iload_n 2, 1) := by decide +kernel
theorem dX12_quiet_30 : decode cX12_quiet 30 = .ok (.ishl, 1) := by decide +kernel
theorem dX12_quiet_31 : decode cX12_quiet 31 = .ok (.ior, 1) := by decide +kernel
theorem dX12_quiet_32 : decode cX12_quiet 32 = .ok (.istore_n 1, 1) := by decide +kernel
theorem dX12_withOf_0 : decode cX12_withOf 0 = .ok (.iconst 1, 1) := by decide +kernel
theorem dX12_withOf_1 : decode cX12_withOf 1 = .ok (.iload_n 1, 1) := by decide +kernel
theorem dX12_withOf_2 : decode cX12_withOf 2 = .ok (.ishl, 1) := by decide +kernel
theorem dX12_withOf_3 : decode cX12_withOf 3 = .ok (.istore_n 2, 1) := by decide +kernel
theorem dX12_withOf_4 : decode cX12_withOf 4 = .ok (.aload_n 0, 1) := by decide +kernel
theorem dX12_withOf_5 : decode cX12_withOf 5 = .ok (.getfield 98, 3) := by decide +kernel
theorem dX12_withOf_8 : decode cX12_withOf 8 = .ok (.bipush 57, 2) := by decide +kernel
theorem dX12_withOf_10 : decode cX12_withOf 10 = .ok (.iload_n 1, 1) := by decide +kernel
theorem dX12_withOf_11 : decode cX12_withOf 11 = .ok (.iadd, 1) := by decide +kernel
theorem dX12_withOf_12 : decode cX12_withOf 12 = .ok (.iaload, 1) := by decide +kernel
theorem dX12_withOf_13 : decode cX12_withOf 13 = .ok (.istore_n 3, 1) := by decide +kernel
theorem dX12_withOf_14 : decode cX12_withOf 14 = .ok (.iload_n 3, 1) := by decide +kernel
theorem dX12_withOf_15 : decode cX12_withOf 15 = .ok (.iconst (-1), 1) := by decide +kernel
theorem dX12_withOf_16 : decode cX12_withOf 16 = .ok (.if_icmp .eq 30, 3) := by decide +kernel
theorem dX12_withOf_46 : decode cX12_withOf 46 = .ok (.aload_n 0, 1) := by decide +kernel
theorem dX12_withOf_47 : decode cX12_withOf 47 = .ok (.getfield 98, 3) := by decide +kernel
theorem dX12_withOf_50 : decode cX12_withOf 50 = .ok (.bipush 66, 2) := by decide +kernel
theorem dX12_withOf_52 : decode cX12_withOf 52 = .ok (.iload_n 1, 1) := by decide +kernel
theorem dX12_withOf_53 : decode cX12_withOf 53 = .ok (.iadd, 1) := by decide +kernel
theorem dX12_withOf_54 : decode cX12_withOf 54 = .ok (.iaload, 1) := by decide +kernel
theorem dX12_withOf_55 : decode cX12_withOf 55 = .ok (.istore_n 3, 1) := by decide +kernel
theorem dX12_withOf_56 : decode cX12_withOf 56 = .ok (.iload_n 3, 1) := by decide +kernel
theorem dX12_withOf_57 : decode cX12_withOf 57 = .ok (.iconst (-1), 1) := by decide +kernel
theorem dX12_withOf_58 : decode cX12_withOf 58 = .ok (.if_icmp .eq 30, 3) := by decide +kernel
theorem dX12_withOf_88 : decode cX12_withOf 88 = .ok (.iload_n 2, 1) := by decide +kernel
theorem dX12_withOf_89 : decode cX12_withOf 89 = .ok (.ireturn, 1) := by decide +kernel
theorem dX12_withOf_61 : decode cX12_withOf 61 = .ok (.iload_n 2, 1) := by decide +kernel
theorem dX12_withOf_62 : decode cX12_withOf 62 = .ok (.iload_n 3, 1) := by decide +kernel
theorem dX12_withOf_63 : decode cX12_withOf 63 = .ok (.invokestatic 206, 3) := by decide +kernel
theorem dX12_withOf_66 : decode cX12_withOf 66 = .ok (.ifCond .ne 22, 3) := by decide +kernel
theorem dX12_withOf_69 : decode cX12_withOf 69 = .ok (.iload_n 2, 1) := by decide +kernel
theorem dX12_withOf_70 : decode cX12_withOf 70 = .ok (.iconst 1, 1) := by decide +kernel
theorem dX12_withOf_71 : decode cX12_withOf 71 = .ok (.iload_n 3, 1) := by decide +kernel
theorem dX12_withOf_72 : decode cX12_withOf 72 = .ok (.ishl, 1) := by decide +kernel
theorem dX12_withOf_73 : decode cX12_withOf 73 = .ok (.ior, 1) := by decide +kernel
theorem dX12_withOf_74 : decode cX12_withOf 74 = .ok (.istore_n 2, 1) := by decide +kernel
theorem dX12_withOf_75 : decode cX12_withOf 75 = .ok (.aload_n 0, 1) := by decide +kernel
theorem dX12_withOf_76 : decode cX12_withOf 76 = .ok (.getfield 98, 3) := by decide +kernel
theorem dX12_withOf_79 : decode cX12_withOf 79 = .ok (.bipush 66, 2) := by decide +kernel
theorem dX12_withOf_81 : decode cX12_withOf 81 = .ok (.iload_n 3, 1) := by decide +kernel
theorem dX12_withOf_82 : decode cX12_withOf 82 = .ok (.iadd, 1) := by decide +kernel
theorem dX12_withOf_83 : decode cX12_withOf 83 = .ok (.iaload, 1) := by decide +kernel
theorem dX12_withOf_84 : decode cX12_withOf 84 = .ok (.istore_n 3, 1) := by decide +kernel
theorem dX12_withOf_85 : decode cX12_withOf 85 = .ok (.goto (-29), 3) := by decide +kernel
theorem dX12_withOf_19 : decode cX12_withOf 19 = .ok (.iload_n 2, 1) := by decide +kernel
theorem dX12_withOf_20 : decode cX12_withOf 20 = .ok (.iload_n 3, 1) := by decide +kernel
theorem dX12_withOf_21 : decode cX12_withOf 21 = .ok (.invokestatic 206, 3) := by decide +kernel
theorem dX12_withOf_24 : decode cX12_withOf 24 = .ok (.ifCond .ne 22, 3) := by decide +kernel
theorem dX12_withOf_27 : decode cX12_withOf 27 = .ok (.iload_n 2, 1) := by decide +kernel
theorem dX12_withOf_28 : decode cX12_withOf 28 = .ok (.iconst 1, 1) := by decide +kernel
theorem dX12_withOf_29 : decode cX12_withOf 29 = .ok (.iload_n 3, 1) := by decide +kernel
theorem dX12_withOf_30 : decode cX12_withOf 30 = .ok (.ishl, 1) := by decide +kernel
theorem dX12_withOf_31 : decode cX12_withOf 31 = .ok (.ior, 1) := by decide +kernel
theorem dX12_withOf_32 : decode cX12_withOf 32 = .ok (.istore_n 2, 1) := by decide +kernel
theorem dX12_withOf_33 : decode cX12_withOf 33 = .ok (.aload_n 0, 1) := by decide +kernel
theorem dX12_withOf_34 : decode cX12_withOf 34 = .ok (.getfield 98, 3) := by decide +kernel
theorem dX12_withOf_37 : decode cX12_withOf 37 = .ok (.bipush 57, 2) := by decide +kernel
theorem dX12_withOf_39 : decode cX12_withOf 39 = .ok (.iload_n 3, 1) := by decide +kernel
theorem dX12_withOf_40 : decode cX12_withOf 40 = .ok (.iadd, 1) := by decide +kernel
theorem dX12_withOf_41 : decode cX12_withOf 41 = .ok (.iaload, 1) := by decide +kernel
theorem dX12_withOf_42 : decode cX12_withOf 42 = .ok (.istore_n 3, 1) := by decide +kernel
theorem dX12_withOf_43 : decode cX12_withOf 43 = .ok (.goto (-29), 3) := by decide +kernel
theorem dX12_with_0 : decode cX12_with 0 = .ok (.aload_n 0, 1) := by decide +kernel
theorem dX12_with_1 : decode cX12_with 1 = .ok (.iconst 0, 1) := by decide +kernel
theorem dX12_with_2 : decode cX12_with 2 = .ok (.putfield 1, 3) := by decide +kernel
theorem dX12_with_5 : decode cX12_with 5 = .ok (.aload_n 0, 1) := by decide +kernel
theorem dX12_with_6 : decode cX12_with 6 = .ok (.iload_n 1, 1) := by decide +kernel
theorem dX12_with_7 : decode cX12_with 7 = .ok (.invokevirtual 240, 3) := by decide +kernel
theorem dX12_with_10 : decode cX12_with 10 = .ok (.ifCond .eq 11, 3) := by decide +kernel
theorem dX12_with_21 : decode cX12_with 21 = .ok (.iconst (-1), 1) := by decide +kernel
theorem dX12_with_22 : decode cX12_with 22 = .ok (.ireturn, 1) := by decide +kernel
theorem dX12_with_13 : decode cX12_with 13 = .ok (.aload_n 0, 1) := by decide +kernel
theorem dX12_with_14 : decode cX12_with 14 = .ok (.iload_n 1, 1) := by decide +kernel
theorem dX12_with_15 : decode cX12_with 15 = .ok (.invokevirtual 307, 3) := by decide +kernel
theorem G1852 : Cond.code ⟨"HookedCityModel", "withOf", "(I)I"⟩ prog_14_method_50_code 4 (some .int) ∈ GW := gw_i 1852 (by decide +kernel) rfl
theorem G1849 : Cond.methodLink "HookedCityModel" 307 ⟨"HookedCityModel", "withOf", "(I)I"⟩ ∈ GW := gw_i 1849 (by decide +kernel) rfl
theorem V_HookedCityModel_307 : VL "HookedCityModel" 307 yX12_withOf cX12_withOf 4 (some .int) 1 := ⟨G1852, G1849, G131, by decide +kernel, by decide +kernel, by decide +kernel⟩
theorem G1851 : Cond.instanceMethod ⟨"HookedCityModel", "withOf", "(I)I"⟩ ∈ GW := gw_i 1851 (by decide +kernel) rfl
theorem G88 : Cond.selects "HookedCityModel" ⟨"HookedCityModel", "withOf", "(I)I"⟩ ⟨"HookedCityModel", "withOf", "(I)I"⟩ ∈ GW := gw_i 88 (by decide +kernel) rfl
theorem dX12_with_18 : decode cX12_with 18 = .ok (.goto 4, 3) := by decide +kernel
theorem dX12_parts_0 : decode cX12_parts 0 = .ok (.aload_n 0, 1) := by decide +kernel
theorem dX12_parts_1 : decode cX12_parts 1 = .ok (.iconst 0, 1) := by decide +kernel
theorem dX12_parts_2 : decode cX12_parts 2 = .ok (.putfield 1, 3) := by decide +kernel
theorem dX12_parts_5 : decode cX12_parts 5 = .ok (.iconst 0, 1) := by decide +kernel
theorem dX12_parts_6 : decode cX12_parts 6 = .ok (.istore_n 1, 1) := by decide +kernel
theorem dX12_parts_7 : decode cX12_parts 7 = .ok (.iconst 1, 1) := by decide +kernel
theorem dX12_parts_8 : decode cX12_parts 8 = .ok (.aload_n 0, 1) := by decide +kernel
theorem dX12_parts_9 : decode cX12_parts 9 = .ok (.getfield 98, 3) := by decide +kernel
theorem dX12_parts_12 : decode cX12_parts 12 = .ok (.iconst 0, 1) := by decide +kernel
theorem dX12_parts_13 : decode cX12_parts 13 = .ok (.iaload, 1) := by decide +kernel
theorem dX12_parts_14 : decode cX12_parts 14 = .ok (.ishl, 1) := by decide +kernel
theorem dX12_parts_15 : decode cX12_parts 15 = .ok (.iconst 1, 1) := by decide +kernel
theorem dX12_parts_16 : decode cX12_parts 16 = .ok (.isub, 1) := by decide +kernel
theorem dX12_parts_17 : decode cX12_parts 17 = .ok (.istore_n 2, 1) := by decide +kernel
theorem dX12_parts_18 : decode cX12_parts 18 = .ok (.iconst 0, 1) := by decide +kernel
theorem dX12_parts_19 : decode cX12_parts 19 = .ok (.istore_n 3, 1) := by decide +kernel
theorem dX12_parts_20 : decode cX12_parts 20 = .ok (.iload_n 3, 1) := by decide +kernel
theorem dX12_parts_21 : decode cX12_parts 21 = .ok (.aload_n 0, 1) := by decide +kernel
theorem dX12_parts_22 : decode cX12_parts 22 = .ok (.getfield 98, 3) := by decide +kernel
theorem dX12_parts_25 : decode cX12_parts 25 = .ok (.iconst 0, 1) := by decide +kernel
theorem dX12_parts_26 : decode cX12_parts 26 = .ok (.iaload, 1) := by decide +kernel
theorem dX12_parts_27 : decode cX12_parts 27 = .ok (.if_icmp .ge 33, 3) := by decide +kernel
theorem dX12_parts_60 : decode cX12_parts 60 = .ok (.iload_n 1, 1) := by decide +kernel
theorem dX12_parts_61 : decode cX12_parts 61 = .ok (.ireturn, 1) := by decide +kernel
theorem dX12_parts_30 : decode cX12_parts 30 = .ok (.iload_n 2, 1) := by decide +kernel
theorem dX12_parts_31 : decode cX12_parts 31 = .ok (.iload_n 3, 1) := by decide +kernel
theorem dX12_parts_32 : decode cX12_parts 32 = .ok (.invokestatic 206, 3) := by decide +kernel
theorem dX12_parts_35 : decode cX12_parts 35 = .ok (.ifCond .ne 6, 3) := by decide +kernel
theorem dX12_parts_41 : decode cX12_parts 41 = .ok (.iload_n 2, 1) := by decide +kernel
theorem dX12_parts_42 : decode cX12_parts 42 = .ok (.aload_n 0, 1) := by decide +kernel
theorem dX12_parts_43 : decode cX12_parts 43 = .ok (.iload_n 3, 1) := by decide +kernel
theorem dX12_parts_44 : decode cX12_parts 44 = .ok (.invokevirtual 307, 3) := by decide +kernel
theorem dX12_parts_47 : decode cX12_parts 47 = .ok (.iconst (-1), 1) := by decide +kernel
theorem dX12_parts_48 : decode cX12_parts 48 = .ok (.ixor, 1) := by decide +kernel
theorem dX12_parts_49 : decode cX12_parts 49 = .ok (.iand, 1) := by decide +kernel
theorem dX12_parts_50 : decode cX12_parts 50 = .ok (.istore_n 2, 1) := by decide +kernel
theorem dX12_parts_51 : decode cX12_parts 51 = .ok (.iinc 1 1, 3) := by decide +kernel
theorem dX12_parts_54 : decode cX12_parts 54 = .ok (.iinc 3 1, 3) := by decide +kernel
theorem dX12_parts_57 : decode cX12_parts 57 = .ok (.goto (-37), 3) := by decide +kernel
theorem dX12_parts_38 : decode cX12_parts 38 = .ok (.goto 16, 3) := by decide +kernel
theorem dX12_person_0 : decode cX12_person 0 = .ok (.aload_n 0, 1) := by decide +kernel
theorem dX12_person_1 : decode cX12_person 1 = .ok (.iconst 0, 1) := by decide +kernel
theorem dX12_person_2 : decode cX12_person 2 = .ok (.putfield 1, 3) := by decide +kernel
theorem dX12_person_5 : decode cX12_person 5 = .ok (.aload_n 0, 1) := by decide +kernel
theorem dX12_person_6 : decode cX12_person 6 = .ok (.iload_n 1, 1) := by decide +kernel
theorem dX12_person_7 : decode cX12_person 7 = .ok (.invokevirtual 240, 3) := by decide +kernel
theorem dX12_person_10 : decode cX12_person 10 = .ok (.ifCond .ne 8, 3) := by decide +kernel
theorem dX12_person_18 : decode cX12_person 18 = .ok (.iload_n 2, 1) := by decide +kernel
theorem dX12_person_19 : decode cX12_person 19 = .ok (.tableswitch 124 0 7 #[45, 54, 64, 74, 84, 94, 104, 110], 45) := by decide +kernel
theorem dX12_person_64 : decode cX12_person 64 = .ok (.aload_n 0, 1) := by decide +kernel
theorem dX12_person_65 : decode cX12_person 65 = .ok (.getfield 98, 3) := by decide +kernel
theorem dX12_person_68 : decode cX12_person 68 = .ok (.iconst 5, 1) := by decide +kernel
theorem dX12_person_69 : decode cX12_person 69 = .ok (.iload_n 1, 1) := by decide +kernel
theorem dX12_person_70 : decode cX12_person 70 = .ok (.iadd, 1) := by decide +kernel
theorem dX12_person_71 : decode cX12_person 71 = .ok (.iaload, 1) := by decide +kernel
theorem dX12_person_72 : decode cX12_person 72 = .ok (.ireturn, 1) := by decide +kernel
theorem dX12_person_73 : decode cX12_person 73 = .ok (.aload_n 0, 1) := by decide +kernel
theorem dX12_person_74 : decode cX12_person 74 = .ok (.getfield 98, 3) := by decide +kernel
theorem dX12_person_77 : decode cX12_person 77 = .ok (.bipush 14, 2) := by decide +kernel
theorem dX12_person_79 : decode cX12_person 79 = .ok (.iload_n 1, 1) := by decide +kernel
theorem dX12_person_80 : decode cX12_person 80 = .ok (.iadd, 1) := by decide +kernel
theorem dX12_person_81 : decode cX12_person 81 = .ok (.iaload, 1) := by decide +kernel
theorem dX12_person_82 : decode cX12_person 82 = .ok (.ireturn, 1) := by decide +kernel
theorem dX12_person_83 : decode cX12_person 83 = .ok (.aload_n 0, 1) := by decide +kernel
theorem dX12_person_84 : decode cX12_person 84 = .ok (.getfield 98, 3) := by decide +kernel
theorem dX12_person_87 : decode cX12_person 87 = .ok (.bipush 23, 2) := by decide +kernel
theorem dX12_person_89 : decode cX12_person 89 = .ok (.iload_n 1, 1) := by decide +kernel
theorem dX12_person_90 : decode cX12_person 90 = .ok (.iadd, 1) := by decide +kernel
theorem dX12_person_91 : decode cX12_person 91 = .ok (.iaload, 1) := by decide +kernel
theorem dX12_person_92 : decode cX12_person 92 = .ok (.ireturn, 1) := by decide +kernel
theorem dX12_person_93 : decode cX12_person 93 = .ok (.aload_n 0, 1) := by decide +kernel
theorem dX12_person_94 : decode cX12_person 94 = .ok (.getfield 98, 3) := by decide +kernel
theorem dX12_person_97 : decode cX12_person 97 = .ok (.bipush 75, 2) := by decide +kernel
theorem dX12_person_99 : decode cX12_person 99 = .ok (.iload_n 1, 1) := by decide +kernel
theorem dX12_person_100 : decode cX12_person 100 = .ok (.iadd, 1) := by decide +kernel
theorem dX12_person_101 : decode cX12_person 101 = .ok (.iaload, 1) := by decide +kernel
theorem dX12_person_102 : decode cX12_person 102 = .ok (.ireturn, 1) := by decide +kernel
theorem dX12_person_103 : decode cX12_person 103 = .ok (.aload_n 0, 1) := by decide +kernel
theorem dX12_person_104 : decode cX12_person 104 = .ok (.getfield 98, 3) := by decide +kernel
theorem dX12_person_107 : decode cX12_person 107 = .ok (.bipush 57, 2) := by decide +kernel
theorem dX12_person_109 : decode cX12_person 109 = .ok (.iload_n 1, 1) := by decide +kernel
theorem dX12_person_110 : decode cX12_person 110 = .ok (.iadd, 1) := by decide +kernel
theorem dX12_person_111 : decode cX12_person 111 = .ok (.iaload, 1) := by decide +kernel
theorem dX12_person_112 : decode cX12_person 112 = .ok (.ireturn, 1) := by decide +kernel
theorem dX12_person_113 : decode cX12_person 113 = .ok (.aload_n 0, 1) := by decide +kernel
theorem dX12_person_114 : decode cX12_person 114 = .ok (.getfield 98, 3) := by decide +kernel
theorem dX12_person_117 : decode cX12_person 117 = .ok (.bipush 66, 2) := by decide +kernel
theorem dX12_person_119 : decode cX12_person 119 = .ok (.iload_n 1, 1) := by decide +kernel
theorem dX12_person_120 : decode cX12_person 120 = .ok (.iadd, 1) := by decide +kernel
theorem dX12_person_121 : decode cX12_person 121 = .ok (.iaload, 1) := by decide +kernel
theorem dX12_person_122 : decode cX12_person 122 = .ok (.ireturn, 1) := by decide +kernel
theorem dX12_person_123 : decode cX12_person 123 = .ok (.aload_n 0, 1) := by decide +kernel
theorem dX12_person_124 : decode cX12_person 124 = .ok (.iload_n 1, 1) := by decide +kernel
theorem dX12_person_125 : decode cX12_person 125 = .ok (.invokevirtual 246, 3) := by decide +kernel
theorem G1745 : Cond.code ⟨"HookedCityModel", "chainOf", "(I)I"⟩ prog_14_method_48_code 4 (some .int) ∈ GW := gw_i 1745 (by decide +kernel) rfl
theorem G1742 : Cond.methodLink "HookedCityModel" 246 ⟨"HookedCityModel", "chainOf", "(I)I"⟩ ∈ GW := gw_i 1742 (by decide +kernel) rfl
theorem V_HookedCityModel_246 : VL "HookedCityModel" 246 yX12_chainOf cX12_chainOf 4 (some .int) 1 := ⟨G1745, G1742, G131, by decide +kernel, by decide +kernel, by decide +kernel⟩
theorem G1744 : Cond.instanceMethod ⟨"HookedCityModel", "chainOf", "(I)I"⟩ ∈ GW := gw_i 1744 (by decide +kernel) rfl
theorem G70 : Cond.selects "HookedCityModel" ⟨"HookedCityModel", "chainOf", "(I)I"⟩ ⟨"HookedCityModel", "chainOf", "(I)I"⟩ ∈ GW := gw_i 70 (by decide +kernel) rfl
theorem dX12_person_128 : decode cX12_person 128 = .ok (.ireturn, 1) := by decide +kernel
theorem dX12_person_129 : decode cX12_person 129 = .ok (.aload_n 0, 1) := by decide +kernel
theorem dX12_person_130 : decode cX12_person 130 = .ok (.iload_n 1, 1) := by decide +kernel
theorem dX12_person_131 : decode cX12_person 131 = .ok (.invokevirtual 249, 3) := by decide +kernel
theorem dX12_person_134 : decode cX12_person 134 = .ok (.ifCond .eq 7, 3) := by decide +kernel
theorem dX12_person_141 : decode cX12_person 141 = .ok (.iconst 0, 1) := by decide +kernel
theorem dX12_person_142 : decode cX12_person 142 = .ok (.ireturn, 1) := by decide +kernel
theorem dX12_person_137 : decode cX12_person 137 = .ok (.iconst 1, 1) := by decide +kernel
theorem dX12_person_138 : decode cX12_person 138 = .ok (.goto 4, 3) := by decide +kernel
theorem dX12_person_143 : decode cX12_person 143 = .ok (.aload_n 0, 1) := by decide +kernel
theorem dX12_person_144 : decode cX12_person 144 = .ok (.invokevirtual 243, 3) := by decide +kernel
theorem G1741 : Cond.code ⟨"HookedCityModel", "refuse", "()I"⟩ prog_14_method_2_code 1 (some .int) ∈ GW := gw_i 1741 (by decide +kernel) rfl
theorem G1738 : Cond.methodLink "HookedCityModel" 243 ⟨"HookedCityModel", "refuse", "()I"⟩ ∈ GW := gw_i 1738 (by decide +kernel) rfl
theorem V_HookedCityModel_243 : VL "HookedCityModel" 243 yX12_refuse cX12_refuse 1 (some .int) 0 := ⟨G1741, G1738, G131, by decide +kernel, by decide +kernel, by decide +kernel⟩
theorem G1740 : Cond.instanceMethod ⟨"HookedCityModel", "refuse", "()I"⟩ ∈ GW := gw_i 1740 (by decide +kernel) rfl
theorem G69 : Cond.selects "HookedCityModel" ⟨"HookedCityModel", "refuse", "()I"⟩ ⟨"HookedCityModel", "refuse", "()I"⟩ ∈ GW := gw_i 69 (by decide +kernel) rfl
theorem dX12_person_147 : decode cX12_person 147 = .ok (.ireturn, 1) := by decide +kernel
theorem dX12_person_13 : decode cX12_person 13 = .ok (.aload_n 0, 1) := by decide +kernel
theorem dX12_person_14 : decode cX12_person 14 = .ok (.invokevirtual 243, 3) := by decide +kernel
theorem dX12_person_17 : decode cX12_person 17 = .ok (.ireturn, 1) := by decide +kernel
abbrev hbt (s : Int32) (k : Int) : Prop := hb s k
set_option maxRecDepth 100000 in
set_option maxHeartbeats 4000000 in
theorem c122_X12_chainOf (l : Launch) (D : va_G) (T : Nat → ClassId) (sz : Nat) (a0 : Nat) (x0 : Int) (r0 : Int32) (a1 : Nat) (x1 : Int) (x2 : Int) (x3 : Int) (x4 : Int) (x5 : Int) (x6 : Int) (r1 : Int32) (x7 : Int) (x8 : Int) (x9 : Int) (y0 : Int64) (x10 : Int) (a2 : Nat) (a3 : Nat) (a4 : Nat) (a5 : Nat) (a6 : Nat) (a7 : Nat) (a8 : Nat) (a9 : Nat) (a10 : Nat) (a11 : Nat) (x11 : Int) (a12 : Nat) (a13 : Nat) (a14 : Nat) (a15 : Nat) (x12 : Int) (r2 : Int32) (r3 : Int32) (a16 : Nat) (x13 : Int) (x14 : Int) (a17 : Nat) (a18 : Nat) (x15 : Int) (a19 : Nat) (x16 : Int) (r4 : Int32) (a20 : Nat) (a21 : Nat) (x17 : Int) (r5 : Int32) (a22 : Nat) (x18 : Int) (x19 : Int) (x20 : Int) (x21 : Int) (f0 : Int → Int) (x0_a : 0 ≤ x0) (x0_b : x0 ≤ 8) (x1_a : 0 ≤ x1) (x1_b : x1 ≤ 940) (x2_a : 0 ≤ x2) (x2_b : x2 ≤ 940) (x3_a : 0 ≤ x3) (x3_b : x3 ≤ 940) (x4_a : 0 ≤ x4) (x4_b : x4 ≤ 940) (x5_a : 0 ≤ x5) (x5_b : x5 ≤ 940) (x6_a : 0 ≤ x6) (x6_b : x6 ≤ 4) (x7_a : (-2147483648) ≤ x7) (x7_b : x7 ≤ 2147483647) (x8_a : (-2147483648) ≤ x8) (x8_b : x8 ≤ 2147483647) (x9_a : 0 ≤ x9) (x9_b : x9 ≤ 940) (x10_a : (-2147483648) ≤ x10) (x10_b : x10 ≤ 2147483647) (x11_a : 0 ≤ x11) (x11_b : x11 ≤ 8) (x12_a : 0 ≤ x12) (x12_b : x12 ≤ 9) (x13_a : (-1) ≤ x13) (x13_b : x13 ≤ 9) (x14_a : (-1) ≤ x14) (x14_b : x14 ≤ 8) (x15_a : 0 ≤ x15) (x15_b : x15 ≤ 9) (x16_a : 0 ≤ x16) (x16_b : x16 ≤ 64) (x17_a : 0 ≤ x17) (x17_b : x17 ≤ 40) (x18_a : 0 ≤ x18) (x18_b : x18 ≤ 40) (x19_a : 0 ≤ x19) (x19_b : x19 ≤ 20) (x20_a : 0 ≤ x20) (x20_b : x20 ≤ 8) (x21_a : 0 ≤ x21) (x21_b : x21 ≤ 39) (f0_h : nowI f0) : Met l yX12_chainOf (Cond.code yX12_chainOf cX12_chainOf 4 (some .int) :: GW) (Rm 0 0 0) (cPre [.ref a0, .int (iI x0)] D T [(a0, .inr (11, [.int r0, .ref a1, .int (iI x1), .int (iI x2), .int (iI x3), .int (iI x4), .int (iI x5), .int (iI x6), .int r1, .int (iI x7), .int (iI x8), .int (iI x9), .long y0, .int (iI x10), .ref a2, .ref a3, .ref a4, .ref a5, .ref a6, .ref a7, .ref a8, .ref a9, .ref a10, .ref a11, .int (iI x11), .ref a12, .ref a13, .ref a14, .ref a15, .int (iI x12), .int r2, .int r3, .ref a16, .int (iI x13), .int (iI x14), .ref a17, .ref a18, .int (iI x15), .ref a19, .int (iI x16), .int r4, .ref a20, .ref a21, .int (iI x17), .int r5, .ref a22, .int (iI x18), .int (iI x19), .int (iI x20), .int (iI x21)])), (a2, .inl (T 0, 329, .inl (cI f0)))] sz) (qI D [(a0, .inr (11, [.int r0, .ref a1, .int (iI x1), .int (iI x2), .int (iI x3), .int (iI x4), .int (iI x5), .int (iI x6), .int r1, .int (iI x7), .int (iI x8), .int (iI x9), .long y0, .int (iI x10), .ref a2, .ref a3, .ref a4, .ref a5, .ref a6, .ref a7, .ref a8, .ref a9, .ref a10, .ref a11, .int (iI x11), .ref a12, .ref a13, .ref a14, .ref a15, .int (iI x12), .int r2, .int r3, .ref a16, .int (iI x13), .int (iI x14), .ref a17, .ref a18, .int (iI x15), .ref a19, .int (iI x16), .int r4, .ref a20, .ref a21, .int (iI x17), .int r5, .ref a22, .int (iI x18), .int (iI x19), .int (iI x20), .int (iI x21)])), (a2, .inl (T 0, 329, .inl (cI f0)))] sz (fun (v : Int32) (u : Int) => iI u = v ∧ (-2147483648) ≤ u ∧ u ≤ 2147483647) (fun u => [(a0, .inr (11, [.int r0, .ref a1, .int (iI x1), .int (iI x2), .int (iI x3), .int (iI x4), .int (iI x5), .int (iI x6), .int r1, .int (iI x7), .int (iI x8), .int (iI x9), .long y0, .int (iI x10), .ref a2, .ref a3, .ref a4, .ref a5, .ref a6, .ref a7, .ref a8, .ref a9, .ref a10, .ref a11, .int (iI x11), .ref a12, .ref a13, .ref a14, .ref a15, .int (iI x12), .int r2, .int r3, .ref a16, .int (iI x13), .int (iI x14), .ref a17, .ref a18, .int (iI x15), .ref a19, .int (iI x16), .int r4, .ref a20, .ref a21, .int (iI x17), .int r5, .ref a22, .int (iI x18), .int (iI x19), .int (iI x20), .int (iI x21)])), (a2, .inl (T 0, 329, .inl (cI f0)))])) 0 0 (va_A [(a0, .inr (11, [.int r0, .ref a1, .int (iI x1), .int (iI x2), .int (iI x3), .int (iI x4), .int (iI x5), .int (iI x6), .int r1, .int (iI x7), .int (iI x8), .int (iI x9), .long y0, .int (iI x10), .ref a2, .ref a3, .ref a4, .ref a5, .ref a6, .ref a7, .ref a8, .ref a9, .ref a10, .ref a11, .int (iI x11), .ref a12, .ref a13, .ref a14, .ref a15, .int (iI x12), .int r2, .int r3, .ref a16, .int (iI x13), .int (iI x14), .ref a17, .ref a18, .int (iI x15), .ref a19, .int (iI x16), .int r4, .ref a20, .ref a21, .int (iI x17), .int r5, .ref a22, .int (iI x18), .int (iI x19), .int (iI x20), .int (iI x21)])), (a2, .inl (T 0, 329, .inl (cI f0)))] sz) := by
  refine e_I (by decide) (Nat.le_of_ble_eq_true rfl) ?_
  intro p e s m args below meth c A Q ls M hin w ret hl
  have hx := M.1.1
  have hb := M.1.2.1
  have hl : lv_has ls 4 [(0, .ref a0), (1, .int (iI x0))] := hl
  refine lv_iconst (v := iI 0) hx hb dX12_chainOf_0 (by decide +kernel) ?_
  refine lv_istore_n (lv' := [(2, .int (iI 0)), (0, .ref a0), (1, .int (iI x0))]) hx hb dX12_chainOf_1 rfl hl (by decide) rfl (fun ls hl => ?_)
  refine lv_aload_n hx hb dX12_chainOf_2 rfl (lv_at hl 1 rfl) ?_
  refine r_get (v := .ref a2) M w 0 14 clX12 rfl (by decide) G1477 rfl rfl dX12_chainOf_3 ?_
  refine lv_bipush (v := iI 57) hx hb dX12_chainOf_6 (by decide +kernel) ?_
  refine lv_iload_n hx hb dX12_chainOf_8 rfl (lv_at hl 2 rfl) ?_
  refine r_iadd (v := iI (57 + x0)) M (iI_add _ _) dX12_chainOf_9 ?_
  refine r_iald (v := iI (f0 (57 + x0))) M w 1 rfl (iI_in (by omega) (by omega) (by decide)) (cI_at (by omega) (by omega)) dX12_chainOf_10 ?_
  have hh1 : (-2147483648) ≤ (f0 (57 + x0)) ∧ (f0 (57 + x0)) ≤ 2147483647 := f0_h.1 (57 + x0)
  have hh2 : (-1) ≤ (f0 (57 + x0)) ∧ (f0 (57 + x0)) ≤ 8 := (f0_h.2.1 (57 + x0)).2.2.2.1 (by omega) (by omega)
  refine lv_istore_n (lv' := [(3, .int (iI (f0 (57 + x0)))), (2, .int (iI 0)), (0, .ref a0), (1, .int (iI x0))]) hx hb dX12_chainOf_11 rfl hl (by decide) rfl (fun ls hl => ?_)
  have loop1 : ∀ (k1 : Nat) (z3 : Int) (z4 : Int) (H : Heap) (locs : List Loc) (ls : Array Slot), (-1) ≤ z3 → z3 ≤ 8 → 0 ≤ z4 → z4 ≤ 8 → chn f0 x0 z4.toNat z3 → ((9 - z4) : Int).toNat < k1 → WD D A s.heap [(a0, .inr (11, [.int r0, .ref a1, .int (iI x1), .int (iI x2), .int (iI x3), .int (iI x4), .int (iI x5), .int (iI x6), .int r1, .int (iI x7), .int (iI x8), .int (iI x9), .long y0, .int (iI x10), .ref a2, .ref a3, .ref a4, .ref a5, .ref a6, .ref a7, .ref a8, .ref a9, .ref a10, .ref a11, .int (iI x11), .ref a12, .ref a13, .ref a14, .ref a15, .int (iI x12), .int r2, .int r3, .ref a16, .int (iI x13), .int (iI x14), .ref a17, .ref a18, .int (iI x15), .ref a19, .int (iI x16), .int r4, .ref a20, .ref a21, .int (iI x17), .int r5, .ref a22, .int (iI x18), .int (iI x19), .int (iI x20), .int (iI x21)])), (a2, .inl (T 0, 329, .inl (cI f0)))] H locs → lv_has ls 4 [(3, .int (iI z3)), (2, .int (iI z4)), (0, .ref a0), (1, .int (iI x0))] → W p l e (Rm 0 0 0) s m args below meth c H locs 0 0 Q (F0 m 12 ls []) := by
    intro k1
    induction k1 with
    | zero => intro z3 z4 H locs ls z3_a z3_b z4_a z4_b lq1_c hm; exact absurd hm (Nat.not_lt_zero _)
    | succ k1 ih1 =>
      intro z3 z4 H locs ls z3_a z3_b z4_a z4_b lq1_c hm1 w hl
      refine lv_iload_n hx hb dX12_chainOf_12 rfl (lv_at hl 0 rfl) ?_
      refine lv_iconst (v := iI (-1)) hx hb dX12_chainOf_13 (by decide +kernel) ?_
      refine lv_icmp_eq (tgt := 38) hx hb dX12_chainOf_14 (by decide) (fun c_5 => ?_) (fun c_5 => ?_)
      · replace c_5 := (iI_eq (Int.le_trans (by decide) z3_a) (Int.le_trans z3_b (by decide)) (by decide) (by decide)).mp c_5
        refine lv_iload_n hx hb dX12_chainOf_38 rfl (lv_at hl 1 rfl) ?_
        exact ret _ z4 _ _ _ _ _ [0, 1] dX12_chainOf_39 ⟨rfl, (show (-2147483648) ≤ z4 from by omega), (show z4 ≤ 2147483647 from by omega)⟩ w (by decide) rfl
      · replace c_5 : ¬ z3 = (-1) := fun h => c_5 ((iI_eq (Int.le_trans (by decide) z3_a) (Int.le_trans z3_b (by decide)) (by decide) (by decide)).mpr h)
        refine lv_iload_n hx hb dX12_chainOf_17 rfl (lv_at hl 0 rfl) ?_
        refine lv_iload_n hx hb dX12_chainOf_18 rfl (lv_at hl 3 rfl) ?_
        refine lv_icmp_eq (tgt := 38) hx hb dX12_chainOf_19 (by decide) (fun c_6 => ?_) (fun c_6 => ?_)
        · replace c_6 := (iI_eq (Int.le_trans (by decide) z3_a) (Int.le_trans z3_b (by decide)) (Int.le_trans (by decide) x0_a) (Int.le_trans x0_b (by decide))).mp c_6
          refine lv_iload_n hx hb dX12_chainOf_38 rfl (lv_at hl 1 rfl) ?_
          exact ret _ z4 _ _ _ _ _ [0, 1] dX12_chainOf_39 ⟨rfl, (show (-2147483648) ≤ z4 from by omega), (show z4 ≤ 2147483647 from by omega)⟩ w (by decide) rfl
        · replace c_6 : ¬ z3 = x0 := fun h => c_6 ((iI_eq (Int.le_trans (by decide) z3_a) (Int.le_trans z3_b (by decide)) (Int.le_trans (by decide) x0_a) (Int.le_trans x0_b (by decide))).mpr h)
          have hc9 : z4 ≤ 7 := chn_lt lq1_c f0_h.2.2.1 (by omega) (by omega) (by omega) (by omega)
          refine lv_iinc (v := iI (z4 + 1)) (lv' := [(2, .int (iI (z4 + 1))), (3, .int (iI z3)), (0, .ref a0), (1, .int (iI x0))]) hx hb dX12_chainOf_22 hl (k := 1) rfl (ii_inc (by decide +kernel)) (by decide) rfl (fun ls hl => ?_)
          refine lv_aload_n hx hb dX12_chainOf_25 rfl (lv_at hl 2 rfl) ?_
          refine r_get (v := .ref a2) M w 0 14 clX12 rfl (by decide) G1477 rfl rfl dX12_chainOf_26 ?_
          refine lv_bipush (v := iI 57) hx hb dX12_chainOf_29 (by decide +kernel) ?_
          refine lv_iload_n hx hb dX12_chainOf_31 rfl (lv_at hl 1 rfl) ?_
          refine r_iadd (v := iI (57 + z3)) M (iI_add _ _) dX12_chainOf_32 ?_
          refine r_iald (v := iI (f0 (57 + z3))) M w 1 rfl (iI_in (by omega) (by omega) (by decide)) (cI_at (by omega) (by omega)) dX12_chainOf_33 ?_
          have hh7 : (-2147483648) ≤ (f0 (57 + z3)) ∧ (f0 (57 + z3)) ≤ 2147483647 := f0_h.1 (57 + z3)
          have hh8 : (-1) ≤ (f0 (57 + z3)) ∧ (f0 (57 + z3)) ≤ 8 := (f0_h.2.1 (57 + z3)).2.2.2.1 (by omega) (by omega)
          refine lv_istore_n (lv' := [(3, .int (iI (f0 (57 + z3)))), (2, .int (iI (z4 + 1))), (0, .ref a0), (1, .int (iI x0))]) hx hb dX12_chainOf_34 rfl hl (by decide) rfl (fun ls hl => ?_)
          refine lv_goto (tgt := 12) hx hb dX12_chainOf_35 (by decide) ?_
          exact ih1 (f0 (57 + z3)) (z4 + 1) _ _ _ (by omega) (by omega) (by omega) (by omega) (chn_t lq1_c (by omega) (by omega) (by omega) (by omega)) (by omega) w (lv_sub hl [0, 1, 2, 3] rfl)
  exact loop1 ((9 : Int).toNat + 1) (f0 (57 + x0)) 0 _ _ _ (by omega) (by omega) (by decide) (by decide) (chn_0 (by omega) (by omega)) (Nat.lt_succ_self _) w (lv_sub hl [0, 1, 2, 3] rfl)
set_option maxRecDepth 100000 in
set_option maxHeartbeats 4000000 in
theorem c123_X12_isOnRing (l : Launch) (D : va_G) (T : Nat → ClassId) (sz : Nat) (a0 : Nat) (x0 : Int) (r0 : Int32) (a1 : Nat) (x1 : Int) (x2 : Int) (x3 : Int) (x4 : Int) (x5 : Int) (x6 : Int) (r1 : Int32) (x7 : Int) (x8 : Int) (x9 : Int) (y0 : Int64) (x10 : Int) (a2 : Nat) (a3 : Nat) (a4 : Nat) (a5 : Nat) (a6 : Nat) (a7 : Nat) (a8 : Nat) (a9 : Nat) (a10 : Nat) (a11 : Nat) (x11 : Int) (a12 : Nat) (a13 : Nat) (a14 : Nat) (a15 : Nat) (x12 : Int) (r2 : Int32) (r3 : Int32) (a16 : Nat) (x13 : Int) (x14 : Int) (a17 : Nat) (a18 : Nat) (x15 : Int) (a19 : Nat) (x16 : Int) (r4 : Int32) (a20 : Nat) (a21 : Nat) (x17 : Int) (r5 : Int32) (a22 : Nat) (x18 : Int) (x19 : Int) (x20 : Int) (x21 : Int) (f0 : Int → Int) (x0_a : 0 ≤ x0) (x0_b : x0 ≤ 8) (x1_a : 0 ≤ x1) (x1_b : x1 ≤ 940) (x2_a : 0 ≤ x2) (x2_b : x2 ≤ 940) (x3_a : 0 ≤ x3) (x3_b : x3 ≤ 940) (x4_a : 0 ≤ x4) (x4_b : x4 ≤ 940) (x5_a : 0 ≤ x5) (x5_b : x5 ≤ 940) (x6_a : 0 ≤ x6) (x6_b : x6 ≤ 4) (x7_a : (-2147483648) ≤ x7) (x7_b : x7 ≤ 2147483647) (x8_a : (-2147483648) ≤ x8) (x8_b : x8 ≤ 2147483647) (x9_a : 0 ≤ x9) (x9_b : x9 ≤ 940) (x10_a : (-2147483648) ≤ x10) (x10_b : x10 ≤ 2147483647) (x11_a : 0 ≤ x11) (x11_b : x11 ≤ 8) (x12_a : 0 ≤ x12) (x12_b : x12 ≤ 9) (x13_a : (-1) ≤ x13) (x13_b : x13 ≤ 9) (x14_a : (-1) ≤ x14) (x14_b : x14 ≤ 8) (x15_a : 0 ≤ x15) (x15_b : x15 ≤ 9) (x16_a : 0 ≤ x16) (x16_b : x16 ≤ 64) (x17_a : 0 ≤ x17) (x17_b : x17 ≤ 40) (x18_a : 0 ≤ x18) (x18_b : x18 ≤ 40) (x19_a : 0 ≤ x19) (x19_b : x19 ≤ 20) (x20_a : 0 ≤ x20) (x20_b : x20 ≤ 8) (x21_a : 0 ≤ x21) (x21_b : x21 ≤ 39) (f0_h : nowI f0) : Met l yX12_isOnRing (Cond.code yX12_isOnRing cX12_isOnRing 3 (some .boolean) :: GW) (Rm 0 0 0) (cPre [.ref a0, .int (iI x0)] D T [(a0, .inr (11, [.int r0, .ref a1, .int (iI x1), .int (iI x2), .int (iI x3), .int (iI x4), .int (iI x5), .int (iI x6), .int r1, .int (iI x7), .int (iI x8), .int (iI x9), .long y0, .int (iI x10), .ref a2, .ref a3, .ref a4, .ref a5, .ref a6, .ref a7, .ref a8, .ref a9, .ref a10, .ref a11, .int (iI x11), .ref a12, .ref a13, .ref a14, .ref a15, .int (iI x12), .int r2, .int r3, .ref a16, .int (iI x13), .int (iI x14), .ref a17, .ref a18, .int (iI x15), .ref a19, .int (iI x16), .int r4, .ref a20, .ref a21, .int (iI x17), .int r5, .ref a22, .int (iI x18), .int (iI x19), .int (iI x20), .int (iI x21)])), (a2, .inl (T 0, 329, .inl (cI f0)))] sz) (qI D [(a0, .inr (11, [.int r0, .ref a1, .int (iI x1), .int (iI x2), .int (iI x3), .int (iI x4), .int (iI x5), .int (iI x6), .int r1, .int (iI x7), .int (iI x8), .int (iI x9), .long y0, .int (iI x10), .ref a2, .ref a3, .ref a4, .ref a5, .ref a6, .ref a7, .ref a8, .ref a9, .ref a10, .ref a11, .int (iI x11), .ref a12, .ref a13, .ref a14, .ref a15, .int (iI x12), .int r2, .int r3, .ref a16, .int (iI x13), .int (iI x14), .ref a17, .ref a18, .int (iI x15), .ref a19, .int (iI x16), .int r4, .ref a20, .ref a21, .int (iI x17), .int r5, .ref a22, .int (iI x18), .int (iI x19), .int (iI x20), .int (iI x21)])), (a2, .inl (T 0, 329, .inl (cI f0)))] sz (fun (v : Int32) (u : Int) => iI u = v ∧ 0 ≤ u ∧ u ≤ 1) (fun u => [(a0, .inr (11, [.int r0, .ref a1, .int (iI x1), .int (iI x2), .int (iI x3), .int (iI x4), .int (iI x5), .int (iI x6), .int r1, .int (iI x7), .int (iI x8), .int (iI x9), .long y0, .int (iI x10), .ref a2, .ref a3, .ref a4, .ref a5, .ref a6, .ref a7, .ref a8, .ref a9, .ref a10, .ref a11, .int (iI x11), .ref a12, .ref a13, .ref a14, .ref a15, .int (iI x12), .int r2, .int r3, .ref a16, .int (iI x13), .int (iI x14), .ref a17, .ref a18, .int (iI x15), .ref a19, .int (iI x16), .int r4, .ref a20, .ref a21, .int (iI x17), .int r5, .ref a22, .int (iI x18), .int (iI x19), .int (iI x20), .int (iI x21)])), (a2, .inl (T 0, 329, .inl (cI f0)))])) 0 0 (va_A [(a0, .inr (11, [.int r0, .ref a1, .int (iI x1), .int (iI x2), .int (iI x3), .int (iI x4), .int (iI x5), .int (iI x6), .int r1, .int (iI x7), .int (iI x8), .int (iI x9), .long y0, .int (iI x10), .ref a2, .ref a3, .ref a4, .ref a5, .ref a6, .ref a7, .ref a8, .ref a9, .ref a10, .ref a11, .int (iI x11), .ref a12, .ref a13, .ref a14, .ref a15, .int (iI x12), .int r2, .int r3, .ref a16, .int (iI x13), .int (iI x14), .ref a17, .ref a18, .int (iI x15), .ref a19, .int (iI x16), .int r4, .ref a20, .ref a21, .int (iI x17), .int r5, .ref a22, .int (iI x18), .int (iI x19), .int (iI x20), .int (iI x21)])), (a2, .inl (T 0, 329, .inl (cI f0)))] sz) := by
  refine e_Z (by decide) (Nat.le_of_ble_eq_true rfl) ?_
  intro p e s m args below meth c A Q ls M hin w ret hl
  have hx := M.1.1
  have hb := M.1.2.1
  have hl : lv_has ls 3 [(0, .ref a0), (1, .int (iI x0))] := hl
  refine lv_aload_n hx hb dX12_isOnRing_0 rfl (lv_at hl 0 rfl) ?_
  refine r_get (v := .ref a2) M w 0 14 clX12 rfl (by decide) G1477 rfl rfl dX12_isOnRing_1 ?_
  refine lv_bipush (v := iI 57) hx hb dX12_isOnRing_4 (by decide +kernel) ?_
  refine lv_iload_n hx hb dX12_isOnRing_6 rfl (lv_at hl 1 rfl) ?_
  refine r_iadd (v := iI (57 + x0)) M (iI_add _ _) dX12_isOnRing_7 ?_
  refine r_iald (v := iI (f0 (57 + x0))) M w 1 rfl (iI_in (by omega) (by omega) (by decide)) (cI_at (by omega) (by omega)) dX12_isOnRing_8 ?_
  have hh1 : (-2147483648) ≤ (f0 (57 + x0)) ∧ (f0 (57 + x0)) ≤ 2147483647 := f0_h.1 (57 + x0)
  have hh2 : (-1) ≤ (f0 (57 + x0)) ∧ (f0 (57 + x0)) ≤ 8 := (f0_h.2.1 (57 + x0)).2.2.2.1 (by omega) (by omega)
  refine lv_istore_n (lv' := [(2, .int (iI (f0 (57 + x0)))), (0, .ref a0), (1, .int (iI x0))]) hx hb dX12_isOnRing_9 rfl hl (by decide) rfl (fun ls hl => ?_)
  have loop1 : ∀ (k1 : Nat) (z3 : Int) (z4 : Int) (H : Heap) (locs : List Loc) (ls : Array Slot), (-1) ≤ z3 → z3 ≤ 8 → 0 ≤ z4 → z4 ≤ 8 → chn f0 x0 z4.toNat z3 → ((9 - z4) : Int).toNat < k1 → WD D A s.heap [(a0, .inr (11, [.int r0, .ref a1, .int (iI x1), .int (iI x2), .int (iI x3), .int (iI x4), .int (iI x5), .int (iI x6), .int r1, .int (iI x7), .int (iI x8), .int (iI x9), .long y0, .int (iI x10), .ref a2, .ref a3, .ref a4, .ref a5, .ref a6, .ref a7, .ref a8, .ref a9, .ref a10, .ref a11, .int (iI x11), .ref a12, .ref a13, .ref a14, .ref a15, .int (iI x12), .int r2, .int r3, .ref a16, .int (iI x13), .int (iI x14), .ref a17, .ref a18, .int (iI x15), .ref a19, .int (iI x16), .int r4, .ref a20, .ref a21, .int (iI x17), .int r5, .ref a22, .int (iI x18), .int (iI x19), .int (iI x20), .int (iI x21)])), (a2, .inl (T 0, 329, .inl (cI f0)))] H locs → lv_has ls 3 [(2, .int (iI z3)), (0, .ref a0), (1, .int (iI x0))] → W p l e (Rm 0 0 0) s m args below meth c H locs 0 0 Q (F0 m 10 ls []) := by
    intro k1
    induction k1 with
    | zero => intro z3 z4 H locs ls z3_a z3_b z4_a z4_b lq1_c hm; exact absurd hm (Nat.not_lt_zero _)
    | succ k1 ih1 =>
      intro z3 z4 H locs ls z3_a z3_b z4_a z4_b lq1_c hm1 w hl
      refine lv_iload_n hx hb dX12_isOnRing_10 rfl (lv_at hl 0 rfl) ?_
      refine lv_iconst (v := iI (-1)) hx hb dX12_isOnRing_11 (by decide +kernel) ?_
      refine lv_icmp_eq (tgt := 33) hx hb dX12_isOnRing_12 (by decide) (fun c_5 => ?_) (fun c_5 => ?_)
      · replace c_5 := (iI_eq (Int.le_trans (by decide) z3_a) (Int.le_trans z3_b (by decide)) (by decide) (by decide)).mp c_5
        refine lv_iload_n hx hb dX12_isOnRing_33 rfl (lv_at hl 0 rfl) ?_
        refine lv_iload_n hx hb dX12_isOnRing_34 rfl (lv_at hl 2 rfl) ?_
        refine lv_icmp_ne (tgt := 42) hx hb dX12_isOnRing_35 (by decide) (fun c_6 => ?_) (fun c_6 => ?_)
        · replace c_6 : ¬ z3 = x0 := fun h => c_6 ((iI_eq (Int.le_trans (by decide) z3_a) (Int.le_trans z3_b (by decide)) (Int.le_trans (by decide) x0_a) (Int.le_trans x0_b (by decide))).mpr h)
          refine lv_iconst (v := iI 0) hx hb dX12_isOnRing_42 (by decide +kernel) ?_
          exact ret _ 0 _ _ _ _ _ [0, 1] dX12_isOnRing_43 (by decide +kernel) ⟨rfl, (show (0 : Int) ≤ 0 from by decide), (show (0 : Int) ≤ 1 from by decide)⟩ w (by decide) rfl
        · replace c_6 := (iI_eq (Int.le_trans (by decide) z3_a) (Int.le_trans z3_b (by decide)) (Int.le_trans (by decide) x0_a) (Int.le_trans x0_b (by decide))).mp c_6
          exfalso; omega
      · replace c_5 : ¬ z3 = (-1) := fun h => c_5 ((iI_eq (Int.le_trans (by decide) z3_a) (Int.le_trans z3_b (by decide)) (by decide) (by decide)).mpr h)
        refine lv_iload_n hx hb dX12_isOnRing_15 rfl (lv_at hl 0 rfl) ?_
        refine lv_iload_n hx hb dX12_isOnRing_16 rfl (lv_at hl 2 rfl) ?_
        refine lv_icmp_eq (tgt := 33) hx hb dX12_isOnRing_17 (by decide) (fun c_7 => ?_) (fun c_7 => ?_)
        · replace c_7 := (iI_eq (Int.le_trans (by decide) z3_a) (Int.le_trans z3_b (by decide)) (Int.le_trans (by decide) x0_a) (Int.le_trans x0_b (by decide))).mp c_7
          refine lv_iload_n hx hb dX12_isOnRing_33 rfl (lv_at hl 0 rfl) ?_
          refine lv_iload_n hx hb dX12_isOnRing_34 rfl (lv_at hl 2 rfl) ?_
          refine lv_icmp_ne (tgt := 42) hx hb dX12_isOnRing_35 (by decide) (fun c_8 => ?_) (fun c_8 => ?_)
          · replace c_8 : ¬ z3 = x0 := fun h => c_8 ((iI_eq (Int.le_trans (by decide) z3_a) (Int.le_trans z3_b (by decide)) (Int.le_trans (by decide) x0_a) (Int.le_trans x0_b (by decide))).mpr h)
            exfalso; omega
          · replace c_8 := (iI_eq (Int.le_trans (by decide) z3_a) (Int.le_trans z3_b (by decide)) (Int.le_trans (by decide) x0_a) (Int.le_trans x0_b (by decide))).mp c_8
            refine lv_iconst (v := iI 1) hx hb dX12_isOnRing_38 (by decide +kernel) ?_
            refine lv_goto (tgt := 43) hx hb dX12_isOnRing_39 (by decide) ?_
            exact ret _ 1 _ _ _ _ _ [0, 1] dX12_isOnRing_43 (by decide +kernel) ⟨rfl, (show (0 : Int) ≤ 1 from by decide), (show (1 : Int) ≤ 1 from by decide)⟩ w (by decide) rfl
        · replace c_7 : ¬ z3 = x0 := fun h => c_7 ((iI_eq (Int.le_trans (by decide) z3_a) (Int.le_trans z3_b (by decide)) (Int.le_trans (by decide) x0_a) (Int.le_trans x0_b (by decide))).mpr h)
          have hc9 : z4 ≤ 7 := chn_lt lq1_c f0_h.2.2.1 (by omega) (by omega) (by omega) (by omega)
          refine lv_aload_n hx hb dX12_isOnRing_20 rfl (lv_at hl 1 rfl) ?_
          refine r_get (v := .ref a2) M w 0 14 clX12 rfl (by decide) G1477 rfl rfl dX12_isOnRing_21 ?_
          refine lv_bipush (v := iI 57) hx hb dX12_isOnRing_24 (by decide +kernel) ?_
          refine lv_iload_n hx hb dX12_isOnRing_26 rfl (lv_at hl 0 rfl) ?_
          refine r_iadd (v := iI (57 + z3)) M (iI_add _ _) dX12_isOnRing_27 ?_
          refine r_iald (v := iI (f0 (57 + z3))) M w 1 rfl (iI_in (by omega) (by omega) (by decide)) (cI_at (by omega) (by omega)) dX12_isOnRing_28 ?_
          have hh9 : (-2147483648) ≤ (f0 (57 + z3)) ∧ (f0 (57 + z3)) ≤ 2147483647 := f0_h.1 (57 + z3)
          have hh10 : (-1) ≤ (f0 (57 + z3)) ∧ (f0 (57 + z3)) ≤ 8 := (f0_h.2.1 (57 + z3)).2.2.2.1 (by omega) (by omega)
          refine lv_istore_n (lv' := [(2, .int (iI (f0 (57 + z3)))), (0, .ref a0), (1, .int (iI x0))]) hx hb dX12_isOnRing_29 rfl hl (by decide) rfl (fun ls hl => ?_)
          refine lv_goto (tgt := 10) hx hb dX12_isOnRing_30 (by decide) ?_
          exact ih1 (f0 (57 + z3)) (z4 + 1) _ _ _ (by omega) (by omega) (by omega) (by omega) (chn_t lq1_c (by omega) (by omega) (by omega) (by omega)) (by omega) w (lv_sub hl [0, 1, 2] rfl)
  exact loop1 ((9 : Int).toNat + 1) (f0 (57 + x0)) 0 _ _ _ (by omega) (by omega) (by decide) (by decide) (chn_0 (by omega) (by omega)) (Nat.lt_succ_self _) w (lv_sub hl [0, 1, 2] rfl)
set_option maxRecDepth 100000 in
set_option maxHeartbeats 4000000 in
theorem c124_X12_quiet (l : Launch) (D : va_G) (T : Nat → ClassId) (sz : Nat) (a0 : Nat) (r0 : Int32) (a1 : Nat) (x0 : Int) (x1 : Int) (x2 : Int) (x3 : Int) (x4 : Int) (x5 : Int) (r1 : Int32) (x6 : Int) (x7 : Int) (x8 : Int) (y0 : Int64) (x9 : Int) (a2 : Nat) (a3 : Nat) (a4 : Nat) (a5 : Nat) (a6 : Nat) (a7 : Nat) (a8 : Nat) (a9 : Nat) (a10 : Nat) (a11 : Nat) (x10 : Int) (a12 : Nat) (a13 : Nat) (a14 : Nat) (a15 : Nat) (x11 : Int) (r2 : Int32) (r3 : Int32) (a16 : Nat) (x12 : Int) (x13 : Int) (a17 : Nat) (a18 : Nat) (x14 : Int) (a19 : Nat) (x15 : Int) (r4 : Int32) (a20 : Nat) (a21 : Nat) (x16 : Int) (r5 : Int32) (a22 : Nat) (x17 : Int) (x18 : Int) (x19 : Int) (x20 : Int) (f0 : Int → Int) (x0_a : 0 ≤ x0) (x0_b : x0 ≤ 940) (x1_a : 0 ≤ x1) (x1_b : x1 ≤ 940) (x2_a : 0 ≤ x2) (x2_b : x2 ≤ 940) (x3_a : 0 ≤ x3) (x3_b : x3 ≤ 940) (x4_a : 0 ≤ x4) (x4_b : x4 ≤ 940) (x5_a : 0 ≤ x5) (x5_b : x5 ≤ 4) (x6_a : (-2147483648) ≤ x6) (x6_b : x6 ≤ 2147483647) (x7_a : (-2147483648) ≤ x7) (x7_b : x7 ≤ 2147483647) (x8_a : 0 ≤ x8) (x8_b : x8 ≤ 940) (x9_a : (-2147483648) ≤ x9) (x9_b : x9 ≤ 2147483647) (x10_a : 0 ≤ x10) (x10_b : x10 ≤ 8) (x11_a : 0 ≤ x11) (x11_b : x11 ≤ 9) (x12_a : (-1) ≤ x12) (x12_b : x12 ≤ 9) (x13_a : (-1) ≤ x13) (x13_b : x13 ≤ 8) (x14_a : 0 ≤ x14) (x14_b : x14 ≤ 9) (x15_a : 0 ≤ x15) (x15_b : x15 ≤ 64) (x16_a : 0 ≤ x16) (x16_b : x16 ≤ 40) (x17_a : 0 ≤ x17) (x17_b : x17 ≤ 40) (x18_a : 0 ≤ x18) (x18_b : x18 ≤ 20) (x19_a : 0 ≤ x19) (x19_b : x19 ≤ 8) (x20_a : 0 ≤ x20) (x20_b : x20 ≤ 39) (f0_h : nowI f0) : Met l yX12_quiet (Cond.code yX12_quiet cX12_quiet 3 (some .int) :: GW) (Rm 1 0 0) (cPre [.ref a0] D T [(a0, .inr (11, [.int r0, .ref a1, .int (iI x0), .int (iI x1), .int (iI x2), .int (iI x3), .int (iI x4), .int (iI x5), .int r1, .int (iI x6), .int (iI x7), .int (iI x8), .long y0, .int (iI x9), .ref a2, .ref a3, .ref a4, .ref a5, .ref a6, .ref a7, .ref a8, .ref a9, .ref a10, .ref a11, .int (iI x10), .ref a12, .ref a13, .ref a14, .ref a15, .int (iI x11), .int r2, .int r3, .ref a16, .int (iI x12), .int (iI x13), .ref a17, .ref a18, .int (iI x14), .ref a19, .int (iI x15), .int r4, .ref a20, .ref a21, .int (iI x16), .int r5, .ref a22, .int (iI x17), .int (iI x18), .int (iI x19), .int (iI x20)])), (a2, .inl (T 0, 329, .inl (cI f0)))] sz) (qI D [(a0, .inr (11, [.int r0, .ref a1, .int (iI x0), .int (iI x1), .int (iI x2), .int (iI x3), .int (iI x4), .int (iI x5), .int r1, .int (iI x6), .int (iI x7), .int (iI x8), .long y0, .int (iI x9), .ref a2, .ref a3, .ref a4, .ref a5, .ref a6, .ref a7, .ref a8, .ref a9, .ref a10, .ref a11, .int (iI x10), .ref a12, .ref a13, .ref a14, .ref a15, .int (iI x11), .int r2, .int r3, .ref a16, .int (iI x12), .int (iI x13), .ref a17, .ref a18, .int (iI x14), .ref a19, .int (iI x15), .int r4, .ref a20, .ref a21, .int (iI x16), .int r5, .ref a22, .int (iI x17), .int (iI x18), .int (iI x19), .int (iI x20)])), (a2, .inl (T 0, 329, .inl (cI f0)))] sz (fun (v : Int32) (u : Int × Int32) => iI u.1 = v ∧ (-2147483648) ≤ u.1 ∧ u.1 ≤ 2147483647) (fun u => [(a0, .inr (11, [.int u.2, .ref a1, .int (iI x0), .int (iI x1), .int (iI x2), .int (iI x3), .int (iI x4), .int (iI x5), .int r1, .int (iI x6), .int (iI x7), .int (iI x8), .long y0, .int (iI x9), .ref a2, .ref a3, .ref a4, .ref a5, .ref a6, .ref a7, .ref a8, .ref a9, .ref a10, .ref a11, .int (iI x10), .ref a12, .ref a13, .ref a14, .ref a15, .int (iI x11), .int r2, .int r3, .ref a16, .int (iI x12), .int (iI x13), .ref a17, .ref a18, .int (iI x14), .ref a19, .int (iI x15), .int r4, .ref a20, .ref a21, .int (iI x16), .int r5, .ref a22, .int (iI x17), .int (iI x18), .int (iI x19), .int (iI x20)])), (a2, .inl (T 0, 329, .inl (cI f0)))])) 0 0 (va_A [(a0, .inr (11, [.int r0, .ref a1, .int (iI x0), .int (iI x1), .int (iI x2), .int (iI x3), .int (iI x4), .int (iI x5), .int r1, .int (iI x6), .int (iI x7), .int (iI x8), .long y0, .int (iI x9), .ref a2, .ref a3, .ref a4, .ref a5, .ref a6, .ref a7, .ref a8, .ref a9, .ref a10, .ref a11, .int (iI x10), .ref a12, .ref a13, .ref a14, .ref a15, .int (iI x11), .int r2, .int r3, .ref a16, .int (iI x12), .int (iI x13), .ref a17, .ref a18, .int (iI x14), .ref a19, .int (iI x15), .int r4, .ref a20, .ref a21, .int (iI x16), .int r5, .ref a22, .int (iI x17), .int (iI x18), .int (iI x19), .int (iI x20)])), (a2, .inl (T 0, 329, .inl (cI f0)))] sz) := by
  refine e_I (by decide) (Nat.le_of_ble_eq_true rfl) ?_
  intro p e s m args below meth c A Q ls M hin w ret hl
  have hx := M.1.1
  have hb := M.1.2.1
  have hl : lv_has ls 3 [(0, .ref a0)] := hl
  refine lv_aload_n hx hb dX12_quiet_0 rfl (lv_at hl 0 rfl) ?_
  refine lv_iconst (v := iI 0) hx hb dX12_quiet_1 (by decide +kernel) ?_
  refine r_put (ws' := [(a0, .inr (11, [.int (iI 0), .ref a1, .int (iI x0), .int (iI x1), .int (iI x2), .int (iI x3), .int (iI x4), .int (iI x5), .int r1, .int (iI x6), .int (iI x7), .int (iI x8), .long y0, .int (iI x9), .ref a2, .ref a3, .ref a4, .ref a5, .ref a6, .ref a7, .ref a8, .ref a9, .ref a10, .ref a11, .int (iI x10), .ref a12, .ref a13, .ref a14, .ref a15, .int (iI x11), .int r2, .int r3, .ref a16, .int (iI x12), .int (iI x13), .ref a17, .ref a18, .int (iI x14), .ref a19, .int (iI x15), .int r4, .ref a20, .ref a21, .int (iI x16), .int r5, .ref a22, .int (iI x17), .int (iI x18), .int (iI x19), .int (iI x20)])), (a2, .inl (T 0, 329, .inl (cI f0)))]) M w 0 0 clX12 rfl (by decide) G1463 rfl rfl rfl rfl (Nat.le_of_ble_eq_true rfl) rfl dX12_quiet_2 (fun H locs w => ?_)
  refine lv_iconst (v := iI 0) hx hb dX12_quiet_5 (by decide +kernel) ?_
  refine lv_istore_n (lv' := [(1, .int (iI 0)), (0, .ref a0)]) hx hb dX12_quiet_6 rfl hl (by decide) rfl (fun ls hl => ?_)
  refine lv_iconst (v := iI 0) hx hb dX12_quiet_7 (by decide +kernel) ?_
  refine lv_istore_n (lv' := [(2, .int (iI 0)), (1, .int (iI 0)), (0, .ref a0)]) hx hb dX12_quiet_8 rfl hl (by decide) rfl (fun ls hl => ?_)
  have loop1 : ∀ (k1 : Nat) (z1 : Int) (z2 : Int) (H : Heap) (locs : List Loc) (ls : Array Slot), 0 ≤ z1 → z1 ≤ 9 → (-2147483648) ≤ z2 → z2 ≤ 2147483647 → ((9 - z1) : Int).toNat < k1 → WD D A s.heap [(a0, .inr (11, [.int (iI 0), .ref a1, .int (iI x0), .int (iI x1), .int (iI x2), .int (iI x3), .int (iI x4), .int (iI x5), .int r1, .int (iI x6), .int (iI x7), .int (iI x8), .long y0, .int (iI x9), .ref a2, .ref a3, .ref a4, .ref a5, .ref a6, .ref a7, .ref a8, .ref a9, .ref a10, .ref a11, .int (iI x10), .ref a12, .ref a13, .ref a14, .ref a15, .int (iI x11), .int r2, .int r3, .ref a16, .int (iI x12), .int (iI x13), .ref a17, .ref a18, .int (iI x14), .ref a19, .int (iI x15), .int r4, .ref a20, .ref a21, .int (iI x16), .int r5, .ref a22, .int (iI x17), .int (iI x18), .int (iI x19), .int (iI x20)])), (a2, .inl (T 0, 329, .inl (cI f0)))] H locs → lv_has ls 3 [(2, .int (iI z1)), (1, .int (iI z2)), (0, .ref a0)] → W p l e (Rm 1 0 0) s m args below meth c H locs 0 0 Q (F0 m 9 ls []) := by
    intro k1
    induction k1 with
    | zero => intro z1 z2 H locs ls z1_a z1_b z2_a z2_b hm; exact absurd hm (Nat.not_lt_zero _)
    | succ k1 ih1 =>
      intro z1 z2 H locs ls z1_a z1_b z2_a z2_b hm1 w hl
      refine lv_iload_n hx hb dX12_quiet_9 rfl (lv_at hl 0 rfl) ?_
      refine lv_aload_n hx hb dX12_quiet_10 rfl (lv_at hl 2 rfl) ?_
      refine r_get (v := .ref a2) M w 0 14 clX12 rfl (by decide) G1477 rfl rfl dX12_quiet_11 ?_
      refine lv_iconst (v := iI 0) hx hb dX12_quiet_14 (by decide +kernel) ?_
      refine r_iald (v := iI (f0 0)) M w 1 rfl (iI_in (by decide) (by decide) (by decide)) (cI_at (by omega) (by omega)) dX12_quiet_15 ?_
      have hh3 : (-2147483648) ≤ (f0 0) ∧ (f0 0) ≤ 2147483647 := f0_h.1 0
      have hh4 : 0 ≤ (f0 0) ∧ (f0 0) ≤ 9 := (f0_h.2.1 0).1 (by omega)
      refine lv_icmp_ge (tgt := 39) hx hb dX12_quiet_16 (by decide) (fun c_5 => ?_) (fun c_5 => ?_)
      · replace c_5 := (iI_le (by omega) (by omega) (Int.le_trans (by decide) z1_a) (Int.le_trans z1_b (by decide))).mp c_5
        refine lv_iload_n hx hb dX12_quiet_39 rfl (lv_at hl 1 rfl) ?_
        exact ret _ (z2, (iI 0)) _ _ _ _ _ [0, 1] dX12_quiet_40 ⟨rfl, z2_a, z2_b⟩ w (by decide) rfl
      · replace c_5 : z1 < (f0 0) := Int.not_le.mp (fun h => c_5 ((iI_le (by omega) (by omega) (Int.le_trans (by decide) z1_a) (Int.le_trans z1_b (by decide))).mpr h))
        refine lv_aload_n hx hb dX12_quiet_19 rfl (lv_at hl 2 rfl) ?_
        refine lv_iload_n hx hb dX12_quiet_20 rfl (lv_at hl 0 rfl) ?_
        refine k_I (ce := 0) (sl := 0) (rest := []) (wr := []) (r_V (f := 0) [0, 1] M w V_HookedCityModel_249 G1748 G71 (c123_X12_isOnRing l D T _ a0 z1 (iI 0) a1 x0 x1 x2 x3 x4 x5 r1 x6 x7 x8 y0 x9 a2 a3 a4 a5 a6 a7 a8 a9 a10 a11 x10 a12 a13 a14 a15 x11 r2 r3 a16 x12 x13 a17 a18 x14 a19 x15 r4 a20 a21 x16 r5 a22 x17 x18 x19 x20 f0 (by omega) (by omega) x0_a x0_b x1_a x1_b x2_a x2_b x3_a x3_b x4_a x4_b x5_a x5_b x6_a x6_b x7_a x7_b x8_a x8_b x9_a x9_b x10_a x10_b x11_a x11_b x12_a x12_b x13_a x13_b x14_a x14_b x15_a x15_b x16_a x16_b x17_a x17_b x18_a x18_b x19_a x19_b x20_a x20_b f0_h) 0 clX12 rfl rfl (by decide) rfl hl.1 rfl (Nat.le_of_ble_eq_true rfl) dX12_quiet_21 (by decide) (by decide) (by decide) (by decide)) w [0, 1] [] rfl rfl (by decide) (by decide) rfl rfl (fun v z6 H locs hp w => ?_)
        have hv : iI z6 = v := hp.1
        subst hv
        have z6_a : 0 ≤ z6 := hp.2.1
        have z6_b : z6 ≤ 1 := hp.2.2
        have w : WD D A s.heap [(a0, .inr (11, [.int (iI 0), .ref a1, .int (iI x0), .int (iI x1), .int (iI x2), .int (iI x3), .int (iI x4), .int (iI x5), .int r1, .int (iI x6), .int (iI x7), .int (iI x8), .long y0, .int (iI x9), .ref a2, .ref a3, .ref a4, .ref a5, .ref a6, .ref a7, .ref a8, .ref a9, .ref a10, .ref a11, .int (iI x10), .ref a12, .ref a13, .ref a14, .ref a15, .int (iI x11), .int r2, .int r3, .ref a16, .int (iI x12), .int (iI x13), .ref a17, .ref a18, .int (iI x14), .ref a19, .int (iI x15), .int r4, .ref a20, .ref a21, .int (iI x16), .int r5, .ref a22, .int (iI x17), .int (iI x18), .int (iI x19), .int (iI x20)])), (a2, .inl (T 0, 329, .inl (cI f0)))] H locs := w
        refine lv_if_eq (tgt := 33) hx hb dX12_quiet_24 (by decide) (fun c_7 => ?_) (fun c_7 => ?_)
        · replace c_7 := (iz_eq (Int.le_trans (by decide) z6_a) (Int.le_trans z6_b (by decide))).mp c_7
          refine lv_iinc (v := iI (z1 + 1)) (lv' := [(2, .int (iI (z1 + 1))), (1, .int (iI z2)), (0, .ref a0)]) hx hb dX12_quiet_33 hl (k := 0) rfl (ii_inc (by decide +kernel)) (by decide) rfl (fun ls hl => ?_)
          refine lv_goto (tgt := 9) hx hb dX12_quiet_36 (by decide) ?_
          exact ih1 (z1 + 1) z2 _ _ _ (by omega) (by omega) z2_a z2_b (by omega) w (lv_sub hl [0, 1, 2] rfl)
        · replace c_7 : ¬ z6 = 0 := fun h => c_7 ((iz_eq (Int.le_trans (by decide) z6_a) (Int.le_trans z6_b (by decide))).mpr h)
          refine lv_iload_n hx hb dX12_quiet_27 rfl (lv_at hl 1 rfl) ?_
          refine lv_iconst (v := iI 1) hx hb dX12_quiet_28 (by decide +kernel) ?_
          refine lv_iload_n hx hb dX12_quiet_29 rfl (lv_at hl 0 rfl) ?_
          refine r_ishl (v := _) M rfl dX12_quiet_30 ?_
          refine b_rng (lo := 1) (hi := 256) (ishl_9 (by omega) (by omega)) (fun z8 z8_a z8_b => ?_)
          refine r_ior (v := _) M rfl dX12_quiet_31 ?_
          refine b_any (fun z9 z9_a z9_b => ?_)
          refine lv_istore_n (lv' := [(1, .int (iI z9)), (2, .int (iI z1)), (0, .ref a0)]) hx hb dX12_quiet_32 rfl hl (by decide) rfl (fun ls hl => ?_)
          refine lv_iinc (v := iI (z1 + 1)) (lv' := [(2, .int (iI (z1 + 1))), (1, .int (iI z9)), (0, .ref a0)]) hx hb dX12_quiet_33 hl (k := 1) rfl (ii_inc (by decide +kernel)) (by decide) rfl (fun ls hl => ?_)
          refine lv_goto (tgt := 9) hx hb dX12_quiet_36 (by decide) ?_
          exact ih1 (z1 + 1) z9 _ _ _ (by omega) (by omega) z9_a z9_b (by omega) w (lv_sub hl [0, 1, 2] rfl)
  exact loop1 ((9 : Int).toNat + 1) 0 0 _ _ _ (by decide) (by decide) (by decide) (by decide) (Nat.lt_succ_self _) w (lv_sub hl [0, 1, 2] rfl)
set_option maxRecDepth 100000 in
set_option maxHeartbeats 4000000 in
theorem c125_X12_has (l : Launch) (D : va_G) (T : Nat → ClassId) (sz : Nat) (r0 : Int32) (x0 : Int) (x0_a : (-2147483648) ≤ x0) (x0_b : x0 ≤ 2147483647) : Met l yX12_has (Cond.code yX12_has cX12_has 2 (some .boolean) :: GW) (Rm 0 0 0) (cPre [.int r0, .int (iI x0)] D T [] sz) (qI D [] sz (fun (v : Int32) (u : Int) => iI u = v ∧ 0 ≤ u ∧ u ≤ 1 ∧ (u = 1 → hbt r0 x0) ∧ (u = 0 → ¬ hbt r0 x0)) (fun u => [])) 0 0 (va_A [] sz) := by
  refine e_Z (by decide) (Nat.le_of_ble_eq_true rfl) ?_
  intro p e s m args below meth c A Q ls M hin w ret hl
  have hx := M.1.1
  have hb := M.1.2.1
  have hl : lv_has ls 2 [(0, .int r0), (1, .int (iI x0))] := hl
  refine lv_iload_n hx hb dX12_has_0 rfl (lv_at hl 0 rfl) ?_
  refine lv_iload_n hx hb dX12_has_1 rfl (lv_at hl 1 rfl) ?_
  refine r_ishr (v := (r0 >>> ((iI x0) &&& 31))) M rfl dX12_has_2 ?_
  refine lv_iconst (v := iI 1) hx hb dX12_has_3 (by decide +kernel) ?_
  refine r_iand (v := ((r0 >>> ((iI x0) &&& 31)) &&& (iI 1))) M rfl dX12_has_4 ?_
  refine lv_iconst (v := iI 1) hx hb dX12_has_5 (by decide +kernel) ?_
  refine lv_icmp_ne (tgt := 13) hx hb dX12_has_6 (by decide) (fun c_1 => ?_) (fun c_1 => ?_)
  · refine lv_iconst (v := iI 0) hx hb dX12_has_13 (by decide +kernel) ?_
    exact ret _ 0 _ _ _ _ _ [] dX12_has_14 (by decide +kernel) ⟨rfl, (show (0 : Int) ≤ 0 from by decide), (show (0 : Int) ≤ 1 from by decide), (show 0 = 1 → hbt r0 x0 from (fun h => absurd h (by decide))), (show 0 = 0 → ¬ hbt r0 x0 from (fun _ => c_1))⟩ w (by decide) rfl
  · refine lv_iconst (v := iI 1) hx hb dX12_has_9 (by decide +kernel) ?_
    refine lv_goto (tgt := 14) hx hb dX12_has_10 (by decide) ?_
    exact ret _ 1 _ _ _ _ _ [] dX12_has_14 (by decide +kernel) ⟨rfl, (show (0 : Int) ≤ 1 from by decide), (show (1 : Int) ≤ 1 from by decide), (show 1 = 1 → hbt r0 x0 from (fun _ => c_1)), (show 1 = 0 → ¬ hbt r0 x0 from (fun h => absurd h (by decide)))⟩ w (by decide) rfl
set_option maxRecDepth 100000 in
set_option maxHeartbeats 4000000 in
theorem c126_X12_withOf (l : Launch) (D : va_G) (T : Nat → ClassId) (sz : Nat) (a0 : Nat) (x0 : Int) (r0 : Int32) (a1 : Nat) (x1 : Int) (x2 : Int) (x3 : Int) (x4 : Int) (x5 : Int) (x6 : Int) (r1 : Int32) (x7 : Int) (x8 : Int) (x9 : Int) (y0 : Int64) (x10 : Int) (a2 : Nat) (a3 : Nat) (a4 : Nat) (a5 : Nat) (a6 : Nat) (a7 : Nat) (a8 : Nat) (a9 : Nat) (a10 : Nat) (a11 : Nat) (x11 : Int) (a12 : Nat) (a13 : Nat) (a14 : Nat) (a15 : Nat) (x12 : Int) (r2 : Int32) (r3 : Int32) (a16 : Nat) (x13 : Int) (x14 : Int) (a17 : Nat) (a18 : Nat) (x15 : Int) (a19 : Nat) (x16 : Int) (r4 : Int32) (a20 : Nat) (a21 : Nat) (x17 : Int) (r5 : Int32) (a22 : Nat) (x18 : Int) (x19 : Int) (x20 : Int) (x21 : Int) (f0 : Int → Int) (x0_a : 0 ≤ x0) (x0_b : x0 ≤ 8) (x1_a : 0 ≤ x1) (x1_b : x1 ≤ 940) (x2_a : 0 ≤ x2) (x2_b : x2 ≤ 940) (x3_a : 0 ≤ x3) (x3_b : x3 ≤ 940) (x4_a : 0 ≤ x4) (x4_b : x4 ≤ 940) (x5_a : 0 ≤ x5) (x5_b : x5 ≤ 940) (x6_a : 0 ≤ x6) (x6_b : x6 ≤ 4) (x7_a : (-2147483648) ≤ x7) (x7_b : x7 ≤ 2147483647) (x8_a : (-2147483648) ≤ x8) (x8_b : x8 ≤ 2147483647) (x9_a : 0 ≤ x9) (x9_b : x9 ≤ 940) (x10_a : (-2147483648) ≤ x10) (x10_b : x10 ≤ 2147483647) (x11_a : 0 ≤ x11) (x11_b : x11 ≤ 8) (x12_a : 0 ≤ x12) (x12_b : x12 ≤ 9) (x13_a : (-1) ≤ x13) (x13_b : x13 ≤ 9) (x14_a : (-1) ≤ x14) (x14_b : x14 ≤ 8) (x15_a : 0 ≤ x15) (x15_b : x15 ≤ 9) (x16_a : 0 ≤ x16) (x16_b : x16 ≤ 64) (x17_a : 0 ≤ x17) (x17_b : x17 ≤ 40) (x18_a : 0 ≤ x18) (x18_b : x18 ≤ 40) (x19_a : 0 ≤ x19) (x19_b : x19 ≤ 20) (x20_a : 0 ≤ x20) (x20_b : x20 ≤ 8) (x21_a : 0 ≤ x21) (x21_b : x21 ≤ 39) (f0_h : nowI f0) : Met l yX12_withOf (Cond.code yX12_withOf cX12_withOf 4 (some .int) :: GW) (Rm 1 0 0) (cPre [.ref a0, .int (iI x0)] D T [(a0, .inr (11, [.int r0, .ref a1, .int (iI x1), .int (iI x2), .int (iI x3), .int (iI x4), .int (iI x5), .int (iI x6), .int r1, .int (iI x7), .int (iI x8), .int (iI x9), .long y0, .int (iI x10), .ref a2, .ref a3, .ref a4, .ref a5, .ref a6, .ref a7, .ref a8, .ref a9, .ref a10, .ref a11, .int (iI x11), .ref a12, .ref a13, .ref a14, .ref a15, .int (iI x12), .int r2, .int r3, .ref a16, .int (iI x13), .int (iI x14), .ref a17, .ref a18, .int (iI x15), .ref a19, .int (iI x16), .int r4, .ref a20, .ref a21, .int (iI x17), .int r5, .ref a22, .int (iI x18), .int (iI x19), .int (iI x20), .int (iI x21)])), (a2, .inl (T 0, 329, .inl (cI f0)))] sz) (qI D [(a0, .inr (11, [.int r0, .ref a1, .int (iI x1), .int (iI x2), .int (iI x3), .int (iI x4), .int (iI x5), .int (iI x6), .int r1, .int (iI x7), .int (iI x8), .int (iI x9), .long y0, .int (iI x10), .ref a2, .ref a3, .ref a4, .ref a5, .ref a6, .ref a7, .ref a8, .ref a9, .ref a10, .ref a11, .int (iI x11), .ref a12, .ref a13, .ref a14, .ref a15, .int (iI x12), .int r2, .int r3, .ref a16, .int (iI x13), .int (iI x14), .ref a17, .ref a18, .int (iI x15), .ref a19, .int (iI x16), .int r4, .ref a20, .ref a21, .int (iI x17), .int r5, .ref a22, .int (iI x18), .int (iI x19), .int (iI x20), .int (iI x21)])), (a2, .inl (T 0, 329, .inl (cI f0)))] sz (fun (v : Int32) (u : Int) => iI u = v ∧ (-2147483648) ≤ u ∧ u ≤ 2147483647) (fun u => [(a0, .inr (11, [.int r0, .ref a1, .int (iI x1), .int (iI x2), .int (iI x3), .int (iI x4), .int (iI x5), .int (iI x6), .int r1, .int (iI x7), .int (iI x8), .int (iI x9), .long y0, .int (iI x10), .ref a2, .ref a3, .ref a4, .ref a5, .ref a6, .ref a7, .ref a8, .ref a9, .ref a10, .ref a11, .int (iI x11), .ref a12, .ref a13, .ref a14, .ref a15, .int (iI x12), .int r2, .int r3, .ref a16, .int (iI x13), .int (iI x14), .ref a17, .ref a18, .int (iI x15), .ref a19, .int (iI x16), .int r4, .ref a20, .ref a21, .int (iI x17), .int r5, .ref a22, .int (iI x18), .int (iI x19), .int (iI x20), .int (iI x21)])), (a2, .inl (T 0, 329, .inl (cI f0)))])) 0 0 (va_A [(a0, .inr (11, [.int r0, .ref a1, .int (iI x1), .int (iI x2), .int (iI x3), .int (iI x4), .int (iI x5), .int (iI x6), .int r1, .int (iI x7), .int (iI x8), .int (iI x9), .long y0, .int (iI x10), .ref a2, .ref a3, .ref a4, .ref a5, .ref a6, .ref a7, .ref a8, .ref a9, .ref a10, .ref a11, .int (iI x11), .ref a12, .ref a13, .ref a14, .ref a15, .int (iI x12), .int r2, .int r3, .ref a16, .int (iI x13), .int (iI x14), .ref a17, .ref a18, .int (iI x15), .ref a19, .int (iI x16), .int r4, .ref a20, .ref a21, .int (iI x17), .int r5, .ref a22, .int (iI x18), .int (iI x19), .int (iI x20), .int (iI x21)])), (a2, .inl (T 0, 329, .inl (cI f0)))] sz) := by
  refine e_I (by decide) (Nat.le_of_ble_eq_true rfl) ?_
  intro p e s m args below meth c A Q ls M hin w ret hl
  have hx := M.1.1
  have hb := M.1.2.1
  have hl : lv_has ls 4 [(0, .ref a0), (1, .int (iI x0))] := hl
  refine lv_iconst (v := iI 1) hx hb dX12_withOf_0 (by decide +kernel) ?_
  refine lv_iload_n hx hb dX12_withOf_1 rfl (lv_at hl 1 rfl) ?_
  refine r_ishl (v := ((iI 1) <<< ((iI x0) &&& 31))) M rfl dX12_withOf_2 ?_
  refine lv_istore_n (lv' := [(2, .int ((iI 1) <<< ((iI x0) &&& 31))), (0, .ref a0), (1, .int (iI x0))]) hx hb dX12_withOf_3 rfl hl (by decide) rfl (fun ls hl => ?_)
  refine lv_aload_n hx hb dX12_withOf_4 rfl (lv_at hl 1 rfl) ?_
  refine r_get (v := .ref a2) M w 0 14 clX12 rfl (by decide) G1477 rfl rfl dX12_withOf_5 ?_
  refine lv_bipush (v := iI 57) hx hb dX12_withOf_8 (by decide +kernel) ?_
  refine lv_iload_n hx hb dX12_withOf_10 rfl (lv_at hl 2 rfl) ?_
  refine r_iadd (v := iI (57 + x0)) M (iI_add _ _) dX12_withOf_11 ?_
  refine r_iald (v := iI (f0 (57 + x0))) M w 1 rfl (iI_in (by omega) (by omega) (by decide)) (cI_at (by omega) (by omega)) dX12_withOf_12 ?_
  have hh1 : (-2147483648) ≤ (f0 (57 + x0)) ∧ (f0 (57 + x0)) ≤ 2147483647 := f0_h.1 (57 + x0)
  have hh2 : (-1) ≤ (f0 (57 + x0)) ∧ (f0 (57 + x0)) ≤ 8 := (f0_h.2.1 (57 + x0)).2.2.2.1 (by omega) (by omega)
  refine lv_istore_n (lv' := [(3, .int (iI (f0 (57 + x0)))), (2, .int ((iI 1) <<< ((iI x0) &&& 31))), (0, .ref a0), (1, .int (iI x0))]) hx hb dX12_withOf_13 rfl hl (by decide) rfl (fun ls hl => ?_)
  have loop1 : ∀ (k1 : Nat) (z3 : Int) (fr4 : Int32) (H : Heap) (locs : List Loc) (ls : Array Slot), (-1) ≤ z3 → z3 ≤ 8 → (((nf_M fr4 : Nat) : Int) : Int).toNat < k1 → WD D A s.heap [(a0, .inr (11, [.int r0, .ref a1, .int (iI x1), .int (iI x2), .int (iI x3), .int (iI x4), .int (iI x5), .int (iI x6), .int r1, .int (iI x7), .int (iI x8), .int (iI x9), .long y0, .int (iI x10), .ref a2, .ref a3, .ref a4, .ref a5, .ref a6, .ref a7, .ref a8, .ref a9, .ref a10, .ref a11, .int (iI x11), .ref a12, .ref a13, .ref a14, .ref a15, .int (iI x12), .int r2, .int r3, .ref a16, .int (iI x13), .int (iI x14), .ref a17, .ref a18, .int (iI x15), .ref a19, .int (iI x16), .int r4, .ref a20, .ref a21, .int (iI x17), .int r5, .ref a22, .int (iI x18), .int (iI x19), .int (iI x20), .int (iI x21)])), (a2, .inl (T 0, 329, .inl (cI f0)))] H locs → lv_has ls 4 [(3, .int (iI z3)), (2, .int fr4), (0, .ref a0), (1, .int (iI x0))] → W p l e (Rm 1 0 0) s m args below meth c H locs 0 0 Q (F0 m 14 ls []) := by
    intro k1
    induction k1 with
    | zero => intro z3 fr4 H locs ls z3_a z3_b hm; exact absurd hm (Nat.not_lt_zero _)
    | succ k1 ih1 =>
      intro z3 fr4 H locs ls z3_a z3_b hm1 w hl
      refine lv_iload_n hx hb dX12_withOf_14 rfl (lv_at hl 0 rfl) ?_
      refine lv_iconst (v := iI (-1)) hx hb dX12_withOf_15 (by decide +kernel) ?_
      refine lv_icmp_eq (tgt := 46) hx hb dX12_withOf_16 (by decide) (fun c_5 => ?_) (fun c_5 => ?_)
      · replace c_5 := (iI_eq (Int.le_trans (by decide) z3_a) (Int.le_trans z3_b (by decide)) (by decide) (by decide)).mp c_5
        refine lv_aload_n hx hb dX12_withOf_46 rfl (lv_at hl 2 rfl) ?_
        refine r_get (v := .ref a2) M w 0 14 clX12 rfl (by decide) G1477 rfl rfl dX12_withOf_47 ?_
        refine lv_bipush (v := iI 66) hx hb dX12_withOf_50 (by decide +kernel) ?_
        refine lv_iload_n hx hb dX12_withOf_52 rfl (lv_at hl 3 rfl) ?_
        refine r_iadd (v := iI (66 + x0)) M (iI_add _ _) dX12_withOf_53 ?_
        refine r_iald (v := iI (f0 (66 + x0))) M w 1 rfl (iI_in (by omega) (by omega) (by decide)) (cI_at (by omega) (by omega)) dX12_withOf_54 ?_
        have hh6 : (-2147483648) ≤ (f0 (66 + x0)) ∧ (f0 (66 + x0)) ≤ 2147483647 := f0_h.1 (66 + x0)
        have hh7 : (-1) ≤ (f0 (66 + x0)) ∧ (f0 (66 + x0)) ≤ 8 := (f0_h.2.1 (66 + x0)).2.2.2.1 (by omega) (by omega)
        refine lv_istore_n (lv' := [(3, .int (iI (f0 (66 + x0)))), (2, .int fr4), (0, .ref a0), (1, .int (iI x0))]) hx hb dX12_withOf_55 rfl hl (by decide) rfl (fun ls hl => ?_)
        have loop2 : ∀ (k2 : Nat) (z8 : Int) (fr9 : Int32) (H : Heap) (locs : List Loc) (ls : Array Slot), (-1) ≤ z8 → z8 ≤ 8 → (((nf_M fr9 : Nat) : Int) : Int).toNat < k2 → WD D A s.heap [(a0, .inr (11, [.int r0, .ref a1, .int (iI x1), .int (iI x2), .int (iI x3), .int (iI x4), .int (iI x5), .int (iI x6), .int r1, .int (iI x7), .int (iI x8), .int (iI x9), .long y0, .int (iI x10), .ref a2, .ref a3, .ref a4, .ref a5, .ref a6, .ref a7, .ref a8, .ref a9, .ref a10, .ref a11, .int (iI x11), .ref a12, .ref a13, .ref a14, .ref a15, .int (iI x12), .int r2, .int r3, .ref a16, .int (iI x13), .int (iI x14), .ref a17, .ref a18, .int (iI x15), .ref a19, .int (iI x16), .int r4, .ref a20, .ref a21, .int (iI x17), .int r5, .ref a22, .int (iI x18), .int (iI x19), .int (iI x20), .int (iI x21)])), (a2, .inl (T 0, 329, .inl (cI f0)))] H locs → lv_has ls 4 [(3, .int (iI z8)), (2, .int fr9), (0, .ref a0), (1, .int (iI x0))] → W p l e (Rm 1 0 0) s m args below meth c H locs 0 0 Q (F0 m 56 ls []) := by
          intro k2
          induction k2 with
          | zero => intro z8 fr9 H locs ls z8_a z8_b hm; exact absurd hm (Nat.not_lt_zero _)
          | succ k2 ih2 =>
            intro z8 fr9 H locs ls z8_a z8_b hm2 w hl
            refine lv_iload_n hx hb dX12_withOf_56 rfl (lv_at hl 0 rfl) ?_
            refine lv_iconst (v := iI (-1)) hx hb dX12_withOf_57 (by decide +kernel) ?_
            refine lv_icmp_eq (tgt := 88) hx hb dX12_withOf_58 (by decide) (fun c_10 => ?_) (fun c_10 => ?_)
            · replace c_10 := (iI_eq (Int.le_trans (by decide) z8_a) (Int.le_trans z8_b (by decide)) (by decide) (by decide)).mp c_10
              refine lv_iload_n hx hb dX12_withOf_88 rfl (lv_at hl 1 rfl) ?_
              refine b_any (fun z11 z11_a z11_b => ?_)
              exact ret _ z11 _ _ _ _ _ [0, 1] dX12_withOf_89 ⟨rfl, z11_a, z11_b⟩ w (by decide) rfl
            · replace c_10 : ¬ z8 = (-1) := fun h => c_10 ((iI_eq (Int.le_trans (by decide) z8_a) (Int.le_trans z8_b (by decide)) (by decide) (by decide)).mpr h)
              refine lv_iload_n hx hb dX12_withOf_61 rfl (lv_at hl 1 rfl) ?_
              refine lv_iload_n hx hb dX12_withOf_62 rfl (lv_at hl 0 rfl) ?_
              refine k_I (ce := 0) (sl := 0) (rest := []) (wr := [(a0, .inr (11, [.int r0, .ref a1, .int (iI x1), .int (iI x2), .int (iI x3), .int (iI x4), .int (iI x5), .int (iI x6), .int r1, .int (iI x7), .int (iI x8), .int (iI x9), .long y0, .int (iI x10), .ref a2, .ref a3, .ref a4, .ref a5, .ref a6, .ref a7, .ref a8, .ref a9, .ref a10, .ref a11, .int (iI x11), .ref a12, .ref a13, .ref a14, .ref a15, .int (iI x12), .int r2, .int r3, .ref a16, .int (iI x13), .int (iI x14), .ref a17, .ref a18, .int (iI x15), .ref a19, .int (iI x16), .int r4, .ref a20, .ref a21, .int (iI x17), .int r5, .ref a22, .int (iI x18), .int (iI x19), .int (iI x20), .int (iI x21)])), (a2, .inl (T 0, 329, .inl (cI f0)))]) (r_S (f := 0) [] M w V_HookedCityModel_206 G1708 (c125_X12_has l D T _ fr9 z8 (by omega) (by omega)) rfl (by decide) rfl hl.1 rfl (Nat.le_of_ble_eq_true rfl) dX12_withOf_63 (by decide) (by decide) (by decide) (by decide)) w [] [0, 1] rfl rfl (by decide) (by decide) rfl rfl (fun v z12 H locs hp w => ?_)
              have hv : iI z12 = v := hp.1
              subst hv
              have z12_a : 0 ≤ z12 := hp.2.1
              have z12_b : z12 ≤ 1 := hp.2.2.1
              have pq13 : z12 = 1 → hbt fr9 z8 := hp.2.2.2.1
              have pq14 : z12 = 0 → ¬ hbt fr9 z8 := hp.2.2.2.2
              have w : WD D A s.heap [(a0, .inr (11, [.int r0, .ref a1, .int (iI x1), .int (iI x2), .int (iI x3), .int (iI x4), .int (iI x5), .int (iI x6), .int r1, .int (iI x7), .int (iI x8), .int (iI x9), .long y0, .int (iI x10), .ref a2, .ref a3, .ref a4, .ref a5, .ref a6, .ref a7, .ref a8, .ref a9, .ref a10, .ref a11, .int (iI x11), .ref a12, .ref a13, .ref a14, .ref a15, .int (iI x12), .int r2, .int r3, .ref a16, .int (iI x13), .int (iI x14), .ref a17, .ref a18, .int (iI x15), .ref a19, .int (iI x16), .int r4, .ref a20, .ref a21, .int (iI x17), .int r5, .ref a22, .int (iI x18), .int (iI x19), .int (iI x20), .int (iI x21)])), (a2, .inl (T 0, 329, .inl (cI f0)))] H locs := w
              refine lv_if_ne (tgt := 88) hx hb dX12_withOf_66 (by decide) (fun c_15 => ?_) (fun c_15 => ?_)
              · replace c_15 : ¬ z12 = 0 := fun h => c_15 ((iz_eq (Int.le_trans (by decide) z12_a) (Int.le_trans z12_b (by decide))).mpr h)
                refine lv_iload_n hx hb dX12_withOf_88 rfl (lv_at hl 1 rfl) ?_
                refine b_any (fun z16 z16_a z16_b => ?_)
                exact ret _ z16 _ _ _ _ _ [0, 1] dX12_withOf_89 ⟨rfl, z16_a, z16_b⟩ w (by decide) rfl
              · replace c_15 := (iz_eq (Int.le_trans (by decide) z12_a) (Int.le_trans z12_b (by decide))).mp c_15
                refine lv_iload_n hx hb dX12_withOf_69 rfl (lv_at hl 1 rfl) ?_
                refine lv_iconst (v := iI 1) hx hb dX12_withOf_70 (by decide +kernel) ?_
                refine lv_iload_n hx hb dX12_withOf_71 rfl (lv_at hl 0 rfl) ?_
                refine r_ishl (v := ((iI 1) <<< ((iI z8) &&& 31))) M rfl dX12_withOf_72 ?_
                refine r_ior (v := (fr9 ||| ((iI 1) <<< ((iI z8) &&& 31)))) M rfl dX12_withOf_73 ?_
                refine lv_istore_n (lv' := [(2, .int (fr9 ||| ((iI 1) <<< ((iI z8) &&& 31)))), (3, .int (iI z8)), (0, .ref a0), (1, .int (iI x0))]) hx hb dX12_withOf_74 rfl hl (by decide) rfl (fun ls hl => ?_)
                refine lv_aload_n hx hb dX12_withOf_75 rfl (lv_at hl 2 rfl) ?_
                refine r_get (v := .ref a2) M w 0 14 clX12 rfl (by decide) G1477 rfl rfl dX12_withOf_76 ?_
                refine lv_bipush (v := iI 66) hx hb dX12_withOf_79 (by decide +kernel) ?_
                refine lv_iload_n hx hb dX12_withOf_81 rfl (lv_at hl 1 rfl) ?_
                refine r_iadd (v := iI (66 + z8)) M (iI_add _ _) dX12_withOf_82 ?_
                refine r_iald (v := iI (f0 (66 + z8))) M w 1 rfl (iI_in (by omega) (by omega) (by decide)) (cI_at (by omega) (by omega)) dX12_withOf_83 ?_
                have hh17 : (-2147483648) ≤ (f0 (66 + z8)) ∧ (f0 (66 + z8)) ≤ 2147483647 := f0_h.1 (66 + z8)
                have hh18 : (-1) ≤ (f0 (66 + z8)) ∧ (f0 (66 + z8)) ≤ 8 := (f0_h.2.1 (66 + z8)).2.2.2.1 (by omega) (by omega)
                refine lv_istore_n (lv' := [(3, .int (iI (f0 (66 + z8)))), (2, .int (fr9 ||| ((iI 1) <<< ((iI z8) &&& 31)))), (0, .ref a0), (1, .int (iI x0))]) hx hb dX12_withOf_84 rfl hl (by decide) rfl (fun ls hl => ?_)
                refine lv_goto (tgt := 56) hx hb dX12_withOf_85 (by decide) ?_
                exact ih2 (f0 (66 + z8)) (fr9 ||| ((iI 1) <<< ((iI z8) &&& 31))) _ _ _ (by omega) (by omega) (by have e9 := hb_n (by omega) (by omega) (pq14 (by omega)); omega) w (lv_sub hl [0, 1, 2, 3] rfl)
        exact loop2 ((((nf_M fr4 : Nat) : Int) : Int).toNat + 1) (f0 (66 + x0)) fr4 _ _ _ (by omega) (by omega) (Nat.lt_succ_self _) w (lv_sub hl [0, 1, 2, 3] rfl)
      · replace c_5 : ¬ z3 = (-1) := fun h => c_5 ((iI_eq (Int.le_trans (by decide) z3_a) (Int.le_trans z3_b (by decide)) (by decide) (by decide)).mpr h)
        refine lv_iload_n hx hb dX12_withOf_19 rfl (lv_at hl 1 rfl) ?_
        refine lv_iload_n hx hb dX12_withOf_20 rfl (lv_at hl 0 rfl) ?_
        refine k_I (ce := 0) (sl := 0) (rest := []) (wr := [(a0, .inr (11, [.int r0, .ref a1, .int (iI x1), .int (iI x2), .int (iI x3), .int (iI x4), .int (iI x5), .int (iI x6), .int r1, .int (iI x7), .int (iI x8), .int (iI x9), .long y0, .int (iI x10), .ref a2, .ref a3, .ref a4, .ref a5, .ref a6, .ref a7, .ref a8, .ref a9, .ref a10, .ref a11, .int (iI x11), .ref a12, .ref a13, .ref a14, .ref a15, .int (iI x12), .int r2, .int r3, .ref a16, .int (iI x13), .int (iI x14), .ref a17, .ref a18, .int (iI x15), .ref a19, .int (iI x16), .int r4, .ref a20, .ref a21, .int (iI x17), .int r5, .ref a22, .int (iI x18), .int (iI x19), .int (iI x20), .int (iI x21)])), (a2, .inl (T 0, 329, .inl (cI f0)))]) (r_S (f := 0) [] M w V_HookedCityModel_206 G1708 (c125_X12_has l D T _ fr4 z3 (by omega) (by omega)) rfl (by decide) rfl hl.1 rfl (Nat.le_of_ble_eq_true rfl) dX12_withOf_21 (by decide) (by decide) (by decide) (by decide)) w [] [0, 1] rfl rfl (by decide) (by decide) rfl rfl (fun v z19 H locs hp w => ?_)
        have hv : iI z19 = v := hp.1
        subst hv
        have z19_a : 0 ≤ z19 := hp.2.1
        have z19_b : z19 ≤ 1 := hp.2.2.1
        have pq20 : z19 = 1 → hbt fr4 z3 := hp.2.2.2.1
        have pq21 : z19 = 0 → ¬ hbt fr4 z3 := hp.2.2.2.2
        have w : WD D A s.heap [(a0, .inr (11, [.int r0, .ref a1, .int (iI x1), .int (iI x2), .int (iI x3), .int (iI x4), .int (iI x5), .int (iI x6), .int r1, .int (iI x7), .int (iI x8), .int (iI x9), .long y0, .int (iI x10), .ref a2, .ref a3, .ref a4, .ref a5, .ref a6, .ref a7, .ref a8, .ref a9, .ref a10, .ref a11, .int (iI x11), .ref a12, .ref a13, .ref a14, .ref a15, .int (iI x12), .int r2, .int r3, .ref a16, .int (iI x13), .int (iI x14), .ref a17, .ref a18, .int (iI x15), .ref a19, .int (iI x16), .int r4, .ref a20, .ref a21, .int (iI x17), .int r5, .ref a22, .int (iI x18), .int (iI x19), .int (iI x20), .int (iI x21)])), (a2, .inl (T 0, 329, .inl (cI f0)))] H locs := w
        refine lv_if_ne (tgt := 46) hx hb dX12_withOf_24 (by decide) (fun c_22 => ?_) (fun c_22 => ?_)
        · replace c_22 : ¬ z19 = 0 := fun h => c_22 ((iz_eq (Int.le_trans (by decide) z19_a) (Int.le_trans z19_b (by decide))).mpr h)
          refine lv_aload_n hx hb dX12_withOf_46 rfl (lv_at hl 2 rfl) ?_
          refine r_get (v := .ref a2) M w 0 14 clX12 rfl (by decide) G1477 rfl rfl dX12_withOf_47 ?_
          refine lv_bipush (v := iI 66) hx hb dX12_withOf_50 (by decide +kernel) ?_
          refine lv_iload_n hx hb dX12_withOf_52 rfl (lv_at hl 3 rfl) ?_
          refine r_iadd (v := iI (66 + x0)) M (iI_add _ _) dX12_withOf_53 ?_
          refine r_iald (v := iI (f0 (66 + x0))) M w 1 rfl (iI_in (by omega) (by omega) (by decide)) (cI_at (by omega) (by omega)) dX12_withOf_54 ?_
          have hh23 : (-2147483648) ≤ (f0 (66 + x0)) ∧ (f0 (66 + x0)) ≤ 2147483647 := f0_h.1 (66 + x0)
          have hh24 : (-1) ≤ (f0 (66 + x0)) ∧ (f0 (66 + x0)) ≤ 8 := (f0_h.2.1 (66 + x0)).2.2.2.1 (by omega) (by omega)
          refine lv_istore_n (lv' := [(3, .int (iI (f0 (66 + x0)))), (2, .int fr4), (0, .ref a0), (1, .int (iI x0))]) hx hb dX12_withOf_55 rfl hl (by decide) rfl (fun ls hl => ?_)
          have loop2 : ∀ (k2 : Nat) (z25 : Int) (fr26 : Int32) (H : Heap) (locs : List Loc) (ls : Array Slot), (-1) ≤ z25 → z25 ≤ 8 → (((nf_M fr26 : Nat) : Int) : Int).toNat < k2 → WD D A s.heap [(a0, .inr (11, [.int r0, .ref a1, .int (iI x1), .int (iI x2), .int (iI x3), .int (iI x4), .int (iI x5), .int (iI x6), .int r1, .int (iI x7), .int (iI x8), .int (iI x9), .long y0, .int (iI x10), .ref a2, .ref a3, .ref a4, .ref a5, .ref a6, .ref a7, .ref a8, .ref a9, .ref a10, .ref a11, .int (iI x11), .ref a12, .ref a13, .ref a14, .ref a15, .int (iI x12), .int r2, .int r3, .ref a16, .int (iI x13), .int (iI x14), .ref a17, .ref a18, .int (iI x15), .ref a19, .int (iI x16), .int r4, .ref a20, .ref a21, .int (iI x17), .int r5, .ref a22, .int (iI x18), .int (iI x19), .int (iI x20), .int (iI x21)])), (a2, .inl (T 0, 329, .inl (cI f0)))] H locs → lv_has ls 4 [(3, .int (iI z25)), (2, .int fr26), (0, .ref a0), (1, .int (iI x0))] → W p l e (Rm 1 0 0) s m args below meth c H locs 0 0 Q (F0 m 56 ls []) := by
            intro k2
            induction k2 with
            | zero => intro z25 fr26 H locs ls z25_a z25_b hm; exact absurd hm (Nat.not_lt_zero _)
            | succ k2 ih2 =>
              intro z25 fr26 H locs ls z25_a z25_b hm2 w hl
              refine lv_iload_n hx hb dX12_withOf_56 rfl (lv_at hl 0 rfl) ?_
              refine lv_iconst (v := iI (-1)) hx hb dX12_withOf_57 (by decide +kernel) ?_
              refine lv_icmp_eq (tgt := 88) hx hb dX12_withOf_58 (by decide) (fun c_27 => ?_) (fun c_27 => ?_)
              · replace c_27 := (iI_eq (Int.le_trans (by decide) z25_a) (Int.le_trans z25_b (by decide)) (by decide) (by decide)).mp c_27
                refine lv_iload_n hx hb dX12_withOf_88 rfl (lv_at hl 1 rfl) ?_
                refine b_any (fun z28 z28_a z28_b => ?_)
                exact ret _ z28 _ _ _ _ _ [0, 1] dX12_withOf_89 ⟨rfl, z28_a, z28_b⟩ w (by decide) rfl
              · replace c_27 : ¬ z25 = (-1) := fun h => c_27 ((iI_eq (Int.le_trans (by decide) z25_a) (Int.le_trans z25_b (by decide)) (by decide) (by decide)).mpr h)
                refine lv_iload_n hx hb dX12_withOf_61 rfl (lv_at hl 1 rfl) ?_
                refine lv_iload_n hx hb dX12_withOf_62 rfl (lv_at hl 0 rfl) ?_
                refine k_I (ce := 0) (sl := 0) (rest := []) (wr := [(a0, .inr (11, [.int r0, .ref a1, .int (iI x1), .int (iI x2), .int (iI x3), .int (iI x4), .int (iI x5), .int (iI x6), .int r1, .int (iI x7), .int (iI x8), .int (iI x9), .long y0, .int (iI x10), .ref a2, .ref a3, .ref a4, .ref a5, .ref a6, .ref a7, .ref a8, .ref a9, .ref a10, .ref a11, .int (iI x11), .ref a12, .ref a13, .ref a14, .ref a15, .int (iI x12), .int r2, .int r3, .ref a16, .int (iI x13), .int (iI x14), .ref a17, .ref a18, .int (iI x15), .ref a19, .int (iI x16), .int r4, .ref a20, .ref a21, .int (iI x17), .int r5, .ref a22, .int (iI x18), .int (iI x19), .int (iI x20), .int (iI x21)])), (a2, .inl (T 0, 329, .inl (cI f0)))]) (r_S (f := 0) [] M w V_HookedCityModel_206 G1708 (c125_X12_has l D T _ fr26 z25 (by omega) (by omega)) rfl (by decide) rfl hl.1 rfl (Nat.le_of_ble_eq_true rfl) dX12_withOf_63 (by decide) (by decide) (by decide) (by decide)) w [] [0, 1] rfl rfl (by decide) (by decide) rfl rfl (fun v z29 H locs hp w => ?_)
                have hv : iI z29 = v := hp.1
                subst hv
                have z29_a : 0 ≤ z29 := hp.2.1
                have z29_b : z29 ≤ 1 := hp.2.2.1
                have pq30 : z29 = 1 → hbt fr26 z25 := hp.2.2.2.1
                have pq31 : z29 = 0 → ¬ hbt fr26 z25 := hp.2.2.2.2
                have w : WD D A s.heap [(a0, .inr (11, [.int r0, .ref a1, .int (iI x1), .int (iI x2), .int (iI x3), .int (iI x4), .int (iI x5), .int (iI x6), .int r1, .int (iI x7), .int (iI x8), .int (iI x9), .long y0, .int (iI x10), .ref a2, .ref a3, .ref a4, .ref a5, .ref a6, .ref a7, .ref a8, .ref a9, .ref a10, .ref a11, .int (iI x11), .ref a12, .ref a13, .ref a14, .ref a15, .int (iI x12), .int r2, .int r3, .ref a16, .int (iI x13), .int (iI x14), .ref a17, .ref a18, .int (iI x15), .ref a19, .int (iI x16), .int r4, .ref a20, .ref a21, .int (iI x17), .int r5, .ref a22, .int (iI x18), .int (iI x19), .int (iI x20), .int (iI x21)])), (a2, .inl (T 0, 329, .inl (cI f0)))] H locs := w
                refine lv_if_ne (tgt := 88) hx hb dX12_withOf_66 (by decide) (fun c_32 => ?_) (fun c_32 => ?_)
                · replace c_32 : ¬ z29 = 0 := fun h => c_32 ((iz_eq (Int.le_trans (by decide) z29_a) (Int.le_trans z29_b (by decide))).mpr h)
                  refine lv_iload_n hx hb dX12_withOf_88 rfl (lv_at hl 1 rfl) ?_
                  refine b_any (fun z33 z33_a z33_b => ?_)
                  exact ret _ z33 _ _ _ _ _ [0, 1] dX12_withOf_89 ⟨rfl, z33_a, z33_b⟩ w (by decide) rfl
                · replace c_32 := (iz_eq (Int.le_trans (by decide) z29_a) (Int.le_trans z29_b (by decide))).mp c_32
                  refine lv_iload_n hx hb dX12_withOf_69 rfl (lv_at hl 1 rfl) ?_
                  refine lv_iconst (v := iI 1) hx hb dX12_withOf_70 (by decide +kernel) ?_
                  refine lv_iload_n hx hb dX12_withOf_71 rfl (lv_at hl 0 rfl) ?_
                  refine r_ishl (v := ((iI 1) <<< ((iI z25) &&& 31))) M rfl dX12_withOf_72 ?_
                  refine r_ior (v := (fr26 ||| ((iI 1) <<< ((iI z25) &&& 31)))) M rfl dX12_withOf_73 ?_
                  refine lv_istore_n (lv' := [(2, .int (fr26 ||| ((iI 1) <<< ((iI z25) &&& 31)))), (3, .int (iI z25)), (0, .ref a0), (1, .int (iI x0))]) hx hb dX12_withOf_74 rfl hl (by decide) rfl (fun ls hl => ?_)
                  refine lv_aload_n hx hb dX12_withOf_75 rfl (lv_at hl 2 rfl) ?_
                  refine r_get (v := .ref a2) M w 0 14 clX12 rfl (by decide) G1477 rfl rfl dX12_withOf_76 ?_
                  refine lv_bipush (v := iI 66) hx hb dX12_withOf_79 (by decide +kernel) ?_
                  refine lv_iload_n hx hb dX12_withOf_81 rfl (lv_at hl 1 rfl) ?_
                  refine r_iadd (v := iI (66 + z25)) M (iI_add _ _) dX12_withOf_82 ?_
                  refine r_iald (v := iI (f0 (66 + z25))) M w 1 rfl (iI_in (by omega) (by omega) (by decide)) (cI_at (by omega) (by omega)) dX12_withOf_83 ?_
                  have hh34 : (-2147483648) ≤ (f0 (66 + z25)) ∧ (f0 (66 + z25)) ≤ 2147483647 := f0_h.1 (66 + z25)
                  have hh35 : (-1) ≤ (f0 (66 + z25)) ∧ (f0 (66 + z25)) ≤ 8 := (f0_h.2.1 (66 + z25)).2.2.2.1 (by omega) (by omega)
                  refine lv_istore_n (lv' := [(3, .int (iI (f0 (66 + z25)))), (2, .int (fr26 ||| ((iI 1) <<< ((iI z25) &&& 31)))), (0, .ref a0), (1, .int (iI x0))]) hx hb dX12_withOf_84 rfl hl (by decide) rfl (fun ls hl => ?_)
                  refine lv_goto (tgt := 56) hx hb dX12_withOf_85 (by decide) ?_
                  exact ih2 (f0 (66 + z25)) (fr26 ||| ((iI 1) <<< ((iI z25) &&& 31))) _ _ _ (by omega) (by omega) (by have e9 := hb_n (by omega) (by omega) (pq31 (by omega)); omega) w (lv_sub hl [0, 1, 2, 3] rfl)
          exact loop2 ((((nf_M fr4 : Nat) : Int) : Int).toNat + 1) (f0 (66 + x0)) fr4 _ _ _ (by omega) (by omega) (Nat.lt_succ_self _) w (lv_sub hl [0, 1, 2, 3] rfl)
        · replace c_22 := (iz_eq (Int.le_trans (by decide) z19_a) (Int.le_trans z19_b (by decide))).mp c_22
          refine lv_iload_n hx hb dX12_withOf_27 rfl (lv_at hl 1 rfl) ?_
          refine lv_iconst (v := iI 1) hx hb dX12_withOf_28 (by decide +kernel) ?_
          refine lv_iload_n hx hb dX12_withOf_29 rfl (lv_at hl 0 rfl) ?_
          refine r_ishl (v := ((iI 1) <<< ((iI z3) &&& 31))) M rfl dX12_withOf_30 ?_
          refine r_ior (v := (fr4 ||| ((iI 1) <<< ((iI z3) &&& 31)))) M rfl dX12_withOf_31 ?_
          refine lv_istore_n (lv' := [(2, .int (fr4 ||| ((iI 1) <<< ((iI z3) &&& 31)))), (3, .int (iI z3)), (0, .ref a0), (1, .int (iI x0))]) hx hb dX12_withOf_32 rfl hl (by decide) rfl (fun ls hl => ?_)
          refine lv_aload_n hx hb dX12_withOf_33 rfl (lv_at hl 2 rfl) ?_
          refine r_get (v := .ref a2) M w 0 14 clX12 rfl (by decide) G1477 rfl rfl dX12_withOf_34 ?_
          refine lv_bipush (v := iI 57) hx hb dX12_withOf_37 (by decide +kernel) ?_
          refine lv_iload_n hx hb dX12_withOf_39 rfl (lv_at hl 1 rfl) ?_
          refine r_iadd (v := iI (57 + z3)) M (iI_add _ _) dX12_withOf_40 ?_
          refine r_iald (v := iI (f0 (57 + z3))) M w 1 rfl (iI_in (by omega) (by omega) (by decide)) (cI_at (by omega) (by omega)) dX12_withOf_41 ?_
          have hh36 : (-2147483648) ≤ (f0 (57 + z3)) ∧ (f0 (57 + z3)) ≤ 2147483647 := f0_h.1 (57 + z3)
          have hh37 : (-1) ≤ (f0 (57 + z3)) ∧ (f0 (57 + z3)) ≤ 8 := (f0_h.2.1 (57 + z3)).2.2.2.1 (by omega) (by omega)
          refine lv_istore_n (lv' := [(3, .int (iI (f0 (57 + z3)))), (2, .int (fr4 ||| ((iI 1) <<< ((iI z3) &&& 31)))), (0, .ref a0), (1, .int (iI x0))]) hx hb dX12_withOf_42 rfl hl (by decide) rfl (fun ls hl => ?_)
          refine lv_goto (tgt := 14) hx hb dX12_withOf_43 (by decide) ?_
          exact ih1 (f0 (57 + z3)) (fr4 ||| ((iI 1) <<< ((iI z3) &&& 31))) _ _ _ (by omega) (by omega) (by have e9 := hb_n (by omega) (by omega) (pq21 (by omega)); omega) w (lv_sub hl [0, 1, 2, 3] rfl)
  exact loop1 ((((nf_M ((iI 1) <<< ((iI x0) &&& 31)) : Nat) : Int) : Int).toNat + 1) (f0 (57 + x0)) ((iI 1) <<< ((iI x0) &&& 31)) _ _ _ (by omega) (by omega) (Nat.lt_succ_self _) w (lv_sub hl [0, 1, 2, 3] rfl)
set_option maxRecDepth 100000 in
set_option maxHeartbeats 4000000 in
theorem c127_X12_with (l : Launch) (D : va_G) (T : Nat → ClassId) (sz : Nat) (a0 : Nat) (x0 : Int) (r0 : Int32) (a1 : Nat) (x1 : Int) (x2 : Int) (x3 : Int) (x4 : Int) (x5 : Int) (x6 : Int) (r1 : Int32) (x7 : Int) (x8 : Int) (x9 : Int) (y0 : Int64) (x10 : Int) (a2 : Nat) (a3 : Nat) (a4 : Nat) (a5 : Nat) (a6 : Nat) (a7 : Nat) (a8 : Nat) (a9 : Nat) (a10 : Nat) (a11 : Nat) (x11 : Int) (a12 : Nat) (a13 : Nat) (a14 : Nat) (a15 : Nat) (x12 : Int) (r2 : Int32) (r3 : Int32) (a16 : Nat) (x13 : Int) (x14 : Int) (a17 : Nat) (a18 : Nat) (x15 : Int) (a19 : Nat) (x16 : Int) (r4 : Int32) (a20 : Nat) (a21 : Nat) (x17 : Int) (r5 : Int32) (a22 : Nat) (x18 : Int) (x19 : Int) (x20 : Int) (x21 : Int) (f0 : Int → Int) (x0_a : (-2147483648) ≤ x0) (x0_b : x0 ≤ 2147483647) (x1_a : 0 ≤ x1) (x1_b : x1 ≤ 940) (x2_a : 0 ≤ x2) (x2_b : x2 ≤ 940) (x3_a : 0 ≤ x3) (x3_b : x3 ≤ 940) (x4_a : 0 ≤ x4) (x4_b : x4 ≤ 940) (x5_a : 0 ≤ x5) (x5_b : x5 ≤ 940) (x6_a : 0 ≤ x6) (x6_b : x6 ≤ 4) (x7_a : (-2147483648) ≤ x7) (x7_b : x7 ≤ 2147483647) (x8_a : (-2147483648) ≤ x8) (x8_b : x8 ≤ 2147483647) (x9_a : 0 ≤ x9) (x9_b : x9 ≤ 940) (x10_a : (-2147483648) ≤ x10) (x10_b : x10 ≤ 2147483647) (x11_a : 0 ≤ x11) (x11_b : x11 ≤ 8) (x12_a : 0 ≤ x12) (x12_b : x12 ≤ 9) (x13_a : (-1) ≤ x13) (x13_b : x13 ≤ 9) (x14_a : (-1) ≤ x14) (x14_b : x14 ≤ 8) (x15_a : 0 ≤ x15) (x15_b : x15 ≤ 9) (x16_a : 0 ≤ x16) (x16_b : x16 ≤ 64) (x17_a : 0 ≤ x17) (x17_b : x17 ≤ 40) (x18_a : 0 ≤ x18) (x18_b : x18 ≤ 40) (x19_a : 0 ≤ x19) (x19_b : x19 ≤ 20) (x20_a : 0 ≤ x20) (x20_b : x20 ≤ 8) (x21_a : 0 ≤ x21) (x21_b : x21 ≤ 39) (f0_h : nowI f0) : Met l yX12_with (Cond.code yX12_with cX12_with 2 (some .int) :: GW) (Rm 2 0 0) (cPre [.ref a0, .int (iI x0)] D T [(a0, .inr (11, [.int r0, .ref a1, .int (iI x1), .int (iI x2), .int (iI x3), .int (iI x4), .int (iI x5), .int (iI x6), .int r1, .int (iI x7), .int (iI x8), .int (iI x9), .long y0, .int (iI x10), .ref a2, .ref a3, .ref a4, .ref a5, .ref a6, .ref a7, .ref a8, .ref a9, .ref a10, .ref a11, .int (iI x11), .ref a12, .ref a13, .ref a14, .ref a15, .int (iI x12), .int r2, .int r3, .ref a16, .int (iI x13), .int (iI x14), .ref a17, .ref a18, .int (iI x15), .ref a19, .int (iI x16), .int r4, .ref a20, .ref a21, .int (iI x17), .int r5, .ref a22, .int (iI x18), .int (iI x19), .int (iI x20), .int (iI x21)])), (a2, .inl (T 0, 329, .inl (cI f0)))] sz) (qI D [(a0, .inr (11, [.int r0, .ref a1, .int (iI x1), .int (iI x2), .int (iI x3), .int (iI x4), .int (iI x5), .int (iI x6), .int r1, .int (iI x7), .int (iI x8), .int (iI x9), .long y0, .int (iI x10), .ref a2, .ref a3, .ref a4, .ref a5, .ref a6, .ref a7, .ref a8, .ref a9, .ref a10, .ref a11, .int (iI x11), .ref a12, .ref a13, .ref a14, .ref a15, .int (iI x12), .int r2, .int r3, .ref a16, .int (iI x13), .int (iI x14), .ref a17, .ref a18, .int (iI x15), .ref a19, .int (iI x16), .int r4, .ref a20, .ref a21, .int (iI x17), .int r5, .ref a22, .int (iI x18), .int (iI x19), .int (iI x20), .int (iI x21)])), (a2, .inl (T 0, 329, .inl (cI f0)))] sz (fun (v : Int32) (u : Int × Int32) => iI u.1 = v ∧ (-2147483648) ≤ u.1 ∧ u.1 ≤ 2147483647) (fun u => [(a0, .inr (11, [.int u.2, .ref a1, .int (iI x1), .int (iI x2), .int (iI x3), .int (iI x4), .int (iI x5), .int (iI x6), .int r1, .int (iI x7), .int (iI x8), .int (iI x9), .long y0, .int (iI x10), .ref a2, .ref a3, .ref a4, .ref a5, .ref a6, .ref a7, .ref a8, .ref a9, .ref a10, .ref a11, .int (iI x11), .ref a12, .ref a13, .ref a14, .ref a15, .int (iI x12), .int r2, .int r3, .ref a16, .int (iI x13), .int (iI x14), .ref a17, .ref a18, .int (iI x15), .ref a19, .int (iI x16), .int r4, .ref a20, .ref a21, .int (iI x17), .int r5, .ref a22, .int (iI x18), .int (iI x19), .int (iI x20), .int (iI x21)])), (a2, .inl (T 0, 329, .inl (cI f0)))])) 0 0 (va_A [(a0, .inr (11, [.int r0, .ref a1, .int (iI x1), .int (iI x2), .int (iI x3), .int (iI x4), .int (iI x5), .int (iI x6), .int r1, .int (iI x7), .int (iI x8), .int (iI x9), .long y0, .int (iI x10), .ref a2, .ref a3, .ref a4, .ref a5, .ref a6, .ref a7, .ref a8, .ref a9, .ref a10, .ref a11, .int (iI x11), .ref a12, .ref a13, .ref a14, .ref a15, .int (iI x12), .int r2, .int r3, .ref a16, .int (iI x13), .int (iI x14), .ref a17, .ref a18, .int (iI x15), .ref a19, .int (iI x16), .int r4, .ref a20, .ref a21, .int (iI x17), .int r5, .ref a22, .int (iI x18), .int (iI x19), .int (iI x20), .int (iI x21)])), (a2, .inl (T 0, 329, .inl (cI f0)))] sz) := by
  refine e_I (by decide) (Nat.le_of_ble_eq_true rfl) ?_
  intro p e s m args below meth c A Q ls M hin w ret hl
  have hx := M.1.1
  have hb := M.1.2.1
  have hl : lv_has ls 2 [(0, .ref a0), (1, .int (iI x0))] := hl
  refine lv_aload_n hx hb dX12_with_0 rfl (lv_at hl 0 rfl) ?_
  refine lv_iconst (v := iI 0) hx hb dX12_with_1 (by decide +kernel) ?_
  refine r_put (ws' := [(a0, .inr (11, [.int (iI 0), .ref a1, .int (iI x1), .int (iI x2), .int (iI x3), .int (iI x4), .int (iI x5), .int (iI x6), .int r1, .int (iI x7), .int (iI x8), .int (iI x9), .long y0, .int (iI x10), .ref a2, .ref a3, .ref a4, .ref a5, .ref a6, .ref a7, .ref a8, .ref a9, .ref a10, .ref a11, .int (iI x11), .ref a12, .ref a13, .ref a14, .ref a15, .int (iI x12), .int r2, .int r3, .ref a16, .int (iI x13), .int (iI x14), .ref a17, .ref a18, .int (iI x15), .ref a19, .int (iI x16), .int r4, .ref a20, .ref a21, .int (iI x17), .int r5, .ref a22, .int (iI x18), .int (iI x19), .int (iI x20), .int (iI x21)])), (a2, .inl (T 0, 329, .inl (cI f0)))]) M w 0 0 clX12 rfl (by decide) G1463 rfl rfl rfl rfl (Nat.le_of_ble_eq_true rfl) rfl dX12_with_2 (fun H locs w => ?_)
  refine lv_aload_n hx hb dX12_with_5 rfl (lv_at hl 0 rfl) ?_
  refine lv_iload_n hx hb dX12_with_6 rfl (lv_at hl 1 rfl) ?_
  refine k_I (ce := 0) (sl := 0) (rest := []) (wr := []) (r_V (f := 1) [0, 1] M w V_HookedCityModel_240 G1736 G68 (c68_X12_isPerson l D T _ a0 x0 (iI 0) a1 x1 x2 x3 x4 x5 x6 r1 x7 x8 x9 y0 x10 a2 a3 a4 a5 a6 a7 a8 a9 a10 a11 x11 a12 a13 a14 a15 x12 r2 r3 a16 x13 x14 a17 a18 x15 a19 x16 r4 a20 a21 x17 r5 a22 x18 x19 x20 x21 f0 x0_a x0_b x1_a x1_b x2_a x2_b x3_a x3_b x4_a x4_b x5_a x5_b x6_a x6_b x7_a x7_b x8_a x8_b x9_a x9_b x10_a x10_b x11_a x11_b x12_a x12_b x13_a x13_b x14_a x14_b x15_a x15_b x16_a x16_b x17_a x17_b x18_a x18_b x19_a x19_b x20_a x20_b x21_a x21_b f0_h) 0 clX12 rfl rfl (by decide) rfl hl.1 rfl (Nat.le_of_ble_eq_true rfl) dX12_with_7 (by decide) (by decide) (by decide) (by decide)) w [0, 1] [] rfl rfl (by decide) (by decide) rfl rfl (fun v z1 H locs hp w => ?_)
  have hv : iI z1 = v := hp.1
  subst hv
  have z1_a : 0 ≤ z1 := hp.2.1
  have z1_b : z1 ≤ 1 := hp.2.2.1
  have ee2 : 0 ≤ ((x0 + 4294967296) - (z1 * 4294967296)) := hp.2.2.2.1
  have ee3 : 0 ≤ (((8 - x0) + 4294967296) - (z1 * 4294967296)) := hp.2.2.2.2.1
  have pq4 : ipQ z1 x0 (f0 0) := hp.2.2.2.2.2
  have w : WD D A s.heap [(a0, .inr (11, [.int (iI 0), .ref a1, .int (iI x1), .int (iI x2), .int (iI x3), .int (iI x4), .int (iI x5), .int (iI x6), .int r1, .int (iI x7), .int (iI x8), .int (iI x9), .long y0, .int (iI x10), .ref a2, .ref a3, .ref a4, .ref a5, .ref a6, .ref a7, .ref a8, .ref a9, .ref a10, .ref a11, .int (iI x11), .ref a12, .ref a13, .ref a14, .ref a15, .int (iI x12), .int r2, .int r3, .ref a16, .int (iI x13), .int (iI x14), .ref a17, .ref a18, .int (iI x15), .ref a19, .int (iI x16), .int r4, .ref a20, .ref a21, .int (iI x17), .int r5, .ref a22, .int (iI x18), .int (iI x19), .int (iI x20), .int (iI x21)])), (a2, .inl (T 0, 329, .inl (cI f0)))] H locs := w
  refine lv_if_eq (tgt := 21) hx hb dX12_with_10 (by decide) (fun c_5 => ?_) (fun c_5 => ?_)
  · replace c_5 := (iz_eq (Int.le_trans (by decide) z1_a) (Int.le_trans z1_b (by decide))).mp c_5
    refine lv_iconst (v := iI (-1)) hx hb dX12_with_21 (by decide +kernel) ?_
    exact ret _ ((-1), (iI 0)) _ _ _ _ _ [0, 1] dX12_with_22 ⟨rfl, (show (-2147483648) ≤ (-1) from by decide), (show ((-1) : Int) ≤ 2147483647 from by decide)⟩ w (by decide) rfl
  · replace c_5 : ¬ z1 = 0 := fun h => c_5 ((iz_eq (Int.le_trans (by decide) z1_a) (Int.le_trans z1_b (by decide))).mpr h)
    refine lv_aload_n hx hb dX12_with_13 rfl (lv_at hl 0 rfl) ?_
    refine lv_iload_n hx hb dX12_with_14 rfl (lv_at hl 1 rfl) ?_
    refine k_I (ce := 0) (sl := 0) (rest := []) (wr := []) (r_V (f := 1) [0, 1] M w V_HookedCityModel_307 G1851 G88 (c126_X12_withOf l D T _ a0 x0 (iI 0) a1 x1 x2 x3 x4 x5 x6 r1 x7 x8 x9 y0 x10 a2 a3 a4 a5 a6 a7 a8 a9 a10 a11 x11 a12 a13 a14 a15 x12 r2 r3 a16 x13 x14 a17 a18 x15 a19 x16 r4 a20 a21 x17 r5 a22 x18 x19 x20 x21 f0 (by omega) (by omega) x1_a x1_b x2_a x2_b x3_a x3_b x4_a x4_b x5_a x5_b x6_a x6_b x7_a x7_b x8_a x8_b x9_a x9_b x10_a x10_b x11_a x11_b x12_a x12_b x13_a x13_b x14_a x14_b x15_a x15_b x16_a x16_b x17_a x17_b x18_a x18_b x19_a x19_b x20_a x20_b x21_a x21_b f0_h) 0 clX12 rfl rfl (by decide) rfl hl.1 rfl (Nat.le_of_ble_eq_true rfl) dX12_with_15 (by decide) (by decide) (by decide) (by decide)) w [0, 1] [] rfl rfl (by decide) (by decide) rfl rfl (fun v z6 H locs hp w => ?_)
    have hv : iI z6 = v := hp.1
    subst hv
    have z6_a : (-2147483648) ≤ z6 := hp.2.1
    have z6_b : z6 ≤ 2147483647 := hp.2.2
    have w : WD D A s.heap [(a0, .inr (11, [.int (iI 0), .ref a1, .int (iI x1), .int (iI x2), .int (iI x3), .int (iI x4), .int (iI x5), .int (iI x6), .int r1, .int (iI x7), .int (iI x8), .int (iI x9), .long y0, .int (iI x10), .ref a2, .ref a3, .ref a4, .ref a5, .ref a6, .ref a7, .ref a8, .ref a9, .ref a10, .ref a11, .int (iI x11), .ref a12, .ref a13, .ref a14, .ref a15, .int (iI x12), .int r2, .int r3, .ref a16, .int (iI x13), .int (iI x14), .ref a17, .ref a18, .int (iI x15), .ref a19, .int (iI x16), .int r4, .ref a20, .ref a21, .int (iI x17), .int r5, .ref a22, .int (iI x18), .int (iI x19), .int (iI x20), .int (iI x21)])), (a2, .inl (T 0, 329, .inl (cI f0)))] H locs := w
    refine lv_goto (tgt := 22) hx hb dX12_with_18 (by decide) ?_
    exact ret _ (z6, (iI 0)) _ _ _ _ _ [0, 1] dX12_with_22 ⟨rfl, z6_a, z6_b⟩ w (by decide) rfl
set_option maxRecDepth 100000 in
set_option maxHeartbeats 4000000 in
theorem c128_X12_parts (l : Launch) (D : va_G) (T : Nat → ClassId) (sz : Nat) (a0 : Nat) (r0 : Int32) (a1 : Nat) (x0 : Int) (x1 : Int) (x2 : Int) (x3 : Int) (x4 : Int) (x5 : Int) (r1 : Int32) (x6 : Int) (x7 : Int) (x8 : Int) (y0 : Int64) (x9 : Int) (a2 : Nat) (a3 : Nat) (a4 : Nat) (a5 : Nat) (a6 : Nat) (a7 : Nat) (a8 : Nat) (a9 : Nat) (a10 : Nat) (a11 : Nat) (x10 : Int) (a12 : Nat) (a13 : Nat) (a14 : Nat) (a15 : Nat) (x11 : Int) (r2 : Int32) (r3 : Int32) (a16 : Nat) (x12 : Int) (x13 : Int) (a17 : Nat) (a18 : Nat) (x14 : Int) (a19 : Nat) (x15 : Int) (r4 : Int32) (a20 : Nat) (a21 : Nat) (x16 : Int) (r5 : Int32) (a22 : Nat) (x17 : Int) (x18 : Int) (x19 : Int) (x20 : Int) (f0 : Int → Int) (x0_a : 0 ≤ x0) (x0_b : x0 ≤ 940) (x1_a : 0 ≤ x1) (x1_b : x1 ≤ 940) (x2_a : 0 ≤ x2) (x2_b : x2 ≤ 940) (x3_a : 0 ≤ x3) (x3_b : x3 ≤ 940) (x4_a : 0 ≤ x4) (x4_b : x4 ≤ 940) (x5_a : 0 ≤ x5) (x5_b : x5 ≤ 4) (x6_a : (-2147483648) ≤ x6) (x6_b : x6 ≤ 2147483647) (x7_a : (-2147483648) ≤ x7) (x7_b : x7 ≤ 2147483647) (x8_a : 0 ≤ x8) (x8_b : x8 ≤ 940) (x9_a : (-2147483648) ≤ x9) (x9_b : x9 ≤ 2147483647) (x10_a : 0 ≤ x10) (x10_b : x10 ≤ 8) (x11_a : 0 ≤ x11) (x11_b : x11 ≤ 9) (x12_a : (-1) ≤ x12) (x12_b : x12 ≤ 9) (x13_a : (-1) ≤ x13) (x13_b : x13 ≤ 8) (x14_a : 0 ≤ x14) (x14_b : x14 ≤ 9) (x15_a : 0 ≤ x15) (x15_b : x15 ≤ 64) (x16_a : 0 ≤ x16) (x16_b : x16 ≤ 40) (x17_a : 0 ≤ x17) (x17_b : x17 ≤ 40) (x18_a : 0 ≤ x18) (x18_b : x18 ≤ 20) (x19_a : 0 ≤ x19) (x19_b : x19 ≤ 8) (x20_a : 0 ≤ x20) (x20_b : x20 ≤ 39) (f0_h : nowI f0) : Met l yX12_parts (Cond.code yX12_parts cX12_parts 4 (some .int) :: GW) (Rm 2 0 0) (cPre [.ref a0] D T [(a0, .inr (11, [.int r0, .ref a1, .int (iI x0), .int (iI x1), .int (iI x2), .int (iI x3), .int (iI x4), .int (iI x5), .int r1, .int (iI x6), .int (iI x7), .int (iI x8), .long y0, .int (iI x9), .ref a2, .ref a3, .ref a4, .ref a5, .ref a6, .ref a7, .ref a8, .ref a9, .ref a10, .ref a11, .int (iI x10), .ref a12, .ref a13, .ref a14, .ref a15, .int (iI x11), .int r2, .int r3, .ref a16, .int (iI x12), .int (iI x13), .ref a17, .ref a18, .int (iI x14), .ref a19, .int (iI x15), .int r4, .ref a20, .ref a21, .int (iI x16), .int r5, .ref a22, .int (iI x17), .int (iI x18), .int (iI x19), .int (iI x20)])), (a2, .inl (T 0, 329, .inl (cI f0)))] sz) (qI D [(a0, .inr (11, [.int r0, .ref a1, .int (iI x0), .int (iI x1), .int (iI x2), .int (iI x3), .int (iI x4), .int (iI x5), .int r1, .int (iI x6), .int (iI x7), .int (iI x8), .long y0, .int (iI x9), .ref a2, .ref a3, .ref a4, .ref a5, .ref a6, .ref a7, .ref a8, .ref a9, .ref a10, .ref a11, .int (iI x10), .ref a12, .ref a13, .ref a14, .ref a15, .int (iI x11), .int r2, .int r3, .ref a16, .int (iI x12), .int (iI x13), .ref a17, .ref a18, .int (iI x14), .ref a19, .int (iI x15), .int r4, .ref a20, .ref a21, .int (iI x16), .int r5, .ref a22, .int (iI x17), .int (iI x18), .int (iI x19), .int (iI x20)])), (a2, .inl (T 0, 329, .inl (cI f0)))] sz (fun (v : Int32) (u : Int × Int32) => iI u.1 = v ∧ (-2147483648) ≤ u.1 ∧ u.1 ≤ 2147483647) (fun u => [(a0, .inr (11, [.int u.2, .ref a1, .int (iI x0), .int (iI x1), .int (iI x2), .int (iI x3), .int (iI x4), .int (iI x5), .int r1, .int (iI x6), .int (iI x7), .int (iI x8), .long y0, .int (iI x9), .ref a2, .ref a3, .ref a4, .ref a5, .ref a6, .ref a7, .ref a8, .ref a9, .ref a10, .ref a11, .int (iI x10), .ref a12, .ref a13, .ref a14, .ref a15, .int (iI x11), .int r2, .int r3, .ref a16, .int (iI x12), .int (iI x13), .ref a17, .ref a18, .int (iI x14), .ref a19, .int (iI x15), .int r4, .ref a20, .ref a21, .int (iI x16), .int r5, .ref a22, .int (iI x17), .int (iI x18), .int (iI x19), .int (iI x20)])), (a2, .inl (T 0, 329, .inl (cI f0)))])) 0 0 (va_A [(a0, .inr (11, [.int r0, .ref a1, .int (iI x0), .int (iI x1), .int (iI x2), .int (iI x3), .int (iI x4), .int (iI x5), .int r1, .int (iI x6), .int (iI x7), .int (iI x8), .long y0, .int (iI x9), .ref a2, .ref a3, .ref a4, .ref a5, .ref a6, .ref a7, .ref a8, .ref a9, .ref a10, .ref a11, .int (iI x10), .ref a12, .ref a13, .ref a14, .ref a15, .int (iI x11), .int r2, .int r3, .ref a16, .int (iI x12), .int (iI x13), .ref a17, .ref a18, .int (iI x14), .ref a19, .int (iI x15), .int r4, .ref a20, .ref a21, .int (iI x16), .int r5, .ref a22, .int (iI x17), .int (iI x18), .int (iI x19), .int (iI x20)])), (a2, .inl (T 0, 329, .inl (cI f0)))] sz) := by
  refine e_I (by decide) (Nat.le_of_ble_eq_true rfl) ?_
  intro p e s m args below meth c A Q ls M hin w ret hl
  have hx := M.1.1
  have hb := M.1.2.1
  have hl : lv_has ls 4 [(0, .ref a0)] := hl
  refine lv_aload_n hx hb dX12_parts_0 rfl (lv_at hl 0 rfl) ?_
  refine lv_iconst (v := iI 0) hx hb dX12_parts_1 (by decide +kernel) ?_
  refine r_put (ws' := [(a0, .inr (11, [.int (iI 0), .ref a1, .int (iI x0), .int (iI x1), .int (iI x2), .int (iI x3), .int (iI x4), .int (iI x5), .int r1, .int (iI x6), .int (iI x7), .int (iI x8), .long y0, .int (iI x9), .ref a2, .ref a3, .ref a4, .ref a5, .ref a6, .ref a7, .ref a8, .ref a9, .ref a10, .ref a11, .int (iI x10), .ref a12, .ref a13, .ref a14, .ref a15, .int (iI x11), .int r2, .int r3, .ref a16, .int (iI x12), .int (iI x13), .ref a17, .ref a18, .int (iI x14), .ref a19, .int (iI x15), .int r4, .ref a20, .ref a21, .int (iI x16), .int r5, .ref a22, .int (iI x17), .int (iI x18), .int (iI x19), .int (iI x20)])), (a2, .inl (T 0, 329, .inl (cI f0)))]) M w 0 0 clX12 rfl (by decide) G1463 rfl rfl rfl rfl (Nat.le_of_ble_eq_true rfl) rfl dX12_parts_2 (fun H locs w => ?_)
  refine lv_iconst (v := iI 0) hx hb dX12_parts_5 (by decide +kernel) ?_
  refine lv_istore_n (lv' := [(1, .int (iI 0)), (0, .ref a0)]) hx hb dX12_parts_6 rfl hl (by decide) rfl (fun ls hl => ?_)
  refine lv_iconst (v := iI 1) hx hb dX12_parts_7 (by decide +kernel) ?_
  refine lv_aload_n hx hb dX12_parts_8 rfl (lv_at hl 1 rfl) ?_
  refine r_get (v := .ref a2) M w 0 14 clX12 rfl (by decide) G1477 rfl rfl dX12_parts_9 ?_
  refine lv_iconst (v := iI 0) hx hb dX12_parts_12 (by decide +kernel) ?_
  refine r_iald (v := iI (f0 0)) M w 1 rfl (iI_in (by decide) (by decide) (by decide)) (cI_at (by omega) (by omega)) dX12_parts_13 ?_
  have hh1 : (-2147483648) ≤ (f0 0) ∧ (f0 0) ≤ 2147483647 := f0_h.1 0
  have hh2 : 0 ≤ (f0 0) ∧ (f0 0) ≤ 9 := (f0_h.2.1 0).1 (by omega)
  refine r_ishl (v := _) M rfl dX12_parts_14 ?_
  refine b_any (fun z3 z3_a z3_b => ?_)
  refine lv_iconst (v := iI 1) hx hb dX12_parts_15 (by decide +kernel) ?_
  refine r_isub (v := _) M rfl dX12_parts_16 ?_
  refine b_any (fun z4 z4_a z4_b => ?_)
  refine lv_istore_n (lv' := [(2, .int (iI z4)), (1, .int (iI 0)), (0, .ref a0)]) hx hb dX12_parts_17 rfl hl (by decide) rfl (fun ls hl => ?_)
  refine lv_iconst (v := iI 0) hx hb dX12_parts_18 (by decide +kernel) ?_
  refine lv_istore_n (lv' := [(3, .int (iI 0)), (2, .int (iI z4)), (1, .int (iI 0)), (0, .ref a0)]) hx hb dX12_parts_19 rfl hl (by decide) rfl (fun ls hl => ?_)
  have loop1 : ∀ (k1 : Nat) (z5 : Int) (z6 : Int) (z7 : Int) (H : Heap) (locs : List Loc) (ls : Array Slot), 0 ≤ z5 → z5 ≤ 9 → (-2147483648) ≤ z6 → z6 ≤ 2147483647 → 0 ≤ z7 → z7 ≤ 9 → 0 ≤ (z5 - z7) → ((9 - z5) : Int).toNat < k1 → WD D A s.heap [(a0, .inr (11, [.int (iI 0), .ref a1, .int (iI x0), .int (iI x1), .int (iI x2), .int (iI x3), .int (iI x4), .int (iI x5), .int r1, .int (iI x6), .int (iI x7), .int (iI x8), .long y0, .int (iI x9), .ref a2, .ref a3, .ref a4, .ref a5, .ref a6, .ref a7, .ref a8, .ref a9, .ref a10, .ref a11, .int (iI x10), .ref a12, .ref a13, .ref a14, .ref a15, .int (iI x11), .int r2, .int r3, .ref a16, .int (iI x12), .int (iI x13), .ref a17, .ref a18, .int (iI x14), .ref a19, .int (iI x15), .int r4, .ref a20, .ref a21, .int (iI x16), .int r5, .ref a22, .int (iI x17), .int (iI x18), .int (iI x19), .int (iI x20)])), (a2, .inl (T 0, 329, .inl (cI f0)))] H locs → lv_has ls 4 [(3, .int (iI z5)), (2, .int (iI z6)), (1, .int (iI z7)), (0, .ref a0)] → W p l e (Rm 2 0 0) s m args below meth c H locs 0 0 Q (F0 m 20 ls []) := by
    intro k1
    induction k1 with
    | zero => intro z5 z6 z7 H locs ls z5_a z5_b z6_a z6_b z7_a z7_b q1_0 hm; exact absurd hm (Nat.not_lt_zero _)
    | succ k1 ih1 =>
      intro z5 z6 z7 H locs ls z5_a z5_b z6_a z6_b z7_a z7_b q1_0 hm1 w hl
      refine lv_iload_n hx hb dX12_parts_20 rfl (lv_at hl 0 rfl) ?_
      refine lv_aload_n hx hb dX12_parts_21 rfl (lv_at hl 3 rfl) ?_
      refine r_get (v := .ref a2) M w 0 14 clX12 rfl (by decide) G1477 rfl rfl dX12_parts_22 ?_
      refine lv_iconst (v := iI 0) hx hb dX12_parts_25 (by decide +kernel) ?_
      refine r_iald (v := iI (f0 0)) M w 1 rfl (iI_in (by decide) (by decide) (by decide)) (cI_at (by omega) (by omega)) dX12_parts_26 ?_
      have hh8 : (-2147483648) ≤ (f0 0) ∧ (f0 0) ≤ 2147483647 := f0_h.1 0
      have hh9 : 0 ≤ (f0 0) ∧ (f0 0) ≤ 9 := (f0_h.2.1 0).1 (by omega)
      refine lv_icmp_ge (tgt := 60) hx hb dX12_parts_27 (by decide) (fun c_10 => ?_) (fun c_10 => ?_)
      · replace c_10 := (iI_le (by omega) (by omega) (Int.le_trans (by decide) z5_a) (Int.le_trans z5_b (by decide))).mp c_10
        refine lv_iload_n hx hb dX12_parts_60 rfl (lv_at hl 2 rfl) ?_
        exact ret _ (z7, (iI 0)) _ _ _ _ _ [0, 1] dX12_parts_61 ⟨rfl, (show (-2147483648) ≤ z7 from by omega), (show z7 ≤ 2147483647 from by omega)⟩ w (by decide) rfl
      · replace c_10 : z5 < (f0 0) := Int.not_le.mp (fun h => c_10 ((iI_le (by omega) (by omega) (Int.le_trans (by decide) z5_a) (Int.le_trans z5_b (by decide))).mpr h))
        refine lv_iload_n hx hb dX12_parts_30 rfl (lv_at hl 1 rfl) ?_
        refine lv_iload_n hx hb dX12_parts_31 rfl (lv_at hl 0 rfl) ?_
        refine k_I (ce := 0) (sl := 0) (rest := []) (wr := [(a0, .inr (11, [.int (iI 0), .ref a1, .int (iI x0), .int (iI x1), .int (iI x2), .int (iI x3), .int (iI x4), .int (iI x5), .int r1, .int (iI x6), .int (iI x7), .int (iI x8), .long y0, .int (iI x9), .ref a2, .ref a3, .ref a4, .ref a5, .ref a6, .ref a7, .ref a8, .ref a9, .ref a10, .ref a11, .int (iI x10), .ref a12, .ref a13, .ref a14, .ref a15, .int (iI x11), .int r2, .int r3, .ref a16, .int (iI x12), .int (iI x13), .ref a17, .ref a18, .int (iI x14), .ref a19, .int (iI x15), .int r4, .ref a20, .ref a21, .int (iI x16), .int r5, .ref a22, .int (iI x17), .int (iI x18), .int (iI x19), .int (iI x20)])), (a2, .inl (T 0, 329, .inl (cI f0)))]) (r_S (f := 0) [] M w V_HookedCityModel_206 G1708 (c7_X12_has l D T _ z6 z5 z6_a z6_b (by omega) (by omega)) rfl (by decide) rfl hl.1 rfl (Nat.le_of_ble_eq_true rfl) dX12_parts_32 (by decide) (by decide) (by decide) (by decide)) w [] [0, 1] rfl rfl (by decide) (by decide) rfl rfl (fun v z11 H locs hp w => ?_)
        have hv : iI z11 = v := hp.1
        subst hv
        have z11_a : 0 ≤ z11 := hp.2.1
        have z11_b : z11 ≤ 1 := hp.2.2.1
        have pq12 : hsQ z11 z6 z5 := hp.2.2.2
        have w : WD D A s.heap [(a0, .inr (11, [.int (iI 0), .ref a1, .int (iI x0), .int (iI x1), .int (iI x2), .int (iI x3), .int (iI x4), .int (iI x5), .int r1, .int (iI x6), .int (iI x7), .int (iI x8), .long y0, .int (iI x9), .ref a2, .ref a3, .ref a4, .ref a5, .ref a6, .ref a7, .ref a8, .ref a9, .ref a10, .ref a11, .int (iI x10), .ref a12, .ref a13, .ref a14, .ref a15, .int (iI x11), .int r2, .int r3, .ref a16, .int (iI x12), .int (iI x13), .ref a17, .ref a18, .int (iI x14), .ref a19, .int (iI x15), .int r4, .ref a20, .ref a21, .int (iI x16), .int r5, .ref a22, .int (iI x17), .int (iI x18), .int (iI x19), .int (iI x20)])), (a2, .inl (T 0, 329, .inl (cI f0)))] H locs := w
        refine lv_if_ne (tgt := 41) hx hb dX12_parts_35 (by decide) (fun c_13 => ?_) (fun c_13 => ?_)
        · replace c_13 : ¬ z11 = 0 := fun h => c_13 ((iz_eq (Int.le_trans (by decide) z11_a) (Int.le_trans z11_b (by decide))).mpr h)
          refine lv_iload_n hx hb dX12_parts_41 rfl (lv_at hl 1 rfl) ?_
          refine lv_aload_n hx hb dX12_parts_42 rfl (lv_at hl 3 rfl) ?_
          refine lv_iload_n hx hb dX12_parts_43 rfl (lv_at hl 0 rfl) ?_
          refine k_I (ce := 0) (sl := 0) (rest := [.int (iI z6)]) (wr := []) (r_V (f := 1) [0, 1] M w V_HookedCityModel_307 G1851 G88 (c126_X12_withOf l D T _ a0 z5 (iI 0) a1 x0 x1 x2 x3 x4 x5 r1 x6 x7 x8 y0 x9 a2 a3 a4 a5 a6 a7 a8 a9 a10 a11 x10 a12 a13 a14 a15 x11 r2 r3 a16 x12 x13 a17 a18 x14 a19 x15 r4 a20 a21 x16 r5 a22 x17 x18 x19 x20 f0 (by omega) (by omega) x0_a x0_b x1_a x1_b x2_a x2_b x3_a x3_b x4_a x4_b x5_a x5_b x6_a x6_b x7_a x7_b x8_a x8_b x9_a x9_b x10_a x10_b x11_a x11_b x12_a x12_b x13_a x13_b x14_a x14_b x15_a x15_b x16_a x16_b x17_a x17_b x18_a x18_b x19_a x19_b x20_a x20_b f0_h) 0 clX12 rfl rfl (by decide) rfl hl.1 rfl (Nat.le_of_ble_eq_true rfl) dX12_parts_44 (by decide) (by decide) (by decide) (by decide)) w [0, 1] [] rfl rfl (by decide) (by decide) rfl rfl (fun v z14 H locs hp w => ?_)
          have hv : iI z14 = v := hp.1
          subst hv
          have z14_a : (-2147483648) ≤ z14 := hp.2.1
          have z14_b : z14 ≤ 2147483647 := hp.2.2
          have w : WD D A s.heap [(a0, .inr (11, [.int (iI 0), .ref a1, .int (iI x0), .int (iI x1), .int (iI x2), .int (iI x3), .int (iI x4), .int (iI x5), .int r1, .int (iI x6), .int (iI x7), .int (iI x8), .long y0, .int (iI x9), .ref a2, .ref a3, .ref a4, .ref a5, .ref a6, .ref a7, .ref a8, .ref a9, .ref a10, .ref a11, .int (iI x10), .ref a12, .ref a13, .ref a14, .ref a15, .int (iI x11), .int r2, .int r3, .ref a16, .int (iI x12), .int (iI x13), .ref a17, .ref a18, .int (iI x14), .ref a19, .int (iI x15), .int r4, .ref a20, .ref a21, .int (iI x16), .int r5, .ref a22, .int (iI x17), .int (iI x18), .int (iI x19), .int (iI x20)])), (a2, .inl (T 0, 329, .inl (cI f0)))] H locs := w
          refine lv_iconst (v := iI (-1)) hx hb dX12_parts_47 (by decide +kernel) ?_
          refine r_ixor (v := _) M rfl dX12_parts_48 ?_
          refine b_any (fun z15 z15_a z15_b => ?_)
          refine r_iand (v := _) M rfl dX12_parts_49 ?_
          refine b_any (fun z16 z16_a z16_b => ?_)
          refine lv_istore_n (lv' := [(2, .int (iI z16)), (3, .int (iI z5)), (1, .int (iI z7)), (0, .ref a0)]) hx hb dX12_parts_50 rfl hl (by decide) rfl (fun ls hl => ?_)
          refine lv_iinc (v := iI (z7 + 1)) (lv' := [(1, .int (iI (z7 + 1))), (2, .int (iI z16)), (3, .int (iI z5)), (0, .ref a0)]) hx hb dX12_parts_51 hl (k := 2) rfl (ii_inc (by decide +kernel)) (by decide) rfl (fun ls hl => ?_)
          refine lv_iinc (v := iI (z5 + 1)) (lv' := [(3, .int (iI (z5 + 1))), (1, .int (iI (z7 + 1))), (2, .int (iI z16)), (0, .ref a0)]) hx hb dX12_parts_54 hl (k := 2) rfl (ii_inc (by decide +kernel)) (by decide) rfl (fun ls hl => ?_)
          refine lv_goto (tgt := 20) hx hb dX12_parts_57 (by decide) ?_
          exact ih1 (z5 + 1) z16 (z7 + 1) _ _ _ (by omega) (by omega) z16_a z16_b (by omega) (by omega) (by omega) (by omega) w (lv_sub hl [0, 2, 1, 3] rfl)
        · replace c_13 := (iz_eq (Int.le_trans (by decide) z11_a) (Int.le_trans z11_b (by decide))).mp c_13
          refine lv_goto (tgt := 54) hx hb dX12_parts_38 (by decide) ?_
          refine lv_iinc (v := iI (z5 + 1)) (lv' := [(3, .int (iI (z5 + 1))), (2, .int (iI z6)), (1, .int (iI z7)), (0, .ref a0)]) hx hb dX12_parts_54 hl (k := 0) rfl (ii_inc (by decide +kernel)) (by decide) rfl (fun ls hl => ?_)
          refine lv_goto (tgt := 20) hx hb dX12_parts_57 (by decide) ?_
          exact ih1 (z5 + 1) z6 z7 _ _ _ (by omega) (by omega) z6_a z6_b z7_a z7_b (by omega) (by omega) w (lv_sub hl [0, 1, 2, 3] rfl)
  exact loop1 ((9 : Int).toNat + 1) 0 z4 0 _ _ _ (by decide) (by decide) z4_a z4_b (by decide) (by decide) (by omega) (Nat.lt_succ_self _) w (lv_sub hl [0, 1, 2, 3] rfl)
set_option maxRecDepth 100000 in
set_option maxHeartbeats 4000000 in
theorem c129_X12_person (l : Launch) (D : va_G) (T : Nat → ClassId) (sz : Nat) (a0 : Nat) (x0 : Int) (x1 : Int) (r0 : Int32) (a1 : Nat) (x2 : Int) (x3 : Int) (x4 : Int) (x5 : Int) (x6 : Int) (x7 : Int) (r1 : Int32) (x8 : Int) (x9 : Int) (x10 : Int) (y0 : Int64) (x11 : Int) (a2 : Nat) (a3 : Nat) (a4 : Nat) (a5 : Nat) (a6 : Nat) (a7 : Nat) (a8 : Nat) (a9 : Nat) (a10 : Nat) (a11 : Nat) (x12 : Int) (a12 : Nat) (a13 : Nat) (a14 : Nat) (a15 : Nat) (x13 : Int) (r2 : Int32) (r3 : Int32) (a16 : Nat) (x14 : Int) (x15 : Int) (a17 : Nat) (a18 : Nat) (x16 : Int) (a19 : Nat) (x17 : Int) (r4 : Int32) (a20 : Nat) (a21 : Nat) (x18 : Int) (r5 : Int32) (a22 : Nat) (x19 : Int) (x20 : Int) (x21 : Int) (x22 : Int) (f0 : Int → Int) (x0_a : (-2147483648) ≤ x0) (x0_b : x0 ≤ 2147483647) (x1_a : (-2147483648) ≤ x1) (x1_b : x1 ≤ 2147483647) (x2_a : 0 ≤ x2) (x2_b : x2 ≤ 940) (x3_a : 0 ≤ x3) (x3_b : x3 ≤ 940) (x4_a : 0 ≤ x4) (x4_b : x4 ≤ 940) (x5_a : 0 ≤ x5) (x5_b : x5 ≤ 940) (x6_a : 0 ≤ x6) (x6_b : x6 ≤ 940) (x7_a : 0 ≤ x7) (x7_b : x7 ≤ 4) (x8_a : (-2147483648) ≤ x8) (x8_b : x8 ≤ 2147483647) (x9_a : (-2147483648) ≤ x9) (x9_b : x9 ≤ 2147483647) (x10_a : 0 ≤ x10) (x10_b : x10 ≤ 940) (x11_a : (-2147483648) ≤ x11) (x11_b : x11 ≤ 2147483647) (x12_a : 0 ≤ x12) (x12_b : x12 ≤ 8) (x13_a : 0 ≤ x13) (x13_b : x13 ≤ 9) (x14_a : (-1) ≤ x14) (x14_b : x14 ≤ 9) (x15_a : (-1) ≤ x15) (x15_b : x15 ≤ 8) (x16_a : 0 ≤ x16) (x16_b : x16 ≤ 9) (x17_a : 0 ≤ x17) (x17_b : x17 ≤ 64) (x18_a : 0 ≤ x18) (x18_b : x18 ≤ 40) (x19_a : 0 ≤ x19) (x19_b : x19 ≤ 40) (x20_a : 0 ≤ x20) (x20_b : x20 ≤ 20) (x21_a : 0 ≤ x21) (x21_b : x21 ≤ 8) (x22_a : 0 ≤ x22) (x22_b : x22 ≤ 39) (f0_h : nowI f0) : Met l yX12_person (Cond.code yX12_person cX12_person 3 (some .int) :: GW) (Rm 2 0 0) (cPre [.ref a0, .int (iI x0), .int (iI x1)] D T [(a0, .inr (11, [.int r0, .ref a1, .int (iI x2), .int (iI x3), .int (iI x4), .int (iI x5), .int (iI x6), .int (iI x7), .int r1, .int (iI x8), .int (iI x9), .int (iI x10), .long y0, .int (iI x11), .ref a2, .ref a3, .ref a4, .ref a5, .ref a6, .ref a7, .ref a8, .ref a9, .ref a10, .ref a11, .int (iI x12), .ref a12, .ref a13, .ref a14, .ref a15, .int (iI x13), .int r2, .int r3, .ref a16, .int (iI x14), .int (iI x15), .ref a17, .ref a18, .int (iI x16), .ref a19, .int (iI x17), .int r4, .ref a20, .ref a21, .int (iI x18), .int r5, .ref a22, .int (iI x19), .int (iI x20), .int (iI x21), .int (iI x22)])), (a2, .inl (T 0, 329, .inl (cI f0)))] sz) (qI D [(a0, .inr (11, [.int r0, .ref a1, .int (iI x2), .int (iI x3), .int (iI x4), .int (iI x5), .int (iI x6), .int (iI x7), .int r1, .int (iI x8), .int (iI x9), .int (iI x10), .long y0, .int (iI x11), .ref a2, .ref a3, .ref a4, .ref a5, .ref a6, .ref a7, .ref a8, .ref a9, .ref a10, .ref a11, .int (iI x12), .ref a12, .ref a13, .ref a14, .ref a15, .int (iI x13), .int r2, .int r3, .ref a16, .int (iI x14), .int (iI x15), .ref a17, .ref a18, .int (iI x16), .ref a19, .int (iI x17), .int r4, .ref a20, .ref a21, .int (iI x18), .int r5, .ref a22, .int (iI x19), .int (iI x20), .int (iI x21), .int (iI x22)])), (a2, .inl (T 0, 329, .inl (cI f0)))] sz (fun (v : Int32) (u : Int × Int32) => iI u.1 = v ∧ (-2147483648) ≤ u.1 ∧ u.1 ≤ 2147483647) (fun u => [(a0, .inr (11, [.int u.2, .ref a1, .int (iI x2), .int (iI x3), .int (iI x4), .int (iI x5), .int (iI x6), .int (iI x7), .int r1, .int (iI x8), .int (iI x9), .int (iI x10), .long y0, .int (iI x11), .ref a2, .ref a3, .ref a4, .ref a5, .ref a6, .ref a7, .ref a8, .ref a9, .ref a10, .ref a11, .int (iI x12), .ref a12, .ref a13, .ref a14, .ref a15, .int (iI x13), .int r2, .int r3, .ref a16, .int (iI x14), .int (iI x15), .ref a17, .ref a18, .int (iI x16), .ref a19, .int (iI x17), .int r4, .ref a20, .ref a21, .int (iI x18), .int r5, .ref a22, .int (iI x19), .int (iI x20), .int (iI x21), .int (iI x22)])), (a2, .inl (T 0, 329, .inl (cI f0)))])) 0 0 (va_A [(a0, .inr (11, [.int r0, .ref a1, .int (iI x2), .int (iI x3), .int (iI x4), .int (iI x5), .int (iI x6), .int (iI x7), .int r1, .int (iI x8), .int (iI x9), .int (iI x10), .long y0, .int (iI x11), .ref a2, .ref a3, .ref a4, .ref a5, .ref a6, .ref a7, .ref a8, .ref a9, .ref a10, .ref a11, .int (iI x12), .ref a12, .ref a13, .ref a14, .ref a15, .int (iI x13), .int r2, .int r3, .ref a16, .int (iI x14), .int (iI x15), .ref a17, .ref a18, .int (iI x16), .ref a19, .int (iI x17), .int r4, .ref a20, .ref a21, .int (iI x18), .int r5, .ref a22, .int (iI x19), .int (iI x20), .int (iI x21), .int (iI x22)])), (a2, .inl (T 0, 329, .inl (cI f0)))] sz) := by
  refine e_I (by decide) (Nat.le_of_ble_eq_true rfl) ?_
  intro p e s m args below meth c A Q ls M hin w ret hl
  have hx := M.1.1
  have hb := M.1.2.1
  have hl : lv_has ls 3 [(0, .ref a0), (1, .int (iI x0)), (2, .int (iI x1))] := hl
  refine lv_aload_n hx hb dX12_person_0 rfl (lv_at hl 0 rfl) ?_
  refine lv_iconst (v := iI 0) hx hb dX12_person_1 (by decide +kernel) ?_
  refine r_put (ws' := [(a0, .inr (11, [.int (iI 0), .ref a1, .int (iI x2), .int (iI x3), .int (iI x4), .int (iI x5), .int (iI x6), .int (iI x7), .int r1, .int (iI x8), .int (iI x9), .int (iI x10), .long y0, .int (iI x11), .ref a2, .ref a3, .ref a4, .ref a5, .ref a6, .ref a7, .ref a8, .ref a9, .ref a10, .ref a11, .int (iI x12), .ref a12, .ref a13, .ref a14, .ref a15, .int (iI x13), .int r2, .int r3, .ref a16, .int (iI x14), .int (iI x15), .ref a17, .ref a18, .int (iI x16), .ref a19, .int (iI x17), .int r4, .ref a20, .ref a21, .int (iI x18), .int r5, .ref a22, .int (iI x19), .int (iI x20), .int (iI x21), .int (iI x22)])), (a2, .inl (T 0, 329, .inl (cI f0)))]) M w 0 0 clX12 rfl (by decide) G1463 rfl rfl rfl rfl (Nat.le_of_ble_eq_true rfl) rfl dX12_person_2 (fun H locs w => ?_)
  refine lv_aload_n hx hb dX12_person_5 rfl (lv_at hl 0 rfl) ?_
  refine lv_iload_n hx hb dX12_person_6 rfl (lv_at hl 1 rfl) ?_
  refine k_I (ce := 0) (sl := 0) (rest := []) (wr := []) (r_V (f := 1) [0, 1] M w V_HookedCityModel_240 G1736 G68 (c68_X12_isPerson l D T _ a0 x0 (iI 0) a1 x2 x3 x4 x5 x6 x7 r1 x8 x9 x10 y0 x11 a2 a3 a4 a5 a6 a7 a8 a9 a10 a11 x12 a12 a13 a14 a15 x13 r2 r3 a16 x14 x15 a17 a18 x16 a19 x17 r4 a20 a21 x18 r5 a22 x19 x20 x21 x22 f0 x0_a x0_b x2_a x2_b x3_a x3_b x4_a x4_b x5_a x5_b x6_a x6_b x7_a x7_b x8_a x8_b x9_a x9_b x10_a x10_b x11_a x11_b x12_a x12_b x13_a x13_b x14_a x14_b x15_a x15_b x16_a x16_b x17_a x17_b x18_a x18_b x19_a x19_b x20_a x20_b x21_a x21_b x22_a x22_b f0_h) 0 clX12 rfl rfl (by decide) rfl hl.1 rfl (Nat.le_of_ble_eq_true rfl) dX12_person_7 (by decide) (by decide) (by decide) (by decide)) w [0, 1] [] rfl rfl (by decide) (by decide) rfl rfl (fun v z1 H locs hp w => ?_)
  have hv : iI z1 = v := hp.1
  subst hv
  have z1_a : 0 ≤ z1 := hp.2.1
  have z1_b : z1 ≤ 1 := hp.2.2.1
  have ee2 : 0 ≤ ((x0 + 4294967296) - (z1 * 4294967296)) := hp.2.2.2.1
  have ee3 : 0 ≤ (((8 - x0) + 4294967296) - (z1 * 4294967296)) := hp.2.2.2.2.1
  have pq4 : ipQ z1 x0 (f0 0) := hp.2.2.2.2.2
  have w : WD D A s.heap [(a0, .inr (11, [.int (iI 0), .ref a1, .int (iI x2), .int (iI x3), .int (iI x4), .int (iI x5), .int (iI x6), .int (iI x7), .int r1, .int (iI x8), .int (iI x9), .int (iI x10), .long y0, .int (iI x11), .ref a2, .ref a3, .ref a4, .ref a5, .ref a6, .ref a7, .ref a8, .ref a9, .ref a10, .ref a11, .int (iI x12), .ref a12, .ref a13, .ref a14, .ref a15, .int (iI x13), .int r2, .int r3, .ref a16, .int (iI x14), .int (iI x15), .ref a17, .ref a18, .int (iI x16), .ref a19, .int (iI x17), .int r4, .ref a20, .ref a21, .int (iI x18), .int r5, .ref a22, .int (iI x19), .int (iI x20), .int (iI x21), .int (iI x22)])), (a2, .inl (T 0, 329, .inl (cI f0)))] H locs := w
  refine lv_if_ne (tgt := 18) hx hb dX12_person_10 (by decide) (fun c_5 => ?_) (fun c_5 => ?_)
  · replace c_5 : ¬ z1 = 0 := fun h => c_5 ((iz_eq (Int.le_trans (by decide) z1_a) (Int.le_trans z1_b (by decide))).mpr h)
    refine lv_iload_n hx hb dX12_person_18 rfl (lv_at hl 2 rfl) ?_
    by_cases c_6 : x1 = 0
    · refine lv_tableIn (off := 45) (tgt := 64) hx hb dX12_person_19 (by rw [c_6]; decide +kernel) (by rw [c_6]; decide +kernel) (by rw [c_6]; decide +kernel) (by decide) ?_
      refine lv_aload_n hx hb dX12_person_64 rfl (lv_at hl 0 rfl) ?_
      refine r_get (v := .ref a2) M w 0 14 clX12 rfl (by decide) G1477 rfl rfl dX12_person_65 ?_
      refine lv_iconst (v := iI 5) hx hb dX12_person_68 (by decide +kernel) ?_
      refine lv_iload_n hx hb dX12_person_69 rfl (lv_at hl 1 rfl) ?_
      refine r_iadd (v := iI (5 + x0)) M (iI_add _ _) dX12_person_70 ?_
      refine r_iald (v := iI (f0 (5 + x0))) M w 1 rfl (iI_in (by omega) (by omega) (by decide)) (cI_at (by omega) (by omega)) dX12_person_71 ?_
      have hh7 : (-2147483648) ≤ (f0 (5 + x0)) ∧ (f0 (5 + x0)) ≤ 2147483647 := f0_h.1 (5 + x0)
      exact ret _ ((f0 (5 + x0)), (iI 0)) _ _ _ _ _ [0, 1] dX12_person_72 ⟨rfl, (show (-2147483648) ≤ (f0 (5 + x0)) from by omega), (show (f0 (5 + x0)) ≤ 2147483647 from by omega)⟩ w (by decide) rfl
    by_cases c_8 : x1 = 1
    · refine lv_tableIn (off := 54) (tgt := 73) hx hb dX12_person_19 (by rw [c_8]; decide +kernel) (by rw [c_8]; decide +kernel) (by rw [c_8]; decide +kernel) (by decide) ?_
      refine lv_aload_n hx hb dX12_person_73 rfl (lv_at hl 0 rfl) ?_
      refine r_get (v := .ref a2) M w 0 14 clX12 rfl (by decide) G1477 rfl rfl dX12_person_74 ?_
      refine lv_bipush (v := iI 14) hx hb dX12_person_77 (by decide +kernel) ?_
      refine lv_iload_n hx hb dX12_person_79 rfl (lv_at hl 1 rfl) ?_
      refine r_iadd (v := iI (14 + x0)) M (iI_add _ _) dX12_person_80 ?_
      refine r_iald (v := iI (f0 (14 + x0))) M w 1 rfl (iI_in (by omega) (by omega) (by decide)) (cI_at (by omega) (by omega)) dX12_person_81 ?_
      have hh9 : (-2147483648) ≤ (f0 (14 + x0)) ∧ (f0 (14 + x0)) ≤ 2147483647 := f0_h.1 (14 + x0)
      exact ret _ ((f0 (14 + x0)), (iI 0)) _ _ _ _ _ [0, 1] dX12_person_82 ⟨rfl, (show (-2147483648) ≤ (f0 (14 + x0)) from by omega), (show (f0 (14 + x0)) ≤ 2147483647 from by omega)⟩ w (by decide) rfl
    by_cases c_10 : x1 = 2
    · refine lv_tableIn (off := 64) (tgt := 83) hx hb dX12_person_19 (by rw [c_10]; decide +kernel) (by rw [c_10]; decide +kernel) (by rw [c_10]; decide +kernel) (by decide) ?_
      refine lv_aload_n hx hb dX12_person_83 rfl (lv_at hl 0 rfl) ?_
      refine r_get (v := .ref a2) M w 0 14 clX12 rfl (by decide) G1477 rfl rfl dX12_person_84 ?_
      refine lv_bipush (v := iI 23) hx hb dX12_person_87 (by decide +kernel) ?_
      refine lv_iload_n hx hb dX12_person_89 rfl (lv_at hl 1 rfl) ?_
      refine r_iadd (v := iI (23 + x0)) M (iI_add _ _) dX12_person_90 ?_
      refine r_iald (v := iI (f0 (23 + x0))) M w 1 rfl (iI_in (by omega) (by omega) (by decide)) (cI_at (by omega) (by omega)) dX12_person_91 ?_
      have hh11 : (-2147483648) ≤ (f0 (23 + x0)) ∧ (f0 (23 + x0)) ≤ 2147483647 := f0_h.1 (23 + x0)
      exact ret _ ((f0 (23 + x0)), (iI 0)) _ _ _ _ _ [0, 1] dX12_person_92 ⟨rfl, (show (-2147483648) ≤ (f0 (23 + x0)) from by omega), (show (f0 (23 + x0)) ≤ 2147483647 from by omega)⟩ w (by decide) rfl
    by_cases c_12 : x1 = 3
    · refine lv_tableIn (off := 74) (tgt := 93) hx hb dX12_person_19 (by rw [c_12]; decide +kernel) (by rw [c_12]; decide +kernel) (by rw [c_12]; decide +kernel) (by decide) ?_
      refine lv_aload_n hx hb dX12_person_93 rfl (lv_at hl 0 rfl) ?_
      refine r_get (v := .ref a2) M w 0 14 clX12 rfl (by decide) G1477 rfl rfl dX12_person_94 ?_
      refine lv_bipush (v := iI 75) hx hb dX12_person_97 (by decide +kernel) ?_
      refine lv_iload_n hx hb dX12_person_99 rfl (lv_at hl 1 rfl) ?_
      refine r_iadd (v := iI (75 + x0)) M (iI_add _ _) dX12_person_100 ?_
      refine r_iald (v := iI (f0 (75 + x0))) M w 1 rfl (iI_in (by omega) (by omega) (by decide)) (cI_at (by omega) (by omega)) dX12_person_101 ?_
      have hh13 : (-2147483648) ≤ (f0 (75 + x0)) ∧ (f0 (75 + x0)) ≤ 2147483647 := f0_h.1 (75 + x0)
      exact ret _ ((f0 (75 + x0)), (iI 0)) _ _ _ _ _ [0, 1] dX12_person_102 ⟨rfl, (show (-2147483648) ≤ (f0 (75 + x0)) from by omega), (show (f0 (75 + x0)) ≤ 2147483647 from by omega)⟩ w (by decide) rfl
    by_cases c_14 : x1 = 4
    · refine lv_tableIn (off := 84) (tgt := 103) hx hb dX12_person_19 (by rw [c_14]; decide +kernel) (by rw [c_14]; decide +kernel) (by rw [c_14]; decide +kernel) (by decide) ?_
      refine lv_aload_n hx hb dX12_person_103 rfl (lv_at hl 0 rfl) ?_
      refine r_get (v := .ref a2) M w 0 14 clX12 rfl (by decide) G1477 rfl rfl dX12_person_104 ?_
      refine lv_bipush (v := iI 57) hx hb dX12_person_107 (by decide +kernel) ?_
      refine lv_iload_n hx hb dX12_person_109 rfl (lv_at hl 1 rfl) ?_
      refine r_iadd (v := iI (57 + x0)) M (iI_add _ _) dX12_person_110 ?_
      refine r_iald (v := iI (f0 (57 + x0))) M w 1 rfl (iI_in (by omega) (by omega) (by decide)) (cI_at (by omega) (by omega)) dX12_person_111 ?_
      have hh15 : (-2147483648) ≤ (f0 (57 + x0)) ∧ (f0 (57 + x0)) ≤ 2147483647 := f0_h.1 (57 + x0)
      have hh16 : (-1) ≤ (f0 (57 + x0)) ∧ (f0 (57 + x0)) ≤ 8 := (f0_h.2.1 (57 + x0)).2.2.2.1 (by omega) (by omega)
      exact ret _ ((f0 (57 + x0)), (iI 0)) _ _ _ _ _ [0, 1] dX12_person_112 ⟨rfl, (show (-2147483648) ≤ (f0 (57 + x0)) from by omega), (show (f0 (57 + x0)) ≤ 2147483647 from by omega)⟩ w (by decide) rfl
    by_cases c_17 : x1 = 5
    · refine lv_tableIn (off := 94) (tgt := 113) hx hb dX12_person_19 (by rw [c_17]; decide +kernel) (by rw [c_17]; decide +kernel) (by rw [c_17]; decide +kernel) (by decide) ?_
      refine lv_aload_n hx hb dX12_person_113 rfl (lv_at hl 0 rfl) ?_
      refine r_get (v := .ref a2) M w 0 14 clX12 rfl (by decide) G1477 rfl rfl dX12_person_114 ?_
      refine lv_bipush (v := iI 66) hx hb dX12_person_117 (by decide +kernel) ?_
      refine lv_iload_n hx hb dX12_person_119 rfl (lv_at hl 1 rfl) ?_
      refine r_iadd (v := iI (66 + x0)) M (iI_add _ _) dX12_person_120 ?_
      refine r_iald (v := iI (f0 (66 + x0))) M w 1 rfl (iI_in (by omega) (by omega) (by decide)) (cI_at (by omega) (by omega)) dX12_person_121 ?_
      have hh18 : (-2147483648) ≤ (f0 (66 + x0)) ∧ (f0 (66 + x0)) ≤ 2147483647 := f0_h.1 (66 + x0)
      have hh19 : (-1) ≤ (f0 (66 + x0)) ∧ (f0 (66 + x0)) ≤ 8 := (f0_h.2.1 (66 + x0)).2.2.2.1 (by omega) (by omega)
      exact ret _ ((f0 (66 + x0)), (iI 0)) _ _ _ _ _ [0, 1] dX12_person_122 ⟨rfl, (show (-2147483648) ≤ (f0 (66 + x0)) from by omega), (show (f0 (66 + x0)) ≤ 2147483647 from by omega)⟩ w (by decide) rfl
    by_cases c_20 : x1 = 6
    · refine lv_tableIn (off := 104) (tgt := 123) hx hb dX12_person_19 (by rw [c_20]; decide +kernel) (by rw [c_20]; decide +kernel) (by rw [c_20]; decide +kernel) (by decide) ?_
      refine lv_aload_n hx hb dX12_person_123 rfl (lv_at hl 0 rfl) ?_
      refine lv_iload_n hx hb dX12_person_124 rfl (lv_at hl 1 rfl) ?_
      refine k_I (ce := 0) (sl := 0) (rest := []) (wr := []) (r_V (f := 0) [0, 1] M w V_HookedCityModel_246 G1744 G70 (c122_X12_chainOf l D T _ a0 x0 (iI 0) a1 x2 x3 x4 x5 x6 x7 r1 x8 x9 x10 y0 x11 a2 a3 a4 a5 a6 a7 a8 a9 a10 a11 x12 a12 a13 a14 a15 x13 r2 r3 a16 x14 x15 a17 a18 x16 a19 x17 r4 a20 a21 x18 r5 a22 x19 x20 x21 x22 f0 (by omega) (by omega) x2_a x2_b x3_a x3_b x4_a x4_b x5_a x5_b x6_a x6_b x7_a x7_b x8_a x8_b x9_a x9_b x10_a x10_b x11_a x11_b x12_a x12_b x13_a x13_b x14_a x14_b x15_a x15_b x16_a x16_b x17_a x17_b x18_a x18_b x19_a x19_b x20_a x20_b x21_a x21_b x22_a x22_b f0_h) 0 clX12 rfl rfl (by decide) rfl hl.1 rfl (Nat.le_of_ble_eq_true rfl) dX12_person_125 (by decide) (by decide) (by decide) (by decide)) w [0, 1] [] rfl rfl (by decide) (by decide) rfl rfl (fun v z21 H locs hp w => ?_)
      have hv : iI z21 = v := hp.1
      subst hv
      have z21_a : (-2147483648) ≤ z21 := hp.2.1
      have z21_b : z21 ≤ 2147483647 := hp.2.2
      have w : WD D A s.heap [(a0, .inr (11, [.int (iI 0), .ref a1, .int (iI x2), .int (iI x3), .int (iI x4), .int (iI x5), .int (iI x6), .int (iI x7), .int r1, .int (iI x8), .int (iI x9), .int (iI x10), .long y0, .int (iI x11), .ref a2, .ref a3, .ref a4, .ref a5, .ref a6, .ref a7, .ref a8, .ref a9, .ref a10, .ref a11, .int (iI x12), .ref a12, .ref a13, .ref a14, .ref a15, .int (iI x13), .int r2, .int r3, .ref a16, .int (iI x14), .int (iI x15), .ref a17, .ref a18, .int (iI x16), .ref a19, .int (iI x17), .int r4, .ref a20, .ref a21, .int (iI x18), .int r5, .ref a22, .int (iI x19), .int (iI x20), .int (iI x21), .int (iI x22)])), (a2, .inl (T 0, 329, .inl (cI f0)))] H locs := w
      exact ret _ (z21, (iI 0)) _ _ _ _ _ [0, 1] dX12_person_128 ⟨rfl, z21_a, z21_b⟩ w (by decide) rfl
    by_cases c_22 : x1 = 7
    · refine lv_tableIn (off := 110) (tgt := 129) hx hb dX12_person_19 (by rw [c_22]; decide +kernel) (by rw [c_22]; decide +kernel) (by rw [c_22]; decide +kernel) (by decide) ?_
      refine lv_aload_n hx hb dX12_person_129 rfl (lv_at hl 0 rfl) ?_
      refine lv_iload_n hx hb dX12_person_130 rfl (lv_at hl 1 rfl) ?_
      refine k_I (ce := 0) (sl := 0) (rest := []) (wr := []) (r_V (f := 0) [0, 1] M w V_HookedCityModel_249 G1748 G71 (c123_X12_isOnRing l D T _ a0 x0 (iI 0) a1 x2 x3 x4 x5 x6 x7 r1 x8 x9 x10 y0 x11 a2 a3 a4 a5 a6 a7 a8 a9 a10 a11 x12 a12 a13 a14 a15 x13 r2 r3 a16 x14 x15 a17 a18 x16 a19 x17 r4 a20 a21 x18 r5 a22 x19 x20 x21 x22 f0 (by omega) (by omega) x2_a x2_b x3_a x3_b x4_a x4_b x5_a x5_b x6_a x6_b x7_a x7_b x8_a x8_b x9_a x9_b x10_a x10_b x11_a x11_b x12_a x12_b x13_a x13_b x14_a x14_b x15_a x15_b x16_a x16_b x17_a x17_b x18_a x18_b x19_a x19_b x20_a x20_b x21_a x21_b x22_a x22_b f0_h) 0 clX12 rfl rfl (by decide) rfl hl.1 rfl (Nat.le_of_ble_eq_true rfl) dX12_person_131 (by decide) (by decide) (by decide) (by decide)) w [0, 1] [] rfl rfl (by decide) (by decide) rfl rfl (fun v z23 H locs hp w => ?_)
      have hv : iI z23 = v := hp.1
      subst hv
      have z23_a : 0 ≤ z23 := hp.2.1
      have z23_b : z23 ≤ 1 := hp.2.2
      have w : WD D A s.heap [(a0, .inr (11, [.int (iI 0), .ref a1, .int (iI x2), .int (iI x3), .int (iI x4), .int (iI x5), .int (iI x6), .int (iI x7), .int r1, .int (iI x8), .int (iI x9), .int (iI x10), .long y0, .int (iI x11), .ref a2, .ref a3, .ref a4, .ref a5, .ref a6, .ref a7, .ref a8, .ref a9, .ref a10, .ref a11, .int (iI x12), .ref a12, .ref a13, .ref a14, .ref a15, .int (iI x13), .int r2, .int r3, .ref a16, .int (iI x14), .int (iI x15), .ref a17, .ref a18, .int (iI x16), .ref a19, .int (iI x17), .int r4, .ref a20, .ref a21, .int (iI x18), .int r5, .ref a22, .int (iI x19), .int (iI x20), .int (iI x21), .int (iI x22)])), (a2, .inl (T 0, 329, .inl (cI f0)))] H locs := w
      refine lv_if_eq (tgt := 141) hx hb dX12_person_134 (by decide) (fun c_24 => ?_) (fun c_24 => ?_)
      · replace c_24 := (iz_eq (Int.le_trans (by decide) z23_a) (Int.le_trans z23_b (by decide))).mp c_24
        refine lv_iconst (v := iI 0) hx hb dX12_person_141 (by decide +kernel) ?_
        exact ret _ (0, (iI 0)) _ _ _ _ _ [0, 1] dX12_person_142 ⟨rfl, (show (-2147483648) ≤ 0 from by decide), (show (0 : Int) ≤ 2147483647 from by decide)⟩ w (by decide) rfl
      · replace c_24 : ¬ z23 = 0 := fun h => c_24 ((iz_eq (Int.le_trans (by decide) z23_a) (Int.le_trans z23_b (by decide))).mpr h)
        refine lv_iconst (v := iI 1) hx hb dX12_person_137 (by decide +kernel) ?_
        refine lv_goto (tgt := 142) hx hb dX12_person_138 (by decide) ?_
        exact ret _ (1, (iI 0)) _ _ _ _ _ [0, 1] dX12_person_142 ⟨rfl, (show (-2147483648) ≤ 1 from by decide), (show (1 : Int) ≤ 2147483647 from by decide)⟩ w (by decide) rfl
    refine lv_tableOut (tgt := 143) hx hb dX12_person_19 (by rw [iI_i (Int.le_trans (by decide) x1_a) (Int.le_trans x1_b (by decide))]; omega) (by decide) ?_
    refine lv_aload_n hx hb dX12_person_143 rfl (lv_at hl 0 rfl) ?_
    refine k_I (ce := 0) (sl := 0) (rest := []) (wr := [(a2, .inl (T 0, 329, .inl (cI f0)))]) (r_V (f := 0) [0] M w V_HookedCityModel_243 G1740 G69 (c1_X12_refuse l D T _ a0 (iI 0) a1 x2 x3 x4 x5 x6 x7 r1 x8 x9 x10 y0 x11 a2 a3 a4 a5 a6 a7 a8 a9 a10 a11 x12 a12 a13 a14 a15 x13 r2 r3 a16 x14 x15 a17 a18 x16 a19 x17 r4 a20 a21 x18 r5 a22 x19 x20 x21 x22 x2_a x2_b x3_a x3_b x4_a x4_b x5_a x5_b x6_a x6_b x7_a x7_b x8_a x8_b x9_a x9_b x10_a x10_b x11_a x11_b x12_a x12_b x13_a x13_b x14_a x14_b x15_a x15_b x16_a x16_b x17_a x17_b x18_a x18_b x19_a x19_b x20_a x20_b x21_a x21_b x22_a x22_b) 0 clX12 rfl rfl (by decide) rfl hl.1 rfl (Nat.le_of_ble_eq_true rfl) dX12_person_144 (by decide) (by decide) (by decide) (by decide)) w [0] [1] rfl rfl (by decide) (by decide) rfl rfl (fun v u H locs hp w => ?_)
    obtain ⟨z25, fr26⟩ := u
    have hv : iI z25 = v := hp.1
    subst hv
    have z25_a : (-2147483648) ≤ z25 := hp.2.1
    have z25_b : z25 ≤ 2147483647 := hp.2.2.1
    have w : WD D A s.heap [(a2, .inl (T 0, 329, .inl (cI f0))), (a0, .inr (11, [.int fr26, .ref a1, .int (iI x2), .int (iI x3), .int (iI x4), .int (iI x5), .int (iI x6), .int (iI x7), .int r1, .int (iI x8), .int (iI x9), .int (iI x10), .long y0, .int (iI x11), .ref a2, .ref a3, .ref a4, .ref a5, .ref a6, .ref a7, .ref a8, .ref a9, .ref a10, .ref a11, .int (iI x12), .ref a12, .ref a13, .ref a14, .ref a15, .int (iI x13), .int r2, .int r3, .ref a16, .int (iI x14), .int (iI x15), .ref a17, .ref a18, .int (iI x16), .ref a19, .int (iI x17), .int r4, .ref a20, .ref a21, .int (iI x18), .int r5, .ref a22, .int (iI x19), .int (iI x20), .int (iI x21), .int (iI x22)]))] H locs := w
    rcases hp.2.2.2 with hr
    · subst hr
      exact ret _ (0, fr26) _ _ _ _ _ [1, 0] dX12_person_147 ⟨rfl, (show (-2147483648) ≤ 0 from by decide), (show (0 : Int) ≤ 2147483647 from by decide)⟩ w (by decide) rfl
  · replace c_5 := (iz_eq (Int.le_trans (by decide) z1_a) (Int.le_trans z1_b (by decide))).mp c_5
    refine lv_aload_n hx hb dX12_person_13 rfl (lv_at hl 0 rfl) ?_
    refine k_I (ce := 0) (sl := 0) (rest := []) (wr := [(a2, .inl (T 0, 329, .inl (cI f0)))]) (r_V (f := 0) [0] M w V_HookedCityModel_243 G1740 G69 (c1_X12_refuse l D T _ a0 (iI 0) a1 x2 x3 x4 x5 x6 x7 r1 x8 x9 x10 y0 x11 a2 a3 a4 a5 a6 a7 a8 a9 a10 a11 x12 a12 a13 a14 a15 x13 r2 r3 a16 x14 x15 a17 a18 x16 a19 x17 r4 a20 a21 x18 r5 a22 x19 x20 x21 x22 x2_a x2_b x3_a x3_b x4_a x4_b x5_a x5_b x6_a x6_b x7_a x7_b x8_a x8_b x9_a x9_b x10_a x10_b x11_a x11_b x12_a x12_b x13_a x13_b x14_a x14_b x15_a x15_b x16_a x16_b x17_a x17_b x18_a x18_b x19_a x19_b x20_a x20_b x21_a x21_b x22_a x22_b) 0 clX12 rfl rfl (by decide) rfl hl.1 rfl (Nat.le_of_ble_eq_true rfl) dX12_person_14 (by decide) (by decide) (by decide) (by decide)) w [0] [1] rfl rfl (by decide) (by decide) rfl rfl (fun v u H locs hp w => ?_)
    obtain ⟨z27, fr28⟩ := u
    have hv : iI z27 = v := hp.1
    subst hv
    have z27_a : (-2147483648) ≤ z27 := hp.2.1
    have z27_b : z27 ≤ 2147483647 := hp.2.2.1
    have w : WD D A s.heap [(a2, .inl (T 0, 329, .inl (cI f0))), (a0, .inr (11, [.int fr28, .ref a1, .int (iI x2), .int (iI x3), .int (iI x4), .int (iI x5), .int (iI x6), .int (iI x7), .int r1, .int (iI x8), .int (iI x9), .int (iI x10), .long y0, .int (iI x11), .ref a2, .ref a3, .ref a4, .ref a5, .ref a6, .ref a7, .ref a8, .ref a9, .ref a10, .ref a11, .int (iI x12), .ref a12, .ref a13, .ref a14, .ref a15, .int (iI x13), .int r2, .int r3, .ref a16, .int (iI x14), .int (iI x15), .ref a17, .ref a18, .int (iI x16), .ref a19, .int (iI x17), .int r4, .ref a20, .ref a21, .int (iI x18), .int r5, .ref a22, .int (iI x19), .int (iI x20), .int (iI x21), .int (iI x22)]))] H locs := w
    rcases hp.2.2.2 with hr
    · subst hr
      exact ret _ (0, fr28) _ _ _ _ _ [1, 0] dX12_person_17 ⟨rfl, (show (-2147483648) ≤ 0 from by decide), (show (0 : Int) ≤ 2147483647 from by decide)⟩ w (by decide) rfl
