theorem dX12_startRead_0 : decode cX12_startRead 0 = .ok (.iconst 0, 1) := by decide +kernel
theorem dX12_startRead_1 : decode cX12_startRead 1 = .ok (.istore_n 1, 1) := by decide +kernel
theorem dX12_startRead_2 : decode cX12_startRead 2 = .ok (.iload_n 1, 1) := by decide +kernel
theorem dX12_startRead_3 : decode cX12_startRead 3 = .ok (.bipush 53, 2) := by decide +kernel
theorem dX12_startRead_5 : decode cX12_startRead 5 = .ok (.if_icmp .ge 16, 3) := by decide +kernel
theorem dX12_startRead_21 : decode cX12_startRead 21 = .ok (.iconst 0, 1) := by decide +kernel
theorem dX12_startRead_22 : decode cX12_startRead 22 = .ok (.istore_n 1, 1) := by decide +kernel
theorem dX12_startRead_23 : decode cX12_startRead 23 = .ok (.iload_n 1, 1) := by decide +kernel
theorem dX12_startRead_24 : decode cX12_startRead 24 = .ok (.iconst 3, 1) := by decide +kernel
theorem dX12_startRead_25 : decode cX12_startRead 25 = .ok (.if_icmp .ge 16, 3) := by decide +kernel
theorem dX12_startRead_41 : decode cX12_startRead 41 = .ok (.iconst 0, 1) := by decide +kernel
theorem dX12_startRead_42 : decode cX12_startRead 42 = .ok (.istore_n 1, 1) := by decide +kernel
theorem dX12_startRead_43 : decode cX12_startRead 43 = .ok (.iload_n 1, 1) := by decide +kernel
theorem dX12_startRead_44 : decode cX12_startRead 44 = .ok (.bipush 9, 2) := by decide +kernel
theorem dX12_startRead_46 : decode cX12_startRead 46 = .ok (.if_icmp .ge 19, 3) := by decide +kernel
theorem dX12_startRead_65 : decode cX12_startRead 65 = .ok (.aload_n 0, 1) := by decide +kernel
theorem dX12_startRead_66 : decode cX12_startRead 66 = .ok (.getfield 101, 3) := by decide +kernel
theorem G1478 : Cond.fieldLink "HookedCityModel" 101 "HookedCityModel" "read" "[I" ∈ GW := gw_i 1478 (by decide +kernel) rfl
theorem dX12_startRead_69 : decode cX12_startRead 69 = .ok (.iconst 3, 1) := by decide +kernel
theorem dX12_startRead_70 : decode cX12_startRead 70 = .ok (.bipush 12, 2) := by decide +kernel
theorem dX12_startRead_72 : decode cX12_startRead 72 = .ok (.iastore, 1) := by decide +kernel
theorem dX12_startRead_73 : decode cX12_startRead 73 = .ok (.aload_n 0, 1) := by decide +kernel
theorem dX12_startRead_74 : decode cX12_startRead 74 = .ok (.getfield 101, 3) := by decide +kernel
theorem dX12_startRead_77 : decode cX12_startRead 77 = .ok (.iconst 4, 1) := by decide +kernel
theorem dX12_startRead_78 : decode cX12_startRead 78 = .ok (.iconst 1, 1) := by decide +kernel
theorem dX12_startRead_79 : decode cX12_startRead 79 = .ok (.iastore, 1) := by decide +kernel
theorem dX12_startRead_80 : decode cX12_startRead 80 = .ok (.return_, 1) := by decide +kernel
theorem dX12_startRead_49 : decode cX12_startRead 49 = .ok (.aload_n 0, 1) := by decide +kernel
theorem dX12_startRead_50 : decode cX12_startRead 50 = .ok (.getfield 101, 3) := by decide +kernel
theorem dX12_startRead_53 : decode cX12_startRead 53 = .ok (.bipush 32, 2) := by decide +kernel
theorem dX12_startRead_55 : decode cX12_startRead 55 = .ok (.iload_n 1, 1) := by decide +kernel
theorem dX12_startRead_56 : decode cX12_startRead 56 = .ok (.iadd, 1) := by decide +kernel
theorem dX12_startRead_57 : decode cX12_startRead 57 = .ok (.iconst (-1), 1) := by decide +kernel
theorem dX12_startRead_58 : decode cX12_startRead 58 = .ok (.iastore, 1) := by decide +kernel
theorem dX12_startRead_59 : decode cX12_startRead 59 = .ok (.iinc 1 1, 3) := by decide +kernel
theorem dX12_startRead_62 : decode cX12_startRead 62 = .ok (.goto (-19), 3) := by decide +kernel
theorem dX12_startRead_28 : decode cX12_startRead 28 = .ok (.aload_n 0, 1) := by decide +kernel
theorem dX12_startRead_29 : decode cX12_startRead 29 = .ok (.getfield 127, 3) := by decide +kernel
theorem G1486 : Cond.fieldLink "HookedCityModel" 127 "HookedCityModel" "onces" "[Z" ∈ GW := gw_i 1486 (by decide +kernel) rfl
theorem dX12_startRead_32 : decode cX12_startRead 32 = .ok (.iload_n 1, 1) := by decide +kernel
theorem dX12_startRead_33 : decode cX12_startRead 33 = .ok (.iconst 0, 1) := by decide +kernel
theorem dX12_startRead_34 : decode cX12_startRead 34 = .ok (.bastore, 1) := by decide +kernel
theorem dX12_startRead_35 : decode cX12_startRead 35 = .ok (.iinc 1 1, 3) := by decide +kernel
theorem dX12_startRead_38 : decode cX12_startRead 38 = .ok (.goto (-15), 3) := by decide +kernel
theorem dX12_startRead_8 : decode cX12_startRead 8 = .ok (.aload_n 0, 1) := by decide +kernel
theorem dX12_startRead_9 : decode cX12_startRead 9 = .ok (.getfield 101, 3) := by decide +kernel
theorem dX12_startRead_12 : decode cX12_startRead 12 = .ok (.iload_n 1, 1) := by decide +kernel
theorem dX12_startRead_13 : decode cX12_startRead 13 = .ok (.iconst 0, 1) := by decide +kernel
theorem dX12_startRead_14 : decode cX12_startRead 14 = .ok (.iastore, 1) := by decide +kernel
theorem dX12_startRead_15 : decode cX12_startRead 15 = .ok (.iinc 1 1, 3) := by decide +kernel
theorem dX12_startRead_18 : decode cX12_startRead 18 = .ok (.goto (-16), 3) := by decide +kernel
theorem dX12_findIn_0 : decode cX12_findIn 0 = .ok (.iconst 0, 1) := by decide +kernel
theorem dX12_findIn_1 : decode cX12_findIn 1 = .ok (.istore 5, 2) := by decide +kernel
theorem dX12_findIn_3 : decode cX12_findIn 3 = .ok (.iload 5, 2) := by decide +kernel
theorem dX12_findIn_5 : decode cX12_findIn 5 = .ok (.iload_n 2, 1) := by decide +kernel
theorem dX12_findIn_6 : decode cX12_findIn 6 = .ok (.if_icmp .ge 23, 3) := by decide +kernel
theorem dX12_findIn_29 : decode cX12_findIn 29 = .ok (.iconst (-1), 1) := by decide +kernel
theorem dX12_findIn_30 : decode cX12_findIn 30 = .ok (.ireturn, 1) := by decide +kernel
theorem dX12_findIn_9 : decode cX12_findIn 9 = .ok (.aload_n 0, 1) := by decide +kernel
theorem dX12_findIn_10 : decode cX12_findIn 10 = .ok (.iload_n 1, 1) := by decide +kernel
theorem dX12_findIn_11 : decode cX12_findIn 11 = .ok (.iload 5, 2) := by decide +kernel
theorem dX12_findIn_13 : decode cX12_findIn 13 = .ok (.iadd, 1) := by decide +kernel
theorem dX12_findIn_14 : decode cX12_findIn 14 = .ok (.laload, 1) := by decide +kernel
theorem dX12_findIn_15 : decode cX12_findIn 15 = .ok (.lload_n 3, 1) := by decide +kernel
theorem dX12_findIn_16 : decode cX12_findIn 16 = .ok (.lcmp, 1) := by decide +kernel
theorem dX12_findIn_17 : decode cX12_findIn 17 = .ok (.ifCond .ne 6, 3) := by decide +kernel
theorem dX12_findIn_23 : decode cX12_findIn 23 = .ok (.iinc 5 1, 3) := by decide +kernel
theorem dX12_findIn_26 : decode cX12_findIn 26 = .ok (.goto (-23), 3) := by decide +kernel
theorem dX12_findIn_20 : decode cX12_findIn 20 = .ok (.iload 5, 2) := by decide +kernel
theorem dX12_findIn_22 : decode cX12_findIn 22 = .ok (.ireturn, 1) := by decide +kernel
theorem dX12_readNew_0 : decode cX12_readNew 0 = .ok (.aload_n 0, 1) := by decide +kernel
theorem dX12_readNew_1 : decode cX12_readNew 1 = .ok (.invokevirtual 175, 3) := by decide +kernel
theorem G1676 : Cond.code ⟨"HookedCityModel", "isName", "()Z"⟩ prog_14_method_21_code 2 (some .boolean) ∈ GW := gw_i 1676 (by decide +kernel) rfl
theorem G1673 : Cond.methodLink "HookedCityModel" 175 ⟨"HookedCityModel", "isName", "()Z"⟩ ∈ GW := gw_i 1673 (by decide +kernel) rfl
theorem V_HookedCityModel_175 : VL "HookedCityModel" 175 yX12_isName cX12_isName 2 (some .boolean) 0 := ⟨G1676, G1673, G131, by decide +kernel, by decide +kernel, by decide +kernel⟩
theorem G1675 : Cond.instanceMethod ⟨"HookedCityModel", "isName", "()Z"⟩ ∈ GW := gw_i 1675 (by decide +kernel) rfl
theorem G57 : Cond.selects "HookedCityModel" ⟨"HookedCityModel", "isName", "()Z"⟩ ⟨"HookedCityModel", "isName", "()Z"⟩ ∈ GW := gw_i 57 (by decide +kernel) rfl
theorem dX12_readNew_4 : decode cX12_readNew 4 = .ok (.ifCond .ne 9, 3) := by decide +kernel
theorem dX12_readNew_13 : decode cX12_readNew 13 = .ok (.aload_n 0, 1) := by decide +kernel
theorem dX12_readNew_14 : decode cX12_readNew 14 = .ok (.getfield 117, 3) := by decide +kernel
theorem G1483 : Cond.fieldLink "HookedCityModel" 117 "HookedCityModel" "readName" "[J" ∈ GW := gw_i 1483 (by decide +kernel) rfl
theorem dX12_readNew_17 : decode cX12_readNew 17 = .ok (.iconst 0, 1) := by decide +kernel
theorem dX12_readNew_18 : decode cX12_readNew 18 = .ok (.aload_n 0, 1) := by decide +kernel
theorem dX12_readNew_19 : decode cX12_readNew 19 = .ok (.getfield 101, 3) := by decide +kernel
theorem dX12_readNew_22 : decode cX12_readNew 22 = .ok (.iconst 0, 1) := by decide +kernel
theorem dX12_readNew_23 : decode cX12_readNew 23 = .ok (.iaload, 1) := by decide +kernel
theorem dX12_readNew_24 : decode cX12_readNew 24 = .ok (.aload_n 0, 1) := by decide +kernel
theorem dX12_readNew_25 : decode cX12_readNew 25 = .ok (.getfield 43, 3) := by decide +kernel
theorem dX12_readNew_28 : decode cX12_readNew 28 = .ok (.invokestatic 179, 3) := by decide +kernel
theorem G1679 : Cond.code ⟨"HookedCityModel", "findIn", "([JIIJ)I"⟩ prog_14_method_29_code 6 (some .int) ∈ GW := gw_i 1679 (by decide +kernel) rfl
theorem G1677 : Cond.methodLink "HookedCityModel" 179 ⟨"HookedCityModel", "findIn", "([JIIJ)I"⟩ ∈ GW := gw_i 1677 (by decide +kernel) rfl
theorem V_HookedCityModel_179 : VL "HookedCityModel" 179 yX12_findIn cX12_findIn 6 (some .int) 4 := ⟨G1679, G1677, G131, by decide +kernel, by decide +kernel, by decide +kernel⟩
theorem G1678 : Cond.static ⟨"HookedCityModel", "findIn", "([JIIJ)I"⟩ ∈ GW := gw_i 1678 (by decide +kernel) rfl
theorem dX12_readNew_31 : decode cX12_readNew 31 = .ok (.iconst (-1), 1) := by decide +kernel
theorem dX12_readNew_32 : decode cX12_readNew 32 = .ok (.if_icmp .ne 26, 3) := by decide +kernel
theorem dX12_readNew_58 : decode cX12_readNew 58 = .ok (.aload_n 0, 1) := by decide +kernel
theorem dX12_readNew_59 : decode cX12_readNew 59 = .ok (.iconst 3, 1) := by decide +kernel
theorem dX12_readNew_60 : decode cX12_readNew 60 = .ok (.invokevirtual 72, 3) := by decide +kernel
theorem dX12_readNew_63 : decode cX12_readNew 63 = .ok (.ireturn, 1) := by decide +kernel
theorem dX12_readNew_35 : decode cX12_readNew 35 = .ok (.aload_n 0, 1) := by decide +kernel
theorem dX12_readNew_36 : decode cX12_readNew 36 = .ok (.getfield 117, 3) := by decide +kernel
theorem dX12_readNew_39 : decode cX12_readNew 39 = .ok (.bipush 9, 2) := by decide +kernel
theorem dX12_readNew_41 : decode cX12_readNew 41 = .ok (.aload_n 0, 1) := by decide +kernel
theorem dX12_readNew_42 : decode cX12_readNew 42 = .ok (.getfield 101, 3) := by decide +kernel
theorem dX12_readNew_45 : decode cX12_readNew 45 = .ok (.iconst 1, 1) := by decide +kernel
theorem dX12_readNew_46 : decode cX12_readNew 46 = .ok (.iaload, 1) := by decide +kernel
theorem dX12_readNew_47 : decode cX12_readNew 47 = .ok (.aload_n 0, 1) := by decide +kernel
theorem dX12_readNew_48 : decode cX12_readNew 48 = .ok (.getfield 43, 3) := by decide +kernel
theorem dX12_readNew_51 : decode cX12_readNew 51 = .ok (.invokestatic 179, 3) := by decide +kernel
theorem dX12_readNew_54 : decode cX12_readNew 54 = .ok (.iconst (-1), 1) := by decide +kernel
theorem dX12_readNew_55 : decode cX12_readNew 55 = .ok (.if_icmp .eq 9, 3) := by decide +kernel
theorem dX12_readNew_64 : decode cX12_readNew 64 = .ok (.aload_n 0, 1) := by decide +kernel
theorem dX12_readNew_65 : decode cX12_readNew 65 = .ok (.getfield 117, 3) := by decide +kernel
theorem dX12_readNew_68 : decode cX12_readNew 68 = .ok (.iload_n 1, 1) := by decide +kernel
theorem dX12_readNew_69 : decode cX12_readNew 69 = .ok (.aload_n 0, 1) := by decide +kernel
theorem dX12_readNew_70 : decode cX12_readNew 70 = .ok (.getfield 43, 3) := by decide +kernel
theorem dX12_readNew_73 : decode cX12_readNew 73 = .ok (.lastore, 1) := by decide +kernel
theorem dX12_readNew_74 : decode cX12_readNew 74 = .ok (.aload_n 0, 1) := by decide +kernel
theorem dX12_readNew_75 : decode cX12_readNew 75 = .ok (.invokevirtual 82, 3) := by decide +kernel
theorem dX12_readNew_78 : decode cX12_readNew 78 = .ok (.iconst 1, 1) := by decide +kernel
theorem dX12_readNew_79 : decode cX12_readNew 79 = .ok (.ireturn, 1) := by decide +kernel
theorem dX12_readNew_7 : decode cX12_readNew 7 = .ok (.aload_n 0, 1) := by decide +kernel
theorem dX12_readNew_8 : decode cX12_readNew 8 = .ok (.iconst 1, 1) := by decide +kernel
theorem dX12_readNew_9 : decode cX12_readNew 9 = .ok (.invokevirtual 72, 3) := by decide +kernel
theorem dX12_readNew_12 : decode cX12_readNew 12 = .ok (.ireturn, 1) := by decide +kernel
theorem dX12_isOne_0 : decode cX12_isOne 0 = .ok (.aload_n 0, 1) := by decide +kernel
theorem dX12_isOne_1 : decode cX12_isOne 1 = .ok (.invokevirtual 175, 3) := by decide +kernel
theorem dX12_isOne_4 : decode cX12_isOne 4 = .ok (.ifCond .ne 9, 3) := by decide +kernel
theorem dX12_isOne_13 : decode cX12_isOne 13 = .ok (.aload_n 0, 1) := by decide +kernel
theorem dX12_isOne_14 : decode cX12_isOne 14 = .ok (.aload_n 0, 1) := by decide +kernel
theorem dX12_isOne_15 : decode cX12_isOne 15 = .ok (.getfield 117, 3) := by decide +kernel
theorem dX12_isOne_18 : decode cX12_isOne 18 = .ok (.iconst 0, 1) := by decide +kernel
theorem dX12_isOne_19 : decode cX12_isOne 19 = .ok (.aload_n 0, 1) := by decide +kernel
theorem dX12_isOne_20 : decode cX12_isOne 20 = .ok (.getfield 101, 3) := by decide +kernel
theorem dX12_isOne_23 : decode cX12_isOne 23 = .ok (.iconst 0, 1) := by decide +kernel
theorem dX12_isOne_24 : decode cX12_isOne 24 = .ok (.iaload, 1) := by decide +kernel
theorem dX12_isOne_25 : decode cX12_isOne 25 = .ok (.aload_n 0, 1) := by decide +kernel
theorem dX12_isOne_26 : decode cX12_isOne 26 = .ok (.getfield 43, 3) := by decide +kernel
theorem dX12_isOne_29 : decode cX12_isOne 29 = .ok (.invokestatic 179, 3) := by decide +kernel
theorem dX12_isOne_32 : decode cX12_isOne 32 = .ok (.putfield 79, 3) := by decide +kernel
theorem dX12_isOne_35 : decode cX12_isOne 35 = .ok (.aload_n 0, 1) := by decide +kernel
theorem dX12_isOne_36 : decode cX12_isOne 36 = .ok (.getfield 79, 3) := by decide +kernel
theorem dX12_isOne_39 : decode cX12_isOne 39 = .ok (.iconst (-1), 1) := by decide +kernel
theorem dX12_isOne_40 : decode cX12_isOne 40 = .ok (.if_icmp .ne 11, 3) := by decide +kernel
theorem dX12_isOne_51 : decode cX12_isOne 51 = .ok (.iconst 1, 1) := by decide +kernel
theorem dX12_isOne_52 : decode cX12_isOne 52 = .ok (.goto 4, 3) := by decide +kernel
theorem dX12_isOne_56 : decode cX12_isOne 56 = .ok (.ireturn, 1) := by decide +kernel
theorem dX12_isOne_43 : decode cX12_isOne 43 = .ok (.aload_n 0, 1) := by decide +kernel
theorem dX12_isOne_44 : decode cX12_isOne 44 = .ok (.iconst 3, 1) := by decide +kernel
theorem dX12_isOne_45 : decode cX12_isOne 45 = .ok (.invokevirtual 72, 3) := by decide +kernel
theorem dX12_isOne_48 : decode cX12_isOne 48 = .ok (.ifCond .eq 7, 3) := by decide +kernel
theorem dX12_isOne_55 : decode cX12_isOne 55 = .ok (.iconst 0, 1) := by decide +kernel
theorem dX12_isOne_7 : decode cX12_isOne 7 = .ok (.aload_n 0, 1) := by decide +kernel
theorem dX12_isOne_8 : decode cX12_isOne 8 = .ok (.iconst 1, 1) := by decide +kernel
theorem dX12_isOne_9 : decode cX12_isOne 9 = .ok (.invokevirtual 72, 3) := by decide +kernel
theorem dX12_isOne_12 : decode cX12_isOne 12 = .ok (.ireturn, 1) := by decide +kernel
theorem dX12_put_0 : decode cX12_put 0 = .ok (.iload_n 2, 1) := by decide +kernel
theorem dX12_put_1 : decode cX12_put 1 = .ok (.ifCond .eq 13, 3) := by decide +kernel
theorem dX12_put_14 : decode cX12_put 14 = .ok (.iload_n 2, 1) := by decide +kernel
theorem dX12_put_15 : decode cX12_put 15 = .ok (.ireturn, 1) := by decide +kernel
theorem dX12_put_4 : decode cX12_put 4 = .ok (.aload_n 0, 1) := by decide +kernel
theorem dX12_put_5 : decode cX12_put 5 = .ok (.getfield 101, 3) := by decide +kernel
theorem dX12_put_8 : decode cX12_put 8 = .ok (.iload_n 1, 1) := by decide +kernel
theorem dX12_put_9 : decode cX12_put 9 = .ok (.aload_n 0, 1) := by decide +kernel
theorem dX12_put_10 : decode cX12_put 10 = .ok (.getfield 79, 3) := by decide +kernel
theorem dX12_put_13 : decode cX12_put 13 = .ok (.iastore, 1) := by decide +kernel
theorem dX12_readFirst_0 : decode cX12_readFirst 0 = .ok (.aload_n 0, 1) := by decide +kernel
theorem dX12_readFirst_1 : decode cX12_readFirst 1 = .ok (.getfield 101, 3) := by decide +kernel
theorem dX12_readFirst_4 : decode cX12_readFirst 4 = .ok (.iload_n 1, 1) := by decide +kernel
theorem dX12_readFirst_5 : decode cX12_readFirst 5 = .ok (.iaload, 1) := by decide +kernel
theorem dX12_readFirst_6 : decode cX12_readFirst 6 = .ok (.iload_n 2, 1) := by decide +kernel
theorem dX12_readFirst_7 : decode cX12_readFirst 7 = .ok (.if_icmp .ne 9, 3) := by decide +kernel
theorem dX12_readFirst_16 : decode cX12_readFirst 16 = .ok (.aload_n 0, 1) := by decide +kernel
theorem dX12_readFirst_17 : decode cX12_readFirst 17 = .ok (.invokevirtual 82, 3) := by decide +kernel
theorem dX12_readFirst_20 : decode cX12_readFirst 20 = .ok (.iconst 1, 1) := by decide +kernel
theorem dX12_readFirst_21 : decode cX12_readFirst 21 = .ok (.ireturn, 1) := by decide +kernel
theorem dX12_readFirst_10 : decode cX12_readFirst 10 = .ok (.aload_n 0, 1) := by decide +kernel
theorem dX12_readFirst_11 : decode cX12_readFirst 11 = .ok (.iconst 4, 1) := by decide +kernel
theorem dX12_readFirst_12 : decode cX12_readFirst 12 = .ok (.invokevirtual 72, 3) := by decide +kernel
theorem dX12_readFirst_15 : decode cX12_readFirst 15 = .ok (.ireturn, 1) := by decide +kernel
theorem dX12_readPerson_0 : decode cX12_readPerson 0 = .ok (.aload_n 0, 1) := by decide +kernel
theorem dX12_readPerson_1 : decode cX12_readPerson 1 = .ok (.iconst 0, 1) := by decide +kernel
theorem dX12_readPerson_2 : decode cX12_readPerson 2 = .ok (.bipush 9, 2) := by decide +kernel
theorem dX12_readPerson_4 : decode cX12_readPerson 4 = .ok (.invokevirtual 186, 3) := by decide +kernel
theorem G1664 : Cond.code ⟨"HookedCityModel", "readFirst", "(II)Z"⟩ prog_14_method_32_code 3 (some .boolean) ∈ GW := gw_i 1664 (by decide +kernel) rfl
theorem G1661 : Cond.methodLink "HookedCityModel" 186 ⟨"HookedCityModel", "readFirst", "(II)Z"⟩ ∈ GW := gw_i 1661 (by decide +kernel) rfl
theorem V_HookedCityModel_186 : VL "HookedCityModel" 186 yX12_readFirst cX12_readFirst 3 (some .boolean) 2 := ⟨G1664, G1661, G131, by decide +kernel, by decide +kernel, by decide +kernel⟩
theorem G1663 : Cond.instanceMethod ⟨"HookedCityModel", "readFirst", "(II)Z"⟩ ∈ GW := gw_i 1663 (by decide +kernel) rfl
theorem G54 : Cond.selects "HookedCityModel" ⟨"HookedCityModel", "readFirst", "(II)Z"⟩ ⟨"HookedCityModel", "readFirst", "(II)Z"⟩ ∈ GW := gw_i 54 (by decide +kernel) rfl
theorem dX12_readPerson_7 : decode cX12_readPerson 7 = .ok (.ifCond .ne 5, 3) := by decide +kernel
theorem dX12_readPerson_12 : decode cX12_readPerson 12 = .ok (.aload_n 0, 1) := by decide +kernel
theorem dX12_readPerson_13 : decode cX12_readPerson 13 = .ok (.getfield 101, 3) := by decide +kernel
theorem dX12_readPerson_16 : decode cX12_readPerson 16 = .ok (.iconst 0, 1) := by decide +kernel
theorem dX12_readPerson_17 : decode cX12_readPerson 17 = .ok (.iaload, 1) := by decide +kernel
theorem dX12_readPerson_18 : decode cX12_readPerson 18 = .ok (.istore_n 1, 1) := by decide +kernel
theorem dX12_readPerson_19 : decode cX12_readPerson 19 = .ok (.aload_n 0, 1) := by decide +kernel
theorem dX12_readPerson_20 : decode cX12_readPerson 20 = .ok (.iload_n 1, 1) := by decide +kernel
theorem dX12_readPerson_21 : decode cX12_readPerson 21 = .ok (.invokevirtual 190, 3) := by decide +kernel
theorem G1672 : Cond.code ⟨"HookedCityModel", "readNew", "(I)Z"⟩ prog_14_method_30_code 2 (some .boolean) ∈ GW := gw_i 1672 (by decide +kernel) rfl
theorem G1669 : Cond.methodLink "HookedCityModel" 190 ⟨"HookedCityModel", "readNew", "(I)Z"⟩ ∈ GW := gw_i 1669 (by decide +kernel) rfl
theorem V_HookedCityModel_190 : VL "HookedCityModel" 190 yX12_readNew cX12_readNew 2 (some .boolean) 1 := ⟨G1672, G1669, G131, by decide +kernel, by decide +kernel, by decide +kernel⟩
theorem G1671 : Cond.instanceMethod ⟨"HookedCityModel", "readNew", "(I)Z"⟩ ∈ GW := gw_i 1671 (by decide +kernel) rfl
theorem G56 : Cond.selects "HookedCityModel" ⟨"HookedCityModel", "readNew", "(I)Z"⟩ ⟨"HookedCityModel", "readNew", "(I)Z"⟩ ∈ GW := gw_i 56 (by decide +kernel) rfl
theorem dX12_readPerson_24 : decode cX12_readPerson 24 = .ok (.ifCond .eq 50, 3) := by decide +kernel
theorem dX12_readPerson_74 : decode cX12_readPerson 74 = .ok (.iconst 0, 1) := by decide +kernel
theorem dX12_readPerson_75 : decode cX12_readPerson 75 = .ok (.ireturn, 1) := by decide +kernel
theorem dX12_readPerson_27 : decode cX12_readPerson 27 = .ok (.aload_n 0, 1) := by decide +kernel
theorem dX12_readPerson_28 : decode cX12_readPerson 28 = .ok (.iconst 5, 1) := by decide +kernel
theorem dX12_readPerson_29 : decode cX12_readPerson 29 = .ok (.iload_n 1, 1) := by decide +kernel
theorem dX12_readPerson_30 : decode cX12_readPerson 30 = .ok (.iadd, 1) := by decide +kernel
theorem dX12_readPerson_31 : decode cX12_readPerson 31 = .ok (.aload_n 0, 1) := by decide +kernel
theorem dX12_readPerson_32 : decode cX12_readPerson 32 = .ok (.invokevirtual 193, 3) := by decide +kernel
theorem G1683 : Cond.code ⟨"HookedCityModel", "readKind", "()Z"⟩ prog_14_method_34_code 2 (some .boolean) ∈ GW := gw_i 1683 (by decide +kernel) rfl
theorem G1680 : Cond.methodLink "HookedCityModel" 193 ⟨"HookedCityModel", "readKind", "()Z"⟩ ∈ GW := gw_i 1680 (by decide +kernel) rfl
theorem V_HookedCityModel_193 : VL "HookedCityModel" 193 yX12_readKind cX12_readKind 2 (some .boolean) 0 := ⟨G1683, G1680, G131, by decide +kernel, by decide +kernel, by decide +kernel⟩
theorem G1682 : Cond.instanceMethod ⟨"HookedCityModel", "readKind", "()Z"⟩ ∈ GW := gw_i 1682 (by decide +kernel) rfl
theorem G58 : Cond.selects "HookedCityModel" ⟨"HookedCityModel", "readKind", "()Z"⟩ ⟨"HookedCityModel", "readKind", "()Z"⟩ ∈ GW := gw_i 58 (by decide +kernel) rfl
theorem dX12_readPerson_35 : decode cX12_readPerson 35 = .ok (.invokevirtual 196, 3) := by decide +kernel
theorem G1687 : Cond.code ⟨"HookedCityModel", "put", "(IZ)Z"⟩ prog_14_method_33_code 3 (some .boolean) ∈ GW := gw_i 1687 (by decide +kernel) rfl
theorem G1684 : Cond.methodLink "HookedCityModel" 196 ⟨"HookedCityModel", "put", "(IZ)Z"⟩ ∈ GW := gw_i 1684 (by decide +kernel) rfl
theorem V_HookedCityModel_196 : VL "HookedCityModel" 196 yX12_put cX12_put 3 (some .boolean) 2 := ⟨G1687, G1684, G131, by decide +kernel, by decide +kernel, by decide +kernel⟩
theorem G1686 : Cond.instanceMethod ⟨"HookedCityModel", "put", "(IZ)Z"⟩ ∈ GW := gw_i 1686 (by decide +kernel) rfl
theorem G59 : Cond.selects "HookedCityModel" ⟨"HookedCityModel", "put", "(IZ)Z"⟩ ⟨"HookedCityModel", "put", "(IZ)Z"⟩ ∈ GW := gw_i 59 (by decide +kernel) rfl
theorem dX12_readPerson_38 : decode cX12_readPerson 38 = .ok (.ifCond .eq 36, 3) := by decide +kernel
theorem dX12_readPerson_41 : decode cX12_readPerson 41 = .ok (.aload_n 0, 1) := by decide +kernel
theorem dX12_readPerson_42 : decode cX12_readPerson 42 = .ok (.bipush 14, 2) := by decide +kernel
theorem dX12_readPerson_44 : decode cX12_readPerson 44 = .ok (.iload_n 1, 1) := by decide +kernel
theorem dX12_readPerson_45 : decode cX12_readPerson 45 = .ok (.iadd, 1) := by decide +kernel
theorem dX12_readPerson_46 : decode cX12_readPerson 46 = .ok (.aload_n 0, 1) := by decide +kernel
theorem dX12_readPerson_47 : decode cX12_readPerson 47 = .ok (.invokevirtual 193, 3) := by decide +kernel
theorem dX12_readPerson_50 : decode cX12_readPerson 50 = .ok (.invokevirtual 196, 3) := by decide +kernel
theorem dX12_readPerson_53 : decode cX12_readPerson 53 = .ok (.ifCond .eq 21, 3) := by decide +kernel
theorem dX12_readPerson_56 : decode cX12_readPerson 56 = .ok (.aload_n 0, 1) := by decide +kernel
theorem dX12_readPerson_57 : decode cX12_readPerson 57 = .ok (.bipush 23, 2) := by decide +kernel
theorem dX12_readPerson_59 : decode cX12_readPerson 59 = .ok (.iload_n 1, 1) := by decide +kernel
theorem dX12_readPerson_60 : decode cX12_readPerson 60 = .ok (.iadd, 1) := by decide +kernel
theorem dX12_readPerson_61 : decode cX12_readPerson 61 = .ok (.aload_n 0, 1) := by decide +kernel
theorem dX12_readPerson_62 : decode cX12_readPerson 62 = .ok (.iconst 1, 1) := by decide +kernel
theorem dX12_readPerson_63 : decode cX12_readPerson 63 = .ok (.bipush 9, 2) := by decide +kernel
theorem dX12_readPerson_65 : decode cX12_readPerson 65 = .ok (.invokevirtual 200, 3) := by decide +kernel
theorem G1691 : Cond.code ⟨"HookedCityModel", "readNumber", "(II)Z"⟩ prog_14_method_23_code 3 (some .boolean) ∈ GW := gw_i 1691 (by decide +kernel) rfl
theorem G1688 : Cond.methodLink "HookedCityModel" 200 ⟨"HookedCityModel", "readNumber", "(II)Z"⟩ ∈ GW := gw_i 1688 (by decide +kernel) rfl
theorem V_HookedCityModel_200 : VL "HookedCityModel" 200 yX12_readNumber cX12_readNumber 3 (some .boolean) 2 := ⟨G1691, G1688, G131, by decide +kernel, by decide +kernel, by decide +kernel⟩
theorem G1690 : Cond.instanceMethod ⟨"HookedCityModel", "readNumber", "(II)Z"⟩ ∈ GW := gw_i 1690 (by decide +kernel) rfl
theorem G60 : Cond.selects "HookedCityModel" ⟨"HookedCityModel", "readNumber", "(II)Z"⟩ ⟨"HookedCityModel", "readNumber", "(II)Z"⟩ ∈ GW := gw_i 60 (by decide +kernel) rfl
theorem dX12_readPerson_68 : decode cX12_readPerson 68 = .ok (.invokevirtual 196, 3) := by decide +kernel
theorem dX12_readPerson_71 : decode cX12_readPerson 71 = .ok (.ifCond .ne 5, 3) := by decide +kernel
theorem dX12_readPerson_76 : decode cX12_readPerson 76 = .ok (.aload_n 0, 1) := by decide +kernel
theorem dX12_readPerson_77 : decode cX12_readPerson 77 = .ok (.getfield 101, 3) := by decide +kernel
theorem dX12_readPerson_80 : decode cX12_readPerson 80 = .ok (.iconst 0, 1) := by decide +kernel
theorem dX12_readPerson_81 : decode cX12_readPerson 81 = .ok (.dup2, 1) := by decide +kernel
theorem dX12_readPerson_82 : decode cX12_readPerson 82 = .ok (.iaload, 1) := by decide +kernel
theorem dX12_readPerson_83 : decode cX12_readPerson 83 = .ok (.iconst 1, 1) := by decide +kernel
theorem dX12_readPerson_84 : decode cX12_readPerson 84 = .ok (.iadd, 1) := by decide +kernel
theorem dX12_readPerson_85 : decode cX12_readPerson 85 = .ok (.iastore, 1) := by decide +kernel
theorem dX12_readPerson_86 : decode cX12_readPerson 86 = .ok (.iconst 1, 1) := by decide +kernel
theorem dX12_readPerson_87 : decode cX12_readPerson 87 = .ok (.ireturn, 1) := by decide +kernel
theorem dX12_readPerson_10 : decode cX12_readPerson 10 = .ok (.iconst 0, 1) := by decide +kernel
theorem dX12_readPerson_11 : decode cX12_readPerson 11 = .ok (.ireturn, 1) := by decide +kernel
theorem dX12_readMaid_0 : decode cX12_readMaid 0 = .ok (.aload_n 0, 1) := by decide +kernel
theorem dX12_readMaid_1 : decode cX12_readMaid 1 = .ok (.iconst 1, 1) := by decide +kernel
theorem dX12_readMaid_2 : decode cX12_readMaid 2 = .ok (.iconst 3, 1) := by decide +kernel
theorem dX12_readMaid_3 : decode cX12_readMaid 3 = .ok (.invokevirtual 186, 3) := by decide +kernel
theorem dX12_readMaid_6 : decode cX12_readMaid 6 = .ok (.ifCond .ne 5, 3) := by decide +kernel
theorem dX12_readMaid_11 : decode cX12_readMaid 11 = .ok (.aload_n 0, 1) := by decide +kernel
theorem dX12_readMaid_12 : decode cX12_readMaid 12 = .ok (.getfield 101, 3) := by decide +kernel
theorem dX12_readMaid_15 : decode cX12_readMaid 15 = .ok (.iconst 1, 1) := by decide +kernel
theorem dX12_readMaid_16 : decode cX12_readMaid 16 = .ok (.iaload, 1) := by decide +kernel
theorem dX12_readMaid_17 : decode cX12_readMaid 17 = .ok (.istore_n 1, 1) := by decide +kernel
theorem dX12_readMaid_18 : decode cX12_readMaid 18 = .ok (.aload_n 0, 1) := by decide +kernel
theorem dX12_readMaid_19 : decode cX12_readMaid 19 = .ok (.bipush 9, 2) := by decide +kernel
theorem dX12_readMaid_21 : decode cX12_readMaid 21 = .ok (.iload_n 1, 1) := by decide +kernel
theorem dX12_readMaid_22 : decode cX12_readMaid 22 = .ok (.iadd, 1) := by decide +kernel
theorem dX12_readMaid_23 : decode cX12_readMaid 23 = .ok (.invokevirtual 190, 3) := by decide +kernel
theorem dX12_readMaid_26 : decode cX12_readMaid 26 = .ok (.ifCond .eq 21, 3) := by decide +kernel
theorem dX12_readMaid_47 : decode cX12_readMaid 47 = .ok (.iconst 0, 1) := by decide +kernel
theorem dX12_readMaid_48 : decode cX12_readMaid 48 = .ok (.ireturn, 1) := by decide +kernel
theorem dX12_readMaid_29 : decode cX12_readMaid 29 = .ok (.aload_n 0, 1) := by decide +kernel
theorem dX12_readMaid_30 : decode cX12_readMaid 30 = .ok (.bipush 41, 2) := by decide +kernel
theorem dX12_readMaid_32 : decode cX12_readMaid 32 = .ok (.iload_n 1, 1) := by decide +kernel
theorem dX12_readMaid_33 : decode cX12_readMaid 33 = .ok (.iadd, 1) := by decide +kernel
theorem dX12_readMaid_34 : decode cX12_readMaid 34 = .ok (.aload_n 0, 1) := by decide +kernel
theorem dX12_readMaid_35 : decode cX12_readMaid 35 = .ok (.iconst 1, 1) := by decide +kernel
theorem dX12_readMaid_36 : decode cX12_readMaid 36 = .ok (.bipush 9, 2) := by decide +kernel
theorem dX12_readMaid_38 : decode cX12_readMaid 38 = .ok (.invokevirtual 200, 3) := by decide +kernel
theorem dX12_readMaid_41 : decode cX12_readMaid 41 = .ok (.invokevirtual 196, 3) := by decide +kernel
theorem dX12_readMaid_44 : decode cX12_readMaid 44 = .ok (.ifCond .ne 5, 3) := by decide +kernel
theorem dX12_readMaid_49 : decode cX12_readMaid 49 = .ok (.aload_n 0, 1) := by decide +kernel
theorem dX12_readMaid_50 : decode cX12_readMaid 50 = .ok (.getfield 101, 3) := by decide +kernel
theorem dX12_readMaid_53 : decode cX12_readMaid 53 = .ok (.iconst 1, 1) := by decide +kernel
theorem dX12_readMaid_54 : decode cX12_readMaid 54 = .ok (.dup2, 1) := by decide +kernel
theorem dX12_readMaid_55 : decode cX12_readMaid 55 = .ok (.iaload, 1) := by decide +kernel
theorem dX12_readMaid_56 : decode cX12_readMaid 56 = .ok (.iconst 1, 1) := by decide +kernel
theorem dX12_readMaid_57 : decode cX12_readMaid 57 = .ok (.iadd, 1) := by decide +kernel
theorem dX12_readMaid_58 : decode cX12_readMaid 58 = .ok (.iastore, 1) := by decide +kernel
theorem dX12_readMaid_59 : decode cX12_readMaid 59 = .ok (.iconst 1, 1) := by decide +kernel
theorem dX12_readMaid_60 : decode cX12_readMaid 60 = .ok (.ireturn, 1) := by decide +kernel
theorem dX12_readMaid_9 : decode cX12_readMaid 9 = .ok (.iconst 0, 1) := by decide +kernel
theorem dX12_readMaid_10 : decode cX12_readMaid 10 = .ok (.ireturn, 1) := by decide +kernel
theorem dX12_readStreet_0 : decode cX12_readStreet 0 = .ok (.aload_n 0, 1) := by decide +kernel
theorem dX12_readStreet_1 : decode cX12_readStreet 1 = .ok (.invokevirtual 82, 3) := by decide +kernel
theorem dX12_readStreet_4 : decode cX12_readStreet 4 = .ok (.aload_n 0, 1) := by decide +kernel
theorem dX12_readStreet_5 : decode cX12_readStreet 5 = .ok (.invokevirtual 203, 3) := by decide +kernel
theorem G1706 : Cond.code ⟨"HookedCityModel", "isOne", "()Z"⟩ prog_14_method_31_code 1 (some .boolean) ∈ GW := gw_i 1706 (by decide +kernel) rfl
theorem G1703 : Cond.methodLink "HookedCityModel" 203 ⟨"HookedCityModel", "isOne", "()Z"⟩ ∈ GW := gw_i 1703 (by decide +kernel) rfl
theorem V_HookedCityModel_203 : VL "HookedCityModel" 203 yX12_isOne cX12_isOne 1 (some .boolean) 0 := ⟨G1706, G1703, G131, by decide +kernel, by decide +kernel, by decide +kernel⟩
theorem G1705 : Cond.instanceMethod ⟨"HookedCityModel", "isOne", "()Z"⟩ ∈ GW := gw_i 1705 (by decide +kernel) rfl
theorem G63 : Cond.selects "HookedCityModel" ⟨"HookedCityModel", "isOne", "()Z"⟩ ⟨"HookedCityModel", "isOne", "()Z"⟩ ∈ GW := gw_i 63 (by decide +kernel) rfl
theorem dX12_readStreet_8 : decode cX12_readStreet 8 = .ok (.ifCond .ne 5, 3) := by decide +kernel
theorem dX12_readStreet_13 : decode cX12_readStreet 13 = .ok (.aload_n 0, 1) := by decide +kernel
theorem dX12_readStreet_14 : decode cX12_readStreet 14 = .ok (.getfield 79, 3) := by decide +kernel
theorem dX12_readStreet_17 : decode cX12_readStreet 17 = .ok (.istore_n 1, 1) := by decide +kernel
theorem dX12_readStreet_18 : decode cX12_readStreet 18 = .ok (.aload_n 0, 1) := by decide +kernel
theorem dX12_readStreet_19 : decode cX12_readStreet 19 = .ok (.invokevirtual 82, 3) := by decide +kernel
theorem dX12_readStreet_22 : decode cX12_readStreet 22 = .ok (.aload_n 0, 1) := by decide +kernel
theorem dX12_readStreet_23 : decode cX12_readStreet 23 = .ok (.invokevirtual 203, 3) := by decide +kernel
theorem dX12_readStreet_26 : decode cX12_readStreet 26 = .ok (.ifCond .ne 5, 3) := by decide +kernel
theorem dX12_readStreet_31 : decode cX12_readStreet 31 = .ok (.aload_n 0, 1) := by decide +kernel
theorem dX12_readStreet_32 : decode cX12_readStreet 32 = .ok (.getfield 79, 3) := by decide +kernel
theorem dX12_readStreet_35 : decode cX12_readStreet 35 = .ok (.iload_n 1, 1) := by decide +kernel
theorem dX12_readStreet_36 : decode cX12_readStreet 36 = .ok (.if_icmp .eq 22, 3) := by decide +kernel
theorem dX12_readStreet_58 : decode cX12_readStreet 58 = .ok (.aload_n 0, 1) := by decide +kernel
theorem dX12_readStreet_59 : decode cX12_readStreet 59 = .ok (.iconst 3, 1) := by decide +kernel
theorem dX12_readStreet_60 : decode cX12_readStreet 60 = .ok (.invokevirtual 72, 3) := by decide +kernel
theorem dX12_readStreet_63 : decode cX12_readStreet 63 = .ok (.ireturn, 1) := by decide +kernel
theorem dX12_readStreet_39 : decode cX12_readStreet 39 = .ok (.aload_n 0, 1) := by decide +kernel
theorem dX12_readStreet_40 : decode cX12_readStreet 40 = .ok (.getfield 101, 3) := by decide +kernel
theorem dX12_readStreet_43 : decode cX12_readStreet 43 = .ok (.bipush 44, 2) := by decide +kernel
theorem dX12_readStreet_45 : decode cX12_readStreet 45 = .ok (.iload_n 1, 1) := by decide +kernel
theorem dX12_readStreet_46 : decode cX12_readStreet 46 = .ok (.iadd, 1) := by decide +kernel
theorem dX12_readStreet_47 : decode cX12_readStreet 47 = .ok (.iaload, 1) := by decide +kernel
theorem dX12_readStreet_48 : decode cX12_readStreet 48 = .ok (.aload_n 0, 1) := by decide +kernel
theorem dX12_readStreet_49 : decode cX12_readStreet 49 = .ok (.getfield 79, 3) := by decide +kernel
theorem dX12_readStreet_52 : decode cX12_readStreet 52 = .ok (.invokestatic 206, 3) := by decide +kernel
theorem G1709 : Cond.code ⟨"HookedCityModel", "has", "(II)Z"⟩ prog_14_method_8_code 2 (some .boolean) ∈ GW := gw_i 1709 (by decide +kernel) rfl
theorem G1707 : Cond.methodLink "HookedCityModel" 206 ⟨"HookedCityModel", "has", "(II)Z"⟩ ∈ GW := gw_i 1707 (by decide +kernel) rfl
theorem V_HookedCityModel_206 : VL "HookedCityModel" 206 yX12_has cX12_has 2 (some .boolean) 2 := ⟨G1709, G1707, G131, by decide +kernel, by decide +kernel, by decide +kernel⟩
theorem G1708 : Cond.static ⟨"HookedCityModel", "has", "(II)Z"⟩ ∈ GW := gw_i 1708 (by decide +kernel) rfl
theorem dX12_readStreet_55 : decode cX12_readStreet 55 = .ok (.ifCond .eq 9, 3) := by decide +kernel
theorem dX12_readStreet_64 : decode cX12_readStreet 64 = .ok (.aload_n 0, 1) := by decide +kernel
theorem dX12_readStreet_65 : decode cX12_readStreet 65 = .ok (.getfield 101, 3) := by decide +kernel
theorem dX12_readStreet_68 : decode cX12_readStreet 68 = .ok (.bipush 44, 2) := by decide +kernel
theorem dX12_readStreet_70 : decode cX12_readStreet 70 = .ok (.iload_n 1, 1) := by decide +kernel
theorem dX12_readStreet_71 : decode cX12_readStreet 71 = .ok (.iadd, 1) := by decide +kernel
theorem dX12_readStreet_72 : decode cX12_readStreet 72 = .ok (.dup2, 1) := by decide +kernel
theorem dX12_readStreet_73 : decode cX12_readStreet 73 = .ok (.iaload, 1) := by decide +kernel
theorem dX12_readStreet_74 : decode cX12_readStreet 74 = .ok (.iconst 1, 1) := by decide +kernel
theorem dX12_readStreet_75 : decode cX12_readStreet 75 = .ok (.aload_n 0, 1) := by decide +kernel
theorem dX12_readStreet_76 : decode cX12_readStreet 76 = .ok (.getfield 79, 3) := by decide +kernel
theorem dX12_readStreet_79 : decode cX12_readStreet 79 = .ok (.ishl, 1) := by decide +kernel
theorem dX12_readStreet_80 : decode cX12_readStreet 80 = .ok (.ior, 1) := by decide +kernel
theorem dX12_readStreet_81 : decode cX12_readStreet 81 = .ok (.iastore, 1) := by decide +kernel
theorem dX12_readStreet_82 : decode cX12_readStreet 82 = .ok (.aload_n 0, 1) := by decide +kernel
theorem dX12_readStreet_83 : decode cX12_readStreet 83 = .ok (.getfield 101, 3) := by decide +kernel
theorem dX12_readStreet_86 : decode cX12_readStreet 86 = .ok (.bipush 44, 2) := by decide +kernel
theorem dX12_readStreet_88 : decode cX12_readStreet 88 = .ok (.aload_n 0, 1) := by decide +kernel
theorem dX12_readStreet_89 : decode cX12_readStreet 89 = .ok (.getfield 79, 3) := by decide +kernel
theorem dX12_readStreet_92 : decode cX12_readStreet 92 = .ok (.iadd, 1) := by decide +kernel
theorem dX12_readStreet_93 : decode cX12_readStreet 93 = .ok (.dup2, 1) := by decide +kernel
theorem dX12_readStreet_94 : decode cX12_readStreet 94 = .ok (.iaload, 1) := by decide +kernel
theorem dX12_readStreet_95 : decode cX12_readStreet 95 = .ok (.iconst 1, 1) := by decide +kernel
theorem dX12_readStreet_96 : decode cX12_readStreet 96 = .ok (.iload_n 1, 1) := by decide +kernel
theorem dX12_readStreet_97 : decode cX12_readStreet 97 = .ok (.ishl, 1) := by decide +kernel
theorem dX12_readStreet_98 : decode cX12_readStreet 98 = .ok (.ior, 1) := by decide +kernel
theorem dX12_readStreet_99 : decode cX12_readStreet 99 = .ok (.iastore, 1) := by decide +kernel
theorem dX12_readStreet_100 : decode cX12_readStreet 100 = .ok (.aload_n 0, 1) := by decide +kernel
theorem dX12_readStreet_101 : decode cX12_readStreet 101 = .ok (.invokevirtual 82, 3) := by decide +kernel
theorem dX12_readStreet_104 : decode cX12_readStreet 104 = .ok (.iconst 1, 1) := by decide +kernel
theorem dX12_readStreet_105 : decode cX12_readStreet 105 = .ok (.ireturn, 1) := by decide +kernel
theorem dX12_readStreet_29 : decode cX12_readStreet 29 = .ok (.iconst 0, 1) := by decide +kernel
theorem dX12_readStreet_30 : decode cX12_readStreet 30 = .ok (.ireturn, 1) := by decide +kernel
theorem dX12_readStreet_11 : decode cX12_readStreet 11 = .ok (.iconst 0, 1) := by decide +kernel
theorem dX12_readStreet_12 : decode cX12_readStreet 12 = .ok (.ireturn, 1) := by decide +kernel
theorem dX12_readDone_0 : decode cX12_readDone 0 = .ok (.aload_n 0, 1) := by decide +kernel
theorem dX12_readDone_1 : decode cX12_readDone 1 = .ok (.invokevirtual 82, 3) := by decide +kernel
theorem dX12_readDone_4 : decode cX12_readDone 4 = .ok (.aload_n 0, 1) := by decide +kernel
theorem dX12_readDone_5 : decode cX12_readDone 5 = .ok (.invokevirtual 203, 3) := by decide +kernel
theorem dX12_readDone_8 : decode cX12_readDone 8 = .ok (.ifCond .ne 5, 3) := by decide +kernel
theorem dX12_readDone_13 : decode cX12_readDone 13 = .ok (.aload_n 0, 1) := by decide +kernel
theorem dX12_readDone_14 : decode cX12_readDone 14 = .ok (.getfield 79, 3) := by decide +kernel
theorem dX12_readDone_17 : decode cX12_readDone 17 = .ok (.istore_n 1, 1) := by decide +kernel
theorem dX12_readDone_18 : decode cX12_readDone 18 = .ok (.aload_n 0, 1) := by decide +kernel
theorem dX12_readDone_19 : decode cX12_readDone 19 = .ok (.getfield 101, 3) := by decide +kernel
theorem dX12_readDone_22 : decode cX12_readDone 22 = .ok (.bipush 32, 2) := by decide +kernel
theorem dX12_readDone_24 : decode cX12_readDone 24 = .ok (.iload_n 1, 1) := by decide +kernel
theorem dX12_readDone_25 : decode cX12_readDone 25 = .ok (.iadd, 1) := by decide +kernel
theorem dX12_readDone_26 : decode cX12_readDone 26 = .ok (.iaload, 1) := by decide +kernel
theorem dX12_readDone_27 : decode cX12_readDone 27 = .ok (.iconst (-1), 1) := by decide +kernel
theorem dX12_readDone_28 : decode cX12_readDone 28 = .ok (.if_icmp .eq 9, 3) := by decide +kernel
theorem dX12_readDone_37 : decode cX12_readDone 37 = .ok (.aload_n 0, 1) := by decide +kernel
theorem dX12_readDone_38 : decode cX12_readDone 38 = .ok (.invokevirtual 82, 3) := by decide +kernel
theorem dX12_readDone_41 : decode cX12_readDone 41 = .ok (.aload_n 0, 1) := by decide +kernel
theorem dX12_readDone_42 : decode cX12_readDone 42 = .ok (.invokevirtual 203, 3) := by decide +kernel
theorem dX12_readDone_45 : decode cX12_readDone 45 = .ok (.ifCond .ne 5, 3) := by decide +kernel
theorem dX12_readDone_50 : decode cX12_readDone 50 = .ok (.aload_n 0, 1) := by decide +kernel
theorem dX12_readDone_51 : decode cX12_readDone 51 = .ok (.getfield 79, 3) := by decide +kernel
theorem dX12_readDone_54 : decode cX12_readDone 54 = .ok (.iload_n 1, 1) := by decide +kernel
theorem dX12_readDone_55 : decode cX12_readDone 55 = .ok (.if_icmp .eq 26, 3) := by decide +kernel
theorem dX12_readDone_81 : decode cX12_readDone 81 = .ok (.aload_n 0, 1) := by decide +kernel
theorem dX12_readDone_82 : decode cX12_readDone 82 = .ok (.iconst 3, 1) := by decide +kernel
theorem dX12_readDone_83 : decode cX12_readDone 83 = .ok (.invokevirtual 72, 3) := by decide +kernel
theorem dX12_readDone_86 : decode cX12_readDone 86 = .ok (.ireturn, 1) := by decide +kernel
theorem dX12_readDone_58 : decode cX12_readDone 58 = .ok (.aload_n 0, 1) := by decide +kernel
theorem dX12_readDone_59 : decode cX12_readDone 59 = .ok (.getfield 101, 3) := by decide +kernel
theorem dX12_readDone_62 : decode cX12_readDone 62 = .ok (.iconst 5, 1) := by decide +kernel
theorem dX12_readDone_63 : decode cX12_readDone 63 = .ok (.aload_n 0, 1) := by decide +kernel
theorem dX12_readDone_64 : decode cX12_readDone 64 = .ok (.getfield 79, 3) := by decide +kernel
theorem dX12_readDone_67 : decode cX12_readDone 67 = .ok (.iadd, 1) := by decide +kernel
theorem dX12_readDone_68 : decode cX12_readDone 68 = .ok (.iaload, 1) := by decide +kernel
theorem dX12_readDone_69 : decode cX12_readDone 69 = .ok (.aload_n 0, 1) := by decide +kernel
theorem dX12_readDone_70 : decode cX12_readDone 70 = .ok (.getfield 101, 3) := by decide +kernel
theorem dX12_readDone_73 : decode cX12_readDone 73 = .ok (.bipush 14, 2) := by decide +kernel
theorem dX12_readDone_75 : decode cX12_readDone 75 = .ok (.iload_n 1, 1) := by decide +kernel
theorem dX12_readDone_76 : decode cX12_readDone 76 = .ok (.iadd, 1) := by decide +kernel
theorem dX12_readDone_77 : decode cX12_readDone 77 = .ok (.iaload, 1) := by decide +kernel
theorem dX12_readDone_78 : decode cX12_readDone 78 = .ok (.if_icmp .eq 9, 3) := by decide +kernel
theorem dX12_readDone_87 : decode cX12_readDone 87 = .ok (.iconst 0, 1) := by decide +kernel
theorem dX12_readDone_88 : decode cX12_readDone 88 = .ok (.istore_n 2, 1) := by decide +kernel
theorem dX12_readDone_89 : decode cX12_readDone 89 = .ok (.iload_n 2, 1) := by decide +kernel
theorem dX12_readDone_90 : decode cX12_readDone 90 = .ok (.aload_n 0, 1) := by decide +kernel
theorem dX12_readDone_91 : decode cX12_readDone 91 = .ok (.getfield 101, 3) := by decide +kernel
theorem dX12_readDone_94 : decode cX12_readDone 94 = .ok (.iconst 0, 1) := by decide +kernel
theorem dX12_readDone_95 : decode cX12_readDone 95 = .ok (.iaload, 1) := by decide +kernel
theorem dX12_readDone_96 : decode cX12_readDone 96 = .ok (.if_icmp .ge 31, 3) := by decide +kernel
theorem dX12_readDone_127 : decode cX12_readDone 127 = .ok (.aload_n 0, 1) := by decide +kernel
theorem dX12_readDone_128 : decode cX12_readDone 128 = .ok (.getfield 101, 3) := by decide +kernel
theorem dX12_readDone_131 : decode cX12_readDone 131 = .ok (.bipush 32, 2) := by decide +kernel
theorem dX12_readDone_133 : decode cX12_readDone 133 = .ok (.iload_n 1, 1) := by decide +kernel
theorem dX12_readDone_134 : decode cX12_readDone 134 = .ok (.iadd, 1) := by decide +kernel
theorem dX12_readDone_135 : decode cX12_readDone 135 = .ok (.aload_n 0, 1) := by decide +kernel
theorem dX12_readDone_136 : decode cX12_readDone 136 = .ok (.getfield 79, 3) := by decide +kernel
theorem dX12_readDone_139 : decode cX12_readDone 139 = .ok (.iastore, 1) := by decide +kernel
theorem dX12_readDone_140 : decode cX12_readDone 140 = .ok (.aload_n 0, 1) := by decide +kernel
theorem dX12_readDone_141 : decode cX12_readDone 141 = .ok (.invokevirtual 82, 3) := by decide +kernel
theorem dX12_readDone_144 : decode cX12_readDone 144 = .ok (.iconst 1, 1) := by decide +kernel
theorem dX12_readDone_145 : decode cX12_readDone 145 = .ok (.ireturn, 1) := by decide +kernel
theorem dX12_readDone_99 : decode cX12_readDone 99 = .ok (.aload_n 0, 1) := by decide +kernel
theorem dX12_readDone_100 : decode cX12_readDone 100 = .ok (.getfield 101, 3) := by decide +kernel
theorem dX12_readDone_103 : decode cX12_readDone 103 = .ok (.bipush 32, 2) := by decide +kernel
theorem dX12_readDone_105 : decode cX12_readDone 105 = .ok (.iload_n 2, 1) := by decide +kernel
theorem dX12_readDone_106 : decode cX12_readDone 106 = .ok (.iadd, 1) := by decide +kernel
theorem dX12_readDone_107 : decode cX12_readDone 107 = .ok (.iaload, 1) := by decide +kernel
theorem dX12_readDone_108 : decode cX12_readDone 108 = .ok (.aload_n 0, 1) := by decide +kernel
theorem dX12_readDone_109 : decode cX12_readDone 109 = .ok (.getfield 79, 3) := by decide +kernel
theorem dX12_readDone_112 : decode cX12_readDone 112 = .ok (.if_icmp .ne 9, 3) := by decide +kernel
theorem dX12_readDone_121 : decode cX12_readDone 121 = .ok (.iinc 2 1, 3) := by decide +kernel
theorem dX12_readDone_124 : decode cX12_readDone 124 = .ok (.goto (-35), 3) := by decide +kernel
theorem dX12_readDone_115 : decode cX12_readDone 115 = .ok (.aload_n 0, 1) := by decide +kernel
theorem dX12_readDone_116 : decode cX12_readDone 116 = .ok (.iconst 3, 1) := by decide +kernel
theorem dX12_readDone_117 : decode cX12_readDone 117 = .ok (.invokevirtual 72, 3) := by decide +kernel
theorem dX12_readDone_120 : decode cX12_readDone 120 = .ok (.ireturn, 1) := by decide +kernel
theorem dX12_readDone_48 : decode cX12_readDone 48 = .ok (.iconst 0, 1) := by decide +kernel
theorem dX12_readDone_49 : decode cX12_readDone 49 = .ok (.ireturn, 1) := by decide +kernel
theorem dX12_readDone_31 : decode cX12_readDone 31 = .ok (.aload_n 0, 1) := by decide +kernel
theorem dX12_readDone_32 : decode cX12_readDone 32 = .ok (.iconst 3, 1) := by decide +kernel
theorem dX12_readDone_33 : decode cX12_readDone 33 = .ok (.invokevirtual 72, 3) := by decide +kernel
theorem dX12_readDone_36 : decode cX12_readDone 36 = .ok (.ireturn, 1) := by decide +kernel
theorem dX12_readDone_11 : decode cX12_readDone 11 = .ok (.iconst 0, 1) := by decide +kernel
theorem dX12_readDone_12 : decode cX12_readDone 12 = .ok (.ireturn, 1) := by decide +kernel
theorem dX12_readOnce_0 : decode cX12_readOnce 0 = .ok (.aload_n 0, 1) := by decide +kernel
theorem dX12_readOnce_1 : decode cX12_readOnce 1 = .ok (.getfield 127, 3) := by decide +kernel
theorem dX12_readOnce_4 : decode cX12_readOnce 4 = .ok (.iload_n 1, 1) := by decide +kernel
theorem dX12_readOnce_5 : decode cX12_readOnce 5 = .ok (.baload, 1) := by decide +kernel
theorem dX12_readOnce_6 : decode cX12_readOnce 6 = .ok (.ifCond .eq 9, 3) := by decide +kernel
theorem dX12_readOnce_15 : decode cX12_readOnce 15 = .ok (.aload_n 0, 1) := by decide +kernel
theorem dX12_readOnce_16 : decode cX12_readOnce 16 = .ok (.getfield 127, 3) := by decide +kernel
theorem dX12_readOnce_19 : decode cX12_readOnce 19 = .ok (.iload_n 1, 1) := by decide +kernel
theorem dX12_readOnce_20 : decode cX12_readOnce 20 = .ok (.iconst 1, 1) := by decide +kernel
theorem dX12_readOnce_21 : decode cX12_readOnce 21 = .ok (.bastore, 1) := by decide +kernel
theorem dX12_readOnce_22 : decode cX12_readOnce 22 = .ok (.aload_n 0, 1) := by decide +kernel
theorem dX12_readOnce_23 : decode cX12_readOnce 23 = .ok (.invokevirtual 82, 3) := by decide +kernel
theorem dX12_readOnce_26 : decode cX12_readOnce 26 = .ok (.aload_n 0, 1) := by decide +kernel
theorem dX12_readOnce_27 : decode cX12_readOnce 27 = .ok (.iconst 2, 1) := by decide +kernel
theorem dX12_readOnce_28 : decode cX12_readOnce 28 = .ok (.iload_n 1, 1) := by decide +kernel
theorem dX12_readOnce_29 : decode cX12_readOnce 29 = .ok (.iadd, 1) := by decide +kernel
theorem dX12_readOnce_30 : decode cX12_readOnce 30 = .ok (.aload_n 0, 1) := by decide +kernel
theorem dX12_readOnce_31 : decode cX12_readOnce 31 = .ok (.iload_n 2, 1) := by decide +kernel
theorem dX12_readOnce_32 : decode cX12_readOnce 32 = .ok (.iload_n 3, 1) := by decide +kernel
theorem dX12_readOnce_33 : decode cX12_readOnce 33 = .ok (.invokevirtual 200, 3) := by decide +kernel
theorem dX12_readOnce_36 : decode cX12_readOnce 36 = .ok (.invokevirtual 196, 3) := by decide +kernel
theorem dX12_readOnce_39 : decode cX12_readOnce 39 = .ok (.ireturn, 1) := by decide +kernel
theorem dX12_readOnce_9 : decode cX12_readOnce 9 = .ok (.aload_n 0, 1) := by decide +kernel
theorem dX12_readOnce_10 : decode cX12_readOnce 10 = .ok (.iconst 3, 1) := by decide +kernel
theorem dX12_readOnce_11 : decode cX12_readOnce 11 = .ok (.invokevirtual 72, 3) := by decide +kernel
theorem dX12_readOnce_14 : decode cX12_readOnce 14 = .ok (.ireturn, 1) := by decide +kernel
theorem dX12_readLine_0 : decode cX12_readLine 0 = .ok (.aload_n 0, 1) := by decide +kernel
theorem dX12_readLine_1 : decode cX12_readLine 1 = .ok (.iconst 0, 1) := by decide +kernel
theorem dX12_readLine_2 : decode cX12_readLine 2 = .ok (.invokevirtual 183, 3) := by decide +kernel
theorem dX12_readLine_5 : decode cX12_readLine 5 = .ok (.ifCond .eq 8, 3) := by decide +kernel
theorem dX12_readLine_13 : decode cX12_readLine 13 = .ok (.aload_n 0, 1) := by decide +kernel
theorem dX12_readLine_14 : decode cX12_readLine 14 = .ok (.iconst 1, 1) := by decide +kernel
theorem dX12_readLine_15 : decode cX12_readLine 15 = .ok (.invokevirtual 183, 3) := by decide +kernel
theorem dX12_readLine_18 : decode cX12_readLine 18 = .ok (.ifCond .eq 8, 3) := by decide +kernel
theorem dX12_readLine_26 : decode cX12_readLine 26 = .ok (.aload_n 0, 1) := by decide +kernel
theorem dX12_readLine_27 : decode cX12_readLine 27 = .ok (.iconst 2, 1) := by decide +kernel
theorem dX12_readLine_28 : decode cX12_readLine 28 = .ok (.invokevirtual 183, 3) := by decide +kernel
theorem dX12_readLine_31 : decode cX12_readLine 31 = .ok (.ifCond .eq 8, 3) := by decide +kernel
theorem dX12_readLine_39 : decode cX12_readLine 39 = .ok (.aload_n 0, 1) := by decide +kernel
theorem dX12_readLine_40 : decode cX12_readLine 40 = .ok (.iconst 3, 1) := by decide +kernel
theorem dX12_readLine_41 : decode cX12_readLine 41 = .ok (.invokevirtual 183, 3) := by decide +kernel
theorem dX12_readLine_44 : decode cX12_readLine 44 = .ok (.ifCond .eq 8, 3) := by decide +kernel
theorem dX12_readLine_52 : decode cX12_readLine 52 = .ok (.aload_n 0, 1) := by decide +kernel
theorem dX12_readLine_53 : decode cX12_readLine 53 = .ok (.iconst 4, 1) := by decide +kernel
theorem dX12_readLine_54 : decode cX12_readLine 54 = .ok (.invokevirtual 183, 3) := by decide +kernel
theorem dX12_readLine_57 : decode cX12_readLine 57 = .ok (.ifCond .eq 12, 3) := by decide +kernel
theorem dX12_readLine_69 : decode cX12_readLine 69 = .ok (.aload_n 0, 1) := by decide +kernel
theorem dX12_readLine_70 : decode cX12_readLine 70 = .ok (.iconst 5, 1) := by decide +kernel
theorem dX12_readLine_71 : decode cX12_readLine 71 = .ok (.invokevirtual 183, 3) := by decide +kernel
theorem dX12_readLine_74 : decode cX12_readLine 74 = .ok (.ifCond .eq 12, 3) := by decide +kernel
theorem dX12_readLine_86 : decode cX12_readLine 86 = .ok (.aload_n 0, 1) := by decide +kernel
theorem dX12_readLine_87 : decode cX12_readLine 87 = .ok (.bipush 6, 2) := by decide +kernel
theorem dX12_readLine_89 : decode cX12_readLine 89 = .ok (.invokevirtual 183, 3) := by decide +kernel
theorem dX12_readLine_92 : decode cX12_readLine 92 = .ok (.ifCond .eq 14, 3) := by decide +kernel
theorem dX12_readLine_106 : decode cX12_readLine 106 = .ok (.aload_n 0, 1) := by decide +kernel
theorem dX12_readLine_107 : decode cX12_readLine 107 = .ok (.iconst 1, 1) := by decide +kernel
theorem dX12_readLine_108 : decode cX12_readLine 108 = .ok (.invokevirtual 72, 3) := by decide +kernel
theorem dX12_readLine_111 : decode cX12_readLine 111 = .ok (.ireturn, 1) := by decide +kernel
theorem dX12_readLine_95 : decode cX12_readLine 95 = .ok (.aload_n 0, 1) := by decide +kernel
theorem dX12_readLine_96 : decode cX12_readLine 96 = .ok (.iconst 2, 1) := by decide +kernel
theorem dX12_readLine_97 : decode cX12_readLine 97 = .ok (.iconst 0, 1) := by decide +kernel
theorem dX12_readLine_98 : decode cX12_readLine 98 = .ok (.bipush 60, 2) := by decide +kernel
theorem dX12_readLine_100 : decode cX12_readLine 100 = .ok (.invokevirtual 221, 3) := by decide +kernel
theorem G1717 : Cond.code ⟨"HookedCityModel", "readOnce", "(III)Z"⟩ prog_14_method_39_code 4 (some .boolean) ∈ GW := gw_i 1717 (by decide +kernel) rfl
theorem G1714 : Cond.methodLink "HookedCityModel" 221 ⟨"HookedCityModel", "readOnce", "(III)Z"⟩ ∈ GW := gw_i 1714 (by decide +kernel) rfl
theorem V_HookedCityModel_221 : VL "HookedCityModel" 221 yX12_readOnce cX12_readOnce 4 (some .boolean) 3 := ⟨G1717, G1714, G131, by decide +kernel, by decide +kernel, by decide +kernel⟩
theorem G1716 : Cond.instanceMethod ⟨"HookedCityModel", "readOnce", "(III)Z"⟩ ∈ GW := gw_i 1716 (by decide +kernel) rfl
theorem G65 : Cond.selects "HookedCityModel" ⟨"HookedCityModel", "readOnce", "(III)Z"⟩ ⟨"HookedCityModel", "readOnce", "(III)Z"⟩ ∈ GW := gw_i 65 (by decide +kernel) rfl
theorem dX12_readLine_103 : decode cX12_readLine 103 = .ok (.goto 8, 3) := by decide +kernel
theorem dX12_readLine_77 : decode cX12_readLine 77 = .ok (.aload_n 0, 1) := by decide +kernel
theorem dX12_readLine_78 : decode cX12_readLine 78 = .ok (.iconst 1, 1) := by decide +kernel
theorem dX12_readLine_79 : decode cX12_readLine 79 = .ok (.iconst 2, 1) := by decide +kernel
theorem dX12_readLine_80 : decode cX12_readLine 80 = .ok (.bipush 60, 2) := by decide +kernel
theorem dX12_readLine_82 : decode cX12_readLine 82 = .ok (.invokevirtual 221, 3) := by decide +kernel
theorem dX12_readLine_85 : decode cX12_readLine 85 = .ok (.ireturn, 1) := by decide +kernel
theorem dX12_readLine_60 : decode cX12_readLine 60 = .ok (.aload_n 0, 1) := by decide +kernel
theorem dX12_readLine_61 : decode cX12_readLine 61 = .ok (.iconst 0, 1) := by decide +kernel
theorem dX12_readLine_62 : decode cX12_readLine 62 = .ok (.iconst 0, 1) := by decide +kernel
theorem dX12_readLine_63 : decode cX12_readLine 63 = .ok (.bipush 20, 2) := by decide +kernel
theorem dX12_readLine_65 : decode cX12_readLine 65 = .ok (.invokevirtual 221, 3) := by decide +kernel
theorem dX12_readLine_68 : decode cX12_readLine 68 = .ok (.ireturn, 1) := by decide +kernel
theorem dX12_readLine_47 : decode cX12_readLine 47 = .ok (.aload_n 0, 1) := by decide +kernel
theorem dX12_readLine_48 : decode cX12_readLine 48 = .ok (.invokevirtual 218, 3) := by decide +kernel
theorem G1713 : Cond.code ⟨"HookedCityModel", "readDone", "()Z"⟩ prog_14_method_38_code 3 (some .boolean) ∈ GW := gw_i 1713 (by decide +kernel) rfl
theorem G1710 : Cond.methodLink "HookedCityModel" 218 ⟨"HookedCityModel", "readDone", "()Z"⟩ ∈ GW := gw_i 1710 (by decide +kernel) rfl
theorem V_HookedCityModel_218 : VL "HookedCityModel" 218 yX12_readDone cX12_readDone 3 (some .boolean) 0 := ⟨G1713, G1710, G131, by decide +kernel, by decide +kernel, by decide +kernel⟩
theorem G1712 : Cond.instanceMethod ⟨"HookedCityModel", "readDone", "()Z"⟩ ∈ GW := gw_i 1712 (by decide +kernel) rfl
theorem G64 : Cond.selects "HookedCityModel" ⟨"HookedCityModel", "readDone", "()Z"⟩ ⟨"HookedCityModel", "readDone", "()Z"⟩ ∈ GW := gw_i 64 (by decide +kernel) rfl
theorem dX12_readLine_51 : decode cX12_readLine 51 = .ok (.ireturn, 1) := by decide +kernel
theorem dX12_readLine_34 : decode cX12_readLine 34 = .ok (.aload_n 0, 1) := by decide +kernel
theorem dX12_readLine_35 : decode cX12_readLine 35 = .ok (.invokevirtual 215, 3) := by decide +kernel
theorem G1702 : Cond.code ⟨"HookedCityModel", "readStreet", "()Z"⟩ prog_14_method_37_code 2 (some .boolean) ∈ GW := gw_i 1702 (by decide +kernel) rfl
theorem G1699 : Cond.methodLink "HookedCityModel" 215 ⟨"HookedCityModel", "readStreet", "()Z"⟩ ∈ GW := gw_i 1699 (by decide +kernel) rfl
theorem V_HookedCityModel_215 : VL "HookedCityModel" 215 yX12_readStreet cX12_readStreet 2 (some .boolean) 0 := ⟨G1702, G1699, G131, by decide +kernel, by decide +kernel, by decide +kernel⟩
theorem G1701 : Cond.instanceMethod ⟨"HookedCityModel", "readStreet", "()Z"⟩ ∈ GW := gw_i 1701 (by decide +kernel) rfl
theorem G62 : Cond.selects "HookedCityModel" ⟨"HookedCityModel", "readStreet", "()Z"⟩ ⟨"HookedCityModel", "readStreet", "()Z"⟩ ∈ GW := gw_i 62 (by decide +kernel) rfl
theorem dX12_readLine_38 : decode cX12_readLine 38 = .ok (.ireturn, 1) := by decide +kernel
theorem dX12_readLine_21 : decode cX12_readLine 21 = .ok (.aload_n 0, 1) := by decide +kernel
theorem dX12_readLine_22 : decode cX12_readLine 22 = .ok (.invokevirtual 212, 3) := by decide +kernel
theorem G1698 : Cond.code ⟨"HookedCityModel", "readMaid", "()Z"⟩ prog_14_method_36_code 2 (some .boolean) ∈ GW := gw_i 1698 (by decide +kernel) rfl
theorem G1695 : Cond.methodLink "HookedCityModel" 212 ⟨"HookedCityModel", "readMaid", "()Z"⟩ ∈ GW := gw_i 1695 (by decide +kernel) rfl
theorem V_HookedCityModel_212 : VL "HookedCityModel" 212 yX12_readMaid cX12_readMaid 2 (some .boolean) 0 := ⟨G1698, G1695, G131, by decide +kernel, by decide +kernel, by decide +kernel⟩
theorem G1697 : Cond.instanceMethod ⟨"HookedCityModel", "readMaid", "()Z"⟩ ∈ GW := gw_i 1697 (by decide +kernel) rfl
theorem G61 : Cond.selects "HookedCityModel" ⟨"HookedCityModel", "readMaid", "()Z"⟩ ⟨"HookedCityModel", "readMaid", "()Z"⟩ ∈ GW := gw_i 61 (by decide +kernel) rfl
theorem dX12_readLine_25 : decode cX12_readLine 25 = .ok (.ireturn, 1) := by decide +kernel
theorem dX12_readLine_8 : decode cX12_readLine 8 = .ok (.aload_n 0, 1) := by decide +kernel
theorem dX12_readLine_9 : decode cX12_readLine 9 = .ok (.invokevirtual 209, 3) := by decide +kernel
theorem G1660 : Cond.code ⟨"HookedCityModel", "readPerson", "()Z"⟩ prog_14_method_35_code 2 (some .boolean) ∈ GW := gw_i 1660 (by decide +kernel) rfl
theorem G1657 : Cond.methodLink "HookedCityModel" 209 ⟨"HookedCityModel", "readPerson", "()Z"⟩ ∈ GW := gw_i 1657 (by decide +kernel) rfl
theorem V_HookedCityModel_209 : VL "HookedCityModel" 209 yX12_readPerson cX12_readPerson 2 (some .boolean) 0 := ⟨G1660, G1657, G131, by decide +kernel, by decide +kernel, by decide +kernel⟩
theorem G1659 : Cond.instanceMethod ⟨"HookedCityModel", "readPerson", "()Z"⟩ ∈ GW := gw_i 1659 (by decide +kernel) rfl
theorem G53 : Cond.selects "HookedCityModel" ⟨"HookedCityModel", "readPerson", "()Z"⟩ ⟨"HookedCityModel", "readPerson", "()Z"⟩ ∈ GW := gw_i 53 (by decide +kernel) rfl
theorem dX12_readLine_12 : decode cX12_readLine 12 = .ok (.ireturn, 1) := by decide +kernel
theorem WD.eq {D : va_G} {A : Nat → Prop} {H0 : Heap} {ws ws' : va_W} {H : Heap} {locs : List Loc} (h : ws = ws') (w : WD D A H0 ws H locs) : WD D A H0 ws' H locs := h ▸ w
def fiN (h : Nat → Int64) (b : Int) (w : Int64) : Nat → Int → Int
  | 0, _ => -1
  | n + 1, k => if h (Int32.toNatClampNeg (iI (b + k))) = w then k else fiN h b w n (k + 1)
def FI (h : Nat → Int64) (b m : Int) (w : Int64) : Int := fiN h b w m.toNat 0
theorem fi_0 {h : Nat → Int64} {b m : Int} {w : Int64} : FI h b m w = fiN h b w (m - 0).toNat 0 := by rw [Int.sub_zero]; rfl
theorem fi_hit {h : Nat → Int64} {b m k : Int} {w : Int64} (hl : FI h b m w = fiN h b w (m - k).toNat k) (hk : k < m) (he : lg_cmp (h (Int32.toNatClampNeg (iI (b + k)))) w = 0) : k = FI h b m w := by
  rw [hl, show (m - k).toNat = (m - (k + 1)).toNat + 1 by omega, fiN, if_pos ((lg_cmp_eq _ _).mp he)]
theorem fi_no {h : Nat → Int64} {b m k : Int} {w : Int64} (hl : FI h b m w = fiN h b w (m - k).toNat k) (hk : k < m) (he : ¬ lg_cmp (h (Int32.toNatClampNeg (iI (b + k)))) w = 0) : FI h b m w = fiN h b w (m - (k + 1)).toNat (k + 1) := by
  rw [hl, show (m - k).toNat = (m - (k + 1)).toNat + 1 by omega, fiN, if_neg (fun e => he ((lg_cmp_eq _ _).mpr e))]
theorem fi_end {h : Nat → Int64} {b m k : Int} {w : Int64} (hl : FI h b m w = fiN h b w (m - k).toNat k) (hk : m ≤ k) : (-1) = FI h b m w := by
  rw [hl, show (m - k).toNat = 0 by omega, fiN]
set_option maxRecDepth 100000 in
set_option maxHeartbeats 4000000 in
theorem c23_X12_startRead (l : Launch) (D : va_G) (T : Nat → ClassId) (sz : Nat) (a0 : Nat) (r0 : Int32) (a1 : Nat) (x0 : Int) (x1 : Int) (r1 : Int32) (x2 : Int) (r2 : Int32) (x3 : Int) (x4 : Int) (r3 : Int32) (r4 : Int32) (r5 : Int32) (y0 : Int64) (x5 : Int) (a2 : Nat) (a3 : Nat) (a4 : Nat) (a5 : Nat) (a6 : Nat) (a7 : Nat) (a8 : Nat) (a9 : Nat) (a10 : Nat) (a11 : Nat) (x6 : Int) (a12 : Nat) (a13 : Nat) (a14 : Nat) (a15 : Nat) (x7 : Int) (r6 : Int32) (r7 : Int32) (a16 : Nat) (r8 : Int32) (r9 : Int32) (a17 : Nat) (a18 : Nat) (x8 : Int) (a19 : Nat) (x9 : Int) (r10 : Int32) (a20 : Nat) (a21 : Nat) (x10 : Int) (r11 : Int32) (a22 : Nat) (x11 : Int) (x12 : Int) (x13 : Int) (x14 : Int) (f0 : Int → Int) (f1 : Int → Int) (x0_a : 0 ≤ x0) (x0_b : x0 ≤ 940) (x1_a : 0 ≤ x1) (x1_b : x1 ≤ 940) (x2_a : 0 ≤ x2) (x2_b : x2 ≤ 940) (x3_a : 0 ≤ x3) (x3_b : x3 ≤ 4) (x4_a : (-2147483648) ≤ x4) (x4_b : x4 ≤ 2147483647) (x5_a : (-2147483648) ≤ x5) (x5_b : x5 ≤ 2147483647) (x6_a : 0 ≤ x6) (x6_b : x6 ≤ 8) (x7_a : 0 ≤ x7) (x7_b : x7 ≤ 9) (x8_a : 0 ≤ x8) (x8_b : x8 ≤ 9) (x9_a : 0 ≤ x9) (x9_b : x9 ≤ 64) (x10_a : 0 ≤ x10) (x10_b : x10 ≤ 40) (x11_a : 0 ≤ x11) (x11_b : x11 ≤ 40) (x12_a : 0 ≤ x12) (x12_b : x12 ≤ 20) (x13_a : 0 ≤ x13) (x13_b : x13 ≤ 8) (x14_a : 0 ≤ x14) (x14_b : x14 ≤ 39) (f0_h : rdI f0) (f1_h : rng 0 1 f1) : Met l yX12_startRead (Cond.code yX12_startRead cX12_startRead 2 none :: GW) (Rm 0 0 0) (cPre [.ref a0] D T [(a0, .inr (11, [.int r0, .ref a1, .int (iI x0), .int (iI x1), .int r1, .int (iI x2), .int r2, .int (iI x3), .int (iI x4), .int r3, .int r4, .int r5, .long y0, .int (iI x5), .ref a2, .ref a3, .ref a4, .ref a5, .ref a6, .ref a7, .ref a8, .ref a9, .ref a10, .ref a11, .int (iI x6), .ref a12, .ref a13, .ref a14, .ref a15, .int (iI x7), .int r6, .int r7, .ref a16, .int r8, .int r9, .ref a17, .ref a18, .int (iI x8), .ref a19, .int (iI x9), .int r10, .ref a20, .ref a21, .int (iI x10), .int r11, .ref a22, .int (iI x11), .int (iI x12), .int (iI x13), .int (iI x14)])), (a3, .inl (T 0, 53, .inl (cI f0))), (a11, .inl (T 2, 3, .inl (cI f1)))] sz) (qV D [(a0, .inr (11, [.int r0, .ref a1, .int (iI x0), .int (iI x1), .int r1, .int (iI x2), .int r2, .int (iI x3), .int (iI x4), .int r3, .int r4, .int r5, .long y0, .int (iI x5), .ref a2, .ref a3, .ref a4, .ref a5, .ref a6, .ref a7, .ref a8, .ref a9, .ref a10, .ref a11, .int (iI x6), .ref a12, .ref a13, .ref a14, .ref a15, .int (iI x7), .int r6, .int r7, .ref a16, .int r8, .int r9, .ref a17, .ref a18, .int (iI x8), .ref a19, .int (iI x9), .int r10, .ref a20, .ref a21, .int (iI x10), .int r11, .ref a22, .int (iI x11), .int (iI x12), .int (iI x13), .int (iI x14)])), (a3, .inl (T 0, 53, .inl (cI f0))), (a11, .inl (T 2, 3, .inl (cI f1)))] sz (fun (u : (Int → Int) × (Int → Int)) => rdI u.1 ∧ rng 0 1 u.2) (fun u => [(a0, .inr (11, [.int r0, .ref a1, .int (iI x0), .int (iI x1), .int r1, .int (iI x2), .int r2, .int (iI x3), .int (iI x4), .int r3, .int r4, .int r5, .long y0, .int (iI x5), .ref a2, .ref a3, .ref a4, .ref a5, .ref a6, .ref a7, .ref a8, .ref a9, .ref a10, .ref a11, .int (iI x6), .ref a12, .ref a13, .ref a14, .ref a15, .int (iI x7), .int r6, .int r7, .ref a16, .int r8, .int r9, .ref a17, .ref a18, .int (iI x8), .ref a19, .int (iI x9), .int r10, .ref a20, .ref a21, .int (iI x10), .int r11, .ref a22, .int (iI x11), .int (iI x12), .int (iI x13), .int (iI x14)])), (a3, .inl (T 0, 53, .inl (cI u.1))), (a11, .inl (T 2, 3, .inl (cI u.2)))])) 0 0 (va_A [(a0, .inr (11, [.int r0, .ref a1, .int (iI x0), .int (iI x1), .int r1, .int (iI x2), .int r2, .int (iI x3), .int (iI x4), .int r3, .int r4, .int r5, .long y0, .int (iI x5), .ref a2, .ref a3, .ref a4, .ref a5, .ref a6, .ref a7, .ref a8, .ref a9, .ref a10, .ref a11, .int (iI x6), .ref a12, .ref a13, .ref a14, .ref a15, .int (iI x7), .int r6, .int r7, .ref a16, .int r8, .int r9, .ref a17, .ref a18, .int (iI x8), .ref a19, .int (iI x9), .int r10, .ref a20, .ref a21, .int (iI x10), .int r11, .ref a22, .int (iI x11), .int (iI x12), .int (iI x13), .int (iI x14)])), (a3, .inl (T 0, 53, .inl (cI f0))), (a11, .inl (T 2, 3, .inl (cI f1)))] sz) := by
  refine e_V (by decide) (Nat.le_of_ble_eq_true rfl) ?_
  intro p e s m args below meth c A Q ls M hin w ret hl
  have hx := M.1.1
  have hb := M.1.2.1
  have hl : lv_has ls 2 [(0, .ref a0)] := hl
  refine lv_iconst (v := iI 0) hx hb dX12_startRead_0 (by decide +kernel) ?_
  refine lv_istore_n (lv' := [(1, .int (iI 0)), (0, .ref a0)]) hx hb dX12_startRead_1 rfl hl (by decide) rfl (fun ls hl => ?_)
  have w := WD.eq (ws' := [(a0, .inr (11, [.int r0, .ref a1, .int (iI x0), .int (iI x1), .int r1, .int (iI x2), .int r2, .int (iI x3), .int (iI x4), .int r3, .int r4, .int r5, .long y0, .int (iI x5), .ref a2, .ref a3, .ref a4, .ref a5, .ref a6, .ref a7, .ref a8, .ref a9, .ref a10, .ref a11, .int (iI x6), .ref a12, .ref a13, .ref a14, .ref a15, .int (iI x7), .int r6, .int r7, .ref a16, .int r8, .int r9, .ref a17, .ref a18, .int (iI x8), .ref a19, .int (iI x9), .int r10, .ref a20, .ref a21, .int (iI x10), .int r11, .ref a22, .int (iI x11), .int (iI x12), .int (iI x13), .int (iI x14)])), (a3, .inl (T 0, 53, .inl (cI (rgz 0 0 0 f0)))), (a11, .inl (T 2, 3, .inl (cI f1)))]) (by rw [rgz_0 (lo := 0) (hi := 0) (x := 0) (c := f0) (by decide)]) w
  have loop1 : ∀ (k1 : Nat) (z1 : Int) (H : Heap) (locs : List Loc) (ls : Array Slot), 0 ≤ z1 → z1 ≤ 53 → ((53 - z1) : Int).toNat < k1 → WD D A s.heap [(a0, .inr (11, [.int r0, .ref a1, .int (iI x0), .int (iI x1), .int r1, .int (iI x2), .int r2, .int (iI x3), .int (iI x4), .int r3, .int r4, .int r5, .long y0, .int (iI x5), .ref a2, .ref a3, .ref a4, .ref a5, .ref a6, .ref a7, .ref a8, .ref a9, .ref a10, .ref a11, .int (iI x6), .ref a12, .ref a13, .ref a14, .ref a15, .int (iI x7), .int r6, .int r7, .ref a16, .int r8, .int r9, .ref a17, .ref a18, .int (iI x8), .ref a19, .int (iI x9), .int r10, .ref a20, .ref a21, .int (iI x10), .int r11, .ref a22, .int (iI x11), .int (iI x12), .int (iI x13), .int (iI x14)])), (a3, .inl (T 0, 53, .inl (cI (rgz 0 z1 0 f0)))), (a11, .inl (T 2, 3, .inl (cI f1)))] H locs → lv_has ls 2 [(1, .int (iI z1)), (0, .ref a0)] → W p l e (Rm 0 0 0) s m args below meth c H locs 0 0 Q (F0 m 2 ls []) := by
    intro k1
    induction k1 with
    | zero => intro z1 H locs ls z1_a z1_b hm; exact absurd hm (Nat.not_lt_zero _)
    | succ k1 ih1 =>
      intro z1 H locs ls z1_a z1_b hm1 w hl
      refine lv_iload_n hx hb dX12_startRead_2 rfl (lv_at hl 0 rfl) ?_
      refine lv_bipush (v := iI 53) hx hb dX12_startRead_3 (by decide +kernel) ?_
      refine lv_icmp_ge (tgt := 21) hx hb dX12_startRead_5 (by decide) (fun c_2 => ?_) (fun c_2 => ?_)
      · replace c_2 := (iI_le (by decide) (by decide) (Int.le_trans (by decide) z1_a) (Int.le_trans z1_b (by decide))).mp c_2
        obtain rfl : z1 = 53 := by omega
        refine lv_iconst (v := iI 0) hx hb dX12_startRead_21 (by decide +kernel) ?_
        refine lv_istore_n (lv' := [(1, .int (iI 0)), (0, .ref a0)]) hx hb dX12_startRead_22 rfl hl (by decide) rfl (fun ls hl => ?_)
        have loop2 : ∀ (k2 : Nat) (ff3 : Int → Int) (z4 : Int) (H : Heap) (locs : List Loc) (ls : Array Slot), rng 0 1 ff3 → 0 ≤ z4 → z4 ≤ 3 → ((3 - z4) : Int).toNat < k2 → WD D A s.heap [(a0, .inr (11, [.int r0, .ref a1, .int (iI x0), .int (iI x1), .int r1, .int (iI x2), .int r2, .int (iI x3), .int (iI x4), .int r3, .int r4, .int r5, .long y0, .int (iI x5), .ref a2, .ref a3, .ref a4, .ref a5, .ref a6, .ref a7, .ref a8, .ref a9, .ref a10, .ref a11, .int (iI x6), .ref a12, .ref a13, .ref a14, .ref a15, .int (iI x7), .int r6, .int r7, .ref a16, .int r8, .int r9, .ref a17, .ref a18, .int (iI x8), .ref a19, .int (iI x9), .int r10, .ref a20, .ref a21, .int (iI x10), .int r11, .ref a22, .int (iI x11), .int (iI x12), .int (iI x13), .int (iI x14)])), (a3, .inl (T 0, 53, .inl (cI (rgz 0 53 0 f0)))), (a11, .inl (T 2, 3, .inl (cI ff3)))] H locs → lv_has ls 2 [(1, .int (iI z4)), (0, .ref a0)] → W p l e (Rm 0 0 0) s m args below meth c H locs 0 0 Q (F0 m 23 ls []) := by
          intro k2
          induction k2 with
          | zero => intro ff3 z4 H locs ls ff3_h z4_a z4_b hm; exact absurd hm (Nat.not_lt_zero _)
          | succ k2 ih2 =>
            intro ff3 z4 H locs ls ff3_h z4_a z4_b hm2 w hl
            refine lv_iload_n hx hb dX12_startRead_23 rfl (lv_at hl 0 rfl) ?_
            refine lv_iconst (v := iI 3) hx hb dX12_startRead_24 (by decide +kernel) ?_
            refine lv_icmp_ge (tgt := 41) hx hb dX12_startRead_25 (by decide) (fun c_5 => ?_) (fun c_5 => ?_)
            · replace c_5 := (iI_le (by decide) (by decide) (Int.le_trans (by decide) z4_a) (Int.le_trans z4_b (by decide))).mp c_5
              refine lv_iconst (v := iI 0) hx hb dX12_startRead_41 (by decide +kernel) ?_
              refine lv_istore_n (lv' := [(1, .int (iI 0)), (0, .ref a0)]) hx hb dX12_startRead_42 rfl hl (by decide) rfl (fun ls hl => ?_)
              have w := WD.eq (ws' := [(a0, .inr (11, [.int r0, .ref a1, .int (iI x0), .int (iI x1), .int r1, .int (iI x2), .int r2, .int (iI x3), .int (iI x4), .int r3, .int r4, .int r5, .long y0, .int (iI x5), .ref a2, .ref a3, .ref a4, .ref a5, .ref a6, .ref a7, .ref a8, .ref a9, .ref a10, .ref a11, .int (iI x6), .ref a12, .ref a13, .ref a14, .ref a15, .int (iI x7), .int r6, .int r7, .ref a16, .int r8, .int r9, .ref a17, .ref a18, .int (iI x8), .ref a19, .int (iI x9), .int r10, .ref a20, .ref a21, .int (iI x10), .int r11, .ref a22, .int (iI x11), .int (iI x12), .int (iI x13), .int (iI x14)])), (a3, .inl (T 0, 53, .inl (cI (rgz 32 32 (-1) (rgz 0 53 0 f0))))), (a11, .inl (T 2, 3, .inl (cI ff3)))]) (by rw [rgz_0 (lo := 32) (hi := 32) (x := (-1)) (c := (rgz 0 53 0 f0)) (by decide)]) w
              have loop3 : ∀ (k3 : Nat) (z6 : Int) (H : Heap) (locs : List Loc) (ls : Array Slot), 0 ≤ z6 → z6 ≤ 9 → ((9 - z6) : Int).toNat < k3 → WD D A s.heap [(a0, .inr (11, [.int r0, .ref a1, .int (iI x0), .int (iI x1), .int r1, .int (iI x2), .int r2, .int (iI x3), .int (iI x4), .int r3, .int r4, .int r5, .long y0, .int (iI x5), .ref a2, .ref a3, .ref a4, .ref a5, .ref a6, .ref a7, .ref a8, .ref a9, .ref a10, .ref a11, .int (iI x6), .ref a12, .ref a13, .ref a14, .ref a15, .int (iI x7), .int r6, .int r7, .ref a16, .int r8, .int r9, .ref a17, .ref a18, .int (iI x8), .ref a19, .int (iI x9), .int r10, .ref a20, .ref a21, .int (iI x10), .int r11, .ref a22, .int (iI x11), .int (iI x12), .int (iI x13), .int (iI x14)])), (a3, .inl (T 0, 53, .inl (cI (rgz 32 (32 + z6) (-1) (rgz 0 53 0 f0))))), (a11, .inl (T 2, 3, .inl (cI ff3)))] H locs → lv_has ls 2 [(1, .int (iI z6)), (0, .ref a0)] → W p l e (Rm 0 0 0) s m args below meth c H locs 0 0 Q (F0 m 43 ls []) := by
                intro k3
                induction k3 with
                | zero => intro z6 H locs ls z6_a z6_b hm; exact absurd hm (Nat.not_lt_zero _)
                | succ k3 ih3 =>
                  intro z6 H locs ls z6_a z6_b hm3 w hl
                  refine lv_iload_n hx hb dX12_startRead_43 rfl (lv_at hl 0 rfl) ?_
                  refine lv_bipush (v := iI 9) hx hb dX12_startRead_44 (by decide +kernel) ?_
                  refine lv_icmp_ge (tgt := 65) hx hb dX12_startRead_46 (by decide) (fun c_7 => ?_) (fun c_7 => ?_)
                  · replace c_7 := (iI_le (by decide) (by decide) (Int.le_trans (by decide) z6_a) (Int.le_trans z6_b (by decide))).mp c_7
                    obtain rfl : z6 = 9 := by omega
                    refine lv_aload_n hx hb dX12_startRead_65 rfl (lv_at hl 1 rfl) ?_
                    refine r_get (v := .ref a3) M w 0 15 clX12 rfl (by decide) G1478 rfl rfl dX12_startRead_66 ?_
                    refine lv_iconst (v := iI 3) hx hb dX12_startRead_69 (by decide +kernel) ?_
                    refine lv_bipush (v := iI 12) hx hb dX12_startRead_70 (by decide +kernel) ?_
                    refine r_iast (ws' := [(a0, .inr (11, [.int r0, .ref a1, .int (iI x0), .int (iI x1), .int r1, .int (iI x2), .int r2, .int (iI x3), .int (iI x4), .int r3, .int r4, .int r5, .long y0, .int (iI x5), .ref a2, .ref a3, .ref a4, .ref a5, .ref a6, .ref a7, .ref a8, .ref a9, .ref a10, .ref a11, .int (iI x6), .ref a12, .ref a13, .ref a14, .ref a15, .int (iI x7), .int r6, .int r7, .ref a16, .int r8, .int r9, .ref a17, .ref a18, .int (iI x8), .ref a19, .int (iI x9), .int r10, .ref a20, .ref a21, .int (iI x10), .int r11, .ref a22, .int (iI x11), .int (iI x12), .int (iI x13), .int (iI x14)])), (a3, .inl (T 0, 53, .inl (cI (upz (rgz 32 (32 + 9) (-1) (rgz 0 53 0 f0)) 3 12)))), (a11, .inl (T 2, 3, .inl (cI ff3)))]) M w 1 rfl (iI_in (by decide) (by decide) (by decide)) (by rw [cI_up (by omega) (by omega)]; rfl) dX12_startRead_72 (fun H locs w => ?_)
                    refine lv_aload_n hx hb dX12_startRead_73 rfl (lv_at hl 1 rfl) ?_
                    refine r_get (v := .ref a3) M w 0 15 clX12 rfl (by decide) G1478 rfl rfl dX12_startRead_74 ?_
                    refine lv_iconst (v := iI 4) hx hb dX12_startRead_77 (by decide +kernel) ?_
                    refine lv_iconst (v := iI 1) hx hb dX12_startRead_78 (by decide +kernel) ?_
                    refine r_iast (ws' := [(a0, .inr (11, [.int r0, .ref a1, .int (iI x0), .int (iI x1), .int r1, .int (iI x2), .int r2, .int (iI x3), .int (iI x4), .int r3, .int r4, .int r5, .long y0, .int (iI x5), .ref a2, .ref a3, .ref a4, .ref a5, .ref a6, .ref a7, .ref a8, .ref a9, .ref a10, .ref a11, .int (iI x6), .ref a12, .ref a13, .ref a14, .ref a15, .int (iI x7), .int r6, .int r7, .ref a16, .int r8, .int r9, .ref a17, .ref a18, .int (iI x8), .ref a19, .int (iI x9), .int r10, .ref a20, .ref a21, .int (iI x10), .int r11, .ref a22, .int (iI x11), .int (iI x12), .int (iI x13), .int (iI x14)])), (a3, .inl (T 0, 53, .inl (cI (upz (upz (rgz 32 (32 + 9) (-1) (rgz 0 53 0 f0)) 3 12) 4 1)))), (a11, .inl (T 2, 3, .inl (cI ff3)))]) M w 1 rfl (iI_in (by decide) (by decide) (by decide)) (by rw [cI_up (by omega) (by omega)]; rfl) dX12_startRead_79 (fun H locs w => ?_)
                    exact ret ((upz (upz (rgz 32 (32 + 9) (-1) (rgz 0 53 0 f0)) 3 12) 4 1), ff3) _ _ _ _ _ [0, 1, 2] dX12_startRead_80 ⟨(rd_start f0_h.1), ff3_h⟩ w (by decide) rfl
                  · replace c_7 : z6 < 9 := Int.not_le.mp (fun h => c_7 ((iI_le (by decide) (by decide) (Int.le_trans (by decide) z6_a) (Int.le_trans z6_b (by decide))).mpr h))
                    refine lv_aload_n hx hb dX12_startRead_49 rfl (lv_at hl 1 rfl) ?_
                    refine r_get (v := .ref a3) M w 0 15 clX12 rfl (by decide) G1478 rfl rfl dX12_startRead_50 ?_
                    refine lv_bipush (v := iI 32) hx hb dX12_startRead_53 (by decide +kernel) ?_
                    refine lv_iload_n hx hb dX12_startRead_55 rfl (lv_at hl 0 rfl) ?_
                    refine r_iadd (v := iI (32 + z6)) M (iI_add _ _) dX12_startRead_56 ?_
                    refine lv_iconst (v := iI (-1)) hx hb dX12_startRead_57 (by decide +kernel) ?_
                    refine r_iast (ws' := [(a0, .inr (11, [.int r0, .ref a1, .int (iI x0), .int (iI x1), .int r1, .int (iI x2), .int r2, .int (iI x3), .int (iI x4), .int r3, .int r4, .int r5, .long y0, .int (iI x5), .ref a2, .ref a3, .ref a4, .ref a5, .ref a6, .ref a7, .ref a8, .ref a9, .ref a10, .ref a11, .int (iI x6), .ref a12, .ref a13, .ref a14, .ref a15, .int (iI x7), .int r6, .int r7, .ref a16, .int r8, .int r9, .ref a17, .ref a18, .int (iI x8), .ref a19, .int (iI x9), .int r10, .ref a20, .ref a21, .int (iI x10), .int r11, .ref a22, .int (iI x11), .int (iI x12), .int (iI x13), .int (iI x14)])), (a3, .inl (T 0, 53, .inl (cI (upz (rgz 32 (32 + z6) (-1) (rgz 0 53 0 f0)) (32 + z6) (-1))))), (a11, .inl (T 2, 3, .inl (cI ff3)))]) M w 1 rfl (iI_in (by omega) (by omega) (by decide)) (by rw [cI_up (by omega) (by omega)]; rfl) dX12_startRead_58 (fun H locs w => ?_)
                    refine lv_iinc (v := iI (z6 + 1)) (lv' := [(1, .int (iI (z6 + 1))), (0, .ref a0)]) hx hb dX12_startRead_59 hl (k := 0) rfl (ii_inc (by decide +kernel)) (by decide) rfl (fun ls hl => ?_)
                    refine lv_goto (tgt := 43) hx hb dX12_startRead_62 (by decide) ?_
                    have w := WD.eq (ws' := [(a0, .inr (11, [.int r0, .ref a1, .int (iI x0), .int (iI x1), .int r1, .int (iI x2), .int r2, .int (iI x3), .int (iI x4), .int r3, .int r4, .int r5, .long y0, .int (iI x5), .ref a2, .ref a3, .ref a4, .ref a5, .ref a6, .ref a7, .ref a8, .ref a9, .ref a10, .ref a11, .int (iI x6), .ref a12, .ref a13, .ref a14, .ref a15, .int (iI x7), .int r6, .int r7, .ref a16, .int r8, .int r9, .ref a17, .ref a18, .int (iI x8), .ref a19, .int (iI x9), .int r10, .ref a20, .ref a21, .int (iI x10), .int r11, .ref a22, .int (iI x11), .int (iI x12), .int (iI x13), .int (iI x14)])), (a3, .inl (T 0, 53, .inl (cI (rgz 32 (32 + (z6 + 1)) (-1) (rgz 0 53 0 f0))))), (a11, .inl (T 2, 3, .inl (cI ff3)))]) (by rw [← rgz_t (lo := 32) (k := (32 + z6)) (k' := (32 + (z6 + 1))) (x := (-1)) (c := (rgz 0 53 0 f0)) (by omega) (by omega)]) w
                    exact ih3 (z6 + 1) _ _ _ (by omega) (by omega) (by omega) w (lv_sub hl [0, 1] rfl)
              exact loop3 ((9 : Int).toNat + 1) 0 _ _ _ (by decide) (by decide) (Nat.lt_succ_self _) w (lv_sub hl [0, 1] rfl)
            · replace c_5 : z4 < 3 := Int.not_le.mp (fun h => c_5 ((iI_le (by decide) (by decide) (Int.le_trans (by decide) z4_a) (Int.le_trans z4_b (by decide))).mpr h))
              refine lv_aload_n hx hb dX12_startRead_28 rfl (lv_at hl 1 rfl) ?_
              refine r_get (v := .ref a11) M w 0 23 clX12 rfl (by decide) G1486 rfl rfl dX12_startRead_29 ?_
              refine lv_iload_n hx hb dX12_startRead_32 rfl (lv_at hl 0 rfl) ?_
              refine lv_iconst (v := iI 0) hx hb dX12_startRead_33 (by decide +kernel) ?_
              refine r_zast (x2 := iI 0) (ws' := [(a0, .inr (11, [.int r0, .ref a1, .int (iI x0), .int (iI x1), .int r1, .int (iI x2), .int r2, .int (iI x3), .int (iI x4), .int r3, .int r4, .int r5, .long y0, .int (iI x5), .ref a2, .ref a3, .ref a4, .ref a5, .ref a6, .ref a7, .ref a8, .ref a9, .ref a10, .ref a11, .int (iI x6), .ref a12, .ref a13, .ref a14, .ref a15, .int (iI x7), .int r6, .int r7, .ref a16, .int r8, .int r9, .ref a17, .ref a18, .int (iI x8), .ref a19, .int (iI x9), .int r10, .ref a20, .ref a21, .int (iI x10), .int r11, .ref a22, .int (iI x11), .int (iI x12), .int (iI x13), .int (iI x14)])), (a3, .inl (T 0, 53, .inl (cI (rgz 0 53 0 f0)))), (a11, .inl (T 2, 3, .inl (cI (upz ff3 z4 0))))]) M w 2 rfl (iI_in (by omega) (by omega) (by decide)) (nb_z (by omega) (by omega)) (by rw [cI_up (by omega) (by omega)]; rfl) dX12_startRead_34 (fun H locs w => ?_)
              refine lv_iinc (v := iI (z4 + 1)) (lv' := [(1, .int (iI (z4 + 1))), (0, .ref a0)]) hx hb dX12_startRead_35 hl (k := 0) rfl (ii_inc (by decide +kernel)) (by decide) rfl (fun ls hl => ?_)
              refine lv_goto (tgt := 23) hx hb dX12_startRead_38 (by decide) ?_
              exact ih2 (upz ff3 z4 0) (z4 + 1) _ _ _ (rng_up ff3_h (by omega) (by omega)) (by omega) (by omega) (by omega) w (lv_sub hl [0, 1] rfl)
        exact loop2 ((3 : Int).toNat + 1) f1 0 _ _ _ f1_h (by decide) (by decide) (Nat.lt_succ_self _) w (lv_sub hl [0, 1] rfl)
      · replace c_2 : z1 < 53 := Int.not_le.mp (fun h => c_2 ((iI_le (by decide) (by decide) (Int.le_trans (by decide) z1_a) (Int.le_trans z1_b (by decide))).mpr h))
        refine lv_aload_n hx hb dX12_startRead_8 rfl (lv_at hl 1 rfl) ?_
        refine r_get (v := .ref a3) M w 0 15 clX12 rfl (by decide) G1478 rfl rfl dX12_startRead_9 ?_
        refine lv_iload_n hx hb dX12_startRead_12 rfl (lv_at hl 0 rfl) ?_
        refine lv_iconst (v := iI 0) hx hb dX12_startRead_13 (by decide +kernel) ?_
        refine r_iast (ws' := [(a0, .inr (11, [.int r0, .ref a1, .int (iI x0), .int (iI x1), .int r1, .int (iI x2), .int r2, .int (iI x3), .int (iI x4), .int r3, .int r4, .int r5, .long y0, .int (iI x5), .ref a2, .ref a3, .ref a4, .ref a5, .ref a6, .ref a7, .ref a8, .ref a9, .ref a10, .ref a11, .int (iI x6), .ref a12, .ref a13, .ref a14, .ref a15, .int (iI x7), .int r6, .int r7, .ref a16, .int r8, .int r9, .ref a17, .ref a18, .int (iI x8), .ref a19, .int (iI x9), .int r10, .ref a20, .ref a21, .int (iI x10), .int r11, .ref a22, .int (iI x11), .int (iI x12), .int (iI x13), .int (iI x14)])), (a3, .inl (T 0, 53, .inl (cI (upz (rgz 0 z1 0 f0) z1 0)))), (a11, .inl (T 2, 3, .inl (cI f1)))]) M w 1 rfl (iI_in (by omega) (by omega) (by decide)) (by rw [cI_up (by omega) (by omega)]; rfl) dX12_startRead_14 (fun H locs w => ?_)
        refine lv_iinc (v := iI (z1 + 1)) (lv' := [(1, .int (iI (z1 + 1))), (0, .ref a0)]) hx hb dX12_startRead_15 hl (k := 0) rfl (ii_inc (by decide +kernel)) (by decide) rfl (fun ls hl => ?_)
        refine lv_goto (tgt := 2) hx hb dX12_startRead_18 (by decide) ?_
        have w := WD.eq (ws' := [(a0, .inr (11, [.int r0, .ref a1, .int (iI x0), .int (iI x1), .int r1, .int (iI x2), .int r2, .int (iI x3), .int (iI x4), .int r3, .int r4, .int r5, .long y0, .int (iI x5), .ref a2, .ref a3, .ref a4, .ref a5, .ref a6, .ref a7, .ref a8, .ref a9, .ref a10, .ref a11, .int (iI x6), .ref a12, .ref a13, .ref a14, .ref a15, .int (iI x7), .int r6, .int r7, .ref a16, .int r8, .int r9, .ref a17, .ref a18, .int (iI x8), .ref a19, .int (iI x9), .int r10, .ref a20, .ref a21, .int (iI x10), .int r11, .ref a22, .int (iI x11), .int (iI x12), .int (iI x13), .int (iI x14)])), (a3, .inl (T 0, 53, .inl (cI (rgz 0 (z1 + 1) 0 f0)))), (a11, .inl (T 2, 3, .inl (cI f1)))]) (by rw [← rgz_t (lo := 0) (k := z1) (k' := (z1 + 1)) (x := 0) (c := f0) (by omega) (by omega)]) w
        exact ih1 (z1 + 1) _ _ _ (by omega) (by omega) (by omega) w (lv_sub hl [0, 1] rfl)
  exact loop1 ((53 : Int).toNat + 1) 0 _ _ _ (by decide) (by decide) (Nat.lt_succ_self _) w (lv_sub hl [0, 1] rfl)
set_option maxRecDepth 100000 in
set_option maxHeartbeats 4000000 in
theorem c24_X12_findIn (l : Launch) (D : va_G) (T : Nat → ClassId) (sz : Nat) (a0 : Nat) (x0 : Int) (y0 : Int64) (h0 : Nat → Int64) (x0_a : 0 ≤ x0) (x0_b : x0 ≤ 9) : Met l yX12_findIn (Cond.code yX12_findIn cX12_findIn 6 (some .int) :: GW) (Rm 0 0 0) (cPre [.ref a0, .int (iI 0), .int (iI x0), .long y0] D T [(a0, .inl (T 1, 12, .inr (.inl h0)))] sz) (qI D [(a0, .inl (T 1, 12, .inr (.inl h0)))] sz (fun (v : Int32) (u : Int) => iI u = v ∧ (-1) ≤ u ∧ u ≤ 8 ∧ 0 ≤ ((x0 - u) - 1) ∧ (u = FI h0 0 x0 y0)) (fun u => [(a0, .inl (T 1, 12, .inr (.inl h0)))])) 0 0 (va_A [(a0, .inl (T 1, 12, .inr (.inl h0)))] sz) := by
  refine e_I (by decide) (Nat.le_of_ble_eq_true rfl) ?_
  intro p e s m args below meth c A Q ls M hin w ret hl
  have hx := M.1.1
  have hb := M.1.2.1
  have hl : lv_has ls 6 [(0, .ref a0), (1, .int (iI 0)), (2, .int (iI x0)), (3, .long y0)] := hl
  refine lv_iconst (v := iI 0) hx hb dX12_findIn_0 (by decide +kernel) ?_
  refine lv_istore (lv' := [(5, .int (iI 0)), (0, .ref a0), (1, .int (iI 0)), (2, .int (iI x0)), (3, .long y0)]) hx hb dX12_findIn_1 hl (by decide) rfl (fun ls hl => ?_)
  have loop1 : ∀ (k1 : Nat) (z1 : Int) (H : Heap) (locs : List Loc) (ls : Array Slot), 0 ≤ z1 → z1 ≤ 12 → FI h0 0 x0 y0 = fiN h0 0 y0 (x0 - z1).toNat z1 → ((x0 - z1) : Int).toNat < k1 → WD D A s.heap [(a0, .inl (T 1, 12, .inr (.inl h0)))] H locs → lv_has ls 6 [(5, .int (iI z1)), (0, .ref a0), (1, .int (iI 0)), (2, .int (iI x0)), (3, .long y0)] → W p l e (Rm 0 0 0) s m args below meth c H locs 0 0 Q (F0 m 3 ls []) := by
    intro k1
    induction k1 with
    | zero => intro z1 H locs ls z1_a z1_b lq1_f hm; exact absurd hm (Nat.not_lt_zero _)
    | succ k1 ih1 =>
      intro z1 H locs ls z1_a z1_b lq1_f hm1 w hl
      refine lv_iload hx hb dX12_findIn_3 (lv_at hl 0 rfl) ?_
      refine lv_iload_n hx hb dX12_findIn_5 rfl (lv_at hl 3 rfl) ?_
      refine lv_icmp_ge (tgt := 29) hx hb dX12_findIn_6 (by decide) (fun c_2 => ?_) (fun c_2 => ?_)
      · replace c_2 := (iI_le (Int.le_trans (by decide) x0_a) (Int.le_trans x0_b (by decide)) (Int.le_trans (by decide) z1_a) (Int.le_trans z1_b (by decide))).mp c_2
        refine lv_iconst (v := iI (-1)) hx hb dX12_findIn_29 (by decide +kernel) ?_
        exact ret _ (-1) _ _ _ _ _ [0] dX12_findIn_30 ⟨rfl, (show (-1) ≤ (-1) from by decide), (show ((-1) : Int) ≤ 8 from by decide), (show 0 ≤ ((x0 - (-1)) - 1) from by omega), (show (-1) = FI h0 0 x0 y0 from (fi_end lq1_f (by omega)))⟩ w (by decide) rfl
      · replace c_2 : z1 < x0 := Int.not_le.mp (fun h => c_2 ((iI_le (Int.le_trans (by decide) x0_a) (Int.le_trans x0_b (by decide)) (Int.le_trans (by decide) z1_a) (Int.le_trans z1_b (by decide))).mpr h))
        refine lv_aload_n hx hb dX12_findIn_9 rfl (lv_at hl 1 rfl) ?_
        refine lv_iload_n hx hb dX12_findIn_10 rfl (lv_at hl 2 rfl) ?_
        refine lv_iload hx hb dX12_findIn_11 (lv_at hl 0 rfl) ?_
        refine r_iadd (v := iI (0 + z1)) M (iI_add _ _) dX12_findIn_13 ?_
        refine r_lald (v := (h0 (Int32.toNatClampNeg (iI (0 + z1))))) M w 0 rfl (iI_in (by omega) (by omega) (by decide)) rfl dX12_findIn_14 ?_
        refine lv_lload_n hx hb dX12_findIn_15 rfl (lv_at hl 4 rfl) ?_
        refine r_lcmp (v := lg_cmp (h0 (Int32.toNatClampNeg (iI (0 + z1)))) y0) M rfl dX12_findIn_16 ?_
        refine lv_if_ne (tgt := 23) hx hb dX12_findIn_17 (by decide) (fun c_3 => ?_) (fun c_3 => ?_)
        · refine lv_iinc (v := iI (z1 + 1)) (lv' := [(5, .int (iI (z1 + 1))), (0, .ref a0), (1, .int (iI 0)), (2, .int (iI x0)), (3, .long y0)]) hx hb dX12_findIn_23 hl (k := 0) rfl (ii_inc (by decide +kernel)) (by decide) rfl (fun ls hl => ?_)
          refine lv_goto (tgt := 3) hx hb dX12_findIn_26 (by decide) ?_
          exact ih1 (z1 + 1) _ _ _ (by omega) (by omega) (fi_no lq1_f (by omega) c_3) (by omega) w (lv_sub hl [0, 1, 2, 3, 4] rfl)
        · refine lv_iload hx hb dX12_findIn_20 (lv_at hl 0 rfl) ?_
          exact ret _ z1 _ _ _ _ _ [0] dX12_findIn_22 ⟨rfl, (show (-1) ≤ z1 from by omega), (show z1 ≤ 8 from by omega), (show 0 ≤ ((x0 - z1) - 1) from by omega), (show z1 = FI h0 0 x0 y0 from (fi_hit lq1_f (by omega) c_3))⟩ w (by decide) rfl
  exact loop1 (((x0 - 0) : Int).toNat + 1) 0 _ _ _ (by decide) (by decide) fi_0 (Nat.lt_succ_self _) w (lv_sub hl [0, 1, 2, 3, 4] rfl)
set_option maxRecDepth 100000 in
set_option maxHeartbeats 4000000 in
theorem c25_X12_findIn (l : Launch) (D : va_G) (T : Nat → ClassId) (sz : Nat) (a0 : Nat) (x0 : Int) (y0 : Int64) (h0 : Nat → Int64) (x0_a : 0 ≤ x0) (x0_b : x0 ≤ 3) : Met l yX12_findIn (Cond.code yX12_findIn cX12_findIn 6 (some .int) :: GW) (Rm 0 0 0) (cPre [.ref a0, .int (iI 9), .int (iI x0), .long y0] D T [(a0, .inl (T 1, 12, .inr (.inl h0)))] sz) (qI D [(a0, .inl (T 1, 12, .inr (.inl h0)))] sz (fun (v : Int32) (u : Int) => iI u = v ∧ (-1) ≤ u ∧ u ≤ 2 ∧ 0 ≤ ((x0 - u) - 1) ∧ (u = FI h0 9 x0 y0)) (fun u => [(a0, .inl (T 1, 12, .inr (.inl h0)))])) 0 0 (va_A [(a0, .inl (T 1, 12, .inr (.inl h0)))] sz) := by
  refine e_I (by decide) (Nat.le_of_ble_eq_true rfl) ?_
  intro p e s m args below meth c A Q ls M hin w ret hl
  have hx := M.1.1
  have hb := M.1.2.1
  have hl : lv_has ls 6 [(0, .ref a0), (1, .int (iI 9)), (2, .int (iI x0)), (3, .long y0)] := hl
  refine lv_iconst (v := iI 0) hx hb dX12_findIn_0 (by decide +kernel) ?_
  refine lv_istore (lv' := [(5, .int (iI 0)), (0, .ref a0), (1, .int (iI 9)), (2, .int (iI x0)), (3, .long y0)]) hx hb dX12_findIn_1 hl (by decide) rfl (fun ls hl => ?_)
  have loop1 : ∀ (k1 : Nat) (z1 : Int) (H : Heap) (locs : List Loc) (ls : Array Slot), 0 ≤ z1 → z1 ≤ 12 → FI h0 9 x0 y0 = fiN h0 9 y0 (x0 - z1).toNat z1 → ((x0 - z1) : Int).toNat < k1 → WD D A s.heap [(a0, .inl (T 1, 12, .inr (.inl h0)))] H locs → lv_has ls 6 [(5, .int (iI z1)), (0, .ref a0), (1, .int (iI 9)), (2, .int (iI x0)), (3, .long y0)] → W p l e (Rm 0 0 0) s m args below meth c H locs 0 0 Q (F0 m 3 ls []) := by
    intro k1
    induction k1 with
    | zero => intro z1 H locs ls z1_a z1_b lq1_f hm; exact absurd hm (Nat.not_lt_zero _)
    | succ k1 ih1 =>
      intro z1 H locs ls z1_a z1_b lq1_f hm1 w hl
      refine lv_iload hx hb dX12_findIn_3 (lv_at hl 0 rfl) ?_
      refine lv_iload_n hx hb dX12_findIn_5 rfl (lv_at hl 3 rfl) ?_
      refine lv_icmp_ge (tgt := 29) hx hb dX12_findIn_6 (by decide) (fun c_2 => ?_) (fun c_2 => ?_)
      · replace c_2 := (iI_le (Int.le_trans (by decide) x0_a) (Int.le_trans x0_b (by decide)) (Int.le_trans (by decide) z1_a) (Int.le_trans z1_b (by decide))).mp c_2
        refine lv_iconst (v := iI (-1)) hx hb dX12_findIn_29 (by decide +kernel) ?_
        exact ret _ (-1) _ _ _ _ _ [0] dX12_findIn_30 ⟨rfl, (show (-1) ≤ (-1) from by decide), (show ((-1) : Int) ≤ 2 from by decide), (show 0 ≤ ((x0 - (-1)) - 1) from by omega), (show (-1) = FI h0 9 x0 y0 from (fi_end lq1_f (by omega)))⟩ w (by decide) rfl
      · replace c_2 : z1 < x0 := Int.not_le.mp (fun h => c_2 ((iI_le (Int.le_trans (by decide) x0_a) (Int.le_trans x0_b (by decide)) (Int.le_trans (by decide) z1_a) (Int.le_trans z1_b (by decide))).mpr h))
        refine lv_aload_n hx hb dX12_findIn_9 rfl (lv_at hl 1 rfl) ?_
        refine lv_iload_n hx hb dX12_findIn_10 rfl (lv_at hl 2 rfl) ?_
        refine lv_iload hx hb dX12_findIn_11 (lv_at hl 0 rfl) ?_
        refine r_iadd (v := iI (9 + z1)) M (iI_add _ _) dX12_findIn_13 ?_
        refine r_lald (v := (h0 (Int32.toNatClampNeg (iI (9 + z1))))) M w 0 rfl (iI_in (by omega) (by omega) (by decide)) rfl dX12_findIn_14 ?_
        refine lv_lload_n hx hb dX12_findIn_15 rfl (lv_at hl 4 rfl) ?_
        refine r_lcmp (v := lg_cmp (h0 (Int32.toNatClampNeg (iI (9 + z1)))) y0) M rfl dX12_findIn_16 ?_
        refine lv_if_ne (tgt := 23) hx hb dX12_findIn_17 (by decide) (fun c_3 => ?_) (fun c_3 => ?_)
        · refine lv_iinc (v := iI (z1 + 1)) (lv' := [(5, .int (iI (z1 + 1))), (0, .ref a0), (1, .int (iI 9)), (2, .int (iI x0)), (3, .long y0)]) hx hb dX12_findIn_23 hl (k := 0) rfl (ii_inc (by decide +kernel)) (by decide) rfl (fun ls hl => ?_)
          refine lv_goto (tgt := 3) hx hb dX12_findIn_26 (by decide) ?_
          exact ih1 (z1 + 1) _ _ _ (by omega) (by omega) (fi_no lq1_f (by omega) c_3) (by omega) w (lv_sub hl [0, 1, 2, 3, 4] rfl)
        · refine lv_iload hx hb dX12_findIn_20 (lv_at hl 0 rfl) ?_
          exact ret _ z1 _ _ _ _ _ [0] dX12_findIn_22 ⟨rfl, (show (-1) ≤ z1 from by omega), (show z1 ≤ 2 from by omega), (show 0 ≤ ((x0 - z1) - 1) from by omega), (show z1 = FI h0 9 x0 y0 from (fi_hit lq1_f (by omega) c_3))⟩ w (by decide) rfl
  exact loop1 (((x0 - 0) : Int).toNat + 1) 0 _ _ _ (by decide) (by decide) fi_0 (Nat.lt_succ_self _) w (lv_sub hl [0, 1, 2, 3, 4] rfl)
set_option maxRecDepth 100000 in
set_option maxHeartbeats 4000000 in
theorem c26_X12_readNew (l : Launch) (D : va_G) (T : Nat → ClassId) (sz : Nat) (a0 : Nat) (x0 : Int) (r0 : Int32) (a1 : Nat) (x1 : Int) (x2 : Int) (r1 : Int32) (x3 : Int) (r2 : Int32) (x4 : Int) (x5 : Int) (r3 : Int32) (r4 : Int32) (r5 : Int32) (y0 : Int64) (x6 : Int) (a2 : Nat) (a3 : Nat) (a4 : Nat) (a5 : Nat) (a6 : Nat) (a7 : Nat) (a8 : Nat) (a9 : Nat) (a10 : Nat) (a11 : Nat) (x7 : Int) (a12 : Nat) (a13 : Nat) (a14 : Nat) (a15 : Nat) (x8 : Int) (r6 : Int32) (r7 : Int32) (a16 : Nat) (r8 : Int32) (r9 : Int32) (a17 : Nat) (a18 : Nat) (x9 : Int) (a19 : Nat) (x10 : Int) (r10 : Int32) (a20 : Nat) (a21 : Nat) (x11 : Int) (r11 : Int32) (a22 : Nat) (x12 : Int) (x13 : Int) (x14 : Int) (x15 : Int) (f0 : Nat → Int32) (f1 : Int → Int) (h0 : Nat → Int64) (x0_a : 0 ≤ x0) (x0_b : x0 ≤ 11) (x1_a : 0 ≤ x1) (x1_b : x1 ≤ 940) (x2_a : 0 ≤ x2) (x2_b : x2 ≤ 940) (x3_a : 0 ≤ x3) (x3_b : x3 ≤ 940) (x4_a : 0 ≤ x4) (x4_b : x4 ≤ 4) (x5_a : (-2147483648) ≤ x5) (x5_b : x5 ≤ 2147483647) (x6_a : (-2147483648) ≤ x6) (x6_b : x6 ≤ 2147483647) (x7_a : 0 ≤ x7) (x7_b : x7 ≤ 8) (x8_a : 0 ≤ x8) (x8_b : x8 ≤ 9) (x9_a : 0 ≤ x9) (x9_b : x9 ≤ 9) (x10_a : 0 ≤ x10) (x10_b : x10 ≤ 64) (x11_a : 0 ≤ x11) (x11_b : x11 ≤ 40) (x12_a : 0 ≤ x12) (x12_b : x12 ≤ 40) (x13_a : 0 ≤ x13) (x13_b : x13 ≤ 20) (x14_a : 0 ≤ x14) (x14_b : x14 ≤ 8) (x15_a : 0 ≤ x15) (x15_b : x15 ≤ 39) (f1_h : rdI f1) : Met l yX12_readNew (Cond.code yX12_readNew cX12_readNew 2 (some .boolean) :: GW) (Rm 3 0 0) (cPre [.ref a0, .int (iI x0)] D T [(a0, .inr (11, [.int r0, .ref a1, .int (iI x1), .int (iI x2), .int r1, .int (iI x3), .int r2, .int (iI x4), .int (iI x5), .int r3, .int r4, .int r5, .long y0, .int (iI x6), .ref a2, .ref a3, .ref a4, .ref a5, .ref a6, .ref a7, .ref a8, .ref a9, .ref a10, .ref a11, .int (iI x7), .ref a12, .ref a13, .ref a14, .ref a15, .int (iI x8), .int r6, .int r7, .ref a16, .int r8, .int r9, .ref a17, .ref a18, .int (iI x9), .ref a19, .int (iI x10), .int r10, .ref a20, .ref a21, .int (iI x11), .int r11, .ref a22, .int (iI x12), .int (iI x13), .int (iI x14), .int (iI x15)])), (a1, .inl (T 0, 940, .inl f0)), (a3, .inl (T 0, 53, .inl (cI f1))), (a8, .inl (T 1, 12, .inr (.inl h0)))] sz) (qI D [(a0, .inr (11, [.int r0, .ref a1, .int (iI x1), .int (iI x2), .int r1, .int (iI x3), .int r2, .int (iI x4), .int (iI x5), .int r3, .int r4, .int r5, .long y0, .int (iI x6), .ref a2, .ref a3, .ref a4, .ref a5, .ref a6, .ref a7, .ref a8, .ref a9, .ref a10, .ref a11, .int (iI x7), .ref a12, .ref a13, .ref a14, .ref a15, .int (iI x8), .int r6, .int r7, .ref a16, .int r8, .int r9, .ref a17, .ref a18, .int (iI x9), .ref a19, .int (iI x10), .int r10, .ref a20, .ref a21, .int (iI x11), .int r11, .ref a22, .int (iI x12), .int (iI x13), .int (iI x14), .int (iI x15)])), (a1, .inl (T 0, 940, .inl f0)), (a3, .inl (T 0, 53, .inl (cI f1))), (a8, .inl (T 1, 12, .inr (.inl h0)))] sz (fun (v : Int32) (u : Int × Int × Int32 × Int × Int × Int32 × Int32 × Int32 × Int64 × (Nat → Int64)) => iI u.1 = v ∧ 0 ≤ u.1 ∧ u.1 ≤ 1 ∧ 0 ≤ u.2.1 ∧ u.2.1 ≤ 940 ∧ 0 ≤ u.2.2.2.1 ∧ u.2.2.2.1 ≤ 4 ∧ (-2147483648) ≤ u.2.2.2.2.1 ∧ u.2.2.2.2.1 ≤ 2147483647 ∧ 0 ≤ (u.2.1 - x3) ∧ 0 ≤ ((((u.2.1 - x3) - u.2.2.2.1) + 4) - u.1)) (fun u => [(a0, .inr (11, [.int r0, .ref a1, .int (iI x1), .int (iI x2), .int r1, .int (iI u.2.1), .int u.2.2.1, .int (iI u.2.2.2.1), .int (iI u.2.2.2.2.1), .int u.2.2.2.2.2.1, .int u.2.2.2.2.2.2.1, .int u.2.2.2.2.2.2.2.1, .long u.2.2.2.2.2.2.2.2.1, .int (iI x6), .ref a2, .ref a3, .ref a4, .ref a5, .ref a6, .ref a7, .ref a8, .ref a9, .ref a10, .ref a11, .int (iI x7), .ref a12, .ref a13, .ref a14, .ref a15, .int (iI x8), .int r6, .int r7, .ref a16, .int r8, .int r9, .ref a17, .ref a18, .int (iI x9), .ref a19, .int (iI x10), .int r10, .ref a20, .ref a21, .int (iI x11), .int r11, .ref a22, .int (iI x12), .int (iI x13), .int (iI x14), .int (iI x15)])), (a1, .inl (T 0, 940, .inl f0)), (a3, .inl (T 0, 53, .inl (cI f1))), (a8, .inl (T 1, 12, .inr (.inl u.2.2.2.2.2.2.2.2.2)))])) 0 0 (va_A [(a0, .inr (11, [.int r0, .ref a1, .int (iI x1), .int (iI x2), .int r1, .int (iI x3), .int r2, .int (iI x4), .int (iI x5), .int r3, .int r4, .int r5, .long y0, .int (iI x6), .ref a2, .ref a3, .ref a4, .ref a5, .ref a6, .ref a7, .ref a8, .ref a9, .ref a10, .ref a11, .int (iI x7), .ref a12, .ref a13, .ref a14, .ref a15, .int (iI x8), .int r6, .int r7, .ref a16, .int r8, .int r9, .ref a17, .ref a18, .int (iI x9), .ref a19, .int (iI x10), .int r10, .ref a20, .ref a21, .int (iI x11), .int r11, .ref a22, .int (iI x12), .int (iI x13), .int (iI x14), .int (iI x15)])), (a1, .inl (T 0, 940, .inl f0)), (a3, .inl (T 0, 53, .inl (cI f1))), (a8, .inl (T 1, 12, .inr (.inl h0)))] sz) := by
  refine e_Z (by decide) (Nat.le_of_ble_eq_true rfl) ?_
  intro p e s m args below meth c A Q ls M hin w ret hl
  have hx := M.1.1
  have hb := M.1.2.1
  have hl : lv_has ls 2 [(0, .ref a0), (1, .int (iI x0))] := hl
  refine lv_aload_n hx hb dX12_readNew_0 rfl (lv_at hl 0 rfl) ?_
  refine k_I (ce := 0) (sl := 0) (rest := []) (wr := [(a1, .inl (T 0, 940, .inl f0)), (a3, .inl (T 0, 53, .inl (cI f1))), (a8, .inl (T 1, 12, .inr (.inl h0)))]) (r_V (f := 2) [0] M w V_HookedCityModel_175 G1675 G57 (c17_X12_isName l D T _ a0 r0 a1 x1 x2 r1 x3 r2 x4 x5 r3 r4 r5 y0 x6 a2 a3 a4 a5 a6 a7 a8 a9 a10 a11 x7 a12 a13 a14 a15 x8 r6 r7 a16 r8 r9 a17 a18 x9 a19 x10 r10 a20 a21 x11 r11 a22 x12 x13 x14 x15 x1_a x1_b x2_a x2_b x3_a x3_b x4_a x4_b x5_a x5_b x6_a x6_b x7_a x7_b x8_a x8_b x9_a x9_b x10_a x10_b x11_a x11_b x12_a x12_b x13_a x13_b x14_a x14_b x15_a x15_b) 0 clX12 rfl rfl (by decide) rfl hl.1 rfl (Nat.le_of_ble_eq_true rfl) dX12_readNew_1 (by decide) (by decide) (by decide) (by decide)) w [0] [1, 2, 3] rfl rfl (by decide) (by decide) rfl rfl (fun v z1 H locs hp w => ?_)
  have hv : iI z1 = v := hp.1
  subst hv
  have z1_a : 0 ≤ z1 := hp.2.1
  have z1_b : z1 ≤ 1 := hp.2.2
  have w : WD D A s.heap [(a1, .inl (T 0, 940, .inl f0)), (a3, .inl (T 0, 53, .inl (cI f1))), (a8, .inl (T 1, 12, .inr (.inl h0))), (a0, .inr (11, [.int r0, .ref a1, .int (iI x1), .int (iI x2), .int r1, .int (iI x3), .int r2, .int (iI x4), .int (iI x5), .int r3, .int r4, .int r5, .long y0, .int (iI x6), .ref a2, .ref a3, .ref a4, .ref a5, .ref a6, .ref a7, .ref a8, .ref a9, .ref a10, .ref a11, .int (iI x7), .ref a12, .ref a13, .ref a14, .ref a15, .int (iI x8), .int r6, .int r7, .ref a16, .int r8, .int r9, .ref a17, .ref a18, .int (iI x9), .ref a19, .int (iI x10), .int r10, .ref a20, .ref a21, .int (iI x11), .int r11, .ref a22, .int (iI x12), .int (iI x13), .int (iI x14), .int (iI x15)]))] H locs := w
  refine lv_if_ne (tgt := 13) hx hb dX12_readNew_4 (by decide) (fun c_2 => ?_) (fun c_2 => ?_)
  · replace c_2 : ¬ z1 = 0 := fun h => c_2 ((iz_eq (Int.le_trans (by decide) z1_a) (Int.le_trans z1_b (by decide))).mpr h)
    refine lv_aload_n hx hb dX12_readNew_13 rfl (lv_at hl 0 rfl) ?_
    refine r_get (v := .ref a8) M w 3 20 clX12 rfl (by decide) G1483 rfl rfl dX12_readNew_14 ?_
    refine lv_iconst (v := iI 0) hx hb dX12_readNew_17 (by decide +kernel) ?_
    refine lv_aload_n hx hb dX12_readNew_18 rfl (lv_at hl 0 rfl) ?_
    refine r_get (v := .ref a3) M w 3 15 clX12 rfl (by decide) G1478 rfl rfl dX12_readNew_19 ?_
    refine lv_iconst (v := iI 0) hx hb dX12_readNew_22 (by decide +kernel) ?_
    refine r_iald (v := iI (f1 0)) M w 1 rfl (iI_in (by decide) (by decide) (by decide)) (cI_at (by omega) (by omega)) dX12_readNew_23 ?_
    have hh3 : (-2147483648) ≤ (f1 0) ∧ (f1 0) ≤ 2147483647 := f1_h.1 0
    have hh4 : 0 ≤ (f1 0) ∧ (f1 0) ≤ 9 := (f1_h.2.1 0).1 (by omega)
    refine lv_aload_n hx hb dX12_readNew_24 rfl (lv_at hl 0 rfl) ?_
    refine r_get (v := .long y0) M w 3 12 clX12 rfl (by decide) G1475 rfl rfl dX12_readNew_25 ?_
    refine k_I (ce := 0) (sl := 0) (rest := []) (wr := [(a1, .inl (T 0, 940, .inl f0)), (a3, .inl (T 0, 53, .inl (cI f1))), (a0, .inr (11, [.int r0, .ref a1, .int (iI x1), .int (iI x2), .int r1, .int (iI x3), .int r2, .int (iI x4), .int (iI x5), .int r3, .int r4, .int r5, .long y0, .int (iI x6), .ref a2, .ref a3, .ref a4, .ref a5, .ref a6, .ref a7, .ref a8, .ref a9, .ref a10, .ref a11, .int (iI x7), .ref a12, .ref a13, .ref a14, .ref a15, .int (iI x8), .int r6, .int r7, .ref a16, .int r8, .int r9, .ref a17, .ref a18, .int (iI x9), .ref a19, .int (iI x10), .int r10, .ref a20, .ref a21, .int (iI x11), .int r11, .ref a22, .int (iI x12), .int (iI x13), .int (iI x14), .int (iI x15)]))]) (r_S (f := 0) [2] M w V_HookedCityModel_179 G1678 (c24_X12_findIn l D T _ a8 (f1 0) y0 h0 (by omega) (by omega)) rfl (by decide) rfl hl.1 rfl (Nat.le_of_ble_eq_true rfl) dX12_readNew_28 (by decide) (by decide) (by decide) (by decide)) w [2] [0, 1, 3] rfl rfl (by decide) (by decide) rfl rfl (fun v z5 H locs hp w => ?_)
    have hv : iI z5 = v := hp.1
    subst hv
    have z5_a : (-1) ≤ z5 := hp.2.1
    have z5_b : z5 ≤ 8 := hp.2.2.1
    have ee6 : 0 ≤ (((f1 0) - z5) - 1) := hp.2.2.2.1
    have pq7 : z5 = FI h0 0 (f1 0) y0 := hp.2.2.2.2
    have w : WD D A s.heap [(a1, .inl (T 0, 940, .inl f0)), (a3, .inl (T 0, 53, .inl (cI f1))), (a0, .inr (11, [.int r0, .ref a1, .int (iI x1), .int (iI x2), .int r1, .int (iI x3), .int r2, .int (iI x4), .int (iI x5), .int r3, .int r4, .int r5, .long y0, .int (iI x6), .ref a2, .ref a3, .ref a4, .ref a5, .ref a6, .ref a7, .ref a8, .ref a9, .ref a10, .ref a11, .int (iI x7), .ref a12, .ref a13, .ref a14, .ref a15, .int (iI x8), .int r6, .int r7, .ref a16, .int r8, .int r9, .ref a17, .ref a18, .int (iI x9), .ref a19, .int (iI x10), .int r10, .ref a20, .ref a21, .int (iI x11), .int r11, .ref a22, .int (iI x12), .int (iI x13), .int (iI x14), .int (iI x15)])), (a8, .inl (T 1, 12, .inr (.inl h0)))] H locs := w
    refine lv_iconst (v := iI (-1)) hx hb dX12_readNew_31 (by decide +kernel) ?_
    refine lv_icmp_ne (tgt := 58) hx hb dX12_readNew_32 (by decide) (fun c_8 => ?_) (fun c_8 => ?_)
    · replace c_8 : ¬ z5 = (-1) := fun h => c_8 ((iI_eq (Int.le_trans (by decide) z5_a) (Int.le_trans z5_b (by decide)) (by decide) (by decide)).mpr h)
      refine lv_aload_n hx hb dX12_readNew_58 rfl (lv_at hl 0 rfl) ?_
      refine lv_iconst (v := iI 3) hx hb dX12_readNew_59 (by decide +kernel) ?_
      refine k_I (ce := 0) (sl := 0) (rest := []) (wr := [(a1, .inl (T 0, 940, .inl f0)), (a3, .inl (T 0, 53, .inl (cI f1))), (a8, .inl (T 1, 12, .inr (.inl h0)))]) (r_V (f := 0) [2] M w V_HookedCityModel_72 G1667 G55 (c18_X12_bad l D T _ a0 3 r0 a1 x1 x2 r1 x3 r2 x4 x5 r3 r4 r5 y0 x6 a2 a3 a4 a5 a6 a7 a8 a9 a10 a11 x7 a12 a13 a14 a15 x8 r6 r7 a16 r8 r9 a17 a18 x9 a19 x10 r10 a20 a21 x11 r11 a22 x12 x13 x14 x15 (by decide) (by decide) x1_a x1_b x2_a x2_b x3_a x3_b x4_a x4_b x5_a x5_b x6_a x6_b x7_a x7_b x8_a x8_b x9_a x9_b x10_a x10_b x11_a x11_b x12_a x12_b x13_a x13_b x14_a x14_b x15_a x15_b) 2 clX12 rfl rfl (by decide) rfl hl.1 rfl (Nat.le_of_ble_eq_true rfl) dX12_readNew_60 (by decide) (by decide) (by decide) (by decide)) w [2] [0, 1, 3] rfl rfl (by decide) (by decide) rfl rfl (fun v u H locs hp w => ?_)
      obtain ⟨z9, fr10, fr11⟩ := u
      have hv : iI z9 = v := hp.1
      subst hv
      have z9_a : 0 ≤ z9 := hp.2.1
      have z9_b : z9 ≤ 1 := hp.2.2.1
      have w : WD D A s.heap [(a1, .inl (T 0, 940, .inl f0)), (a3, .inl (T 0, 53, .inl (cI f1))), (a8, .inl (T 1, 12, .inr (.inl h0))), (a0, .inr (11, [.int r0, .ref a1, .int (iI x1), .int (iI x2), .int r1, .int (iI x3), .int r2, .int (iI x4), .int (iI x5), .int r3, .int fr10, .int fr11, .long y0, .int (iI x6), .ref a2, .ref a3, .ref a4, .ref a5, .ref a6, .ref a7, .ref a8, .ref a9, .ref a10, .ref a11, .int (iI x7), .ref a12, .ref a13, .ref a14, .ref a15, .int (iI x8), .int r6, .int r7, .ref a16, .int r8, .int r9, .ref a17, .ref a18, .int (iI x9), .ref a19, .int (iI x10), .int r10, .ref a20, .ref a21, .int (iI x11), .int r11, .ref a22, .int (iI x12), .int (iI x13), .int (iI x14), .int (iI x15)]))] H locs := w
      rcases hp.2.2.2 with hr
      · subst hr
        exact ret _ (0, x3, r2, x4, x5, r3, fr10, fr11, y0, h0) _ _ _ _ _ [3, 0, 1, 2] dX12_readNew_63 (by decide +kernel) ⟨rfl, (show (0 : Int) ≤ 0 from by decide), (show (0 : Int) ≤ 1 from by decide), x3_a, x3_b, x4_a, x4_b, x5_a, x5_b, (show 0 ≤ (x3 - x3) from by omega), (show 0 ≤ ((((x3 - x3) - x4) + 4) - 0) from by omega)⟩ w (by decide) rfl
    · replace c_8 := (iI_eq (Int.le_trans (by decide) z5_a) (Int.le_trans z5_b (by decide)) (by decide) (by decide)).mp c_8
      refine lv_aload_n hx hb dX12_readNew_35 rfl (lv_at hl 0 rfl) ?_
      refine r_get (v := .ref a8) M w 2 20 clX12 rfl (by decide) G1483 rfl rfl dX12_readNew_36 ?_
      refine lv_bipush (v := iI 9) hx hb dX12_readNew_39 (by decide +kernel) ?_
      refine lv_aload_n hx hb dX12_readNew_41 rfl (lv_at hl 0 rfl) ?_
      refine r_get (v := .ref a3) M w 2 15 clX12 rfl (by decide) G1478 rfl rfl dX12_readNew_42 ?_
      refine lv_iconst (v := iI 1) hx hb dX12_readNew_45 (by decide +kernel) ?_
      refine r_iald (v := iI (f1 1)) M w 1 rfl (iI_in (by decide) (by decide) (by decide)) (cI_at (by omega) (by omega)) dX12_readNew_46 ?_
      have hh12 : (-2147483648) ≤ (f1 1) ∧ (f1 1) ≤ 2147483647 := f1_h.1 1
      have hh13 : 0 ≤ (f1 1) ∧ (f1 1) ≤ 3 := (f1_h.2.1 1).2.1 (by omega)
      refine lv_aload_n hx hb dX12_readNew_47 rfl (lv_at hl 0 rfl) ?_
      refine r_get (v := .long y0) M w 2 12 clX12 rfl (by decide) G1475 rfl rfl dX12_readNew_48 ?_
      refine k_I (ce := 0) (sl := 0) (rest := []) (wr := [(a1, .inl (T 0, 940, .inl f0)), (a3, .inl (T 0, 53, .inl (cI f1))), (a0, .inr (11, [.int r0, .ref a1, .int (iI x1), .int (iI x2), .int r1, .int (iI x3), .int r2, .int (iI x4), .int (iI x5), .int r3, .int r4, .int r5, .long y0, .int (iI x6), .ref a2, .ref a3, .ref a4, .ref a5, .ref a6, .ref a7, .ref a8, .ref a9, .ref a10, .ref a11, .int (iI x7), .ref a12, .ref a13, .ref a14, .ref a15, .int (iI x8), .int r6, .int r7, .ref a16, .int r8, .int r9, .ref a17, .ref a18, .int (iI x9), .ref a19, .int (iI x10), .int r10, .ref a20, .ref a21, .int (iI x11), .int r11, .ref a22, .int (iI x12), .int (iI x13), .int (iI x14), .int (iI x15)]))]) (r_S (f := 0) [3] M w V_HookedCityModel_179 G1678 (c25_X12_findIn l D T _ a8 (f1 1) y0 h0 (by omega) (by omega)) rfl (by decide) rfl hl.1 rfl (Nat.le_of_ble_eq_true rfl) dX12_readNew_51 (by decide) (by decide) (by decide) (by decide)) w [3] [0, 1, 2] rfl rfl (by decide) (by decide) rfl rfl (fun v z14 H locs hp w => ?_)
      have hv : iI z14 = v := hp.1
      subst hv
      have z14_a : (-1) ≤ z14 := hp.2.1
      have z14_b : z14 ≤ 2 := hp.2.2.1
      have ee15 : 0 ≤ (((f1 1) - z14) - 1) := hp.2.2.2.1
      have pq16 : z14 = FI h0 9 (f1 1) y0 := hp.2.2.2.2
      have w : WD D A s.heap [(a1, .inl (T 0, 940, .inl f0)), (a3, .inl (T 0, 53, .inl (cI f1))), (a0, .inr (11, [.int r0, .ref a1, .int (iI x1), .int (iI x2), .int r1, .int (iI x3), .int r2, .int (iI x4), .int (iI x5), .int r3, .int r4, .int r5, .long y0, .int (iI x6), .ref a2, .ref a3, .ref a4, .ref a5, .ref a6, .ref a7, .ref a8, .ref a9, .ref a10, .ref a11, .int (iI x7), .ref a12, .ref a13, .ref a14, .ref a15, .int (iI x8), .int r6, .int r7, .ref a16, .int r8, .int r9, .ref a17, .ref a18, .int (iI x9), .ref a19, .int (iI x10), .int r10, .ref a20, .ref a21, .int (iI x11), .int r11, .ref a22, .int (iI x12), .int (iI x13), .int (iI x14), .int (iI x15)])), (a8, .inl (T 1, 12, .inr (.inl h0)))] H locs := w
      refine lv_iconst (v := iI (-1)) hx hb dX12_readNew_54 (by decide +kernel) ?_
      refine lv_icmp_eq (tgt := 64) hx hb dX12_readNew_55 (by decide) (fun c_17 => ?_) (fun c_17 => ?_)
      · replace c_17 := (iI_eq (Int.le_trans (by decide) z14_a) (Int.le_trans z14_b (by decide)) (by decide) (by decide)).mp c_17
        refine lv_aload_n hx hb dX12_readNew_64 rfl (lv_at hl 0 rfl) ?_
        refine r_get (v := .ref a8) M w 2 20 clX12 rfl (by decide) G1483 rfl rfl dX12_readNew_65 ?_
        refine lv_iload_n hx hb dX12_readNew_68 rfl (lv_at hl 1 rfl) ?_
        refine lv_aload_n hx hb dX12_readNew_69 rfl (lv_at hl 0 rfl) ?_
        refine r_get (v := .long y0) M w 2 12 clX12 rfl (by decide) G1475 rfl rfl dX12_readNew_70 ?_
        refine r_last (ws' := [(a1, .inl (T 0, 940, .inl f0)), (a3, .inl (T 0, 53, .inl (cI f1))), (a0, .inr (11, [.int r0, .ref a1, .int (iI x1), .int (iI x2), .int r1, .int (iI x3), .int r2, .int (iI x4), .int (iI x5), .int r3, .int r4, .int r5, .long y0, .int (iI x6), .ref a2, .ref a3, .ref a4, .ref a5, .ref a6, .ref a7, .ref a8, .ref a9, .ref a10, .ref a11, .int (iI x7), .ref a12, .ref a13, .ref a14, .ref a15, .int (iI x8), .int r6, .int r7, .ref a16, .int r8, .int r9, .ref a17, .ref a18, .int (iI x9), .ref a19, .int (iI x10), .int r10, .ref a20, .ref a21, .int (iI x11), .int r11, .ref a22, .int (iI x12), .int (iI x13), .int (iI x14), .int (iI x15)])), (a8, .inl (T 1, 12, .inr (.inl (vp_updL h0 (Int32.toNatClampNeg (iI x0)) y0))))]) M w 3 rfl (iI_in (by omega) (by omega) (by decide)) rfl dX12_readNew_73 (fun H locs w => ?_)
        refine lv_aload_n hx hb dX12_readNew_74 rfl (lv_at hl 0 rfl) ?_
        refine k_V (ce := 0) (sl := 0) (rest := []) (wr := [(a3, .inl (T 0, 53, .inl (cI f1))), (a8, .inl (T 1, 12, .inr (.inl (vp_updL h0 (Int32.toNatClampNeg (iI x0)) y0))))]) (r_V (f := 1) [2, 0] M w V_HookedCityModel_82 G1629 G49 (c12_X12_go l D T _ a0 r0 a1 x1 x2 r1 x3 r2 x4 x5 r3 r4 r5 y0 x6 a2 a3 a4 a5 a6 a7 a8 a9 a10 a11 x7 a12 a13 a14 a15 x8 r6 r7 a16 r8 r9 a17 a18 x9 a19 x10 r10 a20 a21 x11 r11 a22 x12 x13 x14 x15 f0 x1_a x1_b x2_a x2_b x3_a x3_b x4_a x4_b x5_a x5_b x6_a x6_b x7_a x7_b x8_a x8_b x9_a x9_b x10_a x10_b x11_a x11_b x12_a x12_b x13_a x13_b x14_a x14_b x15_a x15_b) 2 clX12 rfl rfl (by decide) rfl hl.1 rfl (Nat.le_of_ble_eq_true rfl) dX12_readNew_75 (by decide) (by decide) (by decide) (by decide)) w [2, 0] [1, 3] rfl rfl (by decide) (by decide) rfl rfl (fun u H locs hp w => ?_)
        obtain ⟨z18, fr19, z20, z21, fr22, fy23⟩ := u
        have z18_a : 0 ≤ z18 := hp.1
        have z18_b : z18 ≤ 940 := hp.2.1
        have z20_a : 0 ≤ z20 := hp.2.2.1
        have z20_b : z20 ≤ 4 := hp.2.2.2.1
        have z21_a : (-2147483648) ≤ z21 := hp.2.2.2.2.1
        have z21_b : z21 ≤ 2147483647 := hp.2.2.2.2.2.1
        have ee24 : 0 ≤ (z18 - x3) := hp.2.2.2.2.2.2.1
        have ee25 : 0 ≤ (((z18 - x3) - z20) + 3) := hp.2.2.2.2.2.2.2
        have w : WD D A s.heap [(a3, .inl (T 0, 53, .inl (cI f1))), (a8, .inl (T 1, 12, .inr (.inl (vp_updL h0 (Int32.toNatClampNeg (iI x0)) y0)))), (a0, .inr (11, [.int r0, .ref a1, .int (iI x1), .int (iI x2), .int r1, .int (iI z18), .int fr19, .int (iI z20), .int (iI z21), .int fr22, .int r4, .int r5, .long fy23, .int (iI x6), .ref a2, .ref a3, .ref a4, .ref a5, .ref a6, .ref a7, .ref a8, .ref a9, .ref a10, .ref a11, .int (iI x7), .ref a12, .ref a13, .ref a14, .ref a15, .int (iI x8), .int r6, .int r7, .ref a16, .int r8, .int r9, .ref a17, .ref a18, .int (iI x9), .ref a19, .int (iI x10), .int r10, .ref a20, .ref a21, .int (iI x11), .int r11, .ref a22, .int (iI x12), .int (iI x13), .int (iI x14), .int (iI x15)])), (a1, .inl (T 0, 940, .inl f0))] H locs := w
        refine lv_iconst (v := iI 1) hx hb dX12_readNew_78 (by decide +kernel) ?_
        exact ret _ (1, z18, fr19, z20, z21, fr22, r4, r5, fy23, (vp_updL h0 (Int32.toNatClampNeg (iI x0)) y0)) _ _ _ _ _ [2, 3, 0, 1] dX12_readNew_79 (by decide +kernel) ⟨rfl, (show (0 : Int) ≤ 1 from by decide), (show (1 : Int) ≤ 1 from by decide), z18_a, z18_b, z20_a, z20_b, z21_a, z21_b, (show 0 ≤ (z18 - x3) from by omega), (show 0 ≤ ((((z18 - x3) - z20) + 4) - 1) from by omega)⟩ w (by decide) rfl
      · replace c_17 : ¬ z14 = (-1) := fun h => c_17 ((iI_eq (Int.le_trans (by decide) z14_a) (Int.le_trans z14_b (by decide)) (by decide) (by decide)).mpr h)
        refine lv_aload_n hx hb dX12_readNew_58 rfl (lv_at hl 0 rfl) ?_
        refine lv_iconst (v := iI 3) hx hb dX12_readNew_59 (by decide +kernel) ?_
        refine k_I (ce := 0) (sl := 0) (rest := []) (wr := [(a1, .inl (T 0, 940, .inl f0)), (a3, .inl (T 0, 53, .inl (cI f1))), (a8, .inl (T 1, 12, .inr (.inl h0)))]) (r_V (f := 0) [2] M w V_HookedCityModel_72 G1667 G55 (c18_X12_bad l D T _ a0 3 r0 a1 x1 x2 r1 x3 r2 x4 x5 r3 r4 r5 y0 x6 a2 a3 a4 a5 a6 a7 a8 a9 a10 a11 x7 a12 a13 a14 a15 x8 r6 r7 a16 r8 r9 a17 a18 x9 a19 x10 r10 a20 a21 x11 r11 a22 x12 x13 x14 x15 (by decide) (by decide) x1_a x1_b x2_a x2_b x3_a x3_b x4_a x4_b x5_a x5_b x6_a x6_b x7_a x7_b x8_a x8_b x9_a x9_b x10_a x10_b x11_a x11_b x12_a x12_b x13_a x13_b x14_a x14_b x15_a x15_b) 2 clX12 rfl rfl (by decide) rfl hl.1 rfl (Nat.le_of_ble_eq_true rfl) dX12_readNew_60 (by decide) (by decide) (by decide) (by decide)) w [2] [0, 1, 3] rfl rfl (by decide) (by decide) rfl rfl (fun v u H locs hp w => ?_)
        obtain ⟨z26, fr27, fr28⟩ := u
        have hv : iI z26 = v := hp.1
        subst hv
        have z26_a : 0 ≤ z26 := hp.2.1
        have z26_b : z26 ≤ 1 := hp.2.2.1
        have w : WD D A s.heap [(a1, .inl (T 0, 940, .inl f0)), (a3, .inl (T 0, 53, .inl (cI f1))), (a8, .inl (T 1, 12, .inr (.inl h0))), (a0, .inr (11, [.int r0, .ref a1, .int (iI x1), .int (iI x2), .int r1, .int (iI x3), .int r2, .int (iI x4), .int (iI x5), .int r3, .int fr27, .int fr28, .long y0, .int (iI x6), .ref a2, .ref a3, .ref a4, .ref a5, .ref a6, .ref a7, .ref a8, .ref a9, .ref a10, .ref a11, .int (iI x7), .ref a12, .ref a13, .ref a14, .ref a15, .int (iI x8), .int r6, .int r7, .ref a16, .int r8, .int r9, .ref a17, .ref a18, .int (iI x9), .ref a19, .int (iI x10), .int r10, .ref a20, .ref a21, .int (iI x11), .int r11, .ref a22, .int (iI x12), .int (iI x13), .int (iI x14), .int (iI x15)]))] H locs := w
        rcases hp.2.2.2 with hr
        · subst hr
          exact ret _ (0, x3, r2, x4, x5, r3, fr27, fr28, y0, h0) _ _ _ _ _ [3, 0, 1, 2] dX12_readNew_63 (by decide +kernel) ⟨rfl, (show (0 : Int) ≤ 0 from by decide), (show (0 : Int) ≤ 1 from by decide), x3_a, x3_b, x4_a, x4_b, x5_a, x5_b, (show 0 ≤ (x3 - x3) from by omega), (show 0 ≤ ((((x3 - x3) - x4) + 4) - 0) from by omega)⟩ w (by decide) rfl
  · replace c_2 := (iz_eq (Int.le_trans (by decide) z1_a) (Int.le_trans z1_b (by decide))).mp c_2
    refine lv_aload_n hx hb dX12_readNew_7 rfl (lv_at hl 0 rfl) ?_
    refine lv_iconst (v := iI 1) hx hb dX12_readNew_8 (by decide +kernel) ?_
    refine k_I (ce := 0) (sl := 0) (rest := []) (wr := [(a1, .inl (T 0, 940, .inl f0)), (a3, .inl (T 0, 53, .inl (cI f1))), (a8, .inl (T 1, 12, .inr (.inl h0)))]) (r_V (f := 0) [3] M w V_HookedCityModel_72 G1667 G55 (c18_X12_bad l D T _ a0 1 r0 a1 x1 x2 r1 x3 r2 x4 x5 r3 r4 r5 y0 x6 a2 a3 a4 a5 a6 a7 a8 a9 a10 a11 x7 a12 a13 a14 a15 x8 r6 r7 a16 r8 r9 a17 a18 x9 a19 x10 r10 a20 a21 x11 r11 a22 x12 x13 x14 x15 (by decide) (by decide) x1_a x1_b x2_a x2_b x3_a x3_b x4_a x4_b x5_a x5_b x6_a x6_b x7_a x7_b x8_a x8_b x9_a x9_b x10_a x10_b x11_a x11_b x12_a x12_b x13_a x13_b x14_a x14_b x15_a x15_b) 3 clX12 rfl rfl (by decide) rfl hl.1 rfl (Nat.le_of_ble_eq_true rfl) dX12_readNew_9 (by decide) (by decide) (by decide) (by decide)) w [3] [0, 1, 2] rfl rfl (by decide) (by decide) rfl rfl (fun v u H locs hp w => ?_)
    obtain ⟨z29, fr30, fr31⟩ := u
    have hv : iI z29 = v := hp.1
    subst hv
    have z29_a : 0 ≤ z29 := hp.2.1
    have z29_b : z29 ≤ 1 := hp.2.2.1
    have w : WD D A s.heap [(a1, .inl (T 0, 940, .inl f0)), (a3, .inl (T 0, 53, .inl (cI f1))), (a8, .inl (T 1, 12, .inr (.inl h0))), (a0, .inr (11, [.int r0, .ref a1, .int (iI x1), .int (iI x2), .int r1, .int (iI x3), .int r2, .int (iI x4), .int (iI x5), .int r3, .int fr30, .int fr31, .long y0, .int (iI x6), .ref a2, .ref a3, .ref a4, .ref a5, .ref a6, .ref a7, .ref a8, .ref a9, .ref a10, .ref a11, .int (iI x7), .ref a12, .ref a13, .ref a14, .ref a15, .int (iI x8), .int r6, .int r7, .ref a16, .int r8, .int r9, .ref a17, .ref a18, .int (iI x9), .ref a19, .int (iI x10), .int r10, .ref a20, .ref a21, .int (iI x11), .int r11, .ref a22, .int (iI x12), .int (iI x13), .int (iI x14), .int (iI x15)]))] H locs := w
    rcases hp.2.2.2 with hr
    · subst hr
      exact ret _ (0, x3, r2, x4, x5, r3, fr30, fr31, y0, h0) _ _ _ _ _ [3, 0, 1, 2] dX12_readNew_12 (by decide +kernel) ⟨rfl, (show (0 : Int) ≤ 0 from by decide), (show (0 : Int) ≤ 1 from by decide), x3_a, x3_b, x4_a, x4_b, x5_a, x5_b, (show 0 ≤ (x3 - x3) from by omega), (show 0 ≤ ((((x3 - x3) - x4) + 4) - 0) from by omega)⟩ w (by decide) rfl
set_option maxRecDepth 100000 in
set_option maxHeartbeats 4000000 in
theorem c27_X12_isOne (l : Launch) (D : va_G) (T : Nat → ClassId) (sz : Nat) (a0 : Nat) (r0 : Int32) (a1 : Nat) (x0 : Int) (x1 : Int) (r1 : Int32) (x2 : Int) (r2 : Int32) (x3 : Int) (x4 : Int) (r3 : Int32) (r4 : Int32) (r5 : Int32) (y0 : Int64) (x5 : Int) (a2 : Nat) (a3 : Nat) (a4 : Nat) (a5 : Nat) (a6 : Nat) (a7 : Nat) (a8 : Nat) (a9 : Nat) (a10 : Nat) (a11 : Nat) (x6 : Int) (a12 : Nat) (a13 : Nat) (a14 : Nat) (a15 : Nat) (x7 : Int) (r6 : Int32) (r7 : Int32) (a16 : Nat) (r8 : Int32) (r9 : Int32) (a17 : Nat) (a18 : Nat) (x8 : Int) (a19 : Nat) (x9 : Int) (r10 : Int32) (a20 : Nat) (a21 : Nat) (x10 : Int) (r11 : Int32) (a22 : Nat) (x11 : Int) (x12 : Int) (x13 : Int) (x14 : Int) (f0 : Int → Int) (h0 : Nat → Int64) (x0_a : 0 ≤ x0) (x0_b : x0 ≤ 940) (x1_a : 0 ≤ x1) (x1_b : x1 ≤ 940) (x2_a : 0 ≤ x2) (x2_b : x2 ≤ 940) (x3_a : 0 ≤ x3) (x3_b : x3 ≤ 4) (x4_a : (-2147483648) ≤ x4) (x4_b : x4 ≤ 2147483647) (x5_a : (-2147483648) ≤ x5) (x5_b : x5 ≤ 2147483647) (x6_a : 0 ≤ x6) (x6_b : x6 ≤ 8) (x7_a : 0 ≤ x7) (x7_b : x7 ≤ 9) (x8_a : 0 ≤ x8) (x8_b : x8 ≤ 9) (x9_a : 0 ≤ x9) (x9_b : x9 ≤ 64) (x10_a : 0 ≤ x10) (x10_b : x10 ≤ 40) (x11_a : 0 ≤ x11) (x11_b : x11 ≤ 40) (x12_a : 0 ≤ x12) (x12_b : x12 ≤ 20) (x13_a : 0 ≤ x13) (x13_b : x13 ≤ 8) (x14_a : 0 ≤ x14) (x14_b : x14 ≤ 39) (f0_h : rdI f0) : Met l yX12_isOne (Cond.code yX12_isOne cX12_isOne 1 (some .boolean) :: GW) (Rm 3 0 0) (cPre [.ref a0] D T [(a0, .inr (11, [.int r0, .ref a1, .int (iI x0), .int (iI x1), .int r1, .int (iI x2), .int r2, .int (iI x3), .int (iI x4), .int r3, .int r4, .int r5, .long y0, .int (iI x5), .ref a2, .ref a3, .ref a4, .ref a5, .ref a6, .ref a7, .ref a8, .ref a9, .ref a10, .ref a11, .int (iI x6), .ref a12, .ref a13, .ref a14, .ref a15, .int (iI x7), .int r6, .int r7, .ref a16, .int r8, .int r9, .ref a17, .ref a18, .int (iI x8), .ref a19, .int (iI x9), .int r10, .ref a20, .ref a21, .int (iI x10), .int r11, .ref a22, .int (iI x11), .int (iI x12), .int (iI x13), .int (iI x14)])), (a3, .inl (T 0, 53, .inl (cI f0))), (a8, .inl (T 1, 12, .inr (.inl h0)))] sz) (qI D [(a0, .inr (11, [.int r0, .ref a1, .int (iI x0), .int (iI x1), .int r1, .int (iI x2), .int r2, .int (iI x3), .int (iI x4), .int r3, .int r4, .int r5, .long y0, .int (iI x5), .ref a2, .ref a3, .ref a4, .ref a5, .ref a6, .ref a7, .ref a8, .ref a9, .ref a10, .ref a11, .int (iI x6), .ref a12, .ref a13, .ref a14, .ref a15, .int (iI x7), .int r6, .int r7, .ref a16, .int r8, .int r9, .ref a17, .ref a18, .int (iI x8), .ref a19, .int (iI x9), .int r10, .ref a20, .ref a21, .int (iI x10), .int r11, .ref a22, .int (iI x11), .int (iI x12), .int (iI x13), .int (iI x14)])), (a3, .inl (T 0, 53, .inl (cI f0))), (a8, .inl (T 1, 12, .inr (.inl h0)))] sz (fun (v : Int32) (u : Int × Int32 × Int32 × Int) => iI u.1 = v ∧ 0 ≤ u.1 ∧ u.1 ≤ 1 ∧ (-2147483648) ≤ u.2.2.2 ∧ u.2.2.2 ≤ 2147483647 ∧ 0 ≤ ((u.2.2.2 + 4294967296) - (u.1 * 4294967296)) ∧ 0 ≤ (((8 - u.2.2.2) + 4294967296) - (u.1 * 4294967296)) ∧ (u.1 = 1 → u.2.2.2 < f0 0)) (fun u => [(a0, .inr (11, [.int r0, .ref a1, .int (iI x0), .int (iI x1), .int r1, .int (iI x2), .int r2, .int (iI x3), .int (iI x4), .int r3, .int u.2.1, .int u.2.2.1, .long y0, .int (iI u.2.2.2), .ref a2, .ref a3, .ref a4, .ref a5, .ref a6, .ref a7, .ref a8, .ref a9, .ref a10, .ref a11, .int (iI x6), .ref a12, .ref a13, .ref a14, .ref a15, .int (iI x7), .int r6, .int r7, .ref a16, .int r8, .int r9, .ref a17, .ref a18, .int (iI x8), .ref a19, .int (iI x9), .int r10, .ref a20, .ref a21, .int (iI x10), .int r11, .ref a22, .int (iI x11), .int (iI x12), .int (iI x13), .int (iI x14)])), (a3, .inl (T 0, 53, .inl (cI f0))), (a8, .inl (T 1, 12, .inr (.inl h0)))])) 0 0 (va_A [(a0, .inr (11, [.int r0, .ref a1, .int (iI x0), .int (iI x1), .int r1, .int (iI x2), .int r2, .int (iI x3), .int (iI x4), .int r3, .int r4, .int r5, .long y0, .int (iI x5), .ref a2, .ref a3, .ref a4, .ref a5, .ref a6, .ref a7, .ref a8, .ref a9, .ref a10, .ref a11, .int (iI x6), .ref a12, .ref a13, .ref a14, .ref a15, .int (iI x7), .int r6, .int r7, .ref a16, .int r8, .int r9, .ref a17, .ref a18, .int (iI x8), .ref a19, .int (iI x9), .int r10, .ref a20, .ref a21, .int (iI x10), .int r11, .ref a22, .int (iI x11), .int (iI x12), .int (iI x13), .int (iI x14)])), (a3, .inl (T 0, 53, .inl (cI f0))), (a8, .inl (T 1, 12, .inr (.inl h0)))] sz) := by
  refine e_Z (by decide) (Nat.le_of_ble_eq_true rfl) ?_
  intro p e s m args below meth c A Q ls M hin w ret hl
  have hx := M.1.1
  have hb := M.1.2.1
  have hl : lv_has ls 1 [(0, .ref a0)] := hl
  refine lv_aload_n hx hb dX12_isOne_0 rfl (lv_at hl 0 rfl) ?_
  refine k_I (ce := 0) (sl := 0) (rest := []) (wr := [(a3, .inl (T 0, 53, .inl (cI f0))), (a8, .inl (T 1, 12, .inr (.inl h0)))]) (r_V (f := 2) [0] M w V_HookedCityModel_175 G1675 G57 (c17_X12_isName l D T _ a0 r0 a1 x0 x1 r1 x2 r2 x3 x4 r3 r4 r5 y0 x5 a2 a3 a4 a5 a6 a7 a8 a9 a10 a11 x6 a12 a13 a14 a15 x7 r6 r7 a16 r8 r9 a17 a18 x8 a19 x9 r10 a20 a21 x10 r11 a22 x11 x12 x13 x14 x0_a x0_b x1_a x1_b x2_a x2_b x3_a x3_b x4_a x4_b x5_a x5_b x6_a x6_b x7_a x7_b x8_a x8_b x9_a x9_b x10_a x10_b x11_a x11_b x12_a x12_b x13_a x13_b x14_a x14_b) 0 clX12 rfl rfl (by decide) rfl hl.1 rfl (Nat.le_of_ble_eq_true rfl) dX12_isOne_1 (by decide) (by decide) (by decide) (by decide)) w [0] [1, 2] rfl rfl (by decide) (by decide) rfl rfl (fun v z1 H locs hp w => ?_)
  have hv : iI z1 = v := hp.1
  subst hv
  have z1_a : 0 ≤ z1 := hp.2.1
  have z1_b : z1 ≤ 1 := hp.2.2
  have w : WD D A s.heap [(a3, .inl (T 0, 53, .inl (cI f0))), (a8, .inl (T 1, 12, .inr (.inl h0))), (a0, .inr (11, [.int r0, .ref a1, .int (iI x0), .int (iI x1), .int r1, .int (iI x2), .int r2, .int (iI x3), .int (iI x4), .int r3, .int r4, .int r5, .long y0, .int (iI x5), .ref a2, .ref a3, .ref a4, .ref a5, .ref a6, .ref a7, .ref a8, .ref a9, .ref a10, .ref a11, .int (iI x6), .ref a12, .ref a13, .ref a14, .ref a15, .int (iI x7), .int r6, .int r7, .ref a16, .int r8, .int r9, .ref a17, .ref a18, .int (iI x8), .ref a19, .int (iI x9), .int r10, .ref a20, .ref a21, .int (iI x10), .int r11, .ref a22, .int (iI x11), .int (iI x12), .int (iI x13), .int (iI x14)]))] H locs := w
  refine lv_if_ne (tgt := 13) hx hb dX12_isOne_4 (by decide) (fun c_2 => ?_) (fun c_2 => ?_)
  · replace c_2 : ¬ z1 = 0 := fun h => c_2 ((iz_eq (Int.le_trans (by decide) z1_a) (Int.le_trans z1_b (by decide))).mpr h)
    refine lv_aload_n hx hb dX12_isOne_13 rfl (lv_at hl 0 rfl) ?_
    refine lv_aload_n hx hb dX12_isOne_14 rfl (lv_at hl 0 rfl) ?_
    refine r_get (v := .ref a8) M w 2 20 clX12 rfl (by decide) G1483 rfl rfl dX12_isOne_15 ?_
    refine lv_iconst (v := iI 0) hx hb dX12_isOne_18 (by decide +kernel) ?_
    refine lv_aload_n hx hb dX12_isOne_19 rfl (lv_at hl 0 rfl) ?_
    refine r_get (v := .ref a3) M w 2 15 clX12 rfl (by decide) G1478 rfl rfl dX12_isOne_20 ?_
    refine lv_iconst (v := iI 0) hx hb dX12_isOne_23 (by decide +kernel) ?_
    refine r_iald (v := iI (f0 0)) M w 0 rfl (iI_in (by decide) (by decide) (by decide)) (cI_at (by omega) (by omega)) dX12_isOne_24 ?_
    have hh3 : (-2147483648) ≤ (f0 0) ∧ (f0 0) ≤ 2147483647 := f0_h.1 0
    have hh4 : 0 ≤ (f0 0) ∧ (f0 0) ≤ 9 := (f0_h.2.1 0).1 (by omega)
    refine lv_aload_n hx hb dX12_isOne_25 rfl (lv_at hl 0 rfl) ?_
    refine r_get (v := .long y0) M w 2 12 clX12 rfl (by decide) G1475 rfl rfl dX12_isOne_26 ?_
    refine k_I (ce := 0) (sl := 0) (rest := [.ref a0]) (wr := [(a3, .inl (T 0, 53, .inl (cI f0))), (a0, .inr (11, [.int r0, .ref a1, .int (iI x0), .int (iI x1), .int r1, .int (iI x2), .int r2, .int (iI x3), .int (iI x4), .int r3, .int r4, .int r5, .long y0, .int (iI x5), .ref a2, .ref a3, .ref a4, .ref a5, .ref a6, .ref a7, .ref a8, .ref a9, .ref a10, .ref a11, .int (iI x6), .ref a12, .ref a13, .ref a14, .ref a15, .int (iI x7), .int r6, .int r7, .ref a16, .int r8, .int r9, .ref a17, .ref a18, .int (iI x8), .ref a19, .int (iI x9), .int r10, .ref a20, .ref a21, .int (iI x10), .int r11, .ref a22, .int (iI x11), .int (iI x12), .int (iI x13), .int (iI x14)]))]) (r_S (f := 0) [1] M w V_HookedCityModel_179 G1678 (c24_X12_findIn l D T _ a8 (f0 0) y0 h0 (by omega) (by omega)) rfl (by decide) rfl hl.1 rfl (Nat.le_of_ble_eq_true rfl) dX12_isOne_29 (by decide) (by decide) (by decide) (by decide)) w [1] [0, 2] rfl rfl (by decide) (by decide) rfl rfl (fun v z5 H locs hp w => ?_)
    have hv : iI z5 = v := hp.1
    subst hv
    have z5_a : (-1) ≤ z5 := hp.2.1
    have z5_b : z5 ≤ 8 := hp.2.2.1
    have ee6 : 0 ≤ (((f0 0) - z5) - 1) := hp.2.2.2.1
    have pq7 : z5 = FI h0 0 (f0 0) y0 := hp.2.2.2.2
    have w : WD D A s.heap [(a3, .inl (T 0, 53, .inl (cI f0))), (a0, .inr (11, [.int r0, .ref a1, .int (iI x0), .int (iI x1), .int r1, .int (iI x2), .int r2, .int (iI x3), .int (iI x4), .int r3, .int r4, .int r5, .long y0, .int (iI x5), .ref a2, .ref a3, .ref a4, .ref a5, .ref a6, .ref a7, .ref a8, .ref a9, .ref a10, .ref a11, .int (iI x6), .ref a12, .ref a13, .ref a14, .ref a15, .int (iI x7), .int r6, .int r7, .ref a16, .int r8, .int r9, .ref a17, .ref a18, .int (iI x8), .ref a19, .int (iI x9), .int r10, .ref a20, .ref a21, .int (iI x10), .int r11, .ref a22, .int (iI x11), .int (iI x12), .int (iI x13), .int (iI x14)])), (a8, .inl (T 1, 12, .inr (.inl h0)))] H locs := w
    refine r_put (ws' := [(a3, .inl (T 0, 53, .inl (cI f0))), (a0, .inr (11, [.int r0, .ref a1, .int (iI x0), .int (iI x1), .int r1, .int (iI x2), .int r2, .int (iI x3), .int (iI x4), .int r3, .int r4, .int r5, .long y0, .int (iI z5), .ref a2, .ref a3, .ref a4, .ref a5, .ref a6, .ref a7, .ref a8, .ref a9, .ref a10, .ref a11, .int (iI x6), .ref a12, .ref a13, .ref a14, .ref a15, .int (iI x7), .int r6, .int r7, .ref a16, .int r8, .int r9, .ref a17, .ref a18, .int (iI x8), .ref a19, .int (iI x9), .int r10, .ref a20, .ref a21, .int (iI x10), .int r11, .ref a22, .int (iI x11), .int (iI x12), .int (iI x13), .int (iI x14)])), (a8, .inl (T 1, 12, .inr (.inl h0)))]) M w 1 13 clX12 rfl (by decide) G1476 rfl rfl rfl rfl (Nat.le_of_ble_eq_true rfl) rfl dX12_isOne_32 (fun H locs w => ?_)
    refine lv_aload_n hx hb dX12_isOne_35 rfl (lv_at hl 0 rfl) ?_
    refine r_get (v := .int (iI z5)) M w 1 13 clX12 rfl (by decide) G1476 rfl rfl dX12_isOne_36 ?_
    refine lv_iconst (v := iI (-1)) hx hb dX12_isOne_39 (by decide +kernel) ?_
    refine lv_icmp_ne (tgt := 51) hx hb dX12_isOne_40 (by decide) (fun c_8 => ?_) (fun c_8 => ?_)
    · replace c_8 : ¬ z5 = (-1) := fun h => c_8 ((iI_eq (Int.le_trans (by decide) z5_a) (Int.le_trans z5_b (by decide)) (by decide) (by decide)).mpr h)
      refine lv_iconst (v := iI 1) hx hb dX12_isOne_51 (by decide +kernel) ?_
      refine lv_goto (tgt := 56) hx hb dX12_isOne_52 (by decide) ?_
      exact ret _ (1, r4, r5, z5) _ _ _ _ _ [1, 0, 2] dX12_isOne_56 (by decide +kernel) ⟨rfl, (show (0 : Int) ≤ 1 from by decide), (show (1 : Int) ≤ 1 from by decide), (show (-2147483648) ≤ z5 from by omega), (show z5 ≤ 2147483647 from by omega), (show 0 ≤ ((z5 + 4294967296) - (1 * 4294967296)) from by omega), (show 0 ≤ (((8 - z5) + 4294967296) - (1 * 4294967296)) from by omega), (show 1 = 1 → z5 < f0 0 from (fun _ => by omega))⟩ w (by decide) rfl
    · replace c_8 := (iI_eq (Int.le_trans (by decide) z5_a) (Int.le_trans z5_b (by decide)) (by decide) (by decide)).mp c_8
      refine lv_aload_n hx hb dX12_isOne_43 rfl (lv_at hl 0 rfl) ?_
      refine lv_iconst (v := iI 3) hx hb dX12_isOne_44 (by decide +kernel) ?_
      refine k_I (ce := 0) (sl := 0) (rest := []) (wr := [(a3, .inl (T 0, 53, .inl (cI f0))), (a8, .inl (T 1, 12, .inr (.inl h0)))]) (r_V (f := 0) [1] M w V_HookedCityModel_72 G1667 G55 (c18_X12_bad l D T _ a0 3 r0 a1 x0 x1 r1 x2 r2 x3 x4 r3 r4 r5 y0 z5 a2 a3 a4 a5 a6 a7 a8 a9 a10 a11 x6 a12 a13 a14 a15 x7 r6 r7 a16 r8 r9 a17 a18 x8 a19 x9 r10 a20 a21 x10 r11 a22 x11 x12 x13 x14 (by decide) (by decide) x0_a x0_b x1_a x1_b x2_a x2_b x3_a x3_b x4_a x4_b (by omega) (by omega) x6_a x6_b x7_a x7_b x8_a x8_b x9_a x9_b x10_a x10_b x11_a x11_b x12_a x12_b x13_a x13_b x14_a x14_b) 1 clX12 rfl rfl (by decide) rfl hl.1 rfl (Nat.le_of_ble_eq_true rfl) dX12_isOne_45 (by decide) (by decide) (by decide) (by decide)) w [1] [0, 2] rfl rfl (by decide) (by decide) rfl rfl (fun v u H locs hp w => ?_)
      obtain ⟨z9, fr10, fr11⟩ := u
      have hv : iI z9 = v := hp.1
      subst hv
      have z9_a : 0 ≤ z9 := hp.2.1
      have z9_b : z9 ≤ 1 := hp.2.2.1
      have w : WD D A s.heap [(a3, .inl (T 0, 53, .inl (cI f0))), (a8, .inl (T 1, 12, .inr (.inl h0))), (a0, .inr (11, [.int r0, .ref a1, .int (iI x0), .int (iI x1), .int r1, .int (iI x2), .int r2, .int (iI x3), .int (iI x4), .int r3, .int fr10, .int fr11, .long y0, .int (iI z5), .ref a2, .ref a3, .ref a4, .ref a5, .ref a6, .ref a7, .ref a8, .ref a9, .ref a10, .ref a11, .int (iI x6), .ref a12, .ref a13, .ref a14, .ref a15, .int (iI x7), .int r6, .int r7, .ref a16, .int r8, .int r9, .ref a17, .ref a18, .int (iI x8), .ref a19, .int (iI x9), .int r10, .ref a20, .ref a21, .int (iI x10), .int r11, .ref a22, .int (iI x11), .int (iI x12), .int (iI x13), .int (iI x14)]))] H locs := w
      rcases hp.2.2.2 with hr
      · subst hr
        refine lv_if_eq (tgt := 55) hx hb dX12_isOne_48 (by decide) (fun _ => ?_) (fun c => absurd (by decide +kernel) c)
        refine lv_iconst (v := iI 0) hx hb dX12_isOne_55 (by decide +kernel) ?_
        exact ret _ (0, fr10, fr11, z5) _ _ _ _ _ [2, 0, 1] dX12_isOne_56 (by decide +kernel) ⟨rfl, (show (0 : Int) ≤ 0 from by decide), (show (0 : Int) ≤ 1 from by decide), (show (-2147483648) ≤ z5 from by omega), (show z5 ≤ 2147483647 from by omega), (show 0 ≤ ((z5 + 4294967296) - (0 * 4294967296)) from by omega), (show 0 ≤ (((8 - z5) + 4294967296) - (0 * 4294967296)) from by omega), (show 0 = 1 → z5 < f0 0 from (fun h => absurd h (by decide)))⟩ w (by decide) rfl
  · replace c_2 := (iz_eq (Int.le_trans (by decide) z1_a) (Int.le_trans z1_b (by decide))).mp c_2
    refine lv_aload_n hx hb dX12_isOne_7 rfl (lv_at hl 0 rfl) ?_
    refine lv_iconst (v := iI 1) hx hb dX12_isOne_8 (by decide +kernel) ?_
    refine k_I (ce := 0) (sl := 0) (rest := []) (wr := [(a3, .inl (T 0, 53, .inl (cI f0))), (a8, .inl (T 1, 12, .inr (.inl h0)))]) (r_V (f := 0) [2] M w V_HookedCityModel_72 G1667 G55 (c18_X12_bad l D T _ a0 1 r0 a1 x0 x1 r1 x2 r2 x3 x4 r3 r4 r5 y0 x5 a2 a3 a4 a5 a6 a7 a8 a9 a10 a11 x6 a12 a13 a14 a15 x7 r6 r7 a16 r8 r9 a17 a18 x8 a19 x9 r10 a20 a21 x10 r11 a22 x11 x12 x13 x14 (by decide) (by decide) x0_a x0_b x1_a x1_b x2_a x2_b x3_a x3_b x4_a x4_b x5_a x5_b x6_a x6_b x7_a x7_b x8_a x8_b x9_a x9_b x10_a x10_b x11_a x11_b x12_a x12_b x13_a x13_b x14_a x14_b) 2 clX12 rfl rfl (by decide) rfl hl.1 rfl (Nat.le_of_ble_eq_true rfl) dX12_isOne_9 (by decide) (by decide) (by decide) (by decide)) w [2] [0, 1] rfl rfl (by decide) (by decide) rfl rfl (fun v u H locs hp w => ?_)
    obtain ⟨z12, fr13, fr14⟩ := u
    have hv : iI z12 = v := hp.1
    subst hv
    have z12_a : 0 ≤ z12 := hp.2.1
    have z12_b : z12 ≤ 1 := hp.2.2.1
    have w : WD D A s.heap [(a3, .inl (T 0, 53, .inl (cI f0))), (a8, .inl (T 1, 12, .inr (.inl h0))), (a0, .inr (11, [.int r0, .ref a1, .int (iI x0), .int (iI x1), .int r1, .int (iI x2), .int r2, .int (iI x3), .int (iI x4), .int r3, .int fr13, .int fr14, .long y0, .int (iI x5), .ref a2, .ref a3, .ref a4, .ref a5, .ref a6, .ref a7, .ref a8, .ref a9, .ref a10, .ref a11, .int (iI x6), .ref a12, .ref a13, .ref a14, .ref a15, .int (iI x7), .int r6, .int r7, .ref a16, .int r8, .int r9, .ref a17, .ref a18, .int (iI x8), .ref a19, .int (iI x9), .int r10, .ref a20, .ref a21, .int (iI x10), .int r11, .ref a22, .int (iI x11), .int (iI x12), .int (iI x13), .int (iI x14)]))] H locs := w
    rcases hp.2.2.2 with hr
    · subst hr
      exact ret _ (0, fr13, fr14, x5) _ _ _ _ _ [2, 0, 1] dX12_isOne_12 (by decide +kernel) ⟨rfl, (show (0 : Int) ≤ 0 from by decide), (show (0 : Int) ≤ 1 from by decide), x5_a, x5_b, (show 0 ≤ ((x5 + 4294967296) - (0 * 4294967296)) from by omega), (show 0 ≤ (((8 - x5) + 4294967296) - (0 * 4294967296)) from by omega), (show 0 = 1 → x5 < f0 0 from (fun h => absurd h (by decide)))⟩ w (by decide) rfl
set_option maxRecDepth 100000 in
set_option maxHeartbeats 4000000 in
theorem c28_X12_put (l : Launch) (D : va_G) (T : Nat → ClassId) (sz : Nat) (a0 : Nat) (x0 : Int) (x1 : Int) (r0 : Int32) (a1 : Nat) (x2 : Int) (x3 : Int) (r1 : Int32) (x4 : Int) (r2 : Int32) (x5 : Int) (x6 : Int) (r3 : Int32) (r4 : Int32) (r5 : Int32) (y0 : Int64) (x7 : Int) (a2 : Nat) (a3 : Nat) (a4 : Nat) (a5 : Nat) (a6 : Nat) (a7 : Nat) (a8 : Nat) (a9 : Nat) (a10 : Nat) (a11 : Nat) (x8 : Int) (a12 : Nat) (a13 : Nat) (a14 : Nat) (a15 : Nat) (x9 : Int) (r6 : Int32) (r7 : Int32) (a16 : Nat) (r8 : Int32) (r9 : Int32) (a17 : Nat) (a18 : Nat) (x10 : Int) (a19 : Nat) (x11 : Int) (r10 : Int32) (a20 : Nat) (a21 : Nat) (x12 : Int) (r11 : Int32) (a22 : Nat) (x13 : Int) (x14 : Int) (x15 : Int) (x16 : Int) (f0 : Int → Int) (x0_a : 2 ≤ x0) (x0_b : x0 ≤ 52) (x1_a : 0 ≤ x1) (x1_b : x1 ≤ 1) (x2_a : 0 ≤ x2) (x2_b : x2 ≤ 940) (x3_a : 0 ≤ x3) (x3_b : x3 ≤ 940) (x4_a : 0 ≤ x4) (x4_b : x4 ≤ 940) (x5_a : 0 ≤ x5) (x5_b : x5 ≤ 4) (x6_a : (-2147483648) ≤ x6) (x6_b : x6 ≤ 2147483647) (x7_a : (-2147483648) ≤ x7) (x7_b : x7 ≤ 2147483647) (x8_a : 0 ≤ x8) (x8_b : x8 ≤ 8) (x9_a : 0 ≤ x9) (x9_b : x9 ≤ 9) (x10_a : 0 ≤ x10) (x10_b : x10 ≤ 9) (x11_a : 0 ≤ x11) (x11_b : x11 ≤ 64) (x12_a : 0 ≤ x12) (x12_b : x12 ≤ 40) (x13_a : 0 ≤ x13) (x13_b : x13 ≤ 40) (x14_a : 0 ≤ x14) (x14_b : x14 ≤ 20) (x15_a : 0 ≤ x15) (x15_b : x15 ≤ 8) (x16_a : 0 ≤ x16) (x16_b : x16 ≤ 39) (f0_h : rdI f0) (pp_v : x1 = 1 → rdI (upz f0 x0 x7)) : Met l yX12_put (Cond.code yX12_put cX12_put 3 (some .boolean) :: GW) (Rm 0 0 0) (cPre [.ref a0, .int (iI x0), .int (iI x1)] D T [(a0, .inr (11, [.int r0, .ref a1, .int (iI x2), .int (iI x3), .int r1, .int (iI x4), .int r2, .int (iI x5), .int (iI x6), .int r3, .int r4, .int r5, .long y0, .int (iI x7), .ref a2, .ref a3, .ref a4, .ref a5, .ref a6, .ref a7, .ref a8, .ref a9, .ref a10, .ref a11, .int (iI x8), .ref a12, .ref a13, .ref a14, .ref a15, .int (iI x9), .int r6, .int r7, .ref a16, .int r8, .int r9, .ref a17, .ref a18, .int (iI x10), .ref a19, .int (iI x11), .int r10, .ref a20, .ref a21, .int (iI x12), .int r11, .ref a22, .int (iI x13), .int (iI x14), .int (iI x15), .int (iI x16)])), (a3, .inl (T 0, 53, .inl (cI f0)))] sz) (qI D [(a0, .inr (11, [.int r0, .ref a1, .int (iI x2), .int (iI x3), .int r1, .int (iI x4), .int r2, .int (iI x5), .int (iI x6), .int r3, .int r4, .int r5, .long y0, .int (iI x7), .ref a2, .ref a3, .ref a4, .ref a5, .ref a6, .ref a7, .ref a8, .ref a9, .ref a10, .ref a11, .int (iI x8), .ref a12, .ref a13, .ref a14, .ref a15, .int (iI x9), .int r6, .int r7, .ref a16, .int r8, .int r9, .ref a17, .ref a18, .int (iI x10), .ref a19, .int (iI x11), .int r10, .ref a20, .ref a21, .int (iI x12), .int r11, .ref a22, .int (iI x13), .int (iI x14), .int (iI x15), .int (iI x16)])), (a3, .inl (T 0, 53, .inl (cI f0)))] sz (fun (v : Int32) (u : Int × (Int → Int)) => iI u.1 = v ∧ 0 ≤ u.1 ∧ u.1 ≤ 1 ∧ rdI u.2 ∧ 0 ≤ (x1 - u.1) ∧ 0 ≤ (u.1 - x1) ∧ (u.2 0 = f0 0) ∧ (u.2 1 = f0 1)) (fun u => [(a0, .inr (11, [.int r0, .ref a1, .int (iI x2), .int (iI x3), .int r1, .int (iI x4), .int r2, .int (iI x5), .int (iI x6), .int r3, .int r4, .int r5, .long y0, .int (iI x7), .ref a2, .ref a3, .ref a4, .ref a5, .ref a6, .ref a7, .ref a8, .ref a9, .ref a10, .ref a11, .int (iI x8), .ref a12, .ref a13, .ref a14, .ref a15, .int (iI x9), .int r6, .int r7, .ref a16, .int r8, .int r9, .ref a17, .ref a18, .int (iI x10), .ref a19, .int (iI x11), .int r10, .ref a20, .ref a21, .int (iI x12), .int r11, .ref a22, .int (iI x13), .int (iI x14), .int (iI x15), .int (iI x16)])), (a3, .inl (T 0, 53, .inl (cI u.2)))])) 0 0 (va_A [(a0, .inr (11, [.int r0, .ref a1, .int (iI x2), .int (iI x3), .int r1, .int (iI x4), .int r2, .int (iI x5), .int (iI x6), .int r3, .int r4, .int r5, .long y0, .int (iI x7), .ref a2, .ref a3, .ref a4, .ref a5, .ref a6, .ref a7, .ref a8, .ref a9, .ref a10, .ref a11, .int (iI x8), .ref a12, .ref a13, .ref a14, .ref a15, .int (iI x9), .int r6, .int r7, .ref a16, .int r8, .int r9, .ref a17, .ref a18, .int (iI x10), .ref a19, .int (iI x11), .int r10, .ref a20, .ref a21, .int (iI x12), .int r11, .ref a22, .int (iI x13), .int (iI x14), .int (iI x15), .int (iI x16)])), (a3, .inl (T 0, 53, .inl (cI f0)))] sz) := by
  refine e_Z (by decide) (Nat.le_of_ble_eq_true rfl) ?_
  intro p e s m args below meth c A Q ls M hin w ret hl
  have hx := M.1.1
  have hb := M.1.2.1
  have hl : lv_has ls 3 [(0, .ref a0), (1, .int (iI x0)), (2, .int (iI x1))] := hl
  refine lv_iload_n hx hb dX12_put_0 rfl (lv_at hl 2 rfl) ?_
  refine lv_if_eq (tgt := 14) hx hb dX12_put_1 (by decide) (fun c_1 => ?_) (fun c_1 => ?_)
  · replace c_1 := (iz_eq (Int.le_trans (by decide) x1_a) (Int.le_trans x1_b (by decide))).mp c_1
    refine lv_iload_n hx hb dX12_put_14 rfl (lv_at hl 2 rfl) ?_
    exact ret _ (x1, f0) _ _ _ _ _ [0, 1] dX12_put_15 (nb_n (by omega) (by omega)) ⟨rfl, x1_a, x1_b, f0_h, (show 0 ≤ (x1 - x1) from by omega), (show 0 ≤ (x1 - x1) from by omega), (show f0 0 = f0 0 from rfl), (show f0 1 = f0 1 from rfl)⟩ w (by decide) rfl
  · replace c_1 : ¬ x1 = 0 := fun h => c_1 ((iz_eq (Int.le_trans (by decide) x1_a) (Int.le_trans x1_b (by decide))).mpr h)
    refine lv_aload_n hx hb dX12_put_4 rfl (lv_at hl 0 rfl) ?_
    refine r_get (v := .ref a3) M w 0 15 clX12 rfl (by decide) G1478 rfl rfl dX12_put_5 ?_
    refine lv_iload_n hx hb dX12_put_8 rfl (lv_at hl 1 rfl) ?_
    refine lv_aload_n hx hb dX12_put_9 rfl (lv_at hl 0 rfl) ?_
    refine r_get (v := .int (iI x7)) M w 0 13 clX12 rfl (by decide) G1476 rfl rfl dX12_put_10 ?_
    refine r_iast (ws' := [(a0, .inr (11, [.int r0, .ref a1, .int (iI x2), .int (iI x3), .int r1, .int (iI x4), .int r2, .int (iI x5), .int (iI x6), .int r3, .int r4, .int r5, .long y0, .int (iI x7), .ref a2, .ref a3, .ref a4, .ref a5, .ref a6, .ref a7, .ref a8, .ref a9, .ref a10, .ref a11, .int (iI x8), .ref a12, .ref a13, .ref a14, .ref a15, .int (iI x9), .int r6, .int r7, .ref a16, .int r8, .int r9, .ref a17, .ref a18, .int (iI x10), .ref a19, .int (iI x11), .int r10, .ref a20, .ref a21, .int (iI x12), .int r11, .ref a22, .int (iI x13), .int (iI x14), .int (iI x15), .int (iI x16)])), (a3, .inl (T 0, 53, .inl (cI (upz f0 x0 x7))))]) M w 1 rfl (iI_in (by omega) (by omega) (by decide)) (by rw [cI_up (by omega) (by omega)]; rfl) dX12_put_13 (fun H locs w => ?_)
    refine lv_iload_n hx hb dX12_put_14 rfl (lv_at hl 2 rfl) ?_
    exact ret _ (x1, (upz f0 x0 x7)) _ _ _ _ _ [0, 1] dX12_put_15 (nb_n (by omega) (by omega)) ⟨rfl, x1_a, x1_b, (pp_v (by omega)), (show 0 ≤ (x1 - x1) from by omega), (show 0 ≤ (x1 - x1) from by omega), (show (upz f0 x0 x7) 0 = f0 0 from (upz_n (by omega))), (show (upz f0 x0 x7) 1 = f0 1 from (upz_n (by omega)))⟩ w (by decide) rfl
set_option maxRecDepth 100000 in
set_option maxHeartbeats 4000000 in
theorem c29_X12_readFirst (l : Launch) (D : va_G) (T : Nat → ClassId) (sz : Nat) (a0 : Nat) (r0 : Int32) (a1 : Nat) (x0 : Int) (x1 : Int) (r1 : Int32) (x2 : Int) (r2 : Int32) (x3 : Int) (x4 : Int) (r3 : Int32) (r4 : Int32) (r5 : Int32) (y0 : Int64) (x5 : Int) (a2 : Nat) (a3 : Nat) (a4 : Nat) (a5 : Nat) (a6 : Nat) (a7 : Nat) (a8 : Nat) (a9 : Nat) (a10 : Nat) (a11 : Nat) (x6 : Int) (a12 : Nat) (a13 : Nat) (a14 : Nat) (a15 : Nat) (x7 : Int) (r6 : Int32) (r7 : Int32) (a16 : Nat) (r8 : Int32) (r9 : Int32) (a17 : Nat) (a18 : Nat) (x8 : Int) (a19 : Nat) (x9 : Int) (r10 : Int32) (a20 : Nat) (a21 : Nat) (x10 : Int) (r11 : Int32) (a22 : Nat) (x11 : Int) (x12 : Int) (x13 : Int) (x14 : Int) (f0 : Nat → Int32) (f1 : Int → Int) (x0_a : 0 ≤ x0) (x0_b : x0 ≤ 940) (x1_a : 0 ≤ x1) (x1_b : x1 ≤ 940) (x2_a : 0 ≤ x2) (x2_b : x2 ≤ 940) (x3_a : 0 ≤ x3) (x3_b : x3 ≤ 4) (x4_a : (-2147483648) ≤ x4) (x4_b : x4 ≤ 2147483647) (x5_a : (-2147483648) ≤ x5) (x5_b : x5 ≤ 2147483647) (x6_a : 0 ≤ x6) (x6_b : x6 ≤ 8) (x7_a : 0 ≤ x7) (x7_b : x7 ≤ 9) (x8_a : 0 ≤ x8) (x8_b : x8 ≤ 9) (x9_a : 0 ≤ x9) (x9_b : x9 ≤ 64) (x10_a : 0 ≤ x10) (x10_b : x10 ≤ 40) (x11_a : 0 ≤ x11) (x11_b : x11 ≤ 40) (x12_a : 0 ≤ x12) (x12_b : x12 ≤ 20) (x13_a : 0 ≤ x13) (x13_b : x13 ≤ 8) (x14_a : 0 ≤ x14) (x14_b : x14 ≤ 39) (f1_h : rdI f1) : Met l yX12_readFirst (Cond.code yX12_readFirst cX12_readFirst 3 (some .boolean) :: GW) (Rm 2 0 0) (cPre [.ref a0, .int (iI 0), .int (iI 9)] D T [(a0, .inr (11, [.int r0, .ref a1, .int (iI x0), .int (iI x1), .int r1, .int (iI x2), .int r2, .int (iI x3), .int (iI x4), .int r3, .int r4, .int r5, .long y0, .int (iI x5), .ref a2, .ref a3, .ref a4, .ref a5, .ref a6, .ref a7, .ref a8, .ref a9, .ref a10, .ref a11, .int (iI x6), .ref a12, .ref a13, .ref a14, .ref a15, .int (iI x7), .int r6, .int r7, .ref a16, .int r8, .int r9, .ref a17, .ref a18, .int (iI x8), .ref a19, .int (iI x9), .int r10, .ref a20, .ref a21, .int (iI x10), .int r11, .ref a22, .int (iI x11), .int (iI x12), .int (iI x13), .int (iI x14)])), (a1, .inl (T 0, 940, .inl f0)), (a3, .inl (T 0, 53, .inl (cI f1)))] sz) (qI D [(a0, .inr (11, [.int r0, .ref a1, .int (iI x0), .int (iI x1), .int r1, .int (iI x2), .int r2, .int (iI x3), .int (iI x4), .int r3, .int r4, .int r5, .long y0, .int (iI x5), .ref a2, .ref a3, .ref a4, .ref a5, .ref a6, .ref a7, .ref a8, .ref a9, .ref a10, .ref a11, .int (iI x6), .ref a12, .ref a13, .ref a14, .ref a15, .int (iI x7), .int r6, .int r7, .ref a16, .int r8, .int r9, .ref a17, .ref a18, .int (iI x8), .ref a19, .int (iI x9), .int r10, .ref a20, .ref a21, .int (iI x10), .int r11, .ref a22, .int (iI x11), .int (iI x12), .int (iI x13), .int (iI x14)])), (a1, .inl (T 0, 940, .inl f0)), (a3, .inl (T 0, 53, .inl (cI f1)))] sz (fun (v : Int32) (u : Int × Int × Int32 × Int × Int × Int32 × Int32 × Int32 × Int64) => iI u.1 = v ∧ 0 ≤ u.1 ∧ u.1 ≤ 1 ∧ 0 ≤ u.2.1 ∧ u.2.1 ≤ 940 ∧ 0 ≤ u.2.2.2.1 ∧ u.2.2.2.1 ≤ 4 ∧ (-2147483648) ≤ u.2.2.2.2.1 ∧ u.2.2.2.2.1 ≤ 2147483647 ∧ 0 ≤ (u.2.1 - x2) ∧ 0 ≤ ((((u.2.1 - x2) - u.2.2.2.1) + 4) - u.1) ∧ (u.1 = 1 → f1 0 ≤ 8)) (fun u => [(a0, .inr (11, [.int r0, .ref a1, .int (iI x0), .int (iI x1), .int r1, .int (iI u.2.1), .int u.2.2.1, .int (iI u.2.2.2.1), .int (iI u.2.2.2.2.1), .int u.2.2.2.2.2.1, .int u.2.2.2.2.2.2.1, .int u.2.2.2.2.2.2.2.1, .long u.2.2.2.2.2.2.2.2, .int (iI x5), .ref a2, .ref a3, .ref a4, .ref a5, .ref a6, .ref a7, .ref a8, .ref a9, .ref a10, .ref a11, .int (iI x6), .ref a12, .ref a13, .ref a14, .ref a15, .int (iI x7), .int r6, .int r7, .ref a16, .int r8, .int r9, .ref a17, .ref a18, .int (iI x8), .ref a19, .int (iI x9), .int r10, .ref a20, .ref a21, .int (iI x10), .int r11, .ref a22, .int (iI x11), .int (iI x12), .int (iI x13), .int (iI x14)])), (a1, .inl (T 0, 940, .inl f0)), (a3, .inl (T 0, 53, .inl (cI f1)))])) 0 0 (va_A [(a0, .inr (11, [.int r0, .ref a1, .int (iI x0), .int (iI x1), .int r1, .int (iI x2), .int r2, .int (iI x3), .int (iI x4), .int r3, .int r4, .int r5, .long y0, .int (iI x5), .ref a2, .ref a3, .ref a4, .ref a5, .ref a6, .ref a7, .ref a8, .ref a9, .ref a10, .ref a11, .int (iI x6), .ref a12, .ref a13, .ref a14, .ref a15, .int (iI x7), .int r6, .int r7, .ref a16, .int r8, .int r9, .ref a17, .ref a18, .int (iI x8), .ref a19, .int (iI x9), .int r10, .ref a20, .ref a21, .int (iI x10), .int r11, .ref a22, .int (iI x11), .int (iI x12), .int (iI x13), .int (iI x14)])), (a1, .inl (T 0, 940, .inl f0)), (a3, .inl (T 0, 53, .inl (cI f1)))] sz) := by
  refine e_Z (by decide) (Nat.le_of_ble_eq_true rfl) ?_
  intro p e s m args below meth c A Q ls M hin w ret hl
  have hx := M.1.1
  have hb := M.1.2.1
  have hl : lv_has ls 3 [(0, .ref a0), (1, .int (iI 0)), (2, .int (iI 9))] := hl
  refine lv_aload_n hx hb dX12_readFirst_0 rfl (lv_at hl 0 rfl) ?_
  refine r_get (v := .ref a3) M w 0 15 clX12 rfl (by decide) G1478 rfl rfl dX12_readFirst_1 ?_
  refine lv_iload_n hx hb dX12_readFirst_4 rfl (lv_at hl 1 rfl) ?_
  refine r_iald (v := iI (f1 0)) M w 2 rfl (iI_in (by decide) (by decide) (by decide)) (cI_at (by omega) (by omega)) dX12_readFirst_5 ?_
  have hh1 : (-2147483648) ≤ (f1 0) ∧ (f1 0) ≤ 2147483647 := f1_h.1 0
  have hh2 : 0 ≤ (f1 0) ∧ (f1 0) ≤ 9 := (f1_h.2.1 0).1 (by omega)
  refine lv_iload_n hx hb dX12_readFirst_6 rfl (lv_at hl 2 rfl) ?_
  refine lv_icmp_ne (tgt := 16) hx hb dX12_readFirst_7 (by decide) (fun c_3 => ?_) (fun c_3 => ?_)
  · replace c_3 : ¬ (f1 0) = 9 := fun h => c_3 ((iI_eq (by omega) (by omega) (by decide) (by decide)).mpr h)
    refine lv_aload_n hx hb dX12_readFirst_16 rfl (lv_at hl 0 rfl) ?_
    refine k_V (ce := 0) (sl := 0) (rest := []) (wr := [(a3, .inl (T 0, 53, .inl (cI f1)))]) (r_V (f := 1) [0, 1] M w V_HookedCityModel_82 G1629 G49 (c12_X12_go l D T _ a0 r0 a1 x0 x1 r1 x2 r2 x3 x4 r3 r4 r5 y0 x5 a2 a3 a4 a5 a6 a7 a8 a9 a10 a11 x6 a12 a13 a14 a15 x7 r6 r7 a16 r8 r9 a17 a18 x8 a19 x9 r10 a20 a21 x10 r11 a22 x11 x12 x13 x14 f0 x0_a x0_b x1_a x1_b x2_a x2_b x3_a x3_b x4_a x4_b x5_a x5_b x6_a x6_b x7_a x7_b x8_a x8_b x9_a x9_b x10_a x10_b x11_a x11_b x12_a x12_b x13_a x13_b x14_a x14_b) 0 clX12 rfl rfl (by decide) rfl hl.1 rfl (Nat.le_of_ble_eq_true rfl) dX12_readFirst_17 (by decide) (by decide) (by decide) (by decide)) w [0, 1] [2] rfl rfl (by decide) (by decide) rfl rfl (fun u H locs hp w => ?_)
    obtain ⟨z4, fr5, z6, z7, fr8, fy9⟩ := u
    have z4_a : 0 ≤ z4 := hp.1
    have z4_b : z4 ≤ 940 := hp.2.1
    have z6_a : 0 ≤ z6 := hp.2.2.1
    have z6_b : z6 ≤ 4 := hp.2.2.2.1
    have z7_a : (-2147483648) ≤ z7 := hp.2.2.2.2.1
    have z7_b : z7 ≤ 2147483647 := hp.2.2.2.2.2.1
    have ee10 : 0 ≤ (z4 - x2) := hp.2.2.2.2.2.2.1
    have ee11 : 0 ≤ (((z4 - x2) - z6) + 3) := hp.2.2.2.2.2.2.2
    have w : WD D A s.heap [(a3, .inl (T 0, 53, .inl (cI f1))), (a0, .inr (11, [.int r0, .ref a1, .int (iI x0), .int (iI x1), .int r1, .int (iI z4), .int fr5, .int (iI z6), .int (iI z7), .int fr8, .int r4, .int r5, .long fy9, .int (iI x5), .ref a2, .ref a3, .ref a4, .ref a5, .ref a6, .ref a7, .ref a8, .ref a9, .ref a10, .ref a11, .int (iI x6), .ref a12, .ref a13, .ref a14, .ref a15, .int (iI x7), .int r6, .int r7, .ref a16, .int r8, .int r9, .ref a17, .ref a18, .int (iI x8), .ref a19, .int (iI x9), .int r10, .ref a20, .ref a21, .int (iI x10), .int r11, .ref a22, .int (iI x11), .int (iI x12), .int (iI x13), .int (iI x14)])), (a1, .inl (T 0, 940, .inl f0))] H locs := w
    refine lv_iconst (v := iI 1) hx hb dX12_readFirst_20 (by decide +kernel) ?_
    exact ret _ (1, z4, fr5, z6, z7, fr8, r4, r5, fy9) _ _ _ _ _ [1, 2, 0] dX12_readFirst_21 (by decide +kernel) ⟨rfl, (show (0 : Int) ≤ 1 from by decide), (show (1 : Int) ≤ 1 from by decide), z4_a, z4_b, z6_a, z6_b, z7_a, z7_b, (show 0 ≤ (z4 - x2) from by omega), (show 0 ≤ ((((z4 - x2) - z6) + 4) - 1) from by omega), (show 1 = 1 → f1 0 ≤ 8 from (fun _ => by omega))⟩ w (by decide) rfl
  · replace c_3 := (iI_eq (by omega) (by omega) (by decide) (by decide)).mp c_3
    refine lv_aload_n hx hb dX12_readFirst_10 rfl (lv_at hl 0 rfl) ?_
    refine lv_iconst (v := iI 4) hx hb dX12_readFirst_11 (by decide +kernel) ?_
    refine k_I (ce := 0) (sl := 0) (rest := []) (wr := [(a1, .inl (T 0, 940, .inl f0)), (a3, .inl (T 0, 53, .inl (cI f1)))]) (r_V (f := 0) [0] M w V_HookedCityModel_72 G1667 G55 (c18_X12_bad l D T _ a0 4 r0 a1 x0 x1 r1 x2 r2 x3 x4 r3 r4 r5 y0 x5 a2 a3 a4 a5 a6 a7 a8 a9 a10 a11 x6 a12 a13 a14 a15 x7 r6 r7 a16 r8 r9 a17 a18 x8 a19 x9 r10 a20 a21 x10 r11 a22 x11 x12 x13 x14 (by decide) (by decide) x0_a x0_b x1_a x1_b x2_a x2_b x3_a x3_b x4_a x4_b x5_a x5_b x6_a x6_b x7_a x7_b x8_a x8_b x9_a x9_b x10_a x10_b x11_a x11_b x12_a x12_b x13_a x13_b x14_a x14_b) 0 clX12 rfl rfl (by decide) rfl hl.1 rfl (Nat.le_of_ble_eq_true rfl) dX12_readFirst_12 (by decide) (by decide) (by decide) (by decide)) w [0] [1, 2] rfl rfl (by decide) (by decide) rfl rfl (fun v u H locs hp w => ?_)
    obtain ⟨z12, fr13, fr14⟩ := u
    have hv : iI z12 = v := hp.1
    subst hv
    have z12_a : 0 ≤ z12 := hp.2.1
    have z12_b : z12 ≤ 1 := hp.2.2.1
    have w : WD D A s.heap [(a1, .inl (T 0, 940, .inl f0)), (a3, .inl (T 0, 53, .inl (cI f1))), (a0, .inr (11, [.int r0, .ref a1, .int (iI x0), .int (iI x1), .int r1, .int (iI x2), .int r2, .int (iI x3), .int (iI x4), .int r3, .int fr13, .int fr14, .long y0, .int (iI x5), .ref a2, .ref a3, .ref a4, .ref a5, .ref a6, .ref a7, .ref a8, .ref a9, .ref a10, .ref a11, .int (iI x6), .ref a12, .ref a13, .ref a14, .ref a15, .int (iI x7), .int r6, .int r7, .ref a16, .int r8, .int r9, .ref a17, .ref a18, .int (iI x8), .ref a19, .int (iI x9), .int r10, .ref a20, .ref a21, .int (iI x10), .int r11, .ref a22, .int (iI x11), .int (iI x12), .int (iI x13), .int (iI x14)]))] H locs := w
    rcases hp.2.2.2 with hr
    · subst hr
      exact ret _ (0, x2, r2, x3, x4, r3, fr13, fr14, y0) _ _ _ _ _ [2, 0, 1] dX12_readFirst_15 (by decide +kernel) ⟨rfl, (show (0 : Int) ≤ 0 from by decide), (show (0 : Int) ≤ 1 from by decide), x2_a, x2_b, x3_a, x3_b, x4_a, x4_b, (show 0 ≤ (x2 - x2) from by omega), (show 0 ≤ ((((x2 - x2) - x3) + 4) - 0) from by omega), (show 0 = 1 → f1 0 ≤ 8 from (fun h => absurd h (by decide)))⟩ w (by decide) rfl
set_option maxRecDepth 100000 in
set_option maxHeartbeats 4000000 in
theorem c30_X12_readPerson (l : Launch) (D : va_G) (T : Nat → ClassId) (sz : Nat) (a0 : Nat) (r0 : Int32) (a1 : Nat) (x0 : Int) (x1 : Int) (r1 : Int32) (x2 : Int) (r2 : Int32) (x3 : Int) (x4 : Int) (r3 : Int32) (r4 : Int32) (r5 : Int32) (y0 : Int64) (x5 : Int) (a2 : Nat) (a3 : Nat) (a4 : Nat) (a5 : Nat) (a6 : Nat) (a7 : Nat) (a8 : Nat) (a9 : Nat) (a10 : Nat) (a11 : Nat) (x6 : Int) (a12 : Nat) (a13 : Nat) (a14 : Nat) (a15 : Nat) (x7 : Int) (r6 : Int32) (r7 : Int32) (a16 : Nat) (r8 : Int32) (r9 : Int32) (a17 : Nat) (a18 : Nat) (x8 : Int) (a19 : Nat) (x9 : Int) (r10 : Int32) (a20 : Nat) (a21 : Nat) (x10 : Int) (r11 : Int32) (a22 : Nat) (x11 : Int) (x12 : Int) (x13 : Int) (x14 : Int) (f0 : Nat → Int32) (f1 : Int → Int) (h0 : Nat → Int64) (x0_a : 0 ≤ x0) (x0_b : x0 ≤ 940) (x1_a : 0 ≤ x1) (x1_b : x1 ≤ 940) (x2_a : 0 ≤ x2) (x2_b : x2 ≤ 940) (x3_a : 0 ≤ x3) (x3_b : x3 ≤ 4) (x4_a : (-2147483648) ≤ x4) (x4_b : x4 ≤ 2147483647) (x5_a : (-2147483648) ≤ x5) (x5_b : x5 ≤ 2147483647) (x6_a : 0 ≤ x6) (x6_b : x6 ≤ 8) (x7_a : 0 ≤ x7) (x7_b : x7 ≤ 9) (x8_a : 0 ≤ x8) (x8_b : x8 ≤ 9) (x9_a : 0 ≤ x9) (x9_b : x9 ≤ 64) (x10_a : 0 ≤ x10) (x10_b : x10 ≤ 40) (x11_a : 0 ≤ x11) (x11_b : x11 ≤ 40) (x12_a : 0 ≤ x12) (x12_b : x12 ≤ 20) (x13_a : 0 ≤ x13) (x13_b : x13 ≤ 8) (x14_a : 0 ≤ x14) (x14_b : x14 ≤ 39) (f1_h : rdI f1) : Met l yX12_readPerson (Cond.code yX12_readPerson cX12_readPerson 2 (some .boolean) :: GW) (Rm 4 0 0) (cPre [.ref a0] D T [(a0, .inr (11, [.int r0, .ref a1, .int (iI x0), .int (iI x1), .int r1, .int (iI x2), .int r2, .int (iI x3), .int (iI x4), .int r3, .int r4, .int r5, .long y0, .int (iI x5), .ref a2, .ref a3, .ref a4, .ref a5, .ref a6, .ref a7, .ref a8, .ref a9, .ref a10, .ref a11, .int (iI x6), .ref a12, .ref a13, .ref a14, .ref a15, .int (iI x7), .int r6, .int r7, .ref a16, .int r8, .int r9, .ref a17, .ref a18, .int (iI x8), .ref a19, .int (iI x9), .int r10, .ref a20, .ref a21, .int (iI x10), .int r11, .ref a22, .int (iI x11), .int (iI x12), .int (iI x13), .int (iI x14)])), (a1, .inl (T 0, 940, .inl f0)), (a3, .inl (T 0, 53, .inl (cI f1))), (a8, .inl (T 1, 12, .inr (.inl h0)))] sz) (qI D [(a0, .inr (11, [.int r0, .ref a1, .int (iI x0), .int (iI x1), .int r1, .int (iI x2), .int r2, .int (iI x3), .int (iI x4), .int r3, .int r4, .int r5, .long y0, .int (iI x5), .ref a2, .ref a3, .ref a4, .ref a5, .ref a6, .ref a7, .ref a8, .ref a9, .ref a10, .ref a11, .int (iI x6), .ref a12, .ref a13, .ref a14, .ref a15, .int (iI x7), .int r6, .int r7, .ref a16, .int r8, .int r9, .ref a17, .ref a18, .int (iI x8), .ref a19, .int (iI x9), .int r10, .ref a20, .ref a21, .int (iI x10), .int r11, .ref a22, .int (iI x11), .int (iI x12), .int (iI x13), .int (iI x14)])), (a1, .inl (T 0, 940, .inl f0)), (a3, .inl (T 0, 53, .inl (cI f1))), (a8, .inl (T 1, 12, .inr (.inl h0)))] sz (fun (v : Int32) (u : Int × Int × Int32 × Int × Int × Int32 × Int32 × Int32 × Int64 × Int × (Int → Int) × (Nat → Int64)) => iI u.1 = v ∧ 0 ≤ u.1 ∧ u.1 ≤ 1 ∧ 0 ≤ u.2.1 ∧ u.2.1 ≤ 940 ∧ 0 ≤ u.2.2.2.1 ∧ u.2.2.2.1 ≤ 4 ∧ (-2147483648) ≤ u.2.2.2.2.1 ∧ u.2.2.2.2.1 ≤ 2147483647 ∧ (-2147483648) ≤ u.2.2.2.2.2.2.2.2.2.1 ∧ u.2.2.2.2.2.2.2.2.2.1 ≤ 2147483647 ∧ rdI u.2.2.2.2.2.2.2.2.2.2.1 ∧ 0 ≤ (u.2.1 - x2) ∧ 0 ≤ ((((u.2.1 - x2) - u.2.2.2.1) + 4) - u.1)) (fun u => [(a0, .inr (11, [.int r0, .ref a1, .int (iI x0), .int (iI x1), .int r1, .int (iI u.2.1), .int u.2.2.1, .int (iI u.2.2.2.1), .int (iI u.2.2.2.2.1), .int u.2.2.2.2.2.1, .int u.2.2.2.2.2.2.1, .int u.2.2.2.2.2.2.2.1, .long u.2.2.2.2.2.2.2.2.1, .int (iI u.2.2.2.2.2.2.2.2.2.1), .ref a2, .ref a3, .ref a4, .ref a5, .ref a6, .ref a7, .ref a8, .ref a9, .ref a10, .ref a11, .int (iI x6), .ref a12, .ref a13, .ref a14, .ref a15, .int (iI x7), .int r6, .int r7, .ref a16, .int r8, .int r9, .ref a17, .ref a18, .int (iI x8), .ref a19, .int (iI x9), .int r10, .ref a20, .ref a21, .int (iI x10), .int r11, .ref a22, .int (iI x11), .int (iI x12), .int (iI x13), .int (iI x14)])), (a1, .inl (T 0, 940, .inl f0)), (a3, .inl (T 0, 53, .inl (cI u.2.2.2.2.2.2.2.2.2.2.1))), (a8, .inl (T 1, 12, .inr (.inl u.2.2.2.2.2.2.2.2.2.2.2)))])) 0 0 (va_A [(a0, .inr (11, [.int r0, .ref a1, .int (iI x0), .int (iI x1), .int r1, .int (iI x2), .int r2, .int (iI x3), .int (iI x4), .int r3, .int r4, .int r5, .long y0, .int (iI x5), .ref a2, .ref a3, .ref a4, .ref a5, .ref a6, .ref a7, .ref a8, .ref a9, .ref a10, .ref a11, .int (iI x6), .ref a12, .ref a13, .ref a14, .ref a15, .int (iI x7), .int r6, .int r7, .ref a16, .int r8, .int r9, .ref a17, .ref a18, .int (iI x8), .ref a19, .int (iI x9), .int r10, .ref a20, .ref a21, .int (iI x10), .int r11, .ref a22, .int (iI x11), .int (iI x12), .int (iI x13), .int (iI x14)])), (a1, .inl (T 0, 940, .inl f0)), (a3, .inl (T 0, 53, .inl (cI f1))), (a8, .inl (T 1, 12, .inr (.inl h0)))] sz) := by
  refine e_Z (by decide) (Nat.le_of_ble_eq_true rfl) ?_
  intro p e s m args below meth c A Q ls M hin w ret hl
  have hx := M.1.1
  have hb := M.1.2.1
  have hl : lv_has ls 2 [(0, .ref a0)] := hl
  refine lv_aload_n hx hb dX12_readPerson_0 rfl (lv_at hl 0 rfl) ?_
  refine lv_iconst (v := iI 0) hx hb dX12_readPerson_1 (by decide +kernel) ?_
  refine lv_bipush (v := iI 9) hx hb dX12_readPerson_2 (by decide +kernel) ?_
  refine k_I (ce := 0) (sl := 0) (rest := []) (wr := [(a8, .inl (T 1, 12, .inr (.inl h0)))]) (r_V (f := 2) [0, 1, 2] M w V_HookedCityModel_186 G1663 G54 (c29_X12_readFirst l D T _ a0 r0 a1 x0 x1 r1 x2 r2 x3 x4 r3 r4 r5 y0 x5 a2 a3 a4 a5 a6 a7 a8 a9 a10 a11 x6 a12 a13 a14 a15 x7 r6 r7 a16 r8 r9 a17 a18 x8 a19 x9 r10 a20 a21 x10 r11 a22 x11 x12 x13 x14 f0 f1 x0_a x0_b x1_a x1_b x2_a x2_b x3_a x3_b x4_a x4_b x5_a x5_b x6_a x6_b x7_a x7_b x8_a x8_b x9_a x9_b x10_a x10_b x11_a x11_b x12_a x12_b x13_a x13_b x14_a x14_b f1_h) 0 clX12 rfl rfl (by decide) rfl hl.1 rfl (Nat.le_of_ble_eq_true rfl) dX12_readPerson_4 (by decide) (by decide) (by decide) (by decide)) w [0, 1, 2] [3] rfl rfl (by decide) (by decide) rfl rfl (fun v u H locs hp w => ?_)
  obtain ⟨z1, z2, fr3, z4, z5, fr6, fr7, fr8, fy9⟩ := u
  have hv : iI z1 = v := hp.1
  subst hv
  have z1_a : 0 ≤ z1 := hp.2.1
  have z1_b : z1 ≤ 1 := hp.2.2.1
  have z2_a : 0 ≤ z2 := hp.2.2.2.1
  have z2_b : z2 ≤ 940 := hp.2.2.2.2.1
  have z4_a : 0 ≤ z4 := hp.2.2.2.2.2.1
  have z4_b : z4 ≤ 4 := hp.2.2.2.2.2.2.1
  have z5_a : (-2147483648) ≤ z5 := hp.2.2.2.2.2.2.2.1
  have z5_b : z5 ≤ 2147483647 := hp.2.2.2.2.2.2.2.2.1
  have ee10 : 0 ≤ (z2 - x2) := hp.2.2.2.2.2.2.2.2.2.1
  have ee11 : 0 ≤ ((((z2 - x2) - z4) + 4) - z1) := hp.2.2.2.2.2.2.2.2.2.2.1
  have pq12 : z1 = 1 → f1 0 ≤ 8 := hp.2.2.2.2.2.2.2.2.2.2.2
  have w : WD D A s.heap [(a8, .inl (T 1, 12, .inr (.inl h0))), (a0, .inr (11, [.int r0, .ref a1, .int (iI x0), .int (iI x1), .int r1, .int (iI z2), .int fr3, .int (iI z4), .int (iI z5), .int fr6, .int fr7, .int fr8, .long fy9, .int (iI x5), .ref a2, .ref a3, .ref a4, .ref a5, .ref a6, .ref a7, .ref a8, .ref a9, .ref a10, .ref a11, .int (iI x6), .ref a12, .ref a13, .ref a14, .ref a15, .int (iI x7), .int r6, .int r7, .ref a16, .int r8, .int r9, .ref a17, .ref a18, .int (iI x8), .ref a19, .int (iI x9), .int r10, .ref a20, .ref a21, .int (iI x10), .int r11, .ref a22, .int (iI x11), .int (iI x12), .int (iI x13), .int (iI x14)])), (a1, .inl (T 0, 940, .inl f0)), (a3, .inl (T 0, 53, .inl (cI f1)))] H locs := w
  refine lv_if_ne (tgt := 12) hx hb dX12_readPerson_7 (by decide) (fun c_13 => ?_) (fun c_13 => ?_)
  · replace c_13 : ¬ z1 = 0 := fun h => c_13 ((iz_eq (Int.le_trans (by decide) z1_a) (Int.le_trans z1_b (by decide))).mpr h)
    refine lv_aload_n hx hb dX12_readPerson_12 rfl (lv_at hl 0 rfl) ?_
    refine r_get (v := .ref a3) M w 1 15 clX12 rfl (by decide) G1478 rfl rfl dX12_readPerson_13 ?_
    refine lv_iconst (v := iI 0) hx hb dX12_readPerson_16 (by decide +kernel) ?_
    refine r_iald (v := iI (f1 0)) M w 3 rfl (iI_in (by decide) (by decide) (by decide)) (cI_at (by omega) (by omega)) dX12_readPerson_17 ?_
    have hh14 : (-2147483648) ≤ (f1 0) ∧ (f1 0) ≤ 2147483647 := f1_h.1 0
    have hh15 : 0 ≤ (f1 0) ∧ (f1 0) ≤ 9 := (f1_h.2.1 0).1 (by omega)
    refine lv_istore_n (lv' := [(1, .int (iI (f1 0))), (0, .ref a0)]) hx hb dX12_readPerson_18 rfl hl (by decide) rfl (fun ls hl => ?_)
    refine lv_aload_n hx hb dX12_readPerson_19 rfl (lv_at hl 1 rfl) ?_
    refine lv_iload_n hx hb dX12_readPerson_20 rfl (lv_at hl 0 rfl) ?_
    refine k_I (ce := 0) (sl := 0) (rest := []) (wr := []) (r_V (f := 3) [1, 2, 3, 0] M w V_HookedCityModel_190 G1671 G56 (c26_X12_readNew l D T _ a0 (f1 0) r0 a1 x0 x1 r1 z2 fr3 z4 z5 fr6 fr7 fr8 fy9 x5 a2 a3 a4 a5 a6 a7 a8 a9 a10 a11 x6 a12 a13 a14 a15 x7 r6 r7 a16 r8 r9 a17 a18 x8 a19 x9 r10 a20 a21 x10 r11 a22 x11 x12 x13 x14 f0 f1 h0 (by omega) (by omega) x0_a x0_b x1_a x1_b z2_a z2_b z4_a z4_b z5_a z5_b x5_a x5_b x6_a x6_b x7_a x7_b x8_a x8_b x9_a x9_b x10_a x10_b x11_a x11_b x12_a x12_b x13_a x13_b x14_a x14_b f1_h) 1 clX12 rfl rfl (by decide) rfl hl.1 rfl (Nat.le_of_ble_eq_true rfl) dX12_readPerson_21 (by decide) (by decide) (by decide) (by decide)) w [1, 2, 3, 0] [] rfl rfl (by decide) (by decide) rfl rfl (fun v u H locs hp w => ?_)
    obtain ⟨z16, z17, fr18, z19, z20, fr21, fr22, fr23, fy24, fh25⟩ := u
    have hv : iI z16 = v := hp.1
    subst hv
    have z16_a : 0 ≤ z16 := hp.2.1
    have z16_b : z16 ≤ 1 := hp.2.2.1
    have z17_a : 0 ≤ z17 := hp.2.2.2.1
    have z17_b : z17 ≤ 940 := hp.2.2.2.2.1
    have z19_a : 0 ≤ z19 := hp.2.2.2.2.2.1
    have z19_b : z19 ≤ 4 := hp.2.2.2.2.2.2.1
    have z20_a : (-2147483648) ≤ z20 := hp.2.2.2.2.2.2.2.1
    have z20_b : z20 ≤ 2147483647 := hp.2.2.2.2.2.2.2.2.1
    have ee26 : 0 ≤ (z17 - z2) := hp.2.2.2.2.2.2.2.2.2.1
    have ee27 : 0 ≤ ((((z17 - z2) - z19) + 4) - z16) := hp.2.2.2.2.2.2.2.2.2.2
    have w : WD D A s.heap [(a0, .inr (11, [.int r0, .ref a1, .int (iI x0), .int (iI x1), .int r1, .int (iI z17), .int fr18, .int (iI z19), .int (iI z20), .int fr21, .int fr22, .int fr23, .long fy24, .int (iI x5), .ref a2, .ref a3, .ref a4, .ref a5, .ref a6, .ref a7, .ref a8, .ref a9, .ref a10, .ref a11, .int (iI x6), .ref a12, .ref a13, .ref a14, .ref a15, .int (iI x7), .int r6, .int r7, .ref a16, .int r8, .int r9, .ref a17, .ref a18, .int (iI x8), .ref a19, .int (iI x9), .int r10, .ref a20, .ref a21, .int (iI x10), .int r11, .ref a22, .int (iI x11), .int (iI x12), .int (iI x13), .int (iI x14)])), (a1, .inl (T 0, 940, .inl f0)), (a3, .inl (T 0, 53, .inl (cI f1))), (a8, .inl (T 1, 12, .inr (.inl fh25)))] H locs := w
    refine lv_if_eq (tgt := 74) hx hb dX12_readPerson_24 (by decide) (fun c_28 => ?_) (fun c_28 => ?_)
    · replace c_28 := (iz_eq (Int.le_trans (by decide) z16_a) (Int.le_trans z16_b (by decide))).mp c_28
      refine lv_iconst (v := iI 0) hx hb dX12_readPerson_74 (by decide +kernel) ?_
      exact ret _ (0, z17, fr18, z19, z20, fr21, fr22, fr23, fy24, x5, f1, fh25) _ _ _ _ _ [0, 1, 2, 3] dX12_readPerson_75 (by decide +kernel) ⟨rfl, (show (0 : Int) ≤ 0 from by decide), (show (0 : Int) ≤ 1 from by decide), z17_a, z17_b, z19_a, z19_b, z20_a, z20_b, x5_a, x5_b, f1_h, (show 0 ≤ (z17 - x2) from by omega), (show 0 ≤ ((((z17 - x2) - z19) + 4) - 0) from by omega)⟩ w (by decide) rfl
    · replace c_28 : ¬ z16 = 0 := fun h => c_28 ((iz_eq (Int.le_trans (by decide) z16_a) (Int.le_trans z16_b (by decide))).mpr h)
      refine lv_aload_n hx hb dX12_readPerson_27 rfl (lv_at hl 1 rfl) ?_
      refine lv_iconst (v := iI 5) hx hb dX12_readPerson_28 (by decide +kernel) ?_
      refine lv_iload_n hx hb dX12_readPerson_29 rfl (lv_at hl 0 rfl) ?_
      refine r_iadd (v := iI (5 + (f1 0))) M (iI_add _ _) dX12_readPerson_30 ?_
      refine lv_aload_n hx hb dX12_readPerson_31 rfl (lv_at hl 1 rfl) ?_
      refine k_I (ce := 0) (sl := 0) (rest := [.int (iI (5 + (f1 0))), .ref a0]) (wr := [(a3, .inl (T 0, 53, .inl (cI f1))), (a8, .inl (T 1, 12, .inr (.inl fh25)))]) (r_V (f := 3) [0, 1] M w V_HookedCityModel_193 G1682 G58 (c22_X12_readKind l D T _ a0 r0 a1 x0 x1 r1 z17 fr18 z19 z20 fr21 fr22 fr23 fy24 x5 a2 a3 a4 a5 a6 a7 a8 a9 a10 a11 x6 a12 a13 a14 a15 x7 r6 r7 a16 r8 r9 a17 a18 x8 a19 x9 r10 a20 a21 x10 r11 a22 x11 x12 x13 x14 f0 x0_a x0_b x1_a x1_b z17_a z17_b z19_a z19_b z20_a z20_b x5_a x5_b x6_a x6_b x7_a x7_b x8_a x8_b x9_a x9_b x10_a x10_b x11_a x11_b x12_a x12_b x13_a x13_b x14_a x14_b) 0 clX12 rfl rfl (by decide) rfl hl.1 rfl (Nat.le_of_ble_eq_true rfl) dX12_readPerson_32 (by decide) (by decide) (by decide) (by decide)) w [0, 1] [2, 3] rfl rfl (by decide) (by decide) rfl rfl (fun v u H locs hp w => ?_)
      obtain ⟨z29, z30, fr31, z32, z33, fr34, fr35, fr36, fy37, z38⟩ := u
      have hv : iI z29 = v := hp.1
      subst hv
      have z29_a : 0 ≤ z29 := hp.2.1
      have z29_b : z29 ≤ 1 := hp.2.2.1
      have z30_a : 0 ≤ z30 := hp.2.2.2.1
      have z30_b : z30 ≤ 940 := hp.2.2.2.2.1
      have z32_a : 0 ≤ z32 := hp.2.2.2.2.2.1
      have z32_b : z32 ≤ 4 := hp.2.2.2.2.2.2.1
      have z33_a : (-2147483648) ≤ z33 := hp.2.2.2.2.2.2.2.1
      have z33_b : z33 ≤ 2147483647 := hp.2.2.2.2.2.2.2.2.1
      have z38_a : (-2147483648) ≤ z38 := hp.2.2.2.2.2.2.2.2.2.1
      have z38_b : z38 ≤ 2147483647 := hp.2.2.2.2.2.2.2.2.2.2.1
      have ee39 : 0 ≤ (z30 - z17) := hp.2.2.2.2.2.2.2.2.2.2.2.1
      have ee40 : 0 ≤ ((((z30 - z17) - z32) + 4) - z29) := hp.2.2.2.2.2.2.2.2.2.2.2.2
      have w : WD D A s.heap [(a3, .inl (T 0, 53, .inl (cI f1))), (a8, .inl (T 1, 12, .inr (.inl fh25))), (a0, .inr (11, [.int r0, .ref a1, .int (iI x0), .int (iI x1), .int r1, .int (iI z30), .int fr31, .int (iI z32), .int (iI z33), .int fr34, .int fr35, .int fr36, .long fy37, .int (iI z38), .ref a2, .ref a3, .ref a4, .ref a5, .ref a6, .ref a7, .ref a8, .ref a9, .ref a10, .ref a11, .int (iI x6), .ref a12, .ref a13, .ref a14, .ref a15, .int (iI x7), .int r6, .int r7, .ref a16, .int r8, .int r9, .ref a17, .ref a18, .int (iI x8), .ref a19, .int (iI x9), .int r10, .ref a20, .ref a21, .int (iI x10), .int r11, .ref a22, .int (iI x11), .int (iI x12), .int (iI x13), .int (iI x14)])), (a1, .inl (T 0, 940, .inl f0))] H locs := w
      refine k_I (ce := 0) (sl := 0) (rest := []) (wr := [(a8, .inl (T 1, 12, .inr (.inl fh25))), (a1, .inl (T 0, 940, .inl f0))]) (r_V (f := 0) [2, 0] M w V_HookedCityModel_196 G1686 G59 (c28_X12_put l D T _ a0 (5 + (f1 0)) z29 r0 a1 x0 x1 r1 z30 fr31 z32 z33 fr34 fr35 fr36 fy37 z38 a2 a3 a4 a5 a6 a7 a8 a9 a10 a11 x6 a12 a13 a14 a15 x7 r6 r7 a16 r8 r9 a17 a18 x8 a19 x9 r10 a20 a21 x10 r11 a22 x11 x12 x13 x14 f1 (by omega) (by omega) z29_a z29_b x0_a x0_b x1_a x1_b z30_a z30_b z32_a z32_b z33_a z33_b z38_a z38_b x6_a x6_b x7_a x7_b x8_a x8_b x9_a x9_b x10_a x10_b x11_a x11_b x12_a x12_b x13_a x13_b x14_a x14_b f1_h (fun h => rd_up f1_h (by omega) (by omega) (by unfold rr; omega) (fun h => absurd h (by omega)) (by omega))) 2 clX12 rfl rfl (by decide) rfl hl.1 rfl (Nat.le_of_ble_eq_true rfl) dX12_readPerson_35 (by decide) (by decide) (by decide) (by decide)) w [2, 0] [1, 3] rfl rfl (by decide) (by decide) rfl rfl (fun v u H locs hp w => ?_)
      obtain ⟨z41, ff42⟩ := u
      have hv : iI z41 = v := hp.1
      subst hv
      have z41_a : 0 ≤ z41 := hp.2.1
      have z41_b : z41 ≤ 1 := hp.2.2.1
      have ff42_h : rdI ff42 := hp.2.2.2.1
      have ee43 : 0 ≤ (z29 - z41) := hp.2.2.2.2.1
      have ee44 : 0 ≤ (z41 - z29) := hp.2.2.2.2.2.1
      have pq45 : ff42 0 = f1 0 := hp.2.2.2.2.2.2.1
      have pq46 : ff42 1 = f1 1 := hp.2.2.2.2.2.2.2
      have w : WD D A s.heap [(a8, .inl (T 1, 12, .inr (.inl fh25))), (a1, .inl (T 0, 940, .inl f0)), (a0, .inr (11, [.int r0, .ref a1, .int (iI x0), .int (iI x1), .int r1, .int (iI z30), .int fr31, .int (iI z32), .int (iI z33), .int fr34, .int fr35, .int fr36, .long fy37, .int (iI z38), .ref a2, .ref a3, .ref a4, .ref a5, .ref a6, .ref a7, .ref a8, .ref a9, .ref a10, .ref a11, .int (iI x6), .ref a12, .ref a13, .ref a14, .ref a15, .int (iI x7), .int r6, .int r7, .ref a16, .int r8, .int r9, .ref a17, .ref a18, .int (iI x8), .ref a19, .int (iI x9), .int r10, .ref a20, .ref a21, .int (iI x10), .int r11, .ref a22, .int (iI x11), .int (iI x12), .int (iI x13), .int (iI x14)])), (a3, .inl (T 0, 53, .inl (cI ff42)))] H locs := w
      refine lv_if_eq (tgt := 74) hx hb dX12_readPerson_38 (by decide) (fun c_47 => ?_) (fun c_47 => ?_)
      · replace c_47 := (iz_eq (Int.le_trans (by decide) z41_a) (Int.le_trans z41_b (by decide))).mp c_47
        refine lv_iconst (v := iI 0) hx hb dX12_readPerson_74 (by decide +kernel) ?_
        exact ret _ (0, z30, fr31, z32, z33, fr34, fr35, fr36, fy37, z38, ff42, fh25) _ _ _ _ _ [2, 1, 3, 0] dX12_readPerson_75 (by decide +kernel) ⟨rfl, (show (0 : Int) ≤ 0 from by decide), (show (0 : Int) ≤ 1 from by decide), z30_a, z30_b, z32_a, z32_b, z33_a, z33_b, z38_a, z38_b, ff42_h, (show 0 ≤ (z30 - x2) from by omega), (show 0 ≤ ((((z30 - x2) - z32) + 4) - 0) from by omega)⟩ w (by decide) rfl
      · replace c_47 : ¬ z41 = 0 := fun h => c_47 ((iz_eq (Int.le_trans (by decide) z41_a) (Int.le_trans z41_b (by decide))).mpr h)
        refine lv_aload_n hx hb dX12_readPerson_41 rfl (lv_at hl 1 rfl) ?_
        refine lv_bipush (v := iI 14) hx hb dX12_readPerson_42 (by decide +kernel) ?_
        refine lv_iload_n hx hb dX12_readPerson_44 rfl (lv_at hl 0 rfl) ?_
        refine r_iadd (v := iI (14 + (f1 0))) M (iI_add _ _) dX12_readPerson_45 ?_
        refine lv_aload_n hx hb dX12_readPerson_46 rfl (lv_at hl 1 rfl) ?_
        refine k_I (ce := 0) (sl := 0) (rest := [.int (iI (14 + (f1 0))), .ref a0]) (wr := [(a8, .inl (T 1, 12, .inr (.inl fh25))), (a3, .inl (T 0, 53, .inl (cI ff42)))]) (r_V (f := 3) [2, 1] M w V_HookedCityModel_193 G1682 G58 (c22_X12_readKind l D T _ a0 r0 a1 x0 x1 r1 z30 fr31 z32 z33 fr34 fr35 fr36 fy37 z38 a2 a3 a4 a5 a6 a7 a8 a9 a10 a11 x6 a12 a13 a14 a15 x7 r6 r7 a16 r8 r9 a17 a18 x8 a19 x9 r10 a20 a21 x10 r11 a22 x11 x12 x13 x14 f0 x0_a x0_b x1_a x1_b z30_a z30_b z32_a z32_b z33_a z33_b z38_a z38_b x6_a x6_b x7_a x7_b x8_a x8_b x9_a x9_b x10_a x10_b x11_a x11_b x12_a x12_b x13_a x13_b x14_a x14_b) 2 clX12 rfl rfl (by decide) rfl hl.1 rfl (Nat.le_of_ble_eq_true rfl) dX12_readPerson_47 (by decide) (by decide) (by decide) (by decide)) w [2, 1] [0, 3] rfl rfl (by decide) (by decide) rfl rfl (fun v u H locs hp w => ?_)
        obtain ⟨z48, z49, fr50, z51, z52, fr53, fr54, fr55, fy56, z57⟩ := u
        have hv : iI z48 = v := hp.1
        subst hv
        have z48_a : 0 ≤ z48 := hp.2.1
        have z48_b : z48 ≤ 1 := hp.2.2.1
        have z49_a : 0 ≤ z49 := hp.2.2.2.1
        have z49_b : z49 ≤ 940 := hp.2.2.2.2.1
        have z51_a : 0 ≤ z51 := hp.2.2.2.2.2.1
        have z51_b : z51 ≤ 4 := hp.2.2.2.2.2.2.1
        have z52_a : (-2147483648) ≤ z52 := hp.2.2.2.2.2.2.2.1
        have z52_b : z52 ≤ 2147483647 := hp.2.2.2.2.2.2.2.2.1
        have z57_a : (-2147483648) ≤ z57 := hp.2.2.2.2.2.2.2.2.2.1
        have z57_b : z57 ≤ 2147483647 := hp.2.2.2.2.2.2.2.2.2.2.1
        have ee58 : 0 ≤ (z49 - z30) := hp.2.2.2.2.2.2.2.2.2.2.2.1
        have ee59 : 0 ≤ ((((z49 - z30) - z51) + 4) - z48) := hp.2.2.2.2.2.2.2.2.2.2.2.2
        have w : WD D A s.heap [(a8, .inl (T 1, 12, .inr (.inl fh25))), (a3, .inl (T 0, 53, .inl (cI ff42))), (a0, .inr (11, [.int r0, .ref a1, .int (iI x0), .int (iI x1), .int r1, .int (iI z49), .int fr50, .int (iI z51), .int (iI z52), .int fr53, .int fr54, .int fr55, .long fy56, .int (iI z57), .ref a2, .ref a3, .ref a4, .ref a5, .ref a6, .ref a7, .ref a8, .ref a9, .ref a10, .ref a11, .int (iI x6), .ref a12, .ref a13, .ref a14, .ref a15, .int (iI x7), .int r6, .int r7, .ref a16, .int r8, .int r9, .ref a17, .ref a18, .int (iI x8), .ref a19, .int (iI x9), .int r10, .ref a20, .ref a21, .int (iI x10), .int r11, .ref a22, .int (iI x11), .int (iI x12), .int (iI x13), .int (iI x14)])), (a1, .inl (T 0, 940, .inl f0))] H locs := w
        refine k_I (ce := 0) (sl := 0) (rest := []) (wr := [(a8, .inl (T 1, 12, .inr (.inl fh25))), (a1, .inl (T 0, 940, .inl f0))]) (r_V (f := 0) [2, 1] M w V_HookedCityModel_196 G1686 G59 (c28_X12_put l D T _ a0 (14 + (f1 0)) z48 r0 a1 x0 x1 r1 z49 fr50 z51 z52 fr53 fr54 fr55 fy56 z57 a2 a3 a4 a5 a6 a7 a8 a9 a10 a11 x6 a12 a13 a14 a15 x7 r6 r7 a16 r8 r9 a17 a18 x8 a19 x9 r10 a20 a21 x10 r11 a22 x11 x12 x13 x14 ff42 (by omega) (by omega) z48_a z48_b x0_a x0_b x1_a x1_b z49_a z49_b z51_a z51_b z52_a z52_b z57_a z57_b x6_a x6_b x7_a x7_b x8_a x8_b x9_a x9_b x10_a x10_b x11_a x11_b x12_a x12_b x13_a x13_b x14_a x14_b ff42_h (fun h => rd_up ff42_h (by omega) (by omega) (by unfold rr; omega) (fun h => absurd h (by omega)) (by omega))) 2 clX12 rfl rfl (by decide) rfl hl.1 rfl (Nat.le_of_ble_eq_true rfl) dX12_readPerson_50 (by decide) (by decide) (by decide) (by decide)) w [2, 1] [0, 3] rfl rfl (by decide) (by decide) rfl rfl (fun v u H locs hp w => ?_)
        obtain ⟨z60, ff61⟩ := u
        have hv : iI z60 = v := hp.1
        subst hv
        have z60_a : 0 ≤ z60 := hp.2.1
        have z60_b : z60 ≤ 1 := hp.2.2.1
        have ff61_h : rdI ff61 := hp.2.2.2.1
        have ee62 : 0 ≤ (z48 - z60) := hp.2.2.2.2.1
        have ee63 : 0 ≤ (z60 - z48) := hp.2.2.2.2.2.1
        have pq64 : ff61 0 = ff42 0 := hp.2.2.2.2.2.2.1
        have pq65 : ff61 1 = ff42 1 := hp.2.2.2.2.2.2.2
        have w : WD D A s.heap [(a8, .inl (T 1, 12, .inr (.inl fh25))), (a1, .inl (T 0, 940, .inl f0)), (a0, .inr (11, [.int r0, .ref a1, .int (iI x0), .int (iI x1), .int r1, .int (iI z49), .int fr50, .int (iI z51), .int (iI z52), .int fr53, .int fr54, .int fr55, .long fy56, .int (iI z57), .ref a2, .ref a3, .ref a4, .ref a5, .ref a6, .ref a7, .ref a8, .ref a9, .ref a10, .ref a11, .int (iI x6), .ref a12, .ref a13, .ref a14, .ref a15, .int (iI x7), .int r6, .int r7, .ref a16, .int r8, .int r9, .ref a17, .ref a18, .int (iI x8), .ref a19, .int (iI x9), .int r10, .ref a20, .ref a21, .int (iI x10), .int r11, .ref a22, .int (iI x11), .int (iI x12), .int (iI x13), .int (iI x14)])), (a3, .inl (T 0, 53, .inl (cI ff61)))] H locs := w
        refine lv_if_eq (tgt := 74) hx hb dX12_readPerson_53 (by decide) (fun c_66 => ?_) (fun c_66 => ?_)
        · replace c_66 := (iz_eq (Int.le_trans (by decide) z60_a) (Int.le_trans z60_b (by decide))).mp c_66
          refine lv_iconst (v := iI 0) hx hb dX12_readPerson_74 (by decide +kernel) ?_
          exact ret _ (0, z49, fr50, z51, z52, fr53, fr54, fr55, fy56, z57, ff61, fh25) _ _ _ _ _ [2, 1, 3, 0] dX12_readPerson_75 (by decide +kernel) ⟨rfl, (show (0 : Int) ≤ 0 from by decide), (show (0 : Int) ≤ 1 from by decide), z49_a, z49_b, z51_a, z51_b, z52_a, z52_b, z57_a, z57_b, ff61_h, (show 0 ≤ (z49 - x2) from by omega), (show 0 ≤ ((((z49 - x2) - z51) + 4) - 0) from by omega)⟩ w (by decide) rfl
        · replace c_66 : ¬ z60 = 0 := fun h => c_66 ((iz_eq (Int.le_trans (by decide) z60_a) (Int.le_trans z60_b (by decide))).mpr h)
          refine lv_aload_n hx hb dX12_readPerson_56 rfl (lv_at hl 1 rfl) ?_
          refine lv_bipush (v := iI 23) hx hb dX12_readPerson_57 (by decide +kernel) ?_
          refine lv_iload_n hx hb dX12_readPerson_59 rfl (lv_at hl 0 rfl) ?_
          refine r_iadd (v := iI (23 + (f1 0))) M (iI_add _ _) dX12_readPerson_60 ?_
          refine lv_aload_n hx hb dX12_readPerson_61 rfl (lv_at hl 1 rfl) ?_
          refine lv_iconst (v := iI 1) hx hb dX12_readPerson_62 (by decide +kernel) ?_
          refine lv_bipush (v := iI 9) hx hb dX12_readPerson_63 (by decide +kernel) ?_
          refine k_I (ce := 0) (sl := 0) (rest := [.int (iI (23 + (f1 0))), .ref a0]) (wr := [(a8, .inl (T 1, 12, .inr (.inl fh25))), (a3, .inl (T 0, 53, .inl (cI ff61)))]) (r_V (f := 2) [2, 1] M w V_HookedCityModel_200 G1690 G60 (c19_X12_readNumber l D T _ a0 1 9 r0 a1 x0 x1 r1 z49 fr50 z51 z52 fr53 fr54 fr55 fy56 z57 a2 a3 a4 a5 a6 a7 a8 a9 a10 a11 x6 a12 a13 a14 a15 x7 r6 r7 a16 r8 r9 a17 a18 x8 a19 x9 r10 a20 a21 x10 r11 a22 x11 x12 x13 x14 f0 (by decide) (by decide) (by decide) (by decide) x0_a x0_b x1_a x1_b z49_a z49_b z51_a z51_b z52_a z52_b z57_a z57_b x6_a x6_b x7_a x7_b x8_a x8_b x9_a x9_b x10_a x10_b x11_a x11_b x12_a x12_b x13_a x13_b x14_a x14_b) 2 clX12 rfl rfl (by decide) rfl hl.1 rfl (Nat.le_of_ble_eq_true rfl) dX12_readPerson_65 (by decide) (by decide) (by decide) (by decide)) w [2, 1] [0, 3] rfl rfl (by decide) (by decide) rfl rfl (fun v u H locs hp w => ?_)
          obtain ⟨z67, z68, fr69, z70, z71, fr72, fr73, fr74, fy75, z76⟩ := u
          have hv : iI z67 = v := hp.1
          subst hv
          have z67_a : 0 ≤ z67 := hp.2.1
          have z67_b : z67 ≤ 1 := hp.2.2.1
          have z68_a : 0 ≤ z68 := hp.2.2.2.1
          have z68_b : z68 ≤ 940 := hp.2.2.2.2.1
          have z70_a : 0 ≤ z70 := hp.2.2.2.2.2.1
          have z70_b : z70 ≤ 4 := hp.2.2.2.2.2.2.1
          have z71_a : (-2147483648) ≤ z71 := hp.2.2.2.2.2.2.2.1
          have z71_b : z71 ≤ 2147483647 := hp.2.2.2.2.2.2.2.2.1
          have z76_a : (-2147483648) ≤ z76 := hp.2.2.2.2.2.2.2.2.2.1
          have z76_b : z76 ≤ 2147483647 := hp.2.2.2.2.2.2.2.2.2.2.1
          have ee77 : 0 ≤ (z68 - z49) := hp.2.2.2.2.2.2.2.2.2.2.2.1
          have ee78 : 0 ≤ ((((z68 - z49) - z70) + 4) - z67) := hp.2.2.2.2.2.2.2.2.2.2.2.2.1
          have ee79 : 0 ≤ (((z76 - 1) + 4294967296) - (z67 * 4294967296)) := hp.2.2.2.2.2.2.2.2.2.2.2.2.2.1
          have ee80 : 0 ≤ (((9 - z76) + 4294967296) - (z67 * 4294967296)) := hp.2.2.2.2.2.2.2.2.2.2.2.2.2.2
          have w : WD D A s.heap [(a8, .inl (T 1, 12, .inr (.inl fh25))), (a3, .inl (T 0, 53, .inl (cI ff61))), (a0, .inr (11, [.int r0, .ref a1, .int (iI x0), .int (iI x1), .int r1, .int (iI z68), .int fr69, .int (iI z70), .int (iI z71), .int fr72, .int fr73, .int fr74, .long fy75, .int (iI z76), .ref a2, .ref a3, .ref a4, .ref a5, .ref a6, .ref a7, .ref a8, .ref a9, .ref a10, .ref a11, .int (iI x6), .ref a12, .ref a13, .ref a14, .ref a15, .int (iI x7), .int r6, .int r7, .ref a16, .int r8, .int r9, .ref a17, .ref a18, .int (iI x8), .ref a19, .int (iI x9), .int r10, .ref a20, .ref a21, .int (iI x10), .int r11, .ref a22, .int (iI x11), .int (iI x12), .int (iI x13), .int (iI x14)])), (a1, .inl (T 0, 940, .inl f0))] H locs := w
          refine k_I (ce := 0) (sl := 0) (rest := []) (wr := [(a8, .inl (T 1, 12, .inr (.inl fh25))), (a1, .inl (T 0, 940, .inl f0))]) (r_V (f := 0) [2, 1] M w V_HookedCityModel_196 G1686 G59 (c28_X12_put l D T _ a0 (23 + (f1 0)) z67 r0 a1 x0 x1 r1 z68 fr69 z70 z71 fr72 fr73 fr74 fy75 z76 a2 a3 a4 a5 a6 a7 a8 a9 a10 a11 x6 a12 a13 a14 a15 x7 r6 r7 a16 r8 r9 a17 a18 x8 a19 x9 r10 a20 a21 x10 r11 a22 x11 x12 x13 x14 ff61 (by omega) (by omega) z67_a z67_b x0_a x0_b x1_a x1_b z68_a z68_b z70_a z70_b z71_a z71_b z76_a z76_b x6_a x6_b x7_a x7_b x8_a x8_b x9_a x9_b x10_a x10_b x11_a x11_b x12_a x12_b x13_a x13_b x14_a x14_b ff61_h (fun h => rd_up ff61_h (by omega) (by omega) (by unfold rr; omega) (fun h => absurd h (by omega)) (by omega))) 2 clX12 rfl rfl (by decide) rfl hl.1 rfl (Nat.le_of_ble_eq_true rfl) dX12_readPerson_68 (by decide) (by decide) (by decide) (by decide)) w [2, 1] [0, 3] rfl rfl (by decide) (by decide) rfl rfl (fun v u H locs hp w => ?_)
          obtain ⟨z81, ff82⟩ := u
          have hv : iI z81 = v := hp.1
          subst hv
          have z81_a : 0 ≤ z81 := hp.2.1
          have z81_b : z81 ≤ 1 := hp.2.2.1
          have ff82_h : rdI ff82 := hp.2.2.2.1
          have ee83 : 0 ≤ (z67 - z81) := hp.2.2.2.2.1
          have ee84 : 0 ≤ (z81 - z67) := hp.2.2.2.2.2.1
          have pq85 : ff82 0 = ff61 0 := hp.2.2.2.2.2.2.1
          have pq86 : ff82 1 = ff61 1 := hp.2.2.2.2.2.2.2
          have w : WD D A s.heap [(a8, .inl (T 1, 12, .inr (.inl fh25))), (a1, .inl (T 0, 940, .inl f0)), (a0, .inr (11, [.int r0, .ref a1, .int (iI x0), .int (iI x1), .int r1, .int (iI z68), .int fr69, .int (iI z70), .int (iI z71), .int fr72, .int fr73, .int fr74, .long fy75, .int (iI z76), .ref a2, .ref a3, .ref a4, .ref a5, .ref a6, .ref a7, .ref a8, .ref a9, .ref a10, .ref a11, .int (iI x6), .ref a12, .ref a13, .ref a14, .ref a15, .int (iI x7), .int r6, .int r7, .ref a16, .int r8, .int r9, .ref a17, .ref a18, .int (iI x8), .ref a19, .int (iI x9), .int r10, .ref a20, .ref a21, .int (iI x10), .int r11, .ref a22, .int (iI x11), .int (iI x12), .int (iI x13), .int (iI x14)])), (a3, .inl (T 0, 53, .inl (cI ff82)))] H locs := w
          refine lv_if_ne (tgt := 76) hx hb dX12_readPerson_71 (by decide) (fun c_87 => ?_) (fun c_87 => ?_)
          · replace c_87 : ¬ z81 = 0 := fun h => c_87 ((iz_eq (Int.le_trans (by decide) z81_a) (Int.le_trans z81_b (by decide))).mpr h)
            refine lv_aload_n hx hb dX12_readPerson_76 rfl (lv_at hl 1 rfl) ?_
            refine r_get (v := .ref a3) M w 2 15 clX12 rfl (by decide) G1478 rfl rfl dX12_readPerson_77 ?_
            refine lv_iconst (v := iI 0) hx hb dX12_readPerson_80 (by decide +kernel) ?_
            refine lv_dup2_11 hx hb dX12_readPerson_81 rfl rfl ?_
            refine r_iald (v := iI (ff82 0)) M w 3 rfl (iI_in (by decide) (by decide) (by decide)) (cI_at (by omega) (by omega)) dX12_readPerson_82 ?_
            have hh88 : (-2147483648) ≤ (ff82 0) ∧ (ff82 0) ≤ 2147483647 := ff82_h.1 0
            have hh89 : 0 ≤ (ff82 0) ∧ (ff82 0) ≤ 9 := (ff82_h.2.1 0).1 (by omega)
            refine lv_iconst (v := iI 1) hx hb dX12_readPerson_83 (by decide +kernel) ?_
            refine r_iadd (v := iI ((ff82 0) + 1)) M (iI_add _ _) dX12_readPerson_84 ?_
            refine r_iast (ws' := [(a8, .inl (T 1, 12, .inr (.inl fh25))), (a1, .inl (T 0, 940, .inl f0)), (a0, .inr (11, [.int r0, .ref a1, .int (iI x0), .int (iI x1), .int r1, .int (iI z68), .int fr69, .int (iI z70), .int (iI z71), .int fr72, .int fr73, .int fr74, .long fy75, .int (iI z76), .ref a2, .ref a3, .ref a4, .ref a5, .ref a6, .ref a7, .ref a8, .ref a9, .ref a10, .ref a11, .int (iI x6), .ref a12, .ref a13, .ref a14, .ref a15, .int (iI x7), .int r6, .int r7, .ref a16, .int r8, .int r9, .ref a17, .ref a18, .int (iI x8), .ref a19, .int (iI x9), .int r10, .ref a20, .ref a21, .int (iI x10), .int r11, .ref a22, .int (iI x11), .int (iI x12), .int (iI x13), .int (iI x14)])), (a3, .inl (T 0, 53, .inl (cI (upz ff82 0 ((ff82 0) + 1)))))]) M w 3 rfl (iI_in (by decide) (by decide) (by decide)) (by rw [cI_up (by omega) (by omega)]; rfl) dX12_readPerson_85 (fun H locs w => ?_)
            refine lv_iconst (v := iI 1) hx hb dX12_readPerson_86 (by decide +kernel) ?_
            exact ret _ (1, z68, fr69, z70, z71, fr72, fr73, fr74, fy75, z76, (upz ff82 0 ((ff82 0) + 1)), fh25) _ _ _ _ _ [2, 1, 3, 0] dX12_readPerson_87 (by decide +kernel) ⟨rfl, (show (0 : Int) ≤ 1 from by decide), (show (1 : Int) ≤ 1 from by decide), z68_a, z68_b, z70_a, z70_b, z71_a, z71_b, z76_a, z76_b, (rd_up ff82_h (by omega) (by omega) (by unfold rr; omega) (fun _ => by omega) (by omega)), (show 0 ≤ (z68 - x2) from by omega), (show 0 ≤ ((((z68 - x2) - z70) + 4) - 1) from by omega)⟩ w (by decide) rfl
          · replace c_87 := (iz_eq (Int.le_trans (by decide) z81_a) (Int.le_trans z81_b (by decide))).mp c_87
            refine lv_iconst (v := iI 0) hx hb dX12_readPerson_74 (by decide +kernel) ?_
            exact ret _ (0, z68, fr69, z70, z71, fr72, fr73, fr74, fy75, z76, ff82, fh25) _ _ _ _ _ [2, 1, 3, 0] dX12_readPerson_75 (by decide +kernel) ⟨rfl, (show (0 : Int) ≤ 0 from by decide), (show (0 : Int) ≤ 1 from by decide), z68_a, z68_b, z70_a, z70_b, z71_a, z71_b, z76_a, z76_b, ff82_h, (show 0 ≤ (z68 - x2) from by omega), (show 0 ≤ ((((z68 - x2) - z70) + 4) - 0) from by omega)⟩ w (by decide) rfl
  · replace c_13 := (iz_eq (Int.le_trans (by decide) z1_a) (Int.le_trans z1_b (by decide))).mp c_13
    refine lv_iconst (v := iI 0) hx hb dX12_readPerson_10 (by decide +kernel) ?_
    exact ret _ (0, z2, fr3, z4, z5, fr6, fr7, fr8, fy9, x5, f1, h0) _ _ _ _ _ [1, 2, 3, 0] dX12_readPerson_11 (by decide +kernel) ⟨rfl, (show (0 : Int) ≤ 0 from by decide), (show (0 : Int) ≤ 1 from by decide), z2_a, z2_b, z4_a, z4_b, z5_a, z5_b, x5_a, x5_b, f1_h, (show 0 ≤ (z2 - x2) from by omega), (show 0 ≤ ((((z2 - x2) - z4) + 4) - 0) from by omega)⟩ w (by decide) rfl
set_option maxRecDepth 100000 in
set_option maxHeartbeats 4000000 in
theorem c31_X12_readFirst (l : Launch) (D : va_G) (T : Nat → ClassId) (sz : Nat) (a0 : Nat) (r0 : Int32) (a1 : Nat) (x0 : Int) (x1 : Int) (r1 : Int32) (x2 : Int) (r2 : Int32) (x3 : Int) (x4 : Int) (r3 : Int32) (r4 : Int32) (r5 : Int32) (y0 : Int64) (x5 : Int) (a2 : Nat) (a3 : Nat) (a4 : Nat) (a5 : Nat) (a6 : Nat) (a7 : Nat) (a8 : Nat) (a9 : Nat) (a10 : Nat) (a11 : Nat) (x6 : Int) (a12 : Nat) (a13 : Nat) (a14 : Nat) (a15 : Nat) (x7 : Int) (r6 : Int32) (r7 : Int32) (a16 : Nat) (r8 : Int32) (r9 : Int32) (a17 : Nat) (a18 : Nat) (x8 : Int) (a19 : Nat) (x9 : Int) (r10 : Int32) (a20 : Nat) (a21 : Nat) (x10 : Int) (r11 : Int32) (a22 : Nat) (x11 : Int) (x12 : Int) (x13 : Int) (x14 : Int) (f0 : Nat → Int32) (f1 : Int → Int) (x0_a : 0 ≤ x0) (x0_b : x0 ≤ 940) (x1_a : 0 ≤ x1) (x1_b : x1 ≤ 940) (x2_a : 0 ≤ x2) (x2_b : x2 ≤ 940) (x3_a : 0 ≤ x3) (x3_b : x3 ≤ 4) (x4_a : (-2147483648) ≤ x4) (x4_b : x4 ≤ 2147483647) (x5_a : (-2147483648) ≤ x5) (x5_b : x5 ≤ 2147483647) (x6_a : 0 ≤ x6) (x6_b : x6 ≤ 8) (x7_a : 0 ≤ x7) (x7_b : x7 ≤ 9) (x8_a : 0 ≤ x8) (x8_b : x8 ≤ 9) (x9_a : 0 ≤ x9) (x9_b : x9 ≤ 64) (x10_a : 0 ≤ x10) (x10_b : x10 ≤ 40) (x11_a : 0 ≤ x11) (x11_b : x11 ≤ 40) (x12_a : 0 ≤ x12) (x12_b : x12 ≤ 20) (x13_a : 0 ≤ x13) (x13_b : x13 ≤ 8) (x14_a : 0 ≤ x14) (x14_b : x14 ≤ 39) (f1_h : rdI f1) : Met l yX12_readFirst (Cond.code yX12_readFirst cX12_readFirst 3 (some .boolean) :: GW) (Rm 2 0 0) (cPre [.ref a0, .int (iI 1), .int (iI 3)] D T [(a0, .inr (11, [.int r0, .ref a1, .int (iI x0), .int (iI x1), .int r1, .int (iI x2), .int r2, .int (iI x3), .int (iI x4), .int r3, .int r4, .int r5, .long y0, .int (iI x5), .ref a2, .ref a3, .ref a4, .ref a5, .ref a6, .ref a7, .ref a8, .ref a9, .ref a10, .ref a11, .int (iI x6), .ref a12, .ref a13, .ref a14, .ref a15, .int (iI x7), .int r6, .int r7, .ref a16, .int r8, .int r9, .ref a17, .ref a18, .int (iI x8), .ref a19, .int (iI x9), .int r10, .ref a20, .ref a21, .int (iI x10), .int r11, .ref a22, .int (iI x11), .int (iI x12), .int (iI x13), .int (iI x14)])), (a1, .inl (T 0, 940, .inl f0)), (a3, .inl (T 0, 53, .inl (cI f1)))] sz) (qI D [(a0, .inr (11, [.int r0, .ref a1, .int (iI x0), .int (iI x1), .int r1, .int (iI x2), .int r2, .int (iI x3), .int (iI x4), .int r3, .int r4, .int r5, .long y0, .int (iI x5), .ref a2, .ref a3, .ref a4, .ref a5, .ref a6, .ref a7, .ref a8, .ref a9, .ref a10, .ref a11, .int (iI x6), .ref a12, .ref a13, .ref a14, .ref a15, .int (iI x7), .int r6, .int r7, .ref a16, .int r8, .int r9, .ref a17, .ref a18, .int (iI x8), .ref a19, .int (iI x9), .int r10, .ref a20, .ref a21, .int (iI x10), .int r11, .ref a22, .int (iI x11), .int (iI x12), .int (iI x13), .int (iI x14)])), (a1, .inl (T 0, 940, .inl f0)), (a3, .inl (T 0, 53, .inl (cI f1)))] sz (fun (v : Int32) (u : Int × Int × Int32 × Int × Int × Int32 × Int32 × Int32 × Int64) => iI u.1 = v ∧ 0 ≤ u.1 ∧ u.1 ≤ 1 ∧ 0 ≤ u.2.1 ∧ u.2.1 ≤ 940 ∧ 0 ≤ u.2.2.2.1 ∧ u.2.2.2.1 ≤ 4 ∧ (-2147483648) ≤ u.2.2.2.2.1 ∧ u.2.2.2.2.1 ≤ 2147483647 ∧ 0 ≤ (u.2.1 - x2) ∧ 0 ≤ ((((u.2.1 - x2) - u.2.2.2.1) + 4) - u.1) ∧ (u.1 = 1 → f1 1 ≤ 2)) (fun u => [(a0, .inr (11, [.int r0, .ref a1, .int (iI x0), .int (iI x1), .int r1, .int (iI u.2.1), .int u.2.2.1, .int (iI u.2.2.2.1), .int (iI u.2.2.2.2.1), .int u.2.2.2.2.2.1, .int u.2.2.2.2.2.2.1, .int u.2.2.2.2.2.2.2.1, .long u.2.2.2.2.2.2.2.2, .int (iI x5), .ref a2, .ref a3, .ref a4, .ref a5, .ref a6, .ref a7, .ref a8, .ref a9, .ref a10, .ref a11, .int (iI x6), .ref a12, .ref a13, .ref a14, .ref a15, .int (iI x7), .int r6, .int r7, .ref a16, .int r8, .int r9, .ref a17, .ref a18, .int (iI x8), .ref a19, .int (iI x9), .int r10, .ref a20, .ref a21, .int (iI x10), .int r11, .ref a22, .int (iI x11), .int (iI x12), .int (iI x13), .int (iI x14)])), (a1, .inl (T 0, 940, .inl f0)), (a3, .inl (T 0, 53, .inl (cI f1)))])) 0 0 (va_A [(a0, .inr (11, [.int r0, .ref a1, .int (iI x0), .int (iI x1), .int r1, .int (iI x2), .int r2, .int (iI x3), .int (iI x4), .int r3, .int r4, .int r5, .long y0, .int (iI x5), .ref a2, .ref a3, .ref a4, .ref a5, .ref a6, .ref a7, .ref a8, .ref a9, .ref a10, .ref a11, .int (iI x6), .ref a12, .ref a13, .ref a14, .ref a15, .int (iI x7), .int r6, .int r7, .ref a16, .int r8, .int r9, .ref a17, .ref a18, .int (iI x8), .ref a19, .int (iI x9), .int r10, .ref a20, .ref a21, .int (iI x10), .int r11, .ref a22, .int (iI x11), .int (iI x12), .int (iI x13), .int (iI x14)])), (a1, .inl (T 0, 940, .inl f0)), (a3, .inl (T 0, 53, .inl (cI f1)))] sz) := by
  refine e_Z (by decide) (Nat.le_of_ble_eq_true rfl) ?_
  intro p e s m args below meth c A Q ls M hin w ret hl
  have hx := M.1.1
  have hb := M.1.2.1
  have hl : lv_has ls 3 [(0, .ref a0), (1, .int (iI 1)), (2, .int (iI 3))] := hl
  refine lv_aload_n hx hb dX12_readFirst_0 rfl (lv_at hl 0 rfl) ?_
  refine r_get (v := .ref a3) M w 0 15 clX12 rfl (by decide) G1478 rfl rfl dX12_readFirst_1 ?_
  refine lv_iload_n hx hb dX12_readFirst_4 rfl (lv_at hl 1 rfl) ?_
  refine r_iald (v := iI (f1 1)) M w 2 rfl (iI_in (by decide) (by decide) (by decide)) (cI_at (by omega) (by omega)) dX12_readFirst_5 ?_
  have hh1 : (-2147483648) ≤ (f1 1) ∧ (f1 1) ≤ 2147483647 := f1_h.1 1
  have hh2 : 0 ≤ (f1 1) ∧ (f1 1) ≤ 3 := (f1_h.2.1 1).2.1 (by omega)
  refine lv_iload_n hx hb dX12_readFirst_6 rfl (lv_at hl 2 rfl) ?_
  refine lv_icmp_ne (tgt := 16) hx hb dX12_readFirst_7 (by decide) (fun c_3 => ?_) (fun c_3 => ?_)
  · replace c_3 : ¬ (f1 1) = 3 := fun h => c_3 ((iI_eq (by omega) (by omega) (by decide) (by decide)).mpr h)
    refine lv_aload_n hx hb dX12_readFirst_16 rfl (lv_at hl 0 rfl) ?_
    refine k_V (ce := 0) (sl := 0) (rest := []) (wr := [(a3, .inl (T 0, 53, .inl (cI f1)))]) (r_V (f := 1) [0, 1] M w V_HookedCityModel_82 G1629 G49 (c12_X12_go l D T _ a0 r0 a1 x0 x1 r1 x2 r2 x3 x4 r3 r4 r5 y0 x5 a2 a3 a4 a5 a6 a7 a8 a9 a10 a11 x6 a12 a13 a14 a15 x7 r6 r7 a16 r8 r9 a17 a18 x8 a19 x9 r10 a20 a21 x10 r11 a22 x11 x12 x13 x14 f0 x0_a x0_b x1_a x1_b x2_a x2_b x3_a x3_b x4_a x4_b x5_a x5_b x6_a x6_b x7_a x7_b x8_a x8_b x9_a x9_b x10_a x10_b x11_a x11_b x12_a x12_b x13_a x13_b x14_a x14_b) 0 clX12 rfl rfl (by decide) rfl hl.1 rfl (Nat.le_of_ble_eq_true rfl) dX12_readFirst_17 (by decide) (by decide) (by decide) (by decide)) w [0, 1] [2] rfl rfl (by decide) (by decide) rfl rfl (fun u H locs hp w => ?_)
    obtain ⟨z4, fr5, z6, z7, fr8, fy9⟩ := u
    have z4_a : 0 ≤ z4 := hp.1
    have z4_b : z4 ≤ 940 := hp.2.1
    have z6_a : 0 ≤ z6 := hp.2.2.1
    have z6_b : z6 ≤ 4 := hp.2.2.2.1
    have z7_a : (-2147483648) ≤ z7 := hp.2.2.2.2.1
    have z7_b : z7 ≤ 2147483647 := hp.2.2.2.2.2.1
    have ee10 : 0 ≤ (z4 - x2) := hp.2.2.2.2.2.2.1
    have ee11 : 0 ≤ (((z4 - x2) - z6) + 3) := hp.2.2.2.2.2.2.2
    have w : WD D A s.heap [(a3, .inl (T 0, 53, .inl (cI f1))), (a0, .inr (11, [.int r0, .ref a1, .int (iI x0), .int (iI x1), .int r1, .int (iI z4), .int fr5, .int (iI z6), .int (iI z7), .int fr8, .int r4, .int r5, .long fy9, .int (iI x5), .ref a2, .ref a3, .ref a4, .ref a5, .ref a6, .ref a7, .ref a8, .ref a9, .ref a10, .ref a11, .int (iI x6), .ref a12, .ref a13, .ref a14, .ref a15, .int (iI x7), .int r6, .int r7, .ref a16, .int r8, .int r9, .ref a17, .ref a18, .int (iI x8), .ref a19, .int (iI x9), .int r10, .ref a20, .ref a21, .int (iI x10), .int r11, .ref a22, .int (iI x11), .int (iI x12), .int (iI x13), .int (iI x14)])), (a1, .inl (T 0, 940, .inl f0))] H locs := w
    refine lv_iconst (v := iI 1) hx hb dX12_readFirst_20 (by decide +kernel) ?_
    exact ret _ (1, z4, fr5, z6, z7, fr8, r4, r5, fy9) _ _ _ _ _ [1, 2, 0] dX12_readFirst_21 (by decide +kernel) ⟨rfl, (show (0 : Int) ≤ 1 from by decide), (show (1 : Int) ≤ 1 from by decide), z4_a, z4_b, z6_a, z6_b, z7_a, z7_b, (show 0 ≤ (z4 - x2) from by omega), (show 0 ≤ ((((z4 - x2) - z6) + 4) - 1) from by omega), (show 1 = 1 → f1 1 ≤ 2 from (fun _ => by omega))⟩ w (by decide) rfl
  · replace c_3 := (iI_eq (by omega) (by omega) (by decide) (by decide)).mp c_3
    refine lv_aload_n hx hb dX12_readFirst_10 rfl (lv_at hl 0 rfl) ?_
    refine lv_iconst (v := iI 4) hx hb dX12_readFirst_11 (by decide +kernel) ?_
    refine k_I (ce := 0) (sl := 0) (rest := []) (wr := [(a1, .inl (T 0, 940, .inl f0)), (a3, .inl (T 0, 53, .inl (cI f1)))]) (r_V (f := 0) [0] M w V_HookedCityModel_72 G1667 G55 (c18_X12_bad l D T _ a0 4 r0 a1 x0 x1 r1 x2 r2 x3 x4 r3 r4 r5 y0 x5 a2 a3 a4 a5 a6 a7 a8 a9 a10 a11 x6 a12 a13 a14 a15 x7 r6 r7 a16 r8 r9 a17 a18 x8 a19 x9 r10 a20 a21 x10 r11 a22 x11 x12 x13 x14 (by decide) (by decide) x0_a x0_b x1_a x1_b x2_a x2_b x3_a x3_b x4_a x4_b x5_a x5_b x6_a x6_b x7_a x7_b x8_a x8_b x9_a x9_b x10_a x10_b x11_a x11_b x12_a x12_b x13_a x13_b x14_a x14_b) 0 clX12 rfl rfl (by decide) rfl hl.1 rfl (Nat.le_of_ble_eq_true rfl) dX12_readFirst_12 (by decide) (by decide) (by decide) (by decide)) w [0] [1, 2] rfl rfl (by decide) (by decide) rfl rfl (fun v u H locs hp w => ?_)
    obtain ⟨z12, fr13, fr14⟩ := u
    have hv : iI z12 = v := hp.1
    subst hv
    have z12_a : 0 ≤ z12 := hp.2.1
    have z12_b : z12 ≤ 1 := hp.2.2.1
    have w : WD D A s.heap [(a1, .inl (T 0, 940, .inl f0)), (a3, .inl (T 0, 53, .inl (cI f1))), (a0, .inr (11, [.int r0, .ref a1, .int (iI x0), .int (iI x1), .int r1, .int (iI x2), .int r2, .int (iI x3), .int (iI x4), .int r3, .int fr13, .int fr14, .long y0, .int (iI x5), .ref a2, .ref a3, .ref a4, .ref a5, .ref a6, .ref a7, .ref a8, .ref a9, .ref a10, .ref a11, .int (iI x6), .ref a12, .ref a13, .ref a14, .ref a15, .int (iI x7), .int r6, .int r7, .ref a16, .int r8, .int r9, .ref a17, .ref a18, .int (iI x8), .ref a19, .int (iI x9), .int r10, .ref a20, .ref a21, .int (iI x10), .int r11, .ref a22, .int (iI x11), .int (iI x12), .int (iI x13), .int (iI x14)]))] H locs := w
    rcases hp.2.2.2 with hr
    · subst hr
      exact ret _ (0, x2, r2, x3, x4, r3, fr13, fr14, y0) _ _ _ _ _ [2, 0, 1] dX12_readFirst_15 (by decide +kernel) ⟨rfl, (show (0 : Int) ≤ 0 from by decide), (show (0 : Int) ≤ 1 from by decide), x2_a, x2_b, x3_a, x3_b, x4_a, x4_b, (show 0 ≤ (x2 - x2) from by omega), (show 0 ≤ ((((x2 - x2) - x3) + 4) - 0) from by omega), (show 0 = 1 → f1 1 ≤ 2 from (fun h => absurd h (by decide)))⟩ w (by decide) rfl
set_option maxRecDepth 100000 in
set_option maxHeartbeats 4000000 in
theorem c32_X12_readMaid (l : Launch) (D : va_G) (T : Nat → ClassId) (sz : Nat) (a0 : Nat) (r0 : Int32) (a1 : Nat) (x0 : Int) (x1 : Int) (r1 : Int32) (x2 : Int) (r2 : Int32) (x3 : Int) (x4 : Int) (r3 : Int32) (r4 : Int32) (r5 : Int32) (y0 : Int64) (x5 : Int) (a2 : Nat) (a3 : Nat) (a4 : Nat) (a5 : Nat) (a6 : Nat) (a7 : Nat) (a8 : Nat) (a9 : Nat) (a10 : Nat) (a11 : Nat) (x6 : Int) (a12 : Nat) (a13 : Nat) (a14 : Nat) (a15 : Nat) (x7 : Int) (r6 : Int32) (r7 : Int32) (a16 : Nat) (r8 : Int32) (r9 : Int32) (a17 : Nat) (a18 : Nat) (x8 : Int) (a19 : Nat) (x9 : Int) (r10 : Int32) (a20 : Nat) (a21 : Nat) (x10 : Int) (r11 : Int32) (a22 : Nat) (x11 : Int) (x12 : Int) (x13 : Int) (x14 : Int) (f0 : Nat → Int32) (f1 : Int → Int) (h0 : Nat → Int64) (x0_a : 0 ≤ x0) (x0_b : x0 ≤ 940) (x1_a : 0 ≤ x1) (x1_b : x1 ≤ 940) (x2_a : 0 ≤ x2) (x2_b : x2 ≤ 940) (x3_a : 0 ≤ x3) (x3_b : x3 ≤ 4) (x4_a : (-2147483648) ≤ x4) (x4_b : x4 ≤ 2147483647) (x5_a : (-2147483648) ≤ x5) (x5_b : x5 ≤ 2147483647) (x6_a : 0 ≤ x6) (x6_b : x6 ≤ 8) (x7_a : 0 ≤ x7) (x7_b : x7 ≤ 9) (x8_a : 0 ≤ x8) (x8_b : x8 ≤ 9) (x9_a : 0 ≤ x9) (x9_b : x9 ≤ 64) (x10_a : 0 ≤ x10) (x10_b : x10 ≤ 40) (x11_a : 0 ≤ x11) (x11_b : x11 ≤ 40) (x12_a : 0 ≤ x12) (x12_b : x12 ≤ 20) (x13_a : 0 ≤ x13) (x13_b : x13 ≤ 8) (x14_a : 0 ≤ x14) (x14_b : x14 ≤ 39) (f1_h : rdI f1) : Met l yX12_readMaid (Cond.code yX12_readMaid cX12_readMaid 2 (some .boolean) :: GW) (Rm 4 0 0) (cPre [.ref a0] D T [(a0, .inr (11, [.int r0, .ref a1, .int (iI x0), .int (iI x1), .int r1, .int (iI x2), .int r2, .int (iI x3), .int (iI x4), .int r3, .int r4, .int r5, .long y0, .int (iI x5), .ref a2, .ref a3, .ref a4, .ref a5, .ref a6, .ref a7, .ref a8, .ref a9, .ref a10, .ref a11, .int (iI x6), .ref a12, .ref a13, .ref a14, .ref a15, .int (iI x7), .int r6, .int r7, .ref a16, .int r8, .int r9, .ref a17, .ref a18, .int (iI x8), .ref a19, .int (iI x9), .int r10, .ref a20, .ref a21, .int (iI x10), .int r11, .ref a22, .int (iI x11), .int (iI x12), .int (iI x13), .int (iI x14)])), (a1, .inl (T 0, 940, .inl f0)), (a3, .inl (T 0, 53, .inl (cI f1))), (a8, .inl (T 1, 12, .inr (.inl h0)))] sz) (qI D [(a0, .inr (11, [.int r0, .ref a1, .int (iI x0), .int (iI x1), .int r1, .int (iI x2), .int r2, .int (iI x3), .int (iI x4), .int r3, .int r4, .int r5, .long y0, .int (iI x5), .ref a2, .ref a3, .ref a4, .ref a5, .ref a6, .ref a7, .ref a8, .ref a9, .ref a10, .ref a11, .int (iI x6), .ref a12, .ref a13, .ref a14, .ref a15, .int (iI x7), .int r6, .int r7, .ref a16, .int r8, .int r9, .ref a17, .ref a18, .int (iI x8), .ref a19, .int (iI x9), .int r10, .ref a20, .ref a21, .int (iI x10), .int r11, .ref a22, .int (iI x11), .int (iI x12), .int (iI x13), .int (iI x14)])), (a1, .inl (T 0, 940, .inl f0)), (a3, .inl (T 0, 53, .inl (cI f1))), (a8, .inl (T 1, 12, .inr (.inl h0)))] sz (fun (v : Int32) (u : Int × Int × Int32 × Int × Int × Int32 × Int32 × Int32 × Int64 × Int × (Int → Int) × (Nat → Int64)) => iI u.1 = v ∧ 0 ≤ u.1 ∧ u.1 ≤ 1 ∧ 0 ≤ u.2.1 ∧ u.2.1 ≤ 940 ∧ 0 ≤ u.2.2.2.1 ∧ u.2.2.2.1 ≤ 4 ∧ (-2147483648) ≤ u.2.2.2.2.1 ∧ u.2.2.2.2.1 ≤ 2147483647 ∧ (-2147483648) ≤ u.2.2.2.2.2.2.2.2.2.1 ∧ u.2.2.2.2.2.2.2.2.2.1 ≤ 2147483647 ∧ rdI u.2.2.2.2.2.2.2.2.2.2.1 ∧ 0 ≤ (u.2.1 - x2) ∧ 0 ≤ ((((u.2.1 - x2) - u.2.2.2.1) + 4) - u.1)) (fun u => [(a0, .inr (11, [.int r0, .ref a1, .int (iI x0), .int (iI x1), .int r1, .int (iI u.2.1), .int u.2.2.1, .int (iI u.2.2.2.1), .int (iI u.2.2.2.2.1), .int u.2.2.2.2.2.1, .int u.2.2.2.2.2.2.1, .int u.2.2.2.2.2.2.2.1, .long u.2.2.2.2.2.2.2.2.1, .int (iI u.2.2.2.2.2.2.2.2.2.1), .ref a2, .ref a3, .ref a4, .ref a5, .ref a6, .ref a7, .ref a8, .ref a9, .ref a10, .ref a11, .int (iI x6), .ref a12, .ref a13, .ref a14, .ref a15, .int (iI x7), .int r6, .int r7, .ref a16, .int r8, .int r9, .ref a17, .ref a18, .int (iI x8), .ref a19, .int (iI x9), .int r10, .ref a20, .ref a21, .int (iI x10), .int r11, .ref a22, .int (iI x11), .int (iI x12), .int (iI x13), .int (iI x14)])), (a1, .inl (T 0, 940, .inl f0)), (a3, .inl (T 0, 53, .inl (cI u.2.2.2.2.2.2.2.2.2.2.1))), (a8, .inl (T 1, 12, .inr (.inl u.2.2.2.2.2.2.2.2.2.2.2)))])) 0 0 (va_A [(a0, .inr (11, [.int r0, .ref a1, .int (iI x0), .int (iI x1), .int r1, .int (iI x2), .int r2, .int (iI x3), .int (iI x4), .int r3, .int r4, .int r5, .long y0, .int (iI x5), .ref a2, .ref a3, .ref a4, .ref a5, .ref a6, .ref a7, .ref a8, .ref a9, .ref a10, .ref a11, .int (iI x6), .ref a12, .ref a13, .ref a14, .ref a15, .int (iI x7), .int r6, .int r7, .ref a16, .int r8, .int r9, .ref a17, .ref a18, .int (iI x8), .ref a19, .int (iI x9), .int r10, .ref a20, .ref a21, .int (iI x10), .int r11, .ref a22, .int (iI x11), .int (iI x12), .int (iI x13), .int (iI x14)])), (a1, .inl (T 0, 940, .inl f0)), (a3, .inl (T 0, 53, .inl (cI f1))), (a8, .inl (T 1, 12, .inr (.inl h0)))] sz) := by
  refine e_Z (by decide) (Nat.le_of_ble_eq_true rfl) ?_
  intro p e s m args below meth c A Q ls M hin w ret hl
  have hx := M.1.1
  have hb := M.1.2.1
  have hl : lv_has ls 2 [(0, .ref a0)] := hl
  refine lv_aload_n hx hb dX12_readMaid_0 rfl (lv_at hl 0 rfl) ?_
  refine lv_iconst (v := iI 1) hx hb dX12_readMaid_1 (by decide +kernel) ?_
  refine lv_iconst (v := iI 3) hx hb dX12_readMaid_2 (by decide +kernel) ?_
  refine k_I (ce := 0) (sl := 0) (rest := []) (wr := [(a8, .inl (T 1, 12, .inr (.inl h0)))]) (r_V (f := 2) [0, 1, 2] M w V_HookedCityModel_186 G1663 G54 (c31_X12_readFirst l D T _ a0 r0 a1 x0 x1 r1 x2 r2 x3 x4 r3 r4 r5 y0 x5 a2 a3 a4 a5 a6 a7 a8 a9 a10 a11 x6 a12 a13 a14 a15 x7 r6 r7 a16 r8 r9 a17 a18 x8 a19 x9 r10 a20 a21 x10 r11 a22 x11 x12 x13 x14 f0 f1 x0_a x0_b x1_a x1_b x2_a x2_b x3_a x3_b x4_a x4_b x5_a x5_b x6_a x6_b x7_a x7_b x8_a x8_b x9_a x9_b x10_a x10_b x11_a x11_b x12_a x12_b x13_a x13_b x14_a x14_b f1_h) 0 clX12 rfl rfl (by decide) rfl hl.1 rfl (Nat.le_of_ble_eq_true rfl) dX12_readMaid_3 (by decide) (by decide) (by decide) (by decide)) w [0, 1, 2] [3] rfl rfl (by decide) (by decide) rfl rfl (fun v u H locs hp w => ?_)
  obtain ⟨z1, z2, fr3, z4, z5, fr6, fr7, fr8, fy9⟩ := u
  have hv : iI z1 = v := hp.1
  subst hv
  have z1_a : 0 ≤ z1 := hp.2.1
  have z1_b : z1 ≤ 1 := hp.2.2.1
  have z2_a : 0 ≤ z2 := hp.2.2.2.1
  have z2_b : z2 ≤ 940 := hp.2.2.2.2.1
  have z4_a : 0 ≤ z4 := hp.2.2.2.2.2.1
  have z4_b : z4 ≤ 4 := hp.2.2.2.2.2.2.1
  have z5_a : (-2147483648) ≤ z5 := hp.2.2.2.2.2.2.2.1
  have z5_b : z5 ≤ 2147483647 := hp.2.2.2.2.2.2.2.2.1
  have ee10 : 0 ≤ (z2 - x2) := hp.2.2.2.2.2.2.2.2.2.1
  have ee11 : 0 ≤ ((((z2 - x2) - z4) + 4) - z1) := hp.2.2.2.2.2.2.2.2.2.2.1
  have pq12 : z1 = 1 → f1 1 ≤ 2 := hp.2.2.2.2.2.2.2.2.2.2.2
  have w : WD D A s.heap [(a8, .inl (T 1, 12, .inr (.inl h0))), (a0, .inr (11, [.int r0, .ref a1, .int (iI x0), .int (iI x1), .int r1, .int (iI z2), .int fr3, .int (iI z4), .int (iI z5), .int fr6, .int fr7, .int fr8, .long fy9, .int (iI x5), .ref a2, .ref a3, .ref a4, .ref a5, .ref a6, .ref a7, .ref a8, .ref a9, .ref a10, .ref a11, .int (iI x6), .ref a12, .ref a13, .ref a14, .ref a15, .int (iI x7), .int r6, .int r7, .ref a16, .int r8, .int r9, .ref a17, .ref a18, .int (iI x8), .ref a19, .int (iI x9), .int r10, .ref a20, .ref a21, .int (iI x10), .int r11, .ref a22, .int (iI x11), .int (iI x12), .int (iI x13), .int (iI x14)])), (a1, .inl (T 0, 940, .inl f0)), (a3, .inl (T 0, 53, .inl (cI f1)))] H locs := w
  refine lv_if_ne (tgt := 11) hx hb dX12_readMaid_6 (by decide) (fun c_13 => ?_) (fun c_13 => ?_)
  · replace c_13 : ¬ z1 = 0 := fun h => c_13 ((iz_eq (Int.le_trans (by decide) z1_a) (Int.le_trans z1_b (by decide))).mpr h)
    refine lv_aload_n hx hb dX12_readMaid_11 rfl (lv_at hl 0 rfl) ?_
    refine r_get (v := .ref a3) M w 1 15 clX12 rfl (by decide) G1478 rfl rfl dX12_readMaid_12 ?_
    refine lv_iconst (v := iI 1) hx hb dX12_readMaid_15 (by decide +kernel) ?_
    refine r_iald (v := iI (f1 1)) M w 3 rfl (iI_in (by decide) (by decide) (by decide)) (cI_at (by omega) (by omega)) dX12_readMaid_16 ?_
    have hh14 : (-2147483648) ≤ (f1 1) ∧ (f1 1) ≤ 2147483647 := f1_h.1 1
    have hh15 : 0 ≤ (f1 1) ∧ (f1 1) ≤ 3 := (f1_h.2.1 1).2.1 (by omega)
    refine lv_istore_n (lv' := [(1, .int (iI (f1 1))), (0, .ref a0)]) hx hb dX12_readMaid_17 rfl hl (by decide) rfl (fun ls hl => ?_)
    refine lv_aload_n hx hb dX12_readMaid_18 rfl (lv_at hl 1 rfl) ?_
    refine lv_bipush (v := iI 9) hx hb dX12_readMaid_19 (by decide +kernel) ?_
    refine lv_iload_n hx hb dX12_readMaid_21 rfl (lv_at hl 0 rfl) ?_
    refine r_iadd (v := iI (9 + (f1 1))) M (iI_add _ _) dX12_readMaid_22 ?_
    refine k_I (ce := 0) (sl := 0) (rest := []) (wr := []) (r_V (f := 3) [1, 2, 3, 0] M w V_HookedCityModel_190 G1671 G56 (c26_X12_readNew l D T _ a0 (9 + (f1 1)) r0 a1 x0 x1 r1 z2 fr3 z4 z5 fr6 fr7 fr8 fy9 x5 a2 a3 a4 a5 a6 a7 a8 a9 a10 a11 x6 a12 a13 a14 a15 x7 r6 r7 a16 r8 r9 a17 a18 x8 a19 x9 r10 a20 a21 x10 r11 a22 x11 x12 x13 x14 f0 f1 h0 (by omega) (by omega) x0_a x0_b x1_a x1_b z2_a z2_b z4_a z4_b z5_a z5_b x5_a x5_b x6_a x6_b x7_a x7_b x8_a x8_b x9_a x9_b x10_a x10_b x11_a x11_b x12_a x12_b x13_a x13_b x14_a x14_b f1_h) 1 clX12 rfl rfl (by decide) rfl hl.1 rfl (Nat.le_of_ble_eq_true rfl) dX12_readMaid_23 (by decide) (by decide) (by decide) (by decide)) w [1, 2, 3, 0] [] rfl rfl (by decide) (by decide) rfl rfl (fun v u H locs hp w => ?_)
    obtain ⟨z16, z17, fr18, z19, z20, fr21, fr22, fr23, fy24, fh25⟩ := u
    have hv : iI z16 = v := hp.1
    subst hv
    have z16_a : 0 ≤ z16 := hp.2.1
    have z16_b : z16 ≤ 1 := hp.2.2.1
    have z17_a : 0 ≤ z17 := hp.2.2.2.1
    have z17_b : z17 ≤ 940 := hp.2.2.2.2.1
    have z19_a : 0 ≤ z19 := hp.2.2.2.2.2.1
    have z19_b : z19 ≤ 4 := hp.2.2.2.2.2.2.1
    have z20_a : (-2147483648) ≤ z20 := hp.2.2.2.2.2.2.2.1
    have z20_b : z20 ≤ 2147483647 := hp.2.2.2.2.2.2.2.2.1
    have ee26 : 0 ≤ (z17 - z2) := hp.2.2.2.2.2.2.2.2.2.1
    have ee27 : 0 ≤ ((((z17 - z2) - z19) + 4) - z16) := hp.2.2.2.2.2.2.2.2.2.2
    have w : WD D A s.heap [(a0, .inr (11, [.int r0, .ref a1, .int (iI x0), .int (iI x1), .int r1, .int (iI z17), .int fr18, .int (iI z19), .int (iI z20), .int fr21, .int fr22, .int fr23, .long fy24, .int (iI x5), .ref a2, .ref a3, .ref a4, .ref a5, .ref a6, .ref a7, .ref a8, .ref a9, .ref a10, .ref a11, .int (iI x6), .ref a12, .ref a13, .ref a14, .ref a15, .int (iI x7), .int r6, .int r7, .ref a16, .int r8, .int r9, .ref a17, .ref a18, .int (iI x8), .ref a19, .int (iI x9), .int r10, .ref a20, .ref a21, .int (iI x10), .int r11, .ref a22, .int (iI x11), .int (iI x12), .int (iI x13), .int (iI x14)])), (a1, .inl (T 0, 940, .inl f0)), (a3, .inl (T 0, 53, .inl (cI f1))), (a8, .inl (T 1, 12, .inr (.inl fh25)))] H locs := w
    refine lv_if_eq (tgt := 47) hx hb dX12_readMaid_26 (by decide) (fun c_28 => ?_) (fun c_28 => ?_)
    · replace c_28 := (iz_eq (Int.le_trans (by decide) z16_a) (Int.le_trans z16_b (by decide))).mp c_28
      refine lv_iconst (v := iI 0) hx hb dX12_readMaid_47 (by decide +kernel) ?_
      exact ret _ (0, z17, fr18, z19, z20, fr21, fr22, fr23, fy24, x5, f1, fh25) _ _ _ _ _ [0, 1, 2, 3] dX12_readMaid_48 (by decide +kernel) ⟨rfl, (show (0 : Int) ≤ 0 from by decide), (show (0 : Int) ≤ 1 from by decide), z17_a, z17_b, z19_a, z19_b, z20_a, z20_b, x5_a, x5_b, f1_h, (show 0 ≤ (z17 - x2) from by omega), (show 0 ≤ ((((z17 - x2) - z19) + 4) - 0) from by omega)⟩ w (by decide) rfl
    · replace c_28 : ¬ z16 = 0 := fun h => c_28 ((iz_eq (Int.le_trans (by decide) z16_a) (Int.le_trans z16_b (by decide))).mpr h)
      refine lv_aload_n hx hb dX12_readMaid_29 rfl (lv_at hl 1 rfl) ?_
      refine lv_bipush (v := iI 41) hx hb dX12_readMaid_30 (by decide +kernel) ?_
      refine lv_iload_n hx hb dX12_readMaid_32 rfl (lv_at hl 0 rfl) ?_
      refine r_iadd (v := iI (41 + (f1 1))) M (iI_add _ _) dX12_readMaid_33 ?_
      refine lv_aload_n hx hb dX12_readMaid_34 rfl (lv_at hl 1 rfl) ?_
      refine lv_iconst (v := iI 1) hx hb dX12_readMaid_35 (by decide +kernel) ?_
      refine lv_bipush (v := iI 9) hx hb dX12_readMaid_36 (by decide +kernel) ?_
      refine k_I (ce := 0) (sl := 0) (rest := [.int (iI (41 + (f1 1))), .ref a0]) (wr := [(a3, .inl (T 0, 53, .inl (cI f1))), (a8, .inl (T 1, 12, .inr (.inl fh25)))]) (r_V (f := 2) [0, 1] M w V_HookedCityModel_200 G1690 G60 (c19_X12_readNumber l D T _ a0 1 9 r0 a1 x0 x1 r1 z17 fr18 z19 z20 fr21 fr22 fr23 fy24 x5 a2 a3 a4 a5 a6 a7 a8 a9 a10 a11 x6 a12 a13 a14 a15 x7 r6 r7 a16 r8 r9 a17 a18 x8 a19 x9 r10 a20 a21 x10 r11 a22 x11 x12 x13 x14 f0 (by decide) (by decide) (by decide) (by decide) x0_a x0_b x1_a x1_b z17_a z17_b z19_a z19_b z20_a z20_b x5_a x5_b x6_a x6_b x7_a x7_b x8_a x8_b x9_a x9_b x10_a x10_b x11_a x11_b x12_a x12_b x13_a x13_b x14_a x14_b) 0 clX12 rfl rfl (by decide) rfl hl.1 rfl (Nat.le_of_ble_eq_true rfl) dX12_readMaid_38 (by decide) (by decide) (by decide) (by decide)) w [0, 1] [2, 3] rfl rfl (by decide) (by decide) rfl rfl (fun v u H locs hp w => ?_)
      obtain ⟨z29, z30, fr31, z32, z33, fr34, fr35, fr36, fy37, z38⟩ := u
      have hv : iI z29 = v := hp.1
      subst hv
      have z29_a : 0 ≤ z29 := hp.2.1
      have z29_b : z29 ≤ 1 := hp.2.2.1
      have z30_a : 0 ≤ z30 := hp.2.2.2.1
      have z30_b : z30 ≤ 940 := hp.2.2.2.2.1
      have z32_a : 0 ≤ z32 := hp.2.2.2.2.2.1
      have z32_b : z32 ≤ 4 := hp.2.2.2.2.2.2.1
      have z33_a : (-2147483648) ≤ z33 := hp.2.2.2.2.2.2.2.1
      have z33_b : z33 ≤ 2147483647 := hp.2.2.2.2.2.2.2.2.1
      have z38_a : (-2147483648) ≤ z38 := hp.2.2.2.2.2.2.2.2.2.1
      have z38_b : z38 ≤ 2147483647 := hp.2.2.2.2.2.2.2.2.2.2.1
      have ee39 : 0 ≤ (z30 - z17) := hp.2.2.2.2.2.2.2.2.2.2.2.1
      have ee40 : 0 ≤ ((((z30 - z17) - z32) + 4) - z29) := hp.2.2.2.2.2.2.2.2.2.2.2.2.1
      have ee41 : 0 ≤ (((z38 - 1) + 4294967296) - (z29 * 4294967296)) := hp.2.2.2.2.2.2.2.2.2.2.2.2.2.1
      have ee42 : 0 ≤ (((9 - z38) + 4294967296) - (z29 * 4294967296)) := hp.2.2.2.2.2.2.2.2.2.2.2.2.2.2
      have w : WD D A s.heap [(a3, .inl (T 0, 53, .inl (cI f1))), (a8, .inl (T 1, 12, .inr (.inl fh25))), (a0, .inr (11, [.int r0, .ref a1, .int (iI x0), .int (iI x1), .int r1, .int (iI z30), .int fr31, .int (iI z32), .int (iI z33), .int fr34, .int fr35, .int fr36, .long fy37, .int (iI z38), .ref a2, .ref a3, .ref a4, .ref a5, .ref a6, .ref a7, .ref a8, .ref a9, .ref a10, .ref a11, .int (iI x6), .ref a12, .ref a13, .ref a14, .ref a15, .int (iI x7), .int r6, .int r7, .ref a16, .int r8, .int r9, .ref a17, .ref a18, .int (iI x8), .ref a19, .int (iI x9), .int r10, .ref a20, .ref a21, .int (iI x10), .int r11, .ref a22, .int (iI x11), .int (iI x12), .int (iI x13), .int (iI x14)])), (a1, .inl (T 0, 940, .inl f0))] H locs := w
      refine k_I (ce := 0) (sl := 0) (rest := []) (wr := [(a8, .inl (T 1, 12, .inr (.inl fh25))), (a1, .inl (T 0, 940, .inl f0))]) (r_V (f := 0) [2, 0] M w V_HookedCityModel_196 G1686 G59 (c28_X12_put l D T _ a0 (41 + (f1 1)) z29 r0 a1 x0 x1 r1 z30 fr31 z32 z33 fr34 fr35 fr36 fy37 z38 a2 a3 a4 a5 a6 a7 a8 a9 a10 a11 x6 a12 a13 a14 a15 x7 r6 r7 a16 r8 r9 a17 a18 x8 a19 x9 r10 a20 a21 x10 r11 a22 x11 x12 x13 x14 f1 (by omega) (by omega) z29_a z29_b x0_a x0_b x1_a x1_b z30_a z30_b z32_a z32_b z33_a z33_b z38_a z38_b x6_a x6_b x7_a x7_b x8_a x8_b x9_a x9_b x10_a x10_b x11_a x11_b x12_a x12_b x13_a x13_b x14_a x14_b f1_h (fun h => rd_up f1_h (by omega) (by omega) (by unfold rr; omega) (fun h => absurd h (by omega)) (by omega))) 2 clX12 rfl rfl (by decide) rfl hl.1 rfl (Nat.le_of_ble_eq_true rfl) dX12_readMaid_41 (by decide) (by decide) (by decide) (by decide)) w [2, 0] [1, 3] rfl rfl (by decide) (by decide) rfl rfl (fun v u H locs hp w => ?_)
      obtain ⟨z43, ff44⟩ := u
      have hv : iI z43 = v := hp.1
      subst hv
      have z43_a : 0 ≤ z43 := hp.2.1
      have z43_b : z43 ≤ 1 := hp.2.2.1
      have ff44_h : rdI ff44 := hp.2.2.2.1
      have ee45 : 0 ≤ (z29 - z43) := hp.2.2.2.2.1
      have ee46 : 0 ≤ (z43 - z29) := hp.2.2.2.2.2.1
      have pq47 : ff44 0 = f1 0 := hp.2.2.2.2.2.2.1
      have pq48 : ff44 1 = f1 1 := hp.2.2.2.2.2.2.2
      have w : WD D A s.heap [(a8, .inl (T 1, 12, .inr (.inl fh25))), (a1, .inl (T 0, 940, .inl f0)), (a0, .inr (11, [.int r0, .ref a1, .int (iI x0), .int (iI x1), .int r1, .int (iI z30), .int fr31, .int (iI z32), .int (iI z33), .int fr34, .int fr35, .int fr36, .long fy37, .int (iI z38), .ref a2, .ref a3, .ref a4, .ref a5, .ref a6, .ref a7, .ref a8, .ref a9, .ref a10, .ref a11, .int (iI x6), .ref a12, .ref a13, .ref a14, .ref a15, .int (iI x7), .int r6, .int r7, .ref a16, .int r8, .int r9, .ref a17, .ref a18, .int (iI x8), .ref a19, .int (iI x9), .int r10, .ref a20, .ref a21, .int (iI x10), .int r11, .ref a22, .int (iI x11), .int (iI x12), .int (iI x13), .int (iI x14)])), (a3, .inl (T 0, 53, .inl (cI ff44)))] H locs := w
      refine lv_if_ne (tgt := 49) hx hb dX12_readMaid_44 (by decide) (fun c_49 => ?_) (fun c_49 => ?_)
      · replace c_49 : ¬ z43 = 0 := fun h => c_49 ((iz_eq (Int.le_trans (by decide) z43_a) (Int.le_trans z43_b (by decide))).mpr h)
        refine lv_aload_n hx hb dX12_readMaid_49 rfl (lv_at hl 1 rfl) ?_
        refine r_get (v := .ref a3) M w 2 15 clX12 rfl (by decide) G1478 rfl rfl dX12_readMaid_50 ?_
        refine lv_iconst (v := iI 1) hx hb dX12_readMaid_53 (by decide +kernel) ?_
        refine lv_dup2_11 hx hb dX12_readMaid_54 rfl rfl ?_
        refine r_iald (v := iI (ff44 1)) M w 3 rfl (iI_in (by decide) (by decide) (by decide)) (cI_at (by omega) (by omega)) dX12_readMaid_55 ?_
        have hh50 : (-2147483648) ≤ (ff44 1) ∧ (ff44 1) ≤ 2147483647 := ff44_h.1 1
        have hh51 : 0 ≤ (ff44 1) ∧ (ff44 1) ≤ 3 := (ff44_h.2.1 1).2.1 (by omega)
        refine lv_iconst (v := iI 1) hx hb dX12_readMaid_56 (by decide +kernel) ?_
        refine r_iadd (v := iI ((ff44 1) + 1)) M (iI_add _ _) dX12_readMaid_57 ?_
        refine r_iast (ws' := [(a8, .inl (T 1, 12, .inr (.inl fh25))), (a1, .inl (T 0, 940, .inl f0)), (a0, .inr (11, [.int r0, .ref a1, .int (iI x0), .int (iI x1), .int r1, .int (iI z30), .int fr31, .int (iI z32), .int (iI z33), .int fr34, .int fr35, .int fr36, .long fy37, .int (iI z38), .ref a2, .ref a3, .ref a4, .ref a5, .ref a6, .ref a7, .ref a8, .ref a9, .ref a10, .ref a11, .int (iI x6), .ref a12, .ref a13, .ref a14, .ref a15, .int (iI x7), .int r6, .int r7, .ref a16, .int r8, .int r9, .ref a17, .ref a18, .int (iI x8), .ref a19, .int (iI x9), .int r10, .ref a20, .ref a21, .int (iI x10), .int r11, .ref a22, .int (iI x11), .int (iI x12), .int (iI x13), .int (iI x14)])), (a3, .inl (T 0, 53, .inl (cI (upz ff44 1 ((ff44 1) + 1)))))]) M w 3 rfl (iI_in (by decide) (by decide) (by decide)) (by rw [cI_up (by omega) (by omega)]; rfl) dX12_readMaid_58 (fun H locs w => ?_)
        refine lv_iconst (v := iI 1) hx hb dX12_readMaid_59 (by decide +kernel) ?_
        exact ret _ (1, z30, fr31, z32, z33, fr34, fr35, fr36, fy37, z38, (upz ff44 1 ((ff44 1) + 1)), fh25) _ _ _ _ _ [2, 1, 3, 0] dX12_readMaid_60 (by decide +kernel) ⟨rfl, (show (0 : Int) ≤ 1 from by decide), (show (1 : Int) ≤ 1 from by decide), z30_a, z30_b, z32_a, z32_b, z33_a, z33_b, z38_a, z38_b, (rd_up ff44_h (by omega) (by omega) (by unfold rr; omega) (fun h => absurd h (by omega)) (by omega)), (show 0 ≤ (z30 - x2) from by omega), (show 0 ≤ ((((z30 - x2) - z32) + 4) - 1) from by omega)⟩ w (by decide) rfl
      · replace c_49 := (iz_eq (Int.le_trans (by decide) z43_a) (Int.le_trans z43_b (by decide))).mp c_49
        refine lv_iconst (v := iI 0) hx hb dX12_readMaid_47 (by decide +kernel) ?_
        exact ret _ (0, z30, fr31, z32, z33, fr34, fr35, fr36, fy37, z38, ff44, fh25) _ _ _ _ _ [2, 1, 3, 0] dX12_readMaid_48 (by decide +kernel) ⟨rfl, (show (0 : Int) ≤ 0 from by decide), (show (0 : Int) ≤ 1 from by decide), z30_a, z30_b, z32_a, z32_b, z33_a, z33_b, z38_a, z38_b, ff44_h, (show 0 ≤ (z30 - x2) from by omega), (show 0 ≤ ((((z30 - x2) - z32) + 4) - 0) from by omega)⟩ w (by decide) rfl
  · replace c_13 := (iz_eq (Int.le_trans (by decide) z1_a) (Int.le_trans z1_b (by decide))).mp c_13
    refine lv_iconst (v := iI 0) hx hb dX12_readMaid_9 (by decide +kernel) ?_
    exact ret _ (0, z2, fr3, z4, z5, fr6, fr7, fr8, fy9, x5, f1, h0) _ _ _ _ _ [1, 2, 3, 0] dX12_readMaid_10 (by decide +kernel) ⟨rfl, (show (0 : Int) ≤ 0 from by decide), (show (0 : Int) ≤ 1 from by decide), z2_a, z2_b, z4_a, z4_b, z5_a, z5_b, x5_a, x5_b, f1_h, (show 0 ≤ (z2 - x2) from by omega), (show 0 ≤ ((((z2 - x2) - z4) + 4) - 0) from by omega)⟩ w (by decide) rfl
set_option maxRecDepth 100000 in
set_option maxHeartbeats 4000000 in
theorem c33_X12_readStreet (l : Launch) (D : va_G) (T : Nat → ClassId) (sz : Nat) (a0 : Nat) (r0 : Int32) (a1 : Nat) (x0 : Int) (x1 : Int) (r1 : Int32) (x2 : Int) (r2 : Int32) (x3 : Int) (x4 : Int) (r3 : Int32) (r4 : Int32) (r5 : Int32) (y0 : Int64) (x5 : Int) (a2 : Nat) (a3 : Nat) (a4 : Nat) (a5 : Nat) (a6 : Nat) (a7 : Nat) (a8 : Nat) (a9 : Nat) (a10 : Nat) (a11 : Nat) (x6 : Int) (a12 : Nat) (a13 : Nat) (a14 : Nat) (a15 : Nat) (x7 : Int) (r6 : Int32) (r7 : Int32) (a16 : Nat) (r8 : Int32) (r9 : Int32) (a17 : Nat) (a18 : Nat) (x8 : Int) (a19 : Nat) (x9 : Int) (r10 : Int32) (a20 : Nat) (a21 : Nat) (x10 : Int) (r11 : Int32) (a22 : Nat) (x11 : Int) (x12 : Int) (x13 : Int) (x14 : Int) (f0 : Nat → Int32) (f1 : Int → Int) (h0 : Nat → Int64) (x0_a : 0 ≤ x0) (x0_b : x0 ≤ 940) (x1_a : 0 ≤ x1) (x1_b : x1 ≤ 940) (x2_a : 0 ≤ x2) (x2_b : x2 ≤ 940) (x3_a : 0 ≤ x3) (x3_b : x3 ≤ 4) (x4_a : (-2147483648) ≤ x4) (x4_b : x4 ≤ 2147483647) (x5_a : (-2147483648) ≤ x5) (x5_b : x5 ≤ 2147483647) (x6_a : 0 ≤ x6) (x6_b : x6 ≤ 8) (x7_a : 0 ≤ x7) (x7_b : x7 ≤ 9) (x8_a : 0 ≤ x8) (x8_b : x8 ≤ 9) (x9_a : 0 ≤ x9) (x9_b : x9 ≤ 64) (x10_a : 0 ≤ x10) (x10_b : x10 ≤ 40) (x11_a : 0 ≤ x11) (x11_b : x11 ≤ 40) (x12_a : 0 ≤ x12) (x12_b : x12 ≤ 20) (x13_a : 0 ≤ x13) (x13_b : x13 ≤ 8) (x14_a : 0 ≤ x14) (x14_b : x14 ≤ 39) (f1_h : rdI f1) : Met l yX12_readStreet (Cond.code yX12_readStreet cX12_readStreet 2 (some .boolean) :: GW) (Rm 4 0 0) (cPre [.ref a0] D T [(a0, .inr (11, [.int r0, .ref a1, .int (iI x0), .int (iI x1), .int r1, .int (iI x2), .int r2, .int (iI x3), .int (iI x4), .int r3, .int r4, .int r5, .long y0, .int (iI x5), .ref a2, .ref a3, .ref a4, .ref a5, .ref a6, .ref a7, .ref a8, .ref a9, .ref a10, .ref a11, .int (iI x6), .ref a12, .ref a13, .ref a14, .ref a15, .int (iI x7), .int r6, .int r7, .ref a16, .int r8, .int r9, .ref a17, .ref a18, .int (iI x8), .ref a19, .int (iI x9), .int r10, .ref a20, .ref a21, .int (iI x10), .int r11, .ref a22, .int (iI x11), .int (iI x12), .int (iI x13), .int (iI x14)])), (a1, .inl (T 0, 940, .inl f0)), (a3, .inl (T 0, 53, .inl (cI f1))), (a8, .inl (T 1, 12, .inr (.inl h0)))] sz) (qI D [(a0, .inr (11, [.int r0, .ref a1, .int (iI x0), .int (iI x1), .int r1, .int (iI x2), .int r2, .int (iI x3), .int (iI x4), .int r3, .int r4, .int r5, .long y0, .int (iI x5), .ref a2, .ref a3, .ref a4, .ref a5, .ref a6, .ref a7, .ref a8, .ref a9, .ref a10, .ref a11, .int (iI x6), .ref a12, .ref a13, .ref a14, .ref a15, .int (iI x7), .int r6, .int r7, .ref a16, .int r8, .int r9, .ref a17, .ref a18, .int (iI x8), .ref a19, .int (iI x9), .int r10, .ref a20, .ref a21, .int (iI x10), .int r11, .ref a22, .int (iI x11), .int (iI x12), .int (iI x13), .int (iI x14)])), (a1, .inl (T 0, 940, .inl f0)), (a3, .inl (T 0, 53, .inl (cI f1))), (a8, .inl (T 1, 12, .inr (.inl h0)))] sz (fun (v : Int32) (u : Int × Int × Int32 × Int × Int × Int32 × Int32 × Int32 × Int64 × Int × (Int → Int)) => iI u.1 = v ∧ 0 ≤ u.1 ∧ u.1 ≤ 1 ∧ 0 ≤ u.2.1 ∧ u.2.1 ≤ 940 ∧ 0 ≤ u.2.2.2.1 ∧ u.2.2.2.1 ≤ 4 ∧ (-2147483648) ≤ u.2.2.2.2.1 ∧ u.2.2.2.2.1 ≤ 2147483647 ∧ (-2147483648) ≤ u.2.2.2.2.2.2.2.2.2.1 ∧ u.2.2.2.2.2.2.2.2.2.1 ≤ 2147483647 ∧ rdI u.2.2.2.2.2.2.2.2.2.2 ∧ 0 ≤ (u.2.1 - x2) ∧ 0 ≤ ((((u.2.1 - x2) - u.2.2.2.1) + 4) - u.1)) (fun u => [(a0, .inr (11, [.int r0, .ref a1, .int (iI x0), .int (iI x1), .int r1, .int (iI u.2.1), .int u.2.2.1, .int (iI u.2.2.2.1), .int (iI u.2.2.2.2.1), .int u.2.2.2.2.2.1, .int u.2.2.2.2.2.2.1, .int u.2.2.2.2.2.2.2.1, .long u.2.2.2.2.2.2.2.2.1, .int (iI u.2.2.2.2.2.2.2.2.2.1), .ref a2, .ref a3, .ref a4, .ref a5, .ref a6, .ref a7, .ref a8, .ref a9, .ref a10, .ref a11, .int (iI x6), .ref a12, .ref a13, .ref a14, .ref a15, .int (iI x7), .int r6, .int r7, .ref a16, .int r8, .int r9, .ref a17, .ref a18, .int (iI x8), .ref a19, .int (iI x9), .int r10, .ref a20, .ref a21, .int (iI x10), .int r11, .ref a22, .int (iI x11), .int (iI x12), .int (iI x13), .int (iI x14)])), (a1, .inl (T 0, 940, .inl f0)), (a3, .inl (T 0, 53, .inl (cI u.2.2.2.2.2.2.2.2.2.2))), (a8, .inl (T 1, 12, .inr (.inl h0)))])) 0 0 (va_A [(a0, .inr (11, [.int r0, .ref a1, .int (iI x0), .int (iI x1), .int r1, .int (iI x2), .int r2, .int (iI x3), .int (iI x4), .int r3, .int r4, .int r5, .long y0, .int (iI x5), .ref a2, .ref a3, .ref a4, .ref a5, .ref a6, .ref a7, .ref a8, .ref a9, .ref a10, .ref a11, .int (iI x6), .ref a12, .ref a13, .ref a14, .ref a15, .int (iI x7), .int r6, .int r7, .ref a16, .int r8, .int r9, .ref a17, .ref a18, .int (iI x8), .ref a19, .int (iI x9), .int r10, .ref a20, .ref a21, .int (iI x10), .int r11, .ref a22, .int (iI x11), .int (iI x12), .int (iI x13), .int (iI x14)])), (a1, .inl (T 0, 940, .inl f0)), (a3, .inl (T 0, 53, .inl (cI f1))), (a8, .inl (T 1, 12, .inr (.inl h0)))] sz) := by
  refine e_Z (by decide) (Nat.le_of_ble_eq_true rfl) ?_
  intro p e s m args below meth c A Q ls M hin w ret hl
  have hx := M.1.1
  have hb := M.1.2.1
  have hl : lv_has ls 2 [(0, .ref a0)] := hl
  refine lv_aload_n hx hb dX12_readStreet_0 rfl (lv_at hl 0 rfl) ?_
  refine k_V (ce := 0) (sl := 0) (rest := []) (wr := [(a3, .inl (T 0, 53, .inl (cI f1))), (a8, .inl (T 1, 12, .inr (.inl h0)))]) (r_V (f := 1) [0, 1] M w V_HookedCityModel_82 G1629 G49 (c12_X12_go l D T _ a0 r0 a1 x0 x1 r1 x2 r2 x3 x4 r3 r4 r5 y0 x5 a2 a3 a4 a5 a6 a7 a8 a9 a10 a11 x6 a12 a13 a14 a15 x7 r6 r7 a16 r8 r9 a17 a18 x8 a19 x9 r10 a20 a21 x10 r11 a22 x11 x12 x13 x14 f0 x0_a x0_b x1_a x1_b x2_a x2_b x3_a x3_b x4_a x4_b x5_a x5_b x6_a x6_b x7_a x7_b x8_a x8_b x9_a x9_b x10_a x10_b x11_a x11_b x12_a x12_b x13_a x13_b x14_a x14_b) 0 clX12 rfl rfl (by decide) rfl hl.1 rfl (Nat.le_of_ble_eq_true rfl) dX12_readStreet_1 (by decide) (by decide) (by decide) (by decide)) w [0, 1] [2, 3] rfl rfl (by decide) (by decide) rfl rfl (fun u H locs hp w => ?_)
  obtain ⟨z1, fr2, z3, z4, fr5, fy6⟩ := u
  have z1_a : 0 ≤ z1 := hp.1
  have z1_b : z1 ≤ 940 := hp.2.1
  have z3_a : 0 ≤ z3 := hp.2.2.1
  have z3_b : z3 ≤ 4 := hp.2.2.2.1
  have z4_a : (-2147483648) ≤ z4 := hp.2.2.2.2.1
  have z4_b : z4 ≤ 2147483647 := hp.2.2.2.2.2.1
  have ee7 : 0 ≤ (z1 - x2) := hp.2.2.2.2.2.2.1
  have ee8 : 0 ≤ (((z1 - x2) - z3) + 3) := hp.2.2.2.2.2.2.2
  have w : WD D A s.heap [(a3, .inl (T 0, 53, .inl (cI f1))), (a8, .inl (T 1, 12, .inr (.inl h0))), (a0, .inr (11, [.int r0, .ref a1, .int (iI x0), .int (iI x1), .int r1, .int (iI z1), .int fr2, .int (iI z3), .int (iI z4), .int fr5, .int r4, .int r5, .long fy6, .int (iI x5), .ref a2, .ref a3, .ref a4, .ref a5, .ref a6, .ref a7, .ref a8, .ref a9, .ref a10, .ref a11, .int (iI x6), .ref a12, .ref a13, .ref a14, .ref a15, .int (iI x7), .int r6, .int r7, .ref a16, .int r8, .int r9, .ref a17, .ref a18, .int (iI x8), .ref a19, .int (iI x9), .int r10, .ref a20, .ref a21, .int (iI x10), .int r11, .ref a22, .int (iI x11), .int (iI x12), .int (iI x13), .int (iI x14)])), (a1, .inl (T 0, 940, .inl f0))] H locs := w
  refine lv_aload_n hx hb dX12_readStreet_4 rfl (lv_at hl 0 rfl) ?_
  refine k_I (ce := 0) (sl := 0) (rest := []) (wr := [(a1, .inl (T 0, 940, .inl f0))]) (r_V (f := 3) [2, 0, 1] M w V_HookedCityModel_203 G1705 G63 (c27_X12_isOne l D T _ a0 r0 a1 x0 x1 r1 z1 fr2 z3 z4 fr5 r4 r5 fy6 x5 a2 a3 a4 a5 a6 a7 a8 a9 a10 a11 x6 a12 a13 a14 a15 x7 r6 r7 a16 r8 r9 a17 a18 x8 a19 x9 r10 a20 a21 x10 r11 a22 x11 x12 x13 x14 f1 h0 x0_a x0_b x1_a x1_b z1_a z1_b z3_a z3_b z4_a z4_b x5_a x5_b x6_a x6_b x7_a x7_b x8_a x8_b x9_a x9_b x10_a x10_b x11_a x11_b x12_a x12_b x13_a x13_b x14_a x14_b f1_h) 2 clX12 rfl rfl (by decide) rfl hl.1 rfl (Nat.le_of_ble_eq_true rfl) dX12_readStreet_5 (by decide) (by decide) (by decide) (by decide)) w [2, 0, 1] [3] rfl rfl (by decide) (by decide) rfl rfl (fun v u H locs hp w => ?_)
  obtain ⟨z9, fr10, fr11, z12⟩ := u
  have hv : iI z9 = v := hp.1
  subst hv
  have z9_a : 0 ≤ z9 := hp.2.1
  have z9_b : z9 ≤ 1 := hp.2.2.1
  have z12_a : (-2147483648) ≤ z12 := hp.2.2.2.1
  have z12_b : z12 ≤ 2147483647 := hp.2.2.2.2.1
  have ee13 : 0 ≤ ((z12 + 4294967296) - (z9 * 4294967296)) := hp.2.2.2.2.2.1
  have ee14 : 0 ≤ (((8 - z12) + 4294967296) - (z9 * 4294967296)) := hp.2.2.2.2.2.2.1
  have pq15 : z9 = 1 → z12 < f1 0 := hp.2.2.2.2.2.2.2
  have w : WD D A s.heap [(a1, .inl (T 0, 940, .inl f0)), (a0, .inr (11, [.int r0, .ref a1, .int (iI x0), .int (iI x1), .int r1, .int (iI z1), .int fr2, .int (iI z3), .int (iI z4), .int fr5, .int fr10, .int fr11, .long fy6, .int (iI z12), .ref a2, .ref a3, .ref a4, .ref a5, .ref a6, .ref a7, .ref a8, .ref a9, .ref a10, .ref a11, .int (iI x6), .ref a12, .ref a13, .ref a14, .ref a15, .int (iI x7), .int r6, .int r7, .ref a16, .int r8, .int r9, .ref a17, .ref a18, .int (iI x8), .ref a19, .int (iI x9), .int r10, .ref a20, .ref a21, .int (iI x10), .int r11, .ref a22, .int (iI x11), .int (iI x12), .int (iI x13), .int (iI x14)])), (a3, .inl (T 0, 53, .inl (cI f1))), (a8, .inl (T 1, 12, .inr (.inl h0)))] H locs := w
  refine lv_if_ne (tgt := 13) hx hb dX12_readStreet_8 (by decide) (fun c_16 => ?_) (fun c_16 => ?_)
  · replace c_16 : ¬ z9 = 0 := fun h => c_16 ((iz_eq (Int.le_trans (by decide) z9_a) (Int.le_trans z9_b (by decide))).mpr h)
    refine lv_aload_n hx hb dX12_readStreet_13 rfl (lv_at hl 0 rfl) ?_
    refine r_get (v := .int (iI z12)) M w 1 13 clX12 rfl (by decide) G1476 rfl rfl dX12_readStreet_14 ?_
    refine lv_istore_n (lv' := [(1, .int (iI z12)), (0, .ref a0)]) hx hb dX12_readStreet_17 rfl hl (by decide) rfl (fun ls hl => ?_)
    refine lv_aload_n hx hb dX12_readStreet_18 rfl (lv_at hl 1 rfl) ?_
    refine k_V (ce := 0) (sl := 0) (rest := []) (wr := [(a3, .inl (T 0, 53, .inl (cI f1))), (a8, .inl (T 1, 12, .inr (.inl h0)))]) (r_V (f := 1) [1, 0] M w V_HookedCityModel_82 G1629 G49 (c12_X12_go l D T _ a0 r0 a1 x0 x1 r1 z1 fr2 z3 z4 fr5 fr10 fr11 fy6 z12 a2 a3 a4 a5 a6 a7 a8 a9 a10 a11 x6 a12 a13 a14 a15 x7 r6 r7 a16 r8 r9 a17 a18 x8 a19 x9 r10 a20 a21 x10 r11 a22 x11 x12 x13 x14 f0 x0_a x0_b x1_a x1_b z1_a z1_b z3_a z3_b z4_a z4_b z12_a z12_b x6_a x6_b x7_a x7_b x8_a x8_b x9_a x9_b x10_a x10_b x11_a x11_b x12_a x12_b x13_a x13_b x14_a x14_b) 1 clX12 rfl rfl (by decide) rfl hl.1 rfl (Nat.le_of_ble_eq_true rfl) dX12_readStreet_19 (by decide) (by decide) (by decide) (by decide)) w [1, 0] [2, 3] rfl rfl (by decide) (by decide) rfl rfl (fun u H locs hp w => ?_)
    obtain ⟨z17, fr18, z19, z20, fr21, fy22⟩ := u
    have z17_a : 0 ≤ z17 := hp.1
    have z17_b : z17 ≤ 940 := hp.2.1
    have z19_a : 0 ≤ z19 := hp.2.2.1
    have z19_b : z19 ≤ 4 := hp.2.2.2.1
    have z20_a : (-2147483648) ≤ z20 := hp.2.2.2.2.1
    have z20_b : z20 ≤ 2147483647 := hp.2.2.2.2.2.1
    have ee23 : 0 ≤ (z17 - z1) := hp.2.2.2.2.2.2.1
    have ee24 : 0 ≤ (((z17 - z1) - z19) + 3) := hp.2.2.2.2.2.2.2
    have w : WD D A s.heap [(a3, .inl (T 0, 53, .inl (cI f1))), (a8, .inl (T 1, 12, .inr (.inl h0))), (a0, .inr (11, [.int r0, .ref a1, .int (iI x0), .int (iI x1), .int r1, .int (iI z17), .int fr18, .int (iI z19), .int (iI z20), .int fr21, .int fr10, .int fr11, .long fy22, .int (iI z12), .ref a2, .ref a3, .ref a4, .ref a5, .ref a6, .ref a7, .ref a8, .ref a9, .ref a10, .ref a11, .int (iI x6), .ref a12, .ref a13, .ref a14, .ref a15, .int (iI x7), .int r6, .int r7, .ref a16, .int r8, .int r9, .ref a17, .ref a18, .int (iI x8), .ref a19, .int (iI x9), .int r10, .ref a20, .ref a21, .int (iI x10), .int r11, .ref a22, .int (iI x11), .int (iI x12), .int (iI x13), .int (iI x14)])), (a1, .inl (T 0, 940, .inl f0))] H locs := w
    refine lv_aload_n hx hb dX12_readStreet_22 rfl (lv_at hl 1 rfl) ?_
    refine k_I (ce := 0) (sl := 0) (rest := []) (wr := [(a1, .inl (T 0, 940, .inl f0))]) (r_V (f := 3) [2, 0, 1] M w V_HookedCityModel_203 G1705 G63 (c27_X12_isOne l D T _ a0 r0 a1 x0 x1 r1 z17 fr18 z19 z20 fr21 fr10 fr11 fy22 z12 a2 a3 a4 a5 a6 a7 a8 a9 a10 a11 x6 a12 a13 a14 a15 x7 r6 r7 a16 r8 r9 a17 a18 x8 a19 x9 r10 a20 a21 x10 r11 a22 x11 x12 x13 x14 f1 h0 x0_a x0_b x1_a x1_b z17_a z17_b z19_a z19_b z20_a z20_b z12_a z12_b x6_a x6_b x7_a x7_b x8_a x8_b x9_a x9_b x10_a x10_b x11_a x11_b x12_a x12_b x13_a x13_b x14_a x14_b f1_h) 2 clX12 rfl rfl (by decide) rfl hl.1 rfl (Nat.le_of_ble_eq_true rfl) dX12_readStreet_23 (by decide) (by decide) (by decide) (by decide)) w [2, 0, 1] [3] rfl rfl (by decide) (by decide) rfl rfl (fun v u H locs hp w => ?_)
    obtain ⟨z25, fr26, fr27, z28⟩ := u
    have hv : iI z25 = v := hp.1
    subst hv
    have z25_a : 0 ≤ z25 := hp.2.1
    have z25_b : z25 ≤ 1 := hp.2.2.1
    have z28_a : (-2147483648) ≤ z28 := hp.2.2.2.1
    have z28_b : z28 ≤ 2147483647 := hp.2.2.2.2.1
    have ee29 : 0 ≤ ((z28 + 4294967296) - (z25 * 4294967296)) := hp.2.2.2.2.2.1
    have ee30 : 0 ≤ (((8 - z28) + 4294967296) - (z25 * 4294967296)) := hp.2.2.2.2.2.2.1
    have pq31 : z25 = 1 → z28 < f1 0 := hp.2.2.2.2.2.2.2
    have w : WD D A s.heap [(a1, .inl (T 0, 940, .inl f0)), (a0, .inr (11, [.int r0, .ref a1, .int (iI x0), .int (iI x1), .int r1, .int (iI z17), .int fr18, .int (iI z19), .int (iI z20), .int fr21, .int fr26, .int fr27, .long fy22, .int (iI z28), .ref a2, .ref a3, .ref a4, .ref a5, .ref a6, .ref a7, .ref a8, .ref a9, .ref a10, .ref a11, .int (iI x6), .ref a12, .ref a13, .ref a14, .ref a15, .int (iI x7), .int r6, .int r7, .ref a16, .int r8, .int r9, .ref a17, .ref a18, .int (iI x8), .ref a19, .int (iI x9), .int r10, .ref a20, .ref a21, .int (iI x10), .int r11, .ref a22, .int (iI x11), .int (iI x12), .int (iI x13), .int (iI x14)])), (a3, .inl (T 0, 53, .inl (cI f1))), (a8, .inl (T 1, 12, .inr (.inl h0)))] H locs := w
    refine lv_if_ne (tgt := 31) hx hb dX12_readStreet_26 (by decide) (fun c_32 => ?_) (fun c_32 => ?_)
    · replace c_32 : ¬ z25 = 0 := fun h => c_32 ((iz_eq (Int.le_trans (by decide) z25_a) (Int.le_trans z25_b (by decide))).mpr h)
      refine lv_aload_n hx hb dX12_readStreet_31 rfl (lv_at hl 1 rfl) ?_
      refine r_get (v := .int (iI z28)) M w 1 13 clX12 rfl (by decide) G1476 rfl rfl dX12_readStreet_32 ?_
      refine lv_iload_n hx hb dX12_readStreet_35 rfl (lv_at hl 0 rfl) ?_
      refine lv_icmp_eq (tgt := 58) hx hb dX12_readStreet_36 (by decide) (fun c_33 => ?_) (fun c_33 => ?_)
      · replace c_33 := (iI_eq (Int.le_trans (by decide) z28_a) (Int.le_trans z28_b (by decide)) (Int.le_trans (by decide) z12_a) (Int.le_trans z12_b (by decide))).mp c_33
        refine lv_aload_n hx hb dX12_readStreet_58 rfl (lv_at hl 1 rfl) ?_
        refine lv_iconst (v := iI 3) hx hb dX12_readStreet_59 (by decide +kernel) ?_
        refine k_I (ce := 0) (sl := 0) (rest := []) (wr := [(a1, .inl (T 0, 940, .inl f0)), (a3, .inl (T 0, 53, .inl (cI f1))), (a8, .inl (T 1, 12, .inr (.inl h0)))]) (r_V (f := 0) [1] M w V_HookedCityModel_72 G1667 G55 (c18_X12_bad l D T _ a0 3 r0 a1 x0 x1 r1 z17 fr18 z19 z20 fr21 fr26 fr27 fy22 z28 a2 a3 a4 a5 a6 a7 a8 a9 a10 a11 x6 a12 a13 a14 a15 x7 r6 r7 a16 r8 r9 a17 a18 x8 a19 x9 r10 a20 a21 x10 r11 a22 x11 x12 x13 x14 (by decide) (by decide) x0_a x0_b x1_a x1_b z17_a z17_b z19_a z19_b z20_a z20_b z28_a z28_b x6_a x6_b x7_a x7_b x8_a x8_b x9_a x9_b x10_a x10_b x11_a x11_b x12_a x12_b x13_a x13_b x14_a x14_b) 1 clX12 rfl rfl (by decide) rfl hl.1 rfl (Nat.le_of_ble_eq_true rfl) dX12_readStreet_60 (by decide) (by decide) (by decide) (by decide)) w [1] [0, 2, 3] rfl rfl (by decide) (by decide) rfl rfl (fun v u H locs hp w => ?_)
        obtain ⟨z34, fr35, fr36⟩ := u
        have hv : iI z34 = v := hp.1
        subst hv
        have z34_a : 0 ≤ z34 := hp.2.1
        have z34_b : z34 ≤ 1 := hp.2.2.1
        have w : WD D A s.heap [(a1, .inl (T 0, 940, .inl f0)), (a3, .inl (T 0, 53, .inl (cI f1))), (a8, .inl (T 1, 12, .inr (.inl h0))), (a0, .inr (11, [.int r0, .ref a1, .int (iI x0), .int (iI x1), .int r1, .int (iI z17), .int fr18, .int (iI z19), .int (iI z20), .int fr21, .int fr35, .int fr36, .long fy22, .int (iI z28), .ref a2, .ref a3, .ref a4, .ref a5, .ref a6, .ref a7, .ref a8, .ref a9, .ref a10, .ref a11, .int (iI x6), .ref a12, .ref a13, .ref a14, .ref a15, .int (iI x7), .int r6, .int r7, .ref a16, .int r8, .int r9, .ref a17, .ref a18, .int (iI x8), .ref a19, .int (iI x9), .int r10, .ref a20, .ref a21, .int (iI x10), .int r11, .ref a22, .int (iI x11), .int (iI x12), .int (iI x13), .int (iI x14)]))] H locs := w
        rcases hp.2.2.2 with hr
        · subst hr
          exact ret _ (0, z17, fr18, z19, z20, fr21, fr35, fr36, fy22, z28, f1) _ _ _ _ _ [3, 0, 1, 2] dX12_readStreet_63 (by decide +kernel) ⟨rfl, (show (0 : Int) ≤ 0 from by decide), (show (0 : Int) ≤ 1 from by decide), z17_a, z17_b, z19_a, z19_b, z20_a, z20_b, z28_a, z28_b, f1_h, (show 0 ≤ (z17 - x2) from by omega), (show 0 ≤ ((((z17 - x2) - z19) + 4) - 0) from by omega)⟩ w (by decide) rfl
      · replace c_33 : ¬ z28 = z12 := fun h => c_33 ((iI_eq (Int.le_trans (by decide) z28_a) (Int.le_trans z28_b (by decide)) (Int.le_trans (by decide) z12_a) (Int.le_trans z12_b (by decide))).mpr h)
        refine lv_aload_n hx hb dX12_readStreet_39 rfl (lv_at hl 1 rfl) ?_
        refine r_get (v := .ref a3) M w 1 15 clX12 rfl (by decide) G1478 rfl rfl dX12_readStreet_40 ?_
        refine lv_bipush (v := iI 44) hx hb dX12_readStreet_43 (by decide +kernel) ?_
        refine lv_iload_n hx hb dX12_readStreet_45 rfl (lv_at hl 0 rfl) ?_
        refine r_iadd (v := iI (44 + z12)) M (iI_add _ _) dX12_readStreet_46 ?_
        refine r_iald (v := iI (f1 (44 + z12))) M w 2 rfl (iI_in (by omega) (by omega) (by decide)) (cI_at (by omega) (by omega)) dX12_readStreet_47 ?_
        have hh37 : (-2147483648) ≤ (f1 (44 + z12)) ∧ (f1 (44 + z12)) ≤ 2147483647 := f1_h.1 (44 + z12)
        refine lv_aload_n hx hb dX12_readStreet_48 rfl (lv_at hl 1 rfl) ?_
        refine r_get (v := .int (iI z28)) M w 1 13 clX12 rfl (by decide) G1476 rfl rfl dX12_readStreet_49 ?_
        refine k_I (ce := 0) (sl := 0) (rest := []) (wr := [(a1, .inl (T 0, 940, .inl f0)), (a0, .inr (11, [.int r0, .ref a1, .int (iI x0), .int (iI x1), .int r1, .int (iI z17), .int fr18, .int (iI z19), .int (iI z20), .int fr21, .int fr26, .int fr27, .long fy22, .int (iI z28), .ref a2, .ref a3, .ref a4, .ref a5, .ref a6, .ref a7, .ref a8, .ref a9, .ref a10, .ref a11, .int (iI x6), .ref a12, .ref a13, .ref a14, .ref a15, .int (iI x7), .int r6, .int r7, .ref a16, .int r8, .int r9, .ref a17, .ref a18, .int (iI x8), .ref a19, .int (iI x9), .int r10, .ref a20, .ref a21, .int (iI x10), .int r11, .ref a22, .int (iI x11), .int (iI x12), .int (iI x13), .int (iI x14)])), (a3, .inl (T 0, 53, .inl (cI f1))), (a8, .inl (T 1, 12, .inr (.inl h0)))]) (r_S (f := 0) [] M w V_HookedCityModel_206 G1708 (c7_X12_has l D T _ (f1 (44 + z12)) z28 (by omega) (by omega) z28_a z28_b) rfl (by decide) rfl hl.1 rfl (Nat.le_of_ble_eq_true rfl) dX12_readStreet_52 (by decide) (by decide) (by decide) (by decide)) w [] [0, 1, 2, 3] rfl rfl (by decide) (by decide) rfl rfl (fun v z38 H locs hp w => ?_)
        have hv : iI z38 = v := hp.1
        subst hv
        have z38_a : 0 ≤ z38 := hp.2.1
        have z38_b : z38 ≤ 1 := hp.2.2
        have w : WD D A s.heap [(a1, .inl (T 0, 940, .inl f0)), (a0, .inr (11, [.int r0, .ref a1, .int (iI x0), .int (iI x1), .int r1, .int (iI z17), .int fr18, .int (iI z19), .int (iI z20), .int fr21, .int fr26, .int fr27, .long fy22, .int (iI z28), .ref a2, .ref a3, .ref a4, .ref a5, .ref a6, .ref a7, .ref a8, .ref a9, .ref a10, .ref a11, .int (iI x6), .ref a12, .ref a13, .ref a14, .ref a15, .int (iI x7), .int r6, .int r7, .ref a16, .int r8, .int r9, .ref a17, .ref a18, .int (iI x8), .ref a19, .int (iI x9), .int r10, .ref a20, .ref a21, .int (iI x10), .int r11, .ref a22, .int (iI x11), .int (iI x12), .int (iI x13), .int (iI x14)])), (a3, .inl (T 0, 53, .inl (cI f1))), (a8, .inl (T 1, 12, .inr (.inl h0)))] H locs := w
        refine lv_if_eq (tgt := 64) hx hb dX12_readStreet_55 (by decide) (fun c_39 => ?_) (fun c_39 => ?_)
        · replace c_39 := (iz_eq (Int.le_trans (by decide) z38_a) (Int.le_trans z38_b (by decide))).mp c_39
          refine lv_aload_n hx hb dX12_readStreet_64 rfl (lv_at hl 1 rfl) ?_
          refine r_get (v := .ref a3) M w 1 15 clX12 rfl (by decide) G1478 rfl rfl dX12_readStreet_65 ?_
          refine lv_bipush (v := iI 44) hx hb dX12_readStreet_68 (by decide +kernel) ?_
          refine lv_iload_n hx hb dX12_readStreet_70 rfl (lv_at hl 0 rfl) ?_
          refine r_iadd (v := iI (44 + z12)) M (iI_add _ _) dX12_readStreet_71 ?_
          refine lv_dup2_11 hx hb dX12_readStreet_72 rfl rfl ?_
          refine r_iald (v := iI (f1 (44 + z12))) M w 2 rfl (iI_in (by omega) (by omega) (by decide)) (cI_at (by omega) (by omega)) dX12_readStreet_73 ?_
          have hh40 : (-2147483648) ≤ (f1 (44 + z12)) ∧ (f1 (44 + z12)) ≤ 2147483647 := f1_h.1 (44 + z12)
          refine lv_iconst (v := iI 1) hx hb dX12_readStreet_74 (by decide +kernel) ?_
          refine lv_aload_n hx hb dX12_readStreet_75 rfl (lv_at hl 1 rfl) ?_
          refine r_get (v := .int (iI z28)) M w 1 13 clX12 rfl (by decide) G1476 rfl rfl dX12_readStreet_76 ?_
          refine r_ishl (v := _) M rfl dX12_readStreet_79 ?_
          refine b_rng (lo := 1) (hi := 256) (ishl_9 (by omega) (by omega)) (fun z41 z41_a z41_b => ?_)
          refine r_ior (v := _) M rfl dX12_readStreet_80 ?_
          refine b_any (fun z42 z42_a z42_b => ?_)
          refine r_iast (ws' := [(a1, .inl (T 0, 940, .inl f0)), (a0, .inr (11, [.int r0, .ref a1, .int (iI x0), .int (iI x1), .int r1, .int (iI z17), .int fr18, .int (iI z19), .int (iI z20), .int fr21, .int fr26, .int fr27, .long fy22, .int (iI z28), .ref a2, .ref a3, .ref a4, .ref a5, .ref a6, .ref a7, .ref a8, .ref a9, .ref a10, .ref a11, .int (iI x6), .ref a12, .ref a13, .ref a14, .ref a15, .int (iI x7), .int r6, .int r7, .ref a16, .int r8, .int r9, .ref a17, .ref a18, .int (iI x8), .ref a19, .int (iI x9), .int r10, .ref a20, .ref a21, .int (iI x10), .int r11, .ref a22, .int (iI x11), .int (iI x12), .int (iI x13), .int (iI x14)])), (a3, .inl (T 0, 53, .inl (cI (upz f1 (44 + z12) z42)))), (a8, .inl (T 1, 12, .inr (.inl h0)))]) M w 2 rfl (iI_in (by omega) (by omega) (by decide)) (by rw [cI_up (by omega) (by omega)]; rfl) dX12_readStreet_81 (fun H locs w => ?_)
          refine lv_aload_n hx hb dX12_readStreet_82 rfl (lv_at hl 1 rfl) ?_
          refine r_get (v := .ref a3) M w 1 15 clX12 rfl (by decide) G1478 rfl rfl dX12_readStreet_83 ?_
          refine lv_bipush (v := iI 44) hx hb dX12_readStreet_86 (by decide +kernel) ?_
          refine lv_aload_n hx hb dX12_readStreet_88 rfl (lv_at hl 1 rfl) ?_
          refine r_get (v := .int (iI z28)) M w 1 13 clX12 rfl (by decide) G1476 rfl rfl dX12_readStreet_89 ?_
          refine r_iadd (v := iI (44 + z28)) M (iI_add _ _) dX12_readStreet_92 ?_
          refine lv_dup2_11 hx hb dX12_readStreet_93 rfl rfl ?_
          refine r_iald (v := iI ((upz f1 (44 + z12) z42) (44 + z28))) M w 2 rfl (iI_in (by omega) (by omega) (by decide)) (cI_at (by omega) (by omega)) dX12_readStreet_94 ?_
          have hh43 : (-2147483648) ≤ ((upz f1 (44 + z12) z42) (44 + z28)) ∧ ((upz f1 (44 + z12) z42) (44 + z28)) ≤ 2147483647 := (rd_up f1_h (by omega) (by omega) (by unfold rr; omega) (fun h => absurd h (by omega)) (by omega)).1 (44 + z28)
          refine lv_iconst (v := iI 1) hx hb dX12_readStreet_95 (by decide +kernel) ?_
          refine lv_iload_n hx hb dX12_readStreet_96 rfl (lv_at hl 0 rfl) ?_
          refine r_ishl (v := _) M rfl dX12_readStreet_97 ?_
          refine b_rng (lo := 1) (hi := 256) (ishl_9 (by omega) (by omega)) (fun z44 z44_a z44_b => ?_)
          refine r_ior (v := _) M rfl dX12_readStreet_98 ?_
          refine b_any (fun z45 z45_a z45_b => ?_)
          refine r_iast (ws' := [(a1, .inl (T 0, 940, .inl f0)), (a0, .inr (11, [.int r0, .ref a1, .int (iI x0), .int (iI x1), .int r1, .int (iI z17), .int fr18, .int (iI z19), .int (iI z20), .int fr21, .int fr26, .int fr27, .long fy22, .int (iI z28), .ref a2, .ref a3, .ref a4, .ref a5, .ref a6, .ref a7, .ref a8, .ref a9, .ref a10, .ref a11, .int (iI x6), .ref a12, .ref a13, .ref a14, .ref a15, .int (iI x7), .int r6, .int r7, .ref a16, .int r8, .int r9, .ref a17, .ref a18, .int (iI x8), .ref a19, .int (iI x9), .int r10, .ref a20, .ref a21, .int (iI x10), .int r11, .ref a22, .int (iI x11), .int (iI x12), .int (iI x13), .int (iI x14)])), (a3, .inl (T 0, 53, .inl (cI (upz (upz f1 (44 + z12) z42) (44 + z28) z45)))), (a8, .inl (T 1, 12, .inr (.inl h0)))]) M w 2 rfl (iI_in (by omega) (by omega) (by decide)) (by rw [cI_up (by omega) (by omega)]; rfl) dX12_readStreet_99 (fun H locs w => ?_)
          refine lv_aload_n hx hb dX12_readStreet_100 rfl (lv_at hl 1 rfl) ?_
          refine k_V (ce := 0) (sl := 0) (rest := []) (wr := [(a3, .inl (T 0, 53, .inl (cI (upz (upz f1 (44 + z12) z42) (44 + z28) z45)))), (a8, .inl (T 1, 12, .inr (.inl h0)))]) (r_V (f := 1) [1, 0] M w V_HookedCityModel_82 G1629 G49 (c12_X12_go l D T _ a0 r0 a1 x0 x1 r1 z17 fr18 z19 z20 fr21 fr26 fr27 fy22 z28 a2 a3 a4 a5 a6 a7 a8 a9 a10 a11 x6 a12 a13 a14 a15 x7 r6 r7 a16 r8 r9 a17 a18 x8 a19 x9 r10 a20 a21 x10 r11 a22 x11 x12 x13 x14 f0 x0_a x0_b x1_a x1_b z17_a z17_b z19_a z19_b z20_a z20_b z28_a z28_b x6_a x6_b x7_a x7_b x8_a x8_b x9_a x9_b x10_a x10_b x11_a x11_b x12_a x12_b x13_a x13_b x14_a x14_b) 1 clX12 rfl rfl (by decide) rfl hl.1 rfl (Nat.le_of_ble_eq_true rfl) dX12_readStreet_101 (by decide) (by decide) (by decide) (by decide)) w [1, 0] [2, 3] rfl rfl (by decide) (by decide) rfl rfl (fun u H locs hp w => ?_)
          obtain ⟨z46, fr47, z48, z49, fr50, fy51⟩ := u
          have z46_a : 0 ≤ z46 := hp.1
          have z46_b : z46 ≤ 940 := hp.2.1
          have z48_a : 0 ≤ z48 := hp.2.2.1
          have z48_b : z48 ≤ 4 := hp.2.2.2.1
          have z49_a : (-2147483648) ≤ z49 := hp.2.2.2.2.1
          have z49_b : z49 ≤ 2147483647 := hp.2.2.2.2.2.1
          have ee52 : 0 ≤ (z46 - z17) := hp.2.2.2.2.2.2.1
          have ee53 : 0 ≤ (((z46 - z17) - z48) + 3) := hp.2.2.2.2.2.2.2
          have w : WD D A s.heap [(a3, .inl (T 0, 53, .inl (cI (upz (upz f1 (44 + z12) z42) (44 + z28) z45)))), (a8, .inl (T 1, 12, .inr (.inl h0))), (a0, .inr (11, [.int r0, .ref a1, .int (iI x0), .int (iI x1), .int r1, .int (iI z46), .int fr47, .int (iI z48), .int (iI z49), .int fr50, .int fr26, .int fr27, .long fy51, .int (iI z28), .ref a2, .ref a3, .ref a4, .ref a5, .ref a6, .ref a7, .ref a8, .ref a9, .ref a10, .ref a11, .int (iI x6), .ref a12, .ref a13, .ref a14, .ref a15, .int (iI x7), .int r6, .int r7, .ref a16, .int r8, .int r9, .ref a17, .ref a18, .int (iI x8), .ref a19, .int (iI x9), .int r10, .ref a20, .ref a21, .int (iI x10), .int r11, .ref a22, .int (iI x11), .int (iI x12), .int (iI x13), .int (iI x14)])), (a1, .inl (T 0, 940, .inl f0))] H locs := w
          refine lv_iconst (v := iI 1) hx hb dX12_readStreet_104 (by decide +kernel) ?_
          exact ret _ (1, z46, fr47, z48, z49, fr50, fr26, fr27, fy51, z28, (upz (upz f1 (44 + z12) z42) (44 + z28) z45)) _ _ _ _ _ [2, 3, 0, 1] dX12_readStreet_105 (by decide +kernel) ⟨rfl, (show (0 : Int) ≤ 1 from by decide), (show (1 : Int) ≤ 1 from by decide), z46_a, z46_b, z48_a, z48_b, z49_a, z49_b, z28_a, z28_b, (rd_up (rd_up f1_h (by omega) (by omega) (by unfold rr; omega) (fun h => absurd h (by omega)) (by omega)) (by omega) (by omega) (by unfold rr; omega) (fun h => absurd h (by omega)) (by omega)), (show 0 ≤ (z46 - x2) from by omega), (show 0 ≤ ((((z46 - x2) - z48) + 4) - 1) from by omega)⟩ w (by decide) rfl
        · replace c_39 : ¬ z38 = 0 := fun h => c_39 ((iz_eq (Int.le_trans (by decide) z38_a) (Int.le_trans z38_b (by decide))).mpr h)
          refine lv_aload_n hx hb dX12_readStreet_58 rfl (lv_at hl 1 rfl) ?_
          refine lv_iconst (v := iI 3) hx hb dX12_readStreet_59 (by decide +kernel) ?_
          refine k_I (ce := 0) (sl := 0) (rest := []) (wr := [(a1, .inl (T 0, 940, .inl f0)), (a3, .inl (T 0, 53, .inl (cI f1))), (a8, .inl (T 1, 12, .inr (.inl h0)))]) (r_V (f := 0) [1] M w V_HookedCityModel_72 G1667 G55 (c18_X12_bad l D T _ a0 3 r0 a1 x0 x1 r1 z17 fr18 z19 z20 fr21 fr26 fr27 fy22 z28 a2 a3 a4 a5 a6 a7 a8 a9 a10 a11 x6 a12 a13 a14 a15 x7 r6 r7 a16 r8 r9 a17 a18 x8 a19 x9 r10 a20 a21 x10 r11 a22 x11 x12 x13 x14 (by decide) (by decide) x0_a x0_b x1_a x1_b z17_a z17_b z19_a z19_b z20_a z20_b z28_a z28_b x6_a x6_b x7_a x7_b x8_a x8_b x9_a x9_b x10_a x10_b x11_a x11_b x12_a x12_b x13_a x13_b x14_a x14_b) 1 clX12 rfl rfl (by decide) rfl hl.1 rfl (Nat.le_of_ble_eq_true rfl) dX12_readStreet_60 (by decide) (by decide) (by decide) (by decide)) w [1] [0, 2, 3] rfl rfl (by decide) (by decide) rfl rfl (fun v u H locs hp w => ?_)
          obtain ⟨z54, fr55, fr56⟩ := u
          have hv : iI z54 = v := hp.1
          subst hv
          have z54_a : 0 ≤ z54 := hp.2.1
          have z54_b : z54 ≤ 1 := hp.2.2.1
          have w : WD D A s.heap [(a1, .inl (T 0, 940, .inl f0)), (a3, .inl (T 0, 53, .inl (cI f1))), (a8, .inl (T 1, 12, .inr (.inl h0))), (a0, .inr (11, [.int r0, .ref a1, .int (iI x0), .int (iI x1), .int r1, .int (iI z17), .int fr18, .int (iI z19), .int (iI z20), .int fr21, .int fr55, .int fr56, .long fy22, .int (iI z28), .ref a2, .ref a3, .ref a4, .ref a5, .ref a6, .ref a7, .ref a8, .ref a9, .ref a10, .ref a11, .int (iI x6), .ref a12, .ref a13, .ref a14, .ref a15, .int (iI x7), .int r6, .int r7, .ref a16, .int r8, .int r9, .ref a17, .ref a18, .int (iI x8), .ref a19, .int (iI x9), .int r10, .ref a20, .ref a21, .int (iI x10), .int r11, .ref a22, .int (iI x11), .int (iI x12), .int (iI x13), .int (iI x14)]))] H locs := w
          rcases hp.2.2.2 with hr
          · subst hr
            exact ret _ (0, z17, fr18, z19, z20, fr21, fr55, fr56, fy22, z28, f1) _ _ _ _ _ [3, 0, 1, 2] dX12_readStreet_63 (by decide +kernel) ⟨rfl, (show (0 : Int) ≤ 0 from by decide), (show (0 : Int) ≤ 1 from by decide), z17_a, z17_b, z19_a, z19_b, z20_a, z20_b, z28_a, z28_b, f1_h, (show 0 ≤ (z17 - x2) from by omega), (show 0 ≤ ((((z17 - x2) - z19) + 4) - 0) from by omega)⟩ w (by decide) rfl
    · replace c_32 := (iz_eq (Int.le_trans (by decide) z25_a) (Int.le_trans z25_b (by decide))).mp c_32
      refine lv_iconst (v := iI 0) hx hb dX12_readStreet_29 (by decide +kernel) ?_
      exact ret _ (0, z17, fr18, z19, z20, fr21, fr26, fr27, fy22, z28, f1) _ _ _ _ _ [1, 0, 2, 3] dX12_readStreet_30 (by decide +kernel) ⟨rfl, (show (0 : Int) ≤ 0 from by decide), (show (0 : Int) ≤ 1 from by decide), z17_a, z17_b, z19_a, z19_b, z20_a, z20_b, z28_a, z28_b, f1_h, (show 0 ≤ (z17 - x2) from by omega), (show 0 ≤ ((((z17 - x2) - z19) + 4) - 0) from by omega)⟩ w (by decide) rfl
  · replace c_16 := (iz_eq (Int.le_trans (by decide) z9_a) (Int.le_trans z9_b (by decide))).mp c_16
    refine lv_iconst (v := iI 0) hx hb dX12_readStreet_11 (by decide +kernel) ?_
    exact ret _ (0, z1, fr2, z3, z4, fr5, fr10, fr11, fy6, z12, f1) _ _ _ _ _ [1, 0, 2, 3] dX12_readStreet_12 (by decide +kernel) ⟨rfl, (show (0 : Int) ≤ 0 from by decide), (show (0 : Int) ≤ 1 from by decide), z1_a, z1_b, z3_a, z3_b, z4_a, z4_b, z12_a, z12_b, f1_h, (show 0 ≤ (z1 - x2) from by omega), (show 0 ≤ ((((z1 - x2) - z3) + 4) - 0) from by omega)⟩ w (by decide) rfl
set_option maxRecDepth 100000 in
set_option maxHeartbeats 4000000 in
theorem c34_X12_readDone (l : Launch) (D : va_G) (T : Nat → ClassId) (sz : Nat) (a0 : Nat) (r0 : Int32) (a1 : Nat) (x0 : Int) (x1 : Int) (r1 : Int32) (x2 : Int) (r2 : Int32) (x3 : Int) (x4 : Int) (r3 : Int32) (r4 : Int32) (r5 : Int32) (y0 : Int64) (x5 : Int) (a2 : Nat) (a3 : Nat) (a4 : Nat) (a5 : Nat) (a6 : Nat) (a7 : Nat) (a8 : Nat) (a9 : Nat) (a10 : Nat) (a11 : Nat) (x6 : Int) (a12 : Nat) (a13 : Nat) (a14 : Nat) (a15 : Nat) (x7 : Int) (r6 : Int32) (r7 : Int32) (a16 : Nat) (r8 : Int32) (r9 : Int32) (a17 : Nat) (a18 : Nat) (x8 : Int) (a19 : Nat) (x9 : Int) (r10 : Int32) (a20 : Nat) (a21 : Nat) (x10 : Int) (r11 : Int32) (a22 : Nat) (x11 : Int) (x12 : Int) (x13 : Int) (x14 : Int) (f0 : Nat → Int32) (f1 : Int → Int) (h0 : Nat → Int64) (x0_a : 0 ≤ x0) (x0_b : x0 ≤ 940) (x1_a : 0 ≤ x1) (x1_b : x1 ≤ 940) (x2_a : 0 ≤ x2) (x2_b : x2 ≤ 940) (x3_a : 0 ≤ x3) (x3_b : x3 ≤ 4) (x4_a : (-2147483648) ≤ x4) (x4_b : x4 ≤ 2147483647) (x5_a : (-2147483648) ≤ x5) (x5_b : x5 ≤ 2147483647) (x6_a : 0 ≤ x6) (x6_b : x6 ≤ 8) (x7_a : 0 ≤ x7) (x7_b : x7 ≤ 9) (x8_a : 0 ≤ x8) (x8_b : x8 ≤ 9) (x9_a : 0 ≤ x9) (x9_b : x9 ≤ 64) (x10_a : 0 ≤ x10) (x10_b : x10 ≤ 40) (x11_a : 0 ≤ x11) (x11_b : x11 ≤ 40) (x12_a : 0 ≤ x12) (x12_b : x12 ≤ 20) (x13_a : 0 ≤ x13) (x13_b : x13 ≤ 8) (x14_a : 0 ≤ x14) (x14_b : x14 ≤ 39) (f1_h : rdI f1) : Met l yX12_readDone (Cond.code yX12_readDone cX12_readDone 3 (some .boolean) :: GW) (Rm 4 0 0) (cPre [.ref a0] D T [(a0, .inr (11, [.int r0, .ref a1, .int (iI x0), .int (iI x1), .int r1, .int (iI x2), .int r2, .int (iI x3), .int (iI x4), .int r3, .int r4, .int r5, .long y0, .int (iI x5), .ref a2, .ref a3, .ref a4, .ref a5, .ref a6, .ref a7, .ref a8, .ref a9, .ref a10, .ref a11, .int (iI x6), .ref a12, .ref a13, .ref a14, .ref a15, .int (iI x7), .int r6, .int r7, .ref a16, .int r8, .int r9, .ref a17, .ref a18, .int (iI x8), .ref a19, .int (iI x9), .int r10, .ref a20, .ref a21, .int (iI x10), .int r11, .ref a22, .int (iI x11), .int (iI x12), .int (iI x13), .int (iI x14)])), (a1, .inl (T 0, 940, .inl f0)), (a3, .inl (T 0, 53, .inl (cI f1))), (a8, .inl (T 1, 12, .inr (.inl h0)))] sz) (qI D [(a0, .inr (11, [.int r0, .ref a1, .int (iI x0), .int (iI x1), .int r1, .int (iI x2), .int r2, .int (iI x3), .int (iI x4), .int r3, .int r4, .int r5, .long y0, .int (iI x5), .ref a2, .ref a3, .ref a4, .ref a5, .ref a6, .ref a7, .ref a8, .ref a9, .ref a10, .ref a11, .int (iI x6), .ref a12, .ref a13, .ref a14, .ref a15, .int (iI x7), .int r6, .int r7, .ref a16, .int r8, .int r9, .ref a17, .ref a18, .int (iI x8), .ref a19, .int (iI x9), .int r10, .ref a20, .ref a21, .int (iI x10), .int r11, .ref a22, .int (iI x11), .int (iI x12), .int (iI x13), .int (iI x14)])), (a1, .inl (T 0, 940, .inl f0)), (a3, .inl (T 0, 53, .inl (cI f1))), (a8, .inl (T 1, 12, .inr (.inl h0)))] sz (fun (v : Int32) (u : Int × Int × Int32 × Int × Int × Int32 × Int32 × Int32 × Int64 × Int × (Int → Int)) => iI u.1 = v ∧ 0 ≤ u.1 ∧ u.1 ≤ 1 ∧ 0 ≤ u.2.1 ∧ u.2.1 ≤ 940 ∧ 0 ≤ u.2.2.2.1 ∧ u.2.2.2.1 ≤ 4 ∧ (-2147483648) ≤ u.2.2.2.2.1 ∧ u.2.2.2.2.1 ≤ 2147483647 ∧ (-2147483648) ≤ u.2.2.2.2.2.2.2.2.2.1 ∧ u.2.2.2.2.2.2.2.2.2.1 ≤ 2147483647 ∧ rdI u.2.2.2.2.2.2.2.2.2.2 ∧ 0 ≤ (u.2.1 - x2) ∧ 0 ≤ ((((u.2.1 - x2) - u.2.2.2.1) + 4) - u.1)) (fun u => [(a0, .inr (11, [.int r0, .ref a1, .int (iI x0), .int (iI x1), .int r1, .int (iI u.2.1), .int u.2.2.1, .int (iI u.2.2.2.1), .int (iI u.2.2.2.2.1), .int u.2.2.2.2.2.1, .int u.2.2.2.2.2.2.1, .int u.2.2.2.2.2.2.2.1, .long u.2.2.2.2.2.2.2.2.1, .int (iI u.2.2.2.2.2.2.2.2.2.1), .ref a2, .ref a3, .ref a4, .ref a5, .ref a6, .ref a7, .ref a8, .ref a9, .ref a10, .ref a11, .int (iI x6), .ref a12, .ref a13, .ref a14, .ref a15, .int (iI x7), .int r6, .int r7, .ref a16, .int r8, .int r9, .ref a17, .ref a18, .int (iI x8), .ref a19, .int (iI x9), .int r10, .ref a20, .ref a21, .int (iI x10), .int r11, .ref a22, .int (iI x11), .int (iI x12), .int (iI x13), .int (iI x14)])), (a1, .inl (T 0, 940, .inl f0)), (a3, .inl (T 0, 53, .inl (cI u.2.2.2.2.2.2.2.2.2.2))), (a8, .inl (T 1, 12, .inr (.inl h0)))])) 0 0 (va_A [(a0, .inr (11, [.int r0, .ref a1, .int (iI x0), .int (iI x1), .int r1, .int (iI x2), .int r2, .int (iI x3), .int (iI x4), .int r3, .int r4, .int r5, .long y0, .int (iI x5), .ref a2, .ref a3, .ref a4, .ref a5, .ref a6, .ref a7, .ref a8, .ref a9, .ref a10, .ref a11, .int (iI x6), .ref a12, .ref a13, .ref a14, .ref a15, .int (iI x7), .int r6, .int r7, .ref a16, .int r8, .int r9, .ref a17, .ref a18, .int (iI x8), .ref a19, .int (iI x9), .int r10, .ref a20, .ref a21, .int (iI x10), .int r11, .ref a22, .int (iI x11), .int (iI x12), .int (iI x13), .int (iI x14)])), (a1, .inl (T 0, 940, .inl f0)), (a3, .inl (T 0, 53, .inl (cI f1))), (a8, .inl (T 1, 12, .inr (.inl h0)))] sz) := by
  refine e_Z (by decide) (Nat.le_of_ble_eq_true rfl) ?_
  intro p e s m args below meth c A Q ls M hin w ret hl
  have hx := M.1.1
  have hb := M.1.2.1
  have hl : lv_has ls 3 [(0, .ref a0)] := hl
  refine lv_aload_n hx hb dX12_readDone_0 rfl (lv_at hl 0 rfl) ?_
  refine k_V (ce := 0) (sl := 0) (rest := []) (wr := [(a3, .inl (T 0, 53, .inl (cI f1))), (a8, .inl (T 1, 12, .inr (.inl h0)))]) (r_V (f := 1) [0, 1] M w V_HookedCityModel_82 G1629 G49 (c12_X12_go l D T _ a0 r0 a1 x0 x1 r1 x2 r2 x3 x4 r3 r4 r5 y0 x5 a2 a3 a4 a5 a6 a7 a8 a9 a10 a11 x6 a12 a13 a14 a15 x7 r6 r7 a16 r8 r9 a17 a18 x8 a19 x9 r10 a20 a21 x10 r11 a22 x11 x12 x13 x14 f0 x0_a x0_b x1_a x1_b x2_a x2_b x3_a x3_b x4_a x4_b x5_a x5_b x6_a x6_b x7_a x7_b x8_a x8_b x9_a x9_b x10_a x10_b x11_a x11_b x12_a x12_b x13_a x13_b x14_a x14_b) 0 clX12 rfl rfl (by decide) rfl hl.1 rfl (Nat.le_of_ble_eq_true rfl) dX12_readDone_1 (by decide) (by decide) (by decide) (by decide)) w [0, 1] [2, 3] rfl rfl (by decide) (by decide) rfl rfl (fun u H locs hp w => ?_)
  obtain ⟨z1, fr2, z3, z4, fr5, fy6⟩ := u
  have z1_a : 0 ≤ z1 := hp.1
  have z1_b : z1 ≤ 940 := hp.2.1
  have z3_a : 0 ≤ z3 := hp.2.2.1
  have z3_b : z3 ≤ 4 := hp.2.2.2.1
  have z4_a : (-2147483648) ≤ z4 := hp.2.2.2.2.1
  have z4_b : z4 ≤ 2147483647 := hp.2.2.2.2.2.1
  have ee7 : 0 ≤ (z1 - x2) := hp.2.2.2.2.2.2.1
  have ee8 : 0 ≤ (((z1 - x2) - z3) + 3) := hp.2.2.2.2.2.2.2
  have w : WD D A s.heap [(a3, .inl (T 0, 53, .inl (cI f1))), (a8, .inl (T 1, 12, .inr (.inl h0))), (a0, .inr (11, [.int r0, .ref a1, .int (iI x0), .int (iI x1), .int r1, .int (iI z1), .int fr2, .int (iI z3), .int (iI z4), .int fr5, .int r4, .int r5, .long fy6, .int (iI x5), .ref a2, .ref a3, .ref a4, .ref a5, .ref a6, .ref a7, .ref a8, .ref a9, .ref a10, .ref a11, .int (iI x6), .ref a12, .ref a13, .ref a14, .ref a15, .int (iI x7), .int r6, .int r7, .ref a16, .int r8, .int r9, .ref a17, .ref a18, .int (iI x8), .ref a19, .int (iI x9), .int r10, .ref a20, .ref a21, .int (iI x10), .int r11, .ref a22, .int (iI x11), .int (iI x12), .int (iI x13), .int (iI x14)])), (a1, .inl (T 0, 940, .inl f0))] H locs := w
  refine lv_aload_n hx hb dX12_readDone_4 rfl (lv_at hl 0 rfl) ?_
  refine k_I (ce := 0) (sl := 0) (rest := []) (wr := [(a1, .inl (T 0, 940, .inl f0))]) (r_V (f := 3) [2, 0, 1] M w V_HookedCityModel_203 G1705 G63 (c27_X12_isOne l D T _ a0 r0 a1 x0 x1 r1 z1 fr2 z3 z4 fr5 r4 r5 fy6 x5 a2 a3 a4 a5 a6 a7 a8 a9 a10 a11 x6 a12 a13 a14 a15 x7 r6 r7 a16 r8 r9 a17 a18 x8 a19 x9 r10 a20 a21 x10 r11 a22 x11 x12 x13 x14 f1 h0 x0_a x0_b x1_a x1_b z1_a z1_b z3_a z3_b z4_a z4_b x5_a x5_b x6_a x6_b x7_a x7_b x8_a x8_b x9_a x9_b x10_a x10_b x11_a x11_b x12_a x12_b x13_a x13_b x14_a x14_b f1_h) 2 clX12 rfl rfl (by decide) rfl hl.1 rfl (Nat.le_of_ble_eq_true rfl) dX12_readDone_5 (by decide) (by decide) (by decide) (by decide)) w [2, 0, 1] [3] rfl rfl (by decide) (by decide) rfl rfl (fun v u H locs hp w => ?_)
  obtain ⟨z9, fr10, fr11, z12⟩ := u
  have hv : iI z9 = v := hp.1
  subst hv
  have z9_a : 0 ≤ z9 := hp.2.1
  have z9_b : z9 ≤ 1 := hp.2.2.1
  have z12_a : (-2147483648) ≤ z12 := hp.2.2.2.1
  have z12_b : z12 ≤ 2147483647 := hp.2.2.2.2.1
  have ee13 : 0 ≤ ((z12 + 4294967296) - (z9 * 4294967296)) := hp.2.2.2.2.2.1
  have ee14 : 0 ≤ (((8 - z12) + 4294967296) - (z9 * 4294967296)) := hp.2.2.2.2.2.2.1
  have pq15 : z9 = 1 → z12 < f1 0 := hp.2.2.2.2.2.2.2
  have w : WD D A s.heap [(a1, .inl (T 0, 940, .inl f0)), (a0, .inr (11, [.int r0, .ref a1, .int (iI x0), .int (iI x1), .int r1, .int (iI z1), .int fr2, .int (iI z3), .int (iI z4), .int fr5, .int fr10, .int fr11, .long fy6, .int (iI z12), .ref a2, .ref a3, .ref a4, .ref a5, .ref a6, .ref a7, .ref a8, .ref a9, .ref a10, .ref a11, .int (iI x6), .ref a12, .ref a13, .ref a14, .ref a15, .int (iI x7), .int r6, .int r7, .ref a16, .int r8, .int r9, .ref a17, .ref a18, .int (iI x8), .ref a19, .int (iI x9), .int r10, .ref a20, .ref a21, .int (iI x10), .int r11, .ref a22, .int (iI x11), .int (iI x12), .int (iI x13), .int (iI x14)])), (a3, .inl (T 0, 53, .inl (cI f1))), (a8, .inl (T 1, 12, .inr (.inl h0)))] H locs := w
  refine lv_if_ne (tgt := 13) hx hb dX12_readDone_8 (by decide) (fun c_16 => ?_) (fun c_16 => ?_)
  · replace c_16 : ¬ z9 = 0 := fun h => c_16 ((iz_eq (Int.le_trans (by decide) z9_a) (Int.le_trans z9_b (by decide))).mpr h)
    refine lv_aload_n hx hb dX12_readDone_13 rfl (lv_at hl 0 rfl) ?_
    refine r_get (v := .int (iI z12)) M w 1 13 clX12 rfl (by decide) G1476 rfl rfl dX12_readDone_14 ?_
    refine lv_istore_n (lv' := [(1, .int (iI z12)), (0, .ref a0)]) hx hb dX12_readDone_17 rfl hl (by decide) rfl (fun ls hl => ?_)
    refine lv_aload_n hx hb dX12_readDone_18 rfl (lv_at hl 1 rfl) ?_
    refine r_get (v := .ref a3) M w 1 15 clX12 rfl (by decide) G1478 rfl rfl dX12_readDone_19 ?_
    refine lv_bipush (v := iI 32) hx hb dX12_readDone_22 (by decide +kernel) ?_
    refine lv_iload_n hx hb dX12_readDone_24 rfl (lv_at hl 0 rfl) ?_
    refine r_iadd (v := iI (32 + z12)) M (iI_add _ _) dX12_readDone_25 ?_
    refine r_iald (v := iI (f1 (32 + z12))) M w 2 rfl (iI_in (by omega) (by omega) (by decide)) (cI_at (by omega) (by omega)) dX12_readDone_26 ?_
    have hh17 : (-2147483648) ≤ (f1 (32 + z12)) ∧ (f1 (32 + z12)) ≤ 2147483647 := f1_h.1 (32 + z12)
    have hh18 : (-1) ≤ (f1 (32 + z12)) ∧ (f1 (32 + z12)) ≤ 8 := (f1_h.2.1 (32 + z12)).2.2.2 (by omega) (by omega)
    refine lv_iconst (v := iI (-1)) hx hb dX12_readDone_27 (by decide +kernel) ?_
    refine lv_icmp_eq (tgt := 37) hx hb dX12_readDone_28 (by decide) (fun c_19 => ?_) (fun c_19 => ?_)
    · replace c_19 := (iI_eq (by omega) (by omega) (by decide) (by decide)).mp c_19
      refine lv_aload_n hx hb dX12_readDone_37 rfl (lv_at hl 1 rfl) ?_
      refine k_V (ce := 0) (sl := 0) (rest := []) (wr := [(a3, .inl (T 0, 53, .inl (cI f1))), (a8, .inl (T 1, 12, .inr (.inl h0)))]) (r_V (f := 1) [1, 0] M w V_HookedCityModel_82 G1629 G49 (c12_X12_go l D T _ a0 r0 a1 x0 x1 r1 z1 fr2 z3 z4 fr5 fr10 fr11 fy6 z12 a2 a3 a4 a5 a6 a7 a8 a9 a10 a11 x6 a12 a13 a14 a15 x7 r6 r7 a16 r8 r9 a17 a18 x8 a19 x9 r10 a20 a21 x10 r11 a22 x11 x12 x13 x14 f0 x0_a x0_b x1_a x1_b z1_a z1_b z3_a z3_b z4_a z4_b z12_a z12_b x6_a x6_b x7_a x7_b x8_a x8_b x9_a x9_b x10_a x10_b x11_a x11_b x12_a x12_b x13_a x13_b x14_a x14_b) 1 clX12 rfl rfl (by decide) rfl hl.1 rfl (Nat.le_of_ble_eq_true rfl) dX12_readDone_38 (by decide) (by decide) (by decide) (by decide)) w [1, 0] [2, 3] rfl rfl (by decide) (by decide) rfl rfl (fun u H locs hp w => ?_)
      obtain ⟨z20, fr21, z22, z23, fr24, fy25⟩ := u
      have z20_a : 0 ≤ z20 := hp.1
      have z20_b : z20 ≤ 940 := hp.2.1
      have z22_a : 0 ≤ z22 := hp.2.2.1
      have z22_b : z22 ≤ 4 := hp.2.2.2.1
      have z23_a : (-2147483648) ≤ z23 := hp.2.2.2.2.1
      have z23_b : z23 ≤ 2147483647 := hp.2.2.2.2.2.1
      have ee26 : 0 ≤ (z20 - z1) := hp.2.2.2.2.2.2.1
      have ee27 : 0 ≤ (((z20 - z1) - z22) + 3) := hp.2.2.2.2.2.2.2
      have w : WD D A s.heap [(a3, .inl (T 0, 53, .inl (cI f1))), (a8, .inl (T 1, 12, .inr (.inl h0))), (a0, .inr (11, [.int r0, .ref a1, .int (iI x0), .int (iI x1), .int r1, .int (iI z20), .int fr21, .int (iI z22), .int (iI z23), .int fr24, .int fr10, .int fr11, .long fy25, .int (iI z12), .ref a2, .ref a3, .ref a4, .ref a5, .ref a6, .ref a7, .ref a8, .ref a9, .ref a10, .ref a11, .int (iI x6), .ref a12, .ref a13, .ref a14, .ref a15, .int (iI x7), .int r6, .int r7, .ref a16, .int r8, .int r9, .ref a17, .ref a18, .int (iI x8), .ref a19, .int (iI x9), .int r10, .ref a20, .ref a21, .int (iI x10), .int r11, .ref a22, .int (iI x11), .int (iI x12), .int (iI x13), .int (iI x14)])), (a1, .inl (T 0, 940, .inl f0))] H locs := w
      refine lv_aload_n hx hb dX12_readDone_41 rfl (lv_at hl 1 rfl) ?_
      refine k_I (ce := 0) (sl := 0) (rest := []) (wr := [(a1, .inl (T 0, 940, .inl f0))]) (r_V (f := 3) [2, 0, 1] M w V_HookedCityModel_203 G1705 G63 (c27_X12_isOne l D T _ a0 r0 a1 x0 x1 r1 z20 fr21 z22 z23 fr24 fr10 fr11 fy25 z12 a2 a3 a4 a5 a6 a7 a8 a9 a10 a11 x6 a12 a13 a14 a15 x7 r6 r7 a16 r8 r9 a17 a18 x8 a19 x9 r10 a20 a21 x10 r11 a22 x11 x12 x13 x14 f1 h0 x0_a x0_b x1_a x1_b z20_a z20_b z22_a z22_b z23_a z23_b z12_a z12_b x6_a x6_b x7_a x7_b x8_a x8_b x9_a x9_b x10_a x10_b x11_a x11_b x12_a x12_b x13_a x13_b x14_a x14_b f1_h) 2 clX12 rfl rfl (by decide) rfl hl.1 rfl (Nat.le_of_ble_eq_true rfl) dX12_readDone_42 (by decide) (by decide) (by decide) (by decide)) w [2, 0, 1] [3] rfl rfl (by decide) (by decide) rfl rfl (fun v u H locs hp w => ?_)
      obtain ⟨z28, fr29, fr30, z31⟩ := u
      have hv : iI z28 = v := hp.1
      subst hv
      have z28_a : 0 ≤ z28 := hp.2.1
      have z28_b : z28 ≤ 1 := hp.2.2.1
      have z31_a : (-2147483648) ≤ z31 := hp.2.2.2.1
      have z31_b : z31 ≤ 2147483647 := hp.2.2.2.2.1
      have ee32 : 0 ≤ ((z31 + 4294967296) - (z28 * 4294967296)) := hp.2.2.2.2.2.1
      have ee33 : 0 ≤ (((8 - z31) + 4294967296) - (z28 * 4294967296)) := hp.2.2.2.2.2.2.1
      have pq34 : z28 = 1 → z31 < f1 0 := hp.2.2.2.2.2.2.2
      have w : WD D A s.heap [(a1, .inl (T 0, 940, .inl f0)), (a0, .inr (11, [.int r0, .ref a1, .int (iI x0), .int (iI x1), .int r1, .int (iI z20), .int fr21, .int (iI z22), .int (iI z23), .int fr24, .int fr29, .int fr30, .long fy25, .int (iI z31), .ref a2, .ref a3, .ref a4, .ref a5, .ref a6, .ref a7, .ref a8, .ref a9, .ref a10, .ref a11, .int (iI x6), .ref a12, .ref a13, .ref a14, .ref a15, .int (iI x7), .int r6, .int r7, .ref a16, .int r8, .int r9, .ref a17, .ref a18, .int (iI x8), .ref a19, .int (iI x9), .int r10, .ref a20, .ref a21, .int (iI x10), .int r11, .ref a22, .int (iI x11), .int (iI x12), .int (iI x13), .int (iI x14)])), (a3, .inl (T 0, 53, .inl (cI f1))), (a8, .inl (T 1, 12, .inr (.inl h0)))] H locs := w
      refine lv_if_ne (tgt := 50) hx hb dX12_readDone_45 (by decide) (fun c_35 => ?_) (fun c_35 => ?_)
      · replace c_35 : ¬ z28 = 0 := fun h => c_35 ((iz_eq (Int.le_trans (by decide) z28_a) (Int.le_trans z28_b (by decide))).mpr h)
        refine lv_aload_n hx hb dX12_readDone_50 rfl (lv_at hl 1 rfl) ?_
        refine r_get (v := .int (iI z31)) M w 1 13 clX12 rfl (by decide) G1476 rfl rfl dX12_readDone_51 ?_
        refine lv_iload_n hx hb dX12_readDone_54 rfl (lv_at hl 0 rfl) ?_
        refine lv_icmp_eq (tgt := 81) hx hb dX12_readDone_55 (by decide) (fun c_36 => ?_) (fun c_36 => ?_)
        · replace c_36 := (iI_eq (Int.le_trans (by decide) z31_a) (Int.le_trans z31_b (by decide)) (Int.le_trans (by decide) z12_a) (Int.le_trans z12_b (by decide))).mp c_36
          refine lv_aload_n hx hb dX12_readDone_81 rfl (lv_at hl 1 rfl) ?_
          refine lv_iconst (v := iI 3) hx hb dX12_readDone_82 (by decide +kernel) ?_
          refine k_I (ce := 0) (sl := 0) (rest := []) (wr := [(a1, .inl (T 0, 940, .inl f0)), (a3, .inl (T 0, 53, .inl (cI f1))), (a8, .inl (T 1, 12, .inr (.inl h0)))]) (r_V (f := 0) [1] M w V_HookedCityModel_72 G1667 G55 (c18_X12_bad l D T _ a0 3 r0 a1 x0 x1 r1 z20 fr21 z22 z23 fr24 fr29 fr30 fy25 z31 a2 a3 a4 a5 a6 a7 a8 a9 a10 a11 x6 a12 a13 a14 a15 x7 r6 r7 a16 r8 r9 a17 a18 x8 a19 x9 r10 a20 a21 x10 r11 a22 x11 x12 x13 x14 (by decide) (by decide) x0_a x0_b x1_a x1_b z20_a z20_b z22_a z22_b z23_a z23_b z31_a z31_b x6_a x6_b x7_a x7_b x8_a x8_b x9_a x9_b x10_a x10_b x11_a x11_b x12_a x12_b x13_a x13_b x14_a x14_b) 1 clX12 rfl rfl (by decide) rfl hl.1 rfl (Nat.le_of_ble_eq_true rfl) dX12_readDone_83 (by decide) (by decide) (by decide) (by decide)) w [1] [0, 2, 3] rfl rfl (by decide) (by decide) rfl rfl (fun v u H locs hp w => ?_)
          obtain ⟨z37, fr38, fr39⟩ := u
          have hv : iI z37 = v := hp.1
          subst hv
          have z37_a : 0 ≤ z37 := hp.2.1
          have z37_b : z37 ≤ 1 := hp.2.2.1
          have w : WD D A s.heap [(a1, .inl (T 0, 940, .inl f0)), (a3, .inl (T 0, 53, .inl (cI f1))), (a8, .inl (T 1, 12, .inr (.inl h0))), (a0, .inr (11, [.int r0, .ref a1, .int (iI x0), .int (iI x1), .int r1, .int (iI z20), .int fr21, .int (iI z22), .int (iI z23), .int fr24, .int fr38, .int fr39, .long fy25, .int (iI z31), .ref a2, .ref a3, .ref a4, .ref a5, .ref a6, .ref a7, .ref a8, .ref a9, .ref a10, .ref a11, .int (iI x6), .ref a12, .ref a13, .ref a14, .ref a15, .int (iI x7), .int r6, .int r7, .ref a16, .int r8, .int r9, .ref a17, .ref a18, .int (iI x8), .ref a19, .int (iI x9), .int r10, .ref a20, .ref a21, .int (iI x10), .int r11, .ref a22, .int (iI x11), .int (iI x12), .int (iI x13), .int (iI x14)]))] H locs := w
          rcases hp.2.2.2 with hr
          · subst hr
            exact ret _ (0, z20, fr21, z22, z23, fr24, fr38, fr39, fy25, z31, f1) _ _ _ _ _ [3, 0, 1, 2] dX12_readDone_86 (by decide +kernel) ⟨rfl, (show (0 : Int) ≤ 0 from by decide), (show (0 : Int) ≤ 1 from by decide), z20_a, z20_b, z22_a, z22_b, z23_a, z23_b, z31_a, z31_b, f1_h, (show 0 ≤ (z20 - x2) from by omega), (show 0 ≤ ((((z20 - x2) - z22) + 4) - 0) from by omega)⟩ w (by decide) rfl
        · replace c_36 : ¬ z31 = z12 := fun h => c_36 ((iI_eq (Int.le_trans (by decide) z31_a) (Int.le_trans z31_b (by decide)) (Int.le_trans (by decide) z12_a) (Int.le_trans z12_b (by decide))).mpr h)
          refine lv_aload_n hx hb dX12_readDone_58 rfl (lv_at hl 1 rfl) ?_
          refine r_get (v := .ref a3) M w 1 15 clX12 rfl (by decide) G1478 rfl rfl dX12_readDone_59 ?_
          refine lv_iconst (v := iI 5) hx hb dX12_readDone_62 (by decide +kernel) ?_
          refine lv_aload_n hx hb dX12_readDone_63 rfl (lv_at hl 1 rfl) ?_
          refine r_get (v := .int (iI z31)) M w 1 13 clX12 rfl (by decide) G1476 rfl rfl dX12_readDone_64 ?_
          refine r_iadd (v := iI (5 + z31)) M (iI_add _ _) dX12_readDone_67 ?_
          refine r_iald (v := iI (f1 (5 + z31))) M w 2 rfl (iI_in (by omega) (by omega) (by decide)) (cI_at (by omega) (by omega)) dX12_readDone_68 ?_
          have hh40 : (-2147483648) ≤ (f1 (5 + z31)) ∧ (f1 (5 + z31)) ≤ 2147483647 := f1_h.1 (5 + z31)
          refine lv_aload_n hx hb dX12_readDone_69 rfl (lv_at hl 1 rfl) ?_
          refine r_get (v := .ref a3) M w 1 15 clX12 rfl (by decide) G1478 rfl rfl dX12_readDone_70 ?_
          refine lv_bipush (v := iI 14) hx hb dX12_readDone_73 (by decide +kernel) ?_
          refine lv_iload_n hx hb dX12_readDone_75 rfl (lv_at hl 0 rfl) ?_
          refine r_iadd (v := iI (14 + z12)) M (iI_add _ _) dX12_readDone_76 ?_
          refine r_iald (v := iI (f1 (14 + z12))) M w 2 rfl (iI_in (by omega) (by omega) (by decide)) (cI_at (by omega) (by omega)) dX12_readDone_77 ?_
          have hh41 : (-2147483648) ≤ (f1 (14 + z12)) ∧ (f1 (14 + z12)) ≤ 2147483647 := f1_h.1 (14 + z12)
          refine lv_icmp_eq (tgt := 87) hx hb dX12_readDone_78 (by decide) (fun c_42 => ?_) (fun c_42 => ?_)
          · replace c_42 := (iI_eq (by omega) (by omega) (by omega) (by omega)).mp c_42
            refine lv_iconst (v := iI 0) hx hb dX12_readDone_87 (by decide +kernel) ?_
            refine lv_istore_n (lv' := [(2, .int (iI 0)), (1, .int (iI z12)), (0, .ref a0)]) hx hb dX12_readDone_88 rfl hl (by decide) rfl (fun ls hl => ?_)
            have loop1 : ∀ (k1 : Nat) (z43 : Int) (H : Heap) (locs : List Loc) (ls : Array Slot), 0 ≤ z43 → z43 ≤ 9 → (∀ p : Int, 0 ≤ p → p < z43 → f1 (32 + p) ≠ z31) → ((9 - z43) : Int).toNat < k1 → WD D A s.heap [(a1, .inl (T 0, 940, .inl f0)), (a0, .inr (11, [.int r0, .ref a1, .int (iI x0), .int (iI x1), .int r1, .int (iI z20), .int fr21, .int (iI z22), .int (iI z23), .int fr24, .int fr29, .int fr30, .long fy25, .int (iI z31), .ref a2, .ref a3, .ref a4, .ref a5, .ref a6, .ref a7, .ref a8, .ref a9, .ref a10, .ref a11, .int (iI x6), .ref a12, .ref a13, .ref a14, .ref a15, .int (iI x7), .int r6, .int r7, .ref a16, .int r8, .int r9, .ref a17, .ref a18, .int (iI x8), .ref a19, .int (iI x9), .int r10, .ref a20, .ref a21, .int (iI x10), .int r11, .ref a22, .int (iI x11), .int (iI x12), .int (iI x13), .int (iI x14)])), (a3, .inl (T 0, 53, .inl (cI f1))), (a8, .inl (T 1, 12, .inr (.inl h0)))] H locs → lv_has ls 3 [(2, .int (iI z43)), (1, .int (iI z12)), (0, .ref a0)] → W p l e (Rm 4 0 0) s m args below meth c H locs 0 0 Q (F0 m 89 ls []) := by
              intro k1
              induction k1 with
              | zero => intro z43 H locs ls z43_a z43_b lq1_n hm; exact absurd hm (Nat.not_lt_zero _)
              | succ k1 ih1 =>
                intro z43 H locs ls z43_a z43_b lq1_n hm1 w hl
                refine lv_iload_n hx hb dX12_readDone_89 rfl (lv_at hl 0 rfl) ?_
                refine lv_aload_n hx hb dX12_readDone_90 rfl (lv_at hl 2 rfl) ?_
                refine r_get (v := .ref a3) M w 1 15 clX12 rfl (by decide) G1478 rfl rfl dX12_readDone_91 ?_
                refine lv_iconst (v := iI 0) hx hb dX12_readDone_94 (by decide +kernel) ?_
                refine r_iald (v := iI (f1 0)) M w 2 rfl (iI_in (by decide) (by decide) (by decide)) (cI_at (by omega) (by omega)) dX12_readDone_95 ?_
                have hh44 : (-2147483648) ≤ (f1 0) ∧ (f1 0) ≤ 2147483647 := f1_h.1 0
                have hh45 : 0 ≤ (f1 0) ∧ (f1 0) ≤ 9 := (f1_h.2.1 0).1 (by omega)
                refine lv_icmp_ge (tgt := 127) hx hb dX12_readDone_96 (by decide) (fun c_46 => ?_) (fun c_46 => ?_)
                · replace c_46 := (iI_le (by omega) (by omega) (Int.le_trans (by decide) z43_a) (Int.le_trans z43_b (by decide))).mp c_46
                  refine lv_aload_n hx hb dX12_readDone_127 rfl (lv_at hl 2 rfl) ?_
                  refine r_get (v := .ref a3) M w 1 15 clX12 rfl (by decide) G1478 rfl rfl dX12_readDone_128 ?_
                  refine lv_bipush (v := iI 32) hx hb dX12_readDone_131 (by decide +kernel) ?_
                  refine lv_iload_n hx hb dX12_readDone_133 rfl (lv_at hl 1 rfl) ?_
                  refine r_iadd (v := iI (32 + z12)) M (iI_add _ _) dX12_readDone_134 ?_
                  refine lv_aload_n hx hb dX12_readDone_135 rfl (lv_at hl 2 rfl) ?_
                  refine r_get (v := .int (iI z31)) M w 1 13 clX12 rfl (by decide) G1476 rfl rfl dX12_readDone_136 ?_
                  refine r_iast (ws' := [(a1, .inl (T 0, 940, .inl f0)), (a0, .inr (11, [.int r0, .ref a1, .int (iI x0), .int (iI x1), .int r1, .int (iI z20), .int fr21, .int (iI z22), .int (iI z23), .int fr24, .int fr29, .int fr30, .long fy25, .int (iI z31), .ref a2, .ref a3, .ref a4, .ref a5, .ref a6, .ref a7, .ref a8, .ref a9, .ref a10, .ref a11, .int (iI x6), .ref a12, .ref a13, .ref a14, .ref a15, .int (iI x7), .int r6, .int r7, .ref a16, .int r8, .int r9, .ref a17, .ref a18, .int (iI x8), .ref a19, .int (iI x9), .int r10, .ref a20, .ref a21, .int (iI x10), .int r11, .ref a22, .int (iI x11), .int (iI x12), .int (iI x13), .int (iI x14)])), (a3, .inl (T 0, 53, .inl (cI (upz f1 (32 + z12) z31)))), (a8, .inl (T 1, 12, .inr (.inl h0)))]) M w 2 rfl (iI_in (by omega) (by omega) (by decide)) (by rw [cI_up (by omega) (by omega)]; rfl) dX12_readDone_139 (fun H locs w => ?_)
                  refine lv_aload_n hx hb dX12_readDone_140 rfl (lv_at hl 2 rfl) ?_
                  refine k_V (ce := 0) (sl := 0) (rest := []) (wr := [(a3, .inl (T 0, 53, .inl (cI (upz f1 (32 + z12) z31)))), (a8, .inl (T 1, 12, .inr (.inl h0)))]) (r_V (f := 1) [1, 0] M w V_HookedCityModel_82 G1629 G49 (c12_X12_go l D T _ a0 r0 a1 x0 x1 r1 z20 fr21 z22 z23 fr24 fr29 fr30 fy25 z31 a2 a3 a4 a5 a6 a7 a8 a9 a10 a11 x6 a12 a13 a14 a15 x7 r6 r7 a16 r8 r9 a17 a18 x8 a19 x9 r10 a20 a21 x10 r11 a22 x11 x12 x13 x14 f0 x0_a x0_b x1_a x1_b z20_a z20_b z22_a z22_b z23_a z23_b z31_a z31_b x6_a x6_b x7_a x7_b x8_a x8_b x9_a x9_b x10_a x10_b x11_a x11_b x12_a x12_b x13_a x13_b x14_a x14_b) 1 clX12 rfl rfl (by decide) rfl hl.1 rfl (Nat.le_of_ble_eq_true rfl) dX12_readDone_141 (by decide) (by decide) (by decide) (by decide)) w [1, 0] [2, 3] rfl rfl (by decide) (by decide) rfl rfl (fun u H locs hp w => ?_)
                  obtain ⟨z47, fr48, z49, z50, fr51, fy52⟩ := u
                  have z47_a : 0 ≤ z47 := hp.1
                  have z47_b : z47 ≤ 940 := hp.2.1
                  have z49_a : 0 ≤ z49 := hp.2.2.1
                  have z49_b : z49 ≤ 4 := hp.2.2.2.1
                  have z50_a : (-2147483648) ≤ z50 := hp.2.2.2.2.1
                  have z50_b : z50 ≤ 2147483647 := hp.2.2.2.2.2.1
                  have ee53 : 0 ≤ (z47 - z20) := hp.2.2.2.2.2.2.1
                  have ee54 : 0 ≤ (((z47 - z20) - z49) + 3) := hp.2.2.2.2.2.2.2
                  have w : WD D A s.heap [(a3, .inl (T 0, 53, .inl (cI (upz f1 (32 + z12) z31)))), (a8, .inl (T 1, 12, .inr (.inl h0))), (a0, .inr (11, [.int r0, .ref a1, .int (iI x0), .int (iI x1), .int r1, .int (iI z47), .int fr48, .int (iI z49), .int (iI z50), .int fr51, .int fr29, .int fr30, .long fy52, .int (iI z31), .ref a2, .ref a3, .ref a4, .ref a5, .ref a6, .ref a7, .ref a8, .ref a9, .ref a10, .ref a11, .int (iI x6), .ref a12, .ref a13, .ref a14, .ref a15, .int (iI x7), .int r6, .int r7, .ref a16, .int r8, .int r9, .ref a17, .ref a18, .int (iI x8), .ref a19, .int (iI x9), .int r10, .ref a20, .ref a21, .int (iI x10), .int r11, .ref a22, .int (iI x11), .int (iI x12), .int (iI x13), .int (iI x14)])), (a1, .inl (T 0, 940, .inl f0))] H locs := w
                  refine lv_iconst (v := iI 1) hx hb dX12_readDone_144 (by decide +kernel) ?_
                  exact ret _ (1, z47, fr48, z49, z50, fr51, fr29, fr30, fy52, z31, (upz f1 (32 + z12) z31)) _ _ _ _ _ [2, 3, 0, 1] dX12_readDone_145 (by decide +kernel) ⟨rfl, (show (0 : Int) ≤ 1 from by decide), (show (1 : Int) ≤ 1 from by decide), z47_a, z47_b, z49_a, z49_b, z50_a, z50_b, z31_a, z31_b, (rd_in f1_h (by omega) (by omega) (by omega) (by omega) (fun p p0 p1 => lq1_n p p0 (by omega))), (show 0 ≤ (z47 - x2) from by omega), (show 0 ≤ ((((z47 - x2) - z49) + 4) - 1) from by omega)⟩ w (by decide) rfl
                · replace c_46 : z43 < (f1 0) := Int.not_le.mp (fun h => c_46 ((iI_le (by omega) (by omega) (Int.le_trans (by decide) z43_a) (Int.le_trans z43_b (by decide))).mpr h))
                  refine lv_aload_n hx hb dX12_readDone_99 rfl (lv_at hl 2 rfl) ?_
                  refine r_get (v := .ref a3) M w 1 15 clX12 rfl (by decide) G1478 rfl rfl dX12_readDone_100 ?_
                  refine lv_bipush (v := iI 32) hx hb dX12_readDone_103 (by decide +kernel) ?_
                  refine lv_iload_n hx hb dX12_readDone_105 rfl (lv_at hl 0 rfl) ?_
                  refine r_iadd (v := iI (32 + z43)) M (iI_add _ _) dX12_readDone_106 ?_
                  refine r_iald (v := iI (f1 (32 + z43))) M w 2 rfl (iI_in (by omega) (by omega) (by decide)) (cI_at (by omega) (by omega)) dX12_readDone_107 ?_
                  have hh55 : (-2147483648) ≤ (f1 (32 + z43)) ∧ (f1 (32 + z43)) ≤ 2147483647 := f1_h.1 (32 + z43)
                  have hh56 : (-1) ≤ (f1 (32 + z43)) ∧ (f1 (32 + z43)) ≤ 8 := (f1_h.2.1 (32 + z43)).2.2.2 (by omega) (by omega)
                  refine lv_aload_n hx hb dX12_readDone_108 rfl (lv_at hl 2 rfl) ?_
                  refine r_get (v := .int (iI z31)) M w 1 13 clX12 rfl (by decide) G1476 rfl rfl dX12_readDone_109 ?_
                  refine lv_icmp_ne (tgt := 121) hx hb dX12_readDone_112 (by decide) (fun c_57 => ?_) (fun c_57 => ?_)
                  · replace c_57 : ¬ (f1 (32 + z43)) = z31 := fun h => c_57 ((iI_eq (by omega) (by omega) (Int.le_trans (by decide) z31_a) (Int.le_trans z31_b (by decide))).mpr h)
                    refine lv_iinc (v := iI (z43 + 1)) (lv' := [(2, .int (iI (z43 + 1))), (1, .int (iI z12)), (0, .ref a0)]) hx hb dX12_readDone_121 hl (k := 0) rfl (ii_inc (by decide +kernel)) (by decide) rfl (fun ls hl => ?_)
                    refine lv_goto (tgt := 89) hx hb dX12_readDone_124 (by decide) ?_
                    exact ih1 (z43 + 1) _ _ _ (by omega) (by omega) (fun p p0 p1 => (Decidable.em (p < z43)).elim (fun h => lq1_n p p0 h) (fun h => by rw [show p = z43 by omega]; omega)) (by omega) w (lv_sub hl [0, 1, 2] rfl)
                  · replace c_57 := (iI_eq (by omega) (by omega) (Int.le_trans (by decide) z31_a) (Int.le_trans z31_b (by decide))).mp c_57
                    refine lv_aload_n hx hb dX12_readDone_115 rfl (lv_at hl 2 rfl) ?_
                    refine lv_iconst (v := iI 3) hx hb dX12_readDone_116 (by decide +kernel) ?_
                    refine k_I (ce := 0) (sl := 0) (rest := []) (wr := [(a1, .inl (T 0, 940, .inl f0)), (a3, .inl (T 0, 53, .inl (cI f1))), (a8, .inl (T 1, 12, .inr (.inl h0)))]) (r_V (f := 0) [1] M w V_HookedCityModel_72 G1667 G55 (c18_X12_bad l D T _ a0 3 r0 a1 x0 x1 r1 z20 fr21 z22 z23 fr24 fr29 fr30 fy25 z31 a2 a3 a4 a5 a6 a7 a8 a9 a10 a11 x6 a12 a13 a14 a15 x7 r6 r7 a16 r8 r9 a17 a18 x8 a19 x9 r10 a20 a21 x10 r11 a22 x11 x12 x13 x14 (by decide) (by decide) x0_a x0_b x1_a x1_b z20_a z20_b z22_a z22_b z23_a z23_b z31_a z31_b x6_a x6_b x7_a x7_b x8_a x8_b x9_a x9_b x10_a x10_b x11_a x11_b x12_a x12_b x13_a x13_b x14_a x14_b) 1 clX12 rfl rfl (by decide) rfl hl.1 rfl (Nat.le_of_ble_eq_true rfl) dX12_readDone_117 (by decide) (by decide) (by decide) (by decide)) w [1] [0, 2, 3] rfl rfl (by decide) (by decide) rfl rfl (fun v u H locs hp w => ?_)
                    obtain ⟨z58, fr59, fr60⟩ := u
                    have hv : iI z58 = v := hp.1
                    subst hv
                    have z58_a : 0 ≤ z58 := hp.2.1
                    have z58_b : z58 ≤ 1 := hp.2.2.1
                    have w : WD D A s.heap [(a1, .inl (T 0, 940, .inl f0)), (a3, .inl (T 0, 53, .inl (cI f1))), (a8, .inl (T 1, 12, .inr (.inl h0))), (a0, .inr (11, [.int r0, .ref a1, .int (iI x0), .int (iI x1), .int r1, .int (iI z20), .int fr21, .int (iI z22), .int (iI z23), .int fr24, .int fr59, .int fr60, .long fy25, .int (iI z31), .ref a2, .ref a3, .ref a4, .ref a5, .ref a6, .ref a7, .ref a8, .ref a9, .ref a10, .ref a11, .int (iI x6), .ref a12, .ref a13, .ref a14, .ref a15, .int (iI x7), .int r6, .int r7, .ref a16, .int r8, .int r9, .ref a17, .ref a18, .int (iI x8), .ref a19, .int (iI x9), .int r10, .ref a20, .ref a21, .int (iI x10), .int r11, .ref a22, .int (iI x11), .int (iI x12), .int (iI x13), .int (iI x14)]))] H locs := w
                    rcases hp.2.2.2 with hr
                    · subst hr
                      exact ret _ (0, z20, fr21, z22, z23, fr24, fr59, fr60, fy25, z31, f1) _ _ _ _ _ [3, 0, 1, 2] dX12_readDone_120 (by decide +kernel) ⟨rfl, (show (0 : Int) ≤ 0 from by decide), (show (0 : Int) ≤ 1 from by decide), z20_a, z20_b, z22_a, z22_b, z23_a, z23_b, z31_a, z31_b, f1_h, (show 0 ≤ (z20 - x2) from by omega), (show 0 ≤ ((((z20 - x2) - z22) + 4) - 0) from by omega)⟩ w (by decide) rfl
            exact loop1 ((9 : Int).toNat + 1) 0 _ _ _ (by decide) (by decide) (fun p p0 p1 => absurd p1 (by omega)) (Nat.lt_succ_self _) w (lv_sub hl [0, 1, 2] rfl)
          · replace c_42 : ¬ (f1 (5 + z31)) = (f1 (14 + z12)) := fun h => c_42 ((iI_eq (by omega) (by omega) (by omega) (by omega)).mpr h)
            refine lv_aload_n hx hb dX12_readDone_81 rfl (lv_at hl 1 rfl) ?_
            refine lv_iconst (v := iI 3) hx hb dX12_readDone_82 (by decide +kernel) ?_
            refine k_I (ce := 0) (sl := 0) (rest := []) (wr := [(a1, .inl (T 0, 940, .inl f0)), (a3, .inl (T 0, 53, .inl (cI f1))), (a8, .inl (T 1, 12, .inr (.inl h0)))]) (r_V (f := 0) [1] M w V_HookedCityModel_72 G1667 G55 (c18_X12_bad l D T _ a0 3 r0 a1 x0 x1 r1 z20 fr21 z22 z23 fr24 fr29 fr30 fy25 z31 a2 a3 a4 a5 a6 a7 a8 a9 a10 a11 x6 a12 a13 a14 a15 x7 r6 r7 a16 r8 r9 a17 a18 x8 a19 x9 r10 a20 a21 x10 r11 a22 x11 x12 x13 x14 (by decide) (by decide) x0_a x0_b x1_a x1_b z20_a z20_b z22_a z22_b z23_a z23_b z31_a z31_b x6_a x6_b x7_a x7_b x8_a x8_b x9_a x9_b x10_a x10_b x11_a x11_b x12_a x12_b x13_a x13_b x14_a x14_b) 1 clX12 rfl rfl (by decide) rfl hl.1 rfl (Nat.le_of_ble_eq_true rfl) dX12_readDone_83 (by decide) (by decide) (by decide) (by decide)) w [1] [0, 2, 3] rfl rfl (by decide) (by decide) rfl rfl (fun v u H locs hp w => ?_)
            obtain ⟨z61, fr62, fr63⟩ := u
            have hv : iI z61 = v := hp.1
            subst hv
            have z61_a : 0 ≤ z61 := hp.2.1
            have z61_b : z61 ≤ 1 := hp.2.2.1
            have w : WD D A s.heap [(a1, .inl (T 0, 940, .inl f0)), (a3, .inl (T 0, 53, .inl (cI f1))), (a8, .inl (T 1, 12, .inr (.inl h0))), (a0, .inr (11, [.int r0, .ref a1, .int (iI x0), .int (iI x1), .int r1, .int (iI z20), .int fr21, .int (iI z22), .int (iI z23), .int fr24, .int fr62, .int fr63, .long fy25, .int (iI z31), .ref a2, .ref a3, .ref a4, .ref a5, .ref a6, .ref a7, .ref a8, .ref a9, .ref a10, .ref a11, .int (iI x6), .ref a12, .ref a13, .ref a14, .ref a15, .int (iI x7), .int r6, .int r7, .ref a16, .int r8, .int r9, .ref a17, .ref a18, .int (iI x8), .ref a19, .int (iI x9), .int r10, .ref a20, .ref a21, .int (iI x10), .int r11, .ref a22, .int (iI x11), .int (iI x12), .int (iI x13), .int (iI x14)]))] H locs := w
            rcases hp.2.2.2 with hr
            · subst hr
              exact ret _ (0, z20, fr21, z22, z23, fr24, fr62, fr63, fy25, z31, f1) _ _ _ _ _ [3, 0, 1, 2] dX12_readDone_86 (by decide +kernel) ⟨rfl, (show (0 : Int) ≤ 0 from by decide), (show (0 : Int) ≤ 1 from by decide), z20_a, z20_b, z22_a, z22_b, z23_a, z23_b, z31_a, z31_b, f1_h, (show 0 ≤ (z20 - x2) from by omega), (show 0 ≤ ((((z20 - x2) - z22) + 4) - 0) from by omega)⟩ w (by decide) rfl
      · replace c_35 := (iz_eq (Int.le_trans (by decide) z28_a) (Int.le_trans z28_b (by decide))).mp c_35
        refine lv_iconst (v := iI 0) hx hb dX12_readDone_48 (by decide +kernel) ?_
        exact ret _ (0, z20, fr21, z22, z23, fr24, fr29, fr30, fy25, z31, f1) _ _ _ _ _ [1, 0, 2, 3] dX12_readDone_49 (by decide +kernel) ⟨rfl, (show (0 : Int) ≤ 0 from by decide), (show (0 : Int) ≤ 1 from by decide), z20_a, z20_b, z22_a, z22_b, z23_a, z23_b, z31_a, z31_b, f1_h, (show 0 ≤ (z20 - x2) from by omega), (show 0 ≤ ((((z20 - x2) - z22) + 4) - 0) from by omega)⟩ w (by decide) rfl
    · replace c_19 : ¬ (f1 (32 + z12)) = (-1) := fun h => c_19 ((iI_eq (by omega) (by omega) (by decide) (by decide)).mpr h)
      refine lv_aload_n hx hb dX12_readDone_31 rfl (lv_at hl 1 rfl) ?_
      refine lv_iconst (v := iI 3) hx hb dX12_readDone_32 (by decide +kernel) ?_
      refine k_I (ce := 0) (sl := 0) (rest := []) (wr := [(a1, .inl (T 0, 940, .inl f0)), (a3, .inl (T 0, 53, .inl (cI f1))), (a8, .inl (T 1, 12, .inr (.inl h0)))]) (r_V (f := 0) [1] M w V_HookedCityModel_72 G1667 G55 (c18_X12_bad l D T _ a0 3 r0 a1 x0 x1 r1 z1 fr2 z3 z4 fr5 fr10 fr11 fy6 z12 a2 a3 a4 a5 a6 a7 a8 a9 a10 a11 x6 a12 a13 a14 a15 x7 r6 r7 a16 r8 r9 a17 a18 x8 a19 x9 r10 a20 a21 x10 r11 a22 x11 x12 x13 x14 (by decide) (by decide) x0_a x0_b x1_a x1_b z1_a z1_b z3_a z3_b z4_a z4_b z12_a z12_b x6_a x6_b x7_a x7_b x8_a x8_b x9_a x9_b x10_a x10_b x11_a x11_b x12_a x12_b x13_a x13_b x14_a x14_b) 1 clX12 rfl rfl (by decide) rfl hl.1 rfl (Nat.le_of_ble_eq_true rfl) dX12_readDone_33 (by decide) (by decide) (by decide) (by decide)) w [1] [0, 2, 3] rfl rfl (by decide) (by decide) rfl rfl (fun v u H locs hp w => ?_)
      obtain ⟨z64, fr65, fr66⟩ := u
      have hv : iI z64 = v := hp.1
      subst hv
      have z64_a : 0 ≤ z64 := hp.2.1
      have z64_b : z64 ≤ 1 := hp.2.2.1
      have w : WD D A s.heap [(a1, .inl (T 0, 940, .inl f0)), (a3, .inl (T 0, 53, .inl (cI f1))), (a8, .inl (T 1, 12, .inr (.inl h0))), (a0, .inr (11, [.int r0, .ref a1, .int (iI x0), .int (iI x1), .int r1, .int (iI z1), .int fr2, .int (iI z3), .int (iI z4), .int fr5, .int fr65, .int fr66, .long fy6, .int (iI z12), .ref a2, .ref a3, .ref a4, .ref a5, .ref a6, .ref a7, .ref a8, .ref a9, .ref a10, .ref a11, .int (iI x6), .ref a12, .ref a13, .ref a14, .ref a15, .int (iI x7), .int r6, .int r7, .ref a16, .int r8, .int r9, .ref a17, .ref a18, .int (iI x8), .ref a19, .int (iI x9), .int r10, .ref a20, .ref a21, .int (iI x10), .int r11, .ref a22, .int (iI x11), .int (iI x12), .int (iI x13), .int (iI x14)]))] H locs := w
      rcases hp.2.2.2 with hr
      · subst hr
        exact ret _ (0, z1, fr2, z3, z4, fr5, fr65, fr66, fy6, z12, f1) _ _ _ _ _ [3, 0, 1, 2] dX12_readDone_36 (by decide +kernel) ⟨rfl, (show (0 : Int) ≤ 0 from by decide), (show (0 : Int) ≤ 1 from by decide), z1_a, z1_b, z3_a, z3_b, z4_a, z4_b, z12_a, z12_b, f1_h, (show 0 ≤ (z1 - x2) from by omega), (show 0 ≤ ((((z1 - x2) - z3) + 4) - 0) from by omega)⟩ w (by decide) rfl
  · replace c_16 := (iz_eq (Int.le_trans (by decide) z9_a) (Int.le_trans z9_b (by decide))).mp c_16
    refine lv_iconst (v := iI 0) hx hb dX12_readDone_11 (by decide +kernel) ?_
    exact ret _ (0, z1, fr2, z3, z4, fr5, fr10, fr11, fy6, z12, f1) _ _ _ _ _ [1, 0, 2, 3] dX12_readDone_12 (by decide +kernel) ⟨rfl, (show (0 : Int) ≤ 0 from by decide), (show (0 : Int) ≤ 1 from by decide), z1_a, z1_b, z3_a, z3_b, z4_a, z4_b, z12_a, z12_b, f1_h, (show 0 ≤ (z1 - x2) from by omega), (show 0 ≤ ((((z1 - x2) - z3) + 4) - 0) from by omega)⟩ w (by decide) rfl
set_option maxRecDepth 100000 in
set_option maxHeartbeats 4000000 in
theorem c35_X12_readOnce (l : Launch) (D : va_G) (T : Nat → ClassId) (sz : Nat) (a0 : Nat) (r0 : Int32) (a1 : Nat) (x0 : Int) (x1 : Int) (r1 : Int32) (x2 : Int) (r2 : Int32) (x3 : Int) (x4 : Int) (r3 : Int32) (r4 : Int32) (r5 : Int32) (y0 : Int64) (x5 : Int) (a2 : Nat) (a3 : Nat) (a4 : Nat) (a5 : Nat) (a6 : Nat) (a7 : Nat) (a8 : Nat) (a9 : Nat) (a10 : Nat) (a11 : Nat) (x6 : Int) (a12 : Nat) (a13 : Nat) (a14 : Nat) (a15 : Nat) (x7 : Int) (r6 : Int32) (r7 : Int32) (a16 : Nat) (r8 : Int32) (r9 : Int32) (a17 : Nat) (a18 : Nat) (x8 : Int) (a19 : Nat) (x9 : Int) (r10 : Int32) (a20 : Nat) (a21 : Nat) (x10 : Int) (r11 : Int32) (a22 : Nat) (x11 : Int) (x12 : Int) (x13 : Int) (x14 : Int) (f0 : Nat → Int32) (f1 : Int → Int) (f2 : Int → Int) (x0_a : 0 ≤ x0) (x0_b : x0 ≤ 940) (x1_a : 0 ≤ x1) (x1_b : x1 ≤ 940) (x2_a : 0 ≤ x2) (x2_b : x2 ≤ 940) (x3_a : 0 ≤ x3) (x3_b : x3 ≤ 4) (x4_a : (-2147483648) ≤ x4) (x4_b : x4 ≤ 2147483647) (x5_a : (-2147483648) ≤ x5) (x5_b : x5 ≤ 2147483647) (x6_a : 0 ≤ x6) (x6_b : x6 ≤ 8) (x7_a : 0 ≤ x7) (x7_b : x7 ≤ 9) (x8_a : 0 ≤ x8) (x8_b : x8 ≤ 9) (x9_a : 0 ≤ x9) (x9_b : x9 ≤ 64) (x10_a : 0 ≤ x10) (x10_b : x10 ≤ 40) (x11_a : 0 ≤ x11) (x11_b : x11 ≤ 40) (x12_a : 0 ≤ x12) (x12_b : x12 ≤ 20) (x13_a : 0 ≤ x13) (x13_b : x13 ≤ 8) (x14_a : 0 ≤ x14) (x14_b : x14 ≤ 39) (f1_h : rdI f1) (f2_h : rng 0 1 f2) : Met l yX12_readOnce (Cond.code yX12_readOnce cX12_readOnce 4 (some .boolean) :: GW) (Rm 3 0 0) (cPre [.ref a0, .int (iI 2), .int (iI 0), .int (iI 60)] D T [(a0, .inr (11, [.int r0, .ref a1, .int (iI x0), .int (iI x1), .int r1, .int (iI x2), .int r2, .int (iI x3), .int (iI x4), .int r3, .int r4, .int r5, .long y0, .int (iI x5), .ref a2, .ref a3, .ref a4, .ref a5, .ref a6, .ref a7, .ref a8, .ref a9, .ref a10, .ref a11, .int (iI x6), .ref a12, .ref a13, .ref a14, .ref a15, .int (iI x7), .int r6, .int r7, .ref a16, .int r8, .int r9, .ref a17, .ref a18, .int (iI x8), .ref a19, .int (iI x9), .int r10, .ref a20, .ref a21, .int (iI x10), .int r11, .ref a22, .int (iI x11), .int (iI x12), .int (iI x13), .int (iI x14)])), (a1, .inl (T 0, 940, .inl f0)), (a3, .inl (T 0, 53, .inl (cI f1))), (a11, .inl (T 2, 3, .inl (cI f2)))] sz) (qI D [(a0, .inr (11, [.int r0, .ref a1, .int (iI x0), .int (iI x1), .int r1, .int (iI x2), .int r2, .int (iI x3), .int (iI x4), .int r3, .int r4, .int r5, .long y0, .int (iI x5), .ref a2, .ref a3, .ref a4, .ref a5, .ref a6, .ref a7, .ref a8, .ref a9, .ref a10, .ref a11, .int (iI x6), .ref a12, .ref a13, .ref a14, .ref a15, .int (iI x7), .int r6, .int r7, .ref a16, .int r8, .int r9, .ref a17, .ref a18, .int (iI x8), .ref a19, .int (iI x9), .int r10, .ref a20, .ref a21, .int (iI x10), .int r11, .ref a22, .int (iI x11), .int (iI x12), .int (iI x13), .int (iI x14)])), (a1, .inl (T 0, 940, .inl f0)), (a3, .inl (T 0, 53, .inl (cI f1))), (a11, .inl (T 2, 3, .inl (cI f2)))] sz (fun (v : Int32) (u : Int × Int × Int32 × Int × Int × Int32 × Int32 × Int32 × Int64 × Int × (Int → Int) × (Int → Int)) => iI u.1 = v ∧ 0 ≤ u.1 ∧ u.1 ≤ 1 ∧ 0 ≤ u.2.1 ∧ u.2.1 ≤ 940 ∧ 0 ≤ u.2.2.2.1 ∧ u.2.2.2.1 ≤ 4 ∧ (-2147483648) ≤ u.2.2.2.2.1 ∧ u.2.2.2.2.1 ≤ 2147483647 ∧ (-2147483648) ≤ u.2.2.2.2.2.2.2.2.2.1 ∧ u.2.2.2.2.2.2.2.2.2.1 ≤ 2147483647 ∧ rdI u.2.2.2.2.2.2.2.2.2.2.1 ∧ rng 0 1 u.2.2.2.2.2.2.2.2.2.2.2 ∧ 0 ≤ (u.2.1 - x2) ∧ 0 ≤ ((((u.2.1 - x2) - u.2.2.2.1) + 4) - u.1)) (fun u => [(a0, .inr (11, [.int r0, .ref a1, .int (iI x0), .int (iI x1), .int r1, .int (iI u.2.1), .int u.2.2.1, .int (iI u.2.2.2.1), .int (iI u.2.2.2.2.1), .int u.2.2.2.2.2.1, .int u.2.2.2.2.2.2.1, .int u.2.2.2.2.2.2.2.1, .long u.2.2.2.2.2.2.2.2.1, .int (iI u.2.2.2.2.2.2.2.2.2.1), .ref a2, .ref a3, .ref a4, .ref a5, .ref a6, .ref a7, .ref a8, .ref a9, .ref a10, .ref a11, .int (iI x6), .ref a12, .ref a13, .ref a14, .ref a15, .int (iI x7), .int r6, .int r7, .ref a16, .int r8, .int r9, .ref a17, .ref a18, .int (iI x8), .ref a19, .int (iI x9), .int r10, .ref a20, .ref a21, .int (iI x10), .int r11, .ref a22, .int (iI x11), .int (iI x12), .int (iI x13), .int (iI x14)])), (a1, .inl (T 0, 940, .inl f0)), (a3, .inl (T 0, 53, .inl (cI u.2.2.2.2.2.2.2.2.2.2.1))), (a11, .inl (T 2, 3, .inl (cI u.2.2.2.2.2.2.2.2.2.2.2)))])) 0 0 (va_A [(a0, .inr (11, [.int r0, .ref a1, .int (iI x0), .int (iI x1), .int r1, .int (iI x2), .int r2, .int (iI x3), .int (iI x4), .int r3, .int r4, .int r5, .long y0, .int (iI x5), .ref a2, .ref a3, .ref a4, .ref a5, .ref a6, .ref a7, .ref a8, .ref a9, .ref a10, .ref a11, .int (iI x6), .ref a12, .ref a13, .ref a14, .ref a15, .int (iI x7), .int r6, .int r7, .ref a16, .int r8, .int r9, .ref a17, .ref a18, .int (iI x8), .ref a19, .int (iI x9), .int r10, .ref a20, .ref a21, .int (iI x10), .int r11, .ref a22, .int (iI x11), .int (iI x12), .int (iI x13), .int (iI x14)])), (a1, .inl (T 0, 940, .inl f0)), (a3, .inl (T 0, 53, .inl (cI f1))), (a11, .inl (T 2, 3, .inl (cI f2)))] sz) := by
  refine e_Z (by decide) (Nat.le_of_ble_eq_true rfl) ?_
  intro p e s m args below meth c A Q ls M hin w ret hl
  have hx := M.1.1
  have hb := M.1.2.1
  have hl : lv_has ls 4 [(0, .ref a0), (1, .int (iI 2)), (2, .int (iI 0)), (3, .int (iI 60))] := hl
  refine lv_aload_n hx hb dX12_readOnce_0 rfl (lv_at hl 0 rfl) ?_
  refine r_get (v := .ref a11) M w 0 23 clX12 rfl (by decide) G1486 rfl rfl dX12_readOnce_1 ?_
  refine lv_iload_n hx hb dX12_readOnce_4 rfl (lv_at hl 1 rfl) ?_
  refine r_zald (v := iI (f2 2)) M w 3 rfl (iI_in (by decide) (by decide) (by decide)) (cI_at (by omega) (by omega)) dX12_readOnce_5 ?_
  have hh1 : 0 ≤ (f2 2) ∧ (f2 2) ≤ 1 := f2_h 2
  refine lv_if_eq (tgt := 15) hx hb dX12_readOnce_6 (by decide) (fun c_2 => ?_) (fun c_2 => ?_)
  · replace c_2 := (iz_eq (by omega) (by omega)).mp c_2
    refine lv_aload_n hx hb dX12_readOnce_15 rfl (lv_at hl 0 rfl) ?_
    refine r_get (v := .ref a11) M w 0 23 clX12 rfl (by decide) G1486 rfl rfl dX12_readOnce_16 ?_
    refine lv_iload_n hx hb dX12_readOnce_19 rfl (lv_at hl 1 rfl) ?_
    refine lv_iconst (v := iI 1) hx hb dX12_readOnce_20 (by decide +kernel) ?_
    refine r_zast (x2 := iI 1) (ws' := [(a0, .inr (11, [.int r0, .ref a1, .int (iI x0), .int (iI x1), .int r1, .int (iI x2), .int r2, .int (iI x3), .int (iI x4), .int r3, .int r4, .int r5, .long y0, .int (iI x5), .ref a2, .ref a3, .ref a4, .ref a5, .ref a6, .ref a7, .ref a8, .ref a9, .ref a10, .ref a11, .int (iI x6), .ref a12, .ref a13, .ref a14, .ref a15, .int (iI x7), .int r6, .int r7, .ref a16, .int r8, .int r9, .ref a17, .ref a18, .int (iI x8), .ref a19, .int (iI x9), .int r10, .ref a20, .ref a21, .int (iI x10), .int r11, .ref a22, .int (iI x11), .int (iI x12), .int (iI x13), .int (iI x14)])), (a1, .inl (T 0, 940, .inl f0)), (a3, .inl (T 0, 53, .inl (cI f1))), (a11, .inl (T 2, 3, .inl (cI (upz f2 2 1))))]) M w 3 rfl (iI_in (by decide) (by decide) (by decide)) (nb_z (by omega) (by omega)) (by rw [cI_up (by omega) (by omega)]; rfl) dX12_readOnce_21 (fun H locs w => ?_)
    refine lv_aload_n hx hb dX12_readOnce_22 rfl (lv_at hl 0 rfl) ?_
    refine k_V (ce := 0) (sl := 0) (rest := []) (wr := [(a3, .inl (T 0, 53, .inl (cI f1))), (a11, .inl (T 2, 3, .inl (cI (upz f2 2 1))))]) (r_V (f := 1) [0, 1] M w V_HookedCityModel_82 G1629 G49 (c12_X12_go l D T _ a0 r0 a1 x0 x1 r1 x2 r2 x3 x4 r3 r4 r5 y0 x5 a2 a3 a4 a5 a6 a7 a8 a9 a10 a11 x6 a12 a13 a14 a15 x7 r6 r7 a16 r8 r9 a17 a18 x8 a19 x9 r10 a20 a21 x10 r11 a22 x11 x12 x13 x14 f0 x0_a x0_b x1_a x1_b x2_a x2_b x3_a x3_b x4_a x4_b x5_a x5_b x6_a x6_b x7_a x7_b x8_a x8_b x9_a x9_b x10_a x10_b x11_a x11_b x12_a x12_b x13_a x13_b x14_a x14_b) 0 clX12 rfl rfl (by decide) rfl hl.1 rfl (Nat.le_of_ble_eq_true rfl) dX12_readOnce_23 (by decide) (by decide) (by decide) (by decide)) w [0, 1] [2, 3] rfl rfl (by decide) (by decide) rfl rfl (fun u H locs hp w => ?_)
    obtain ⟨z3, fr4, z5, z6, fr7, fy8⟩ := u
    have z3_a : 0 ≤ z3 := hp.1
    have z3_b : z3 ≤ 940 := hp.2.1
    have z5_a : 0 ≤ z5 := hp.2.2.1
    have z5_b : z5 ≤ 4 := hp.2.2.2.1
    have z6_a : (-2147483648) ≤ z6 := hp.2.2.2.2.1
    have z6_b : z6 ≤ 2147483647 := hp.2.2.2.2.2.1
    have ee9 : 0 ≤ (z3 - x2) := hp.2.2.2.2.2.2.1
    have ee10 : 0 ≤ (((z3 - x2) - z5) + 3) := hp.2.2.2.2.2.2.2
    have w : WD D A s.heap [(a3, .inl (T 0, 53, .inl (cI f1))), (a11, .inl (T 2, 3, .inl (cI (upz f2 2 1)))), (a0, .inr (11, [.int r0, .ref a1, .int (iI x0), .int (iI x1), .int r1, .int (iI z3), .int fr4, .int (iI z5), .int (iI z6), .int fr7, .int r4, .int r5, .long fy8, .int (iI x5), .ref a2, .ref a3, .ref a4, .ref a5, .ref a6, .ref a7, .ref a8, .ref a9, .ref a10, .ref a11, .int (iI x6), .ref a12, .ref a13, .ref a14, .ref a15, .int (iI x7), .int r6, .int r7, .ref a16, .int r8, .int r9, .ref a17, .ref a18, .int (iI x8), .ref a19, .int (iI x9), .int r10, .ref a20, .ref a21, .int (iI x10), .int r11, .ref a22, .int (iI x11), .int (iI x12), .int (iI x13), .int (iI x14)])), (a1, .inl (T 0, 940, .inl f0))] H locs := w
    refine lv_aload_n hx hb dX12_readOnce_26 rfl (lv_at hl 0 rfl) ?_
    refine lv_iconst (v := iI 2) hx hb dX12_readOnce_27 (by decide +kernel) ?_
    refine lv_iload_n hx hb dX12_readOnce_28 rfl (lv_at hl 1 rfl) ?_
    refine r_iadd (v := iI 4) M (by decide +kernel) dX12_readOnce_29 ?_
    refine lv_aload_n hx hb dX12_readOnce_30 rfl (lv_at hl 0 rfl) ?_
    refine lv_iload_n hx hb dX12_readOnce_31 rfl (lv_at hl 2 rfl) ?_
    refine lv_iload_n hx hb dX12_readOnce_32 rfl (lv_at hl 3 rfl) ?_
    refine k_I (ce := 0) (sl := 0) (rest := [.int (iI 4), .ref a0]) (wr := [(a3, .inl (T 0, 53, .inl (cI f1))), (a11, .inl (T 2, 3, .inl (cI (upz f2 2 1))))]) (r_V (f := 2) [2, 3] M w V_HookedCityModel_200 G1690 G60 (c19_X12_readNumber l D T _ a0 0 60 r0 a1 x0 x1 r1 z3 fr4 z5 z6 fr7 r4 r5 fy8 x5 a2 a3 a4 a5 a6 a7 a8 a9 a10 a11 x6 a12 a13 a14 a15 x7 r6 r7 a16 r8 r9 a17 a18 x8 a19 x9 r10 a20 a21 x10 r11 a22 x11 x12 x13 x14 f0 (by decide) (by decide) (by decide) (by decide) x0_a x0_b x1_a x1_b z3_a z3_b z5_a z5_b z6_a z6_b x5_a x5_b x6_a x6_b x7_a x7_b x8_a x8_b x9_a x9_b x10_a x10_b x11_a x11_b x12_a x12_b x13_a x13_b x14_a x14_b) 2 clX12 rfl rfl (by decide) rfl hl.1 rfl (Nat.le_of_ble_eq_true rfl) dX12_readOnce_33 (by decide) (by decide) (by decide) (by decide)) w [2, 3] [0, 1] rfl rfl (by decide) (by decide) rfl rfl (fun v u H locs hp w => ?_)
    obtain ⟨z11, z12, fr13, z14, z15, fr16, fr17, fr18, fy19, z20⟩ := u
    have hv : iI z11 = v := hp.1
    subst hv
    have z11_a : 0 ≤ z11 := hp.2.1
    have z11_b : z11 ≤ 1 := hp.2.2.1
    have z12_a : 0 ≤ z12 := hp.2.2.2.1
    have z12_b : z12 ≤ 940 := hp.2.2.2.2.1
    have z14_a : 0 ≤ z14 := hp.2.2.2.2.2.1
    have z14_b : z14 ≤ 4 := hp.2.2.2.2.2.2.1
    have z15_a : (-2147483648) ≤ z15 := hp.2.2.2.2.2.2.2.1
    have z15_b : z15 ≤ 2147483647 := hp.2.2.2.2.2.2.2.2.1
    have z20_a : (-2147483648) ≤ z20 := hp.2.2.2.2.2.2.2.2.2.1
    have z20_b : z20 ≤ 2147483647 := hp.2.2.2.2.2.2.2.2.2.2.1
    have ee21 : 0 ≤ (z12 - z3) := hp.2.2.2.2.2.2.2.2.2.2.2.1
    have ee22 : 0 ≤ ((((z12 - z3) - z14) + 4) - z11) := hp.2.2.2.2.2.2.2.2.2.2.2.2.1
    have ee23 : 0 ≤ (((z20 - 0) + 4294967296) - (z11 * 4294967296)) := hp.2.2.2.2.2.2.2.2.2.2.2.2.2.1
    have ee24 : 0 ≤ (((60 - z20) + 4294967296) - (z11 * 4294967296)) := hp.2.2.2.2.2.2.2.2.2.2.2.2.2.2
    have w : WD D A s.heap [(a3, .inl (T 0, 53, .inl (cI f1))), (a11, .inl (T 2, 3, .inl (cI (upz f2 2 1)))), (a0, .inr (11, [.int r0, .ref a1, .int (iI x0), .int (iI x1), .int r1, .int (iI z12), .int fr13, .int (iI z14), .int (iI z15), .int fr16, .int fr17, .int fr18, .long fy19, .int (iI z20), .ref a2, .ref a3, .ref a4, .ref a5, .ref a6, .ref a7, .ref a8, .ref a9, .ref a10, .ref a11, .int (iI x6), .ref a12, .ref a13, .ref a14, .ref a15, .int (iI x7), .int r6, .int r7, .ref a16, .int r8, .int r9, .ref a17, .ref a18, .int (iI x8), .ref a19, .int (iI x9), .int r10, .ref a20, .ref a21, .int (iI x10), .int r11, .ref a22, .int (iI x11), .int (iI x12), .int (iI x13), .int (iI x14)])), (a1, .inl (T 0, 940, .inl f0))] H locs := w
    refine k_I (ce := 0) (sl := 0) (rest := []) (wr := [(a11, .inl (T 2, 3, .inl (cI (upz f2 2 1)))), (a1, .inl (T 0, 940, .inl f0))]) (r_V (f := 0) [2, 0] M w V_HookedCityModel_196 G1686 G59 (c28_X12_put l D T _ a0 4 z11 r0 a1 x0 x1 r1 z12 fr13 z14 z15 fr16 fr17 fr18 fy19 z20 a2 a3 a4 a5 a6 a7 a8 a9 a10 a11 x6 a12 a13 a14 a15 x7 r6 r7 a16 r8 r9 a17 a18 x8 a19 x9 r10 a20 a21 x10 r11 a22 x11 x12 x13 x14 f1 (by decide) (by decide) z11_a z11_b x0_a x0_b x1_a x1_b z12_a z12_b z14_a z14_b z15_a z15_b z20_a z20_b x6_a x6_b x7_a x7_b x8_a x8_b x9_a x9_b x10_a x10_b x11_a x11_b x12_a x12_b x13_a x13_b x14_a x14_b f1_h (fun h => rd_up f1_h (by omega) (by omega) (by unfold rr; omega) (fun h => absurd h (by omega)) (by omega))) 2 clX12 rfl rfl (by decide) rfl hl.1 rfl (Nat.le_of_ble_eq_true rfl) dX12_readOnce_36 (by decide) (by decide) (by decide) (by decide)) w [2, 0] [1, 3] rfl rfl (by decide) (by decide) rfl rfl (fun v u H locs hp w => ?_)
    obtain ⟨z25, ff26⟩ := u
    have hv : iI z25 = v := hp.1
    subst hv
    have z25_a : 0 ≤ z25 := hp.2.1
    have z25_b : z25 ≤ 1 := hp.2.2.1
    have ff26_h : rdI ff26 := hp.2.2.2.1
    have ee27 : 0 ≤ (z11 - z25) := hp.2.2.2.2.1
    have ee28 : 0 ≤ (z25 - z11) := hp.2.2.2.2.2.1
    have pq29 : ff26 0 = f1 0 := hp.2.2.2.2.2.2.1
    have pq30 : ff26 1 = f1 1 := hp.2.2.2.2.2.2.2
    have w : WD D A s.heap [(a11, .inl (T 2, 3, .inl (cI (upz f2 2 1)))), (a1, .inl (T 0, 940, .inl f0)), (a0, .inr (11, [.int r0, .ref a1, .int (iI x0), .int (iI x1), .int r1, .int (iI z12), .int fr13, .int (iI z14), .int (iI z15), .int fr16, .int fr17, .int fr18, .long fy19, .int (iI z20), .ref a2, .ref a3, .ref a4, .ref a5, .ref a6, .ref a7, .ref a8, .ref a9, .ref a10, .ref a11, .int (iI x6), .ref a12, .ref a13, .ref a14, .ref a15, .int (iI x7), .int r6, .int r7, .ref a16, .int r8, .int r9, .ref a17, .ref a18, .int (iI x8), .ref a19, .int (iI x9), .int r10, .ref a20, .ref a21, .int (iI x10), .int r11, .ref a22, .int (iI x11), .int (iI x12), .int (iI x13), .int (iI x14)])), (a3, .inl (T 0, 53, .inl (cI ff26)))] H locs := w
    exact ret _ (z25, z12, fr13, z14, z15, fr16, fr17, fr18, fy19, z20, ff26, (upz f2 2 1)) _ _ _ _ _ [2, 1, 3, 0] dX12_readOnce_39 (nb_n (by omega) (by omega)) ⟨rfl, z25_a, z25_b, z12_a, z12_b, z14_a, z14_b, z15_a, z15_b, z20_a, z20_b, ff26_h, (rng_up f2_h (by omega) (by omega)), (show 0 ≤ (z12 - x2) from by omega), (show 0 ≤ ((((z12 - x2) - z14) + 4) - z25) from by omega)⟩ w (by decide) rfl
  · replace c_2 : ¬ (f2 2) = 0 := fun h => c_2 ((iz_eq (by omega) (by omega)).mpr h)
    refine lv_aload_n hx hb dX12_readOnce_9 rfl (lv_at hl 0 rfl) ?_
    refine lv_iconst (v := iI 3) hx hb dX12_readOnce_10 (by decide +kernel) ?_
    refine k_I (ce := 0) (sl := 0) (rest := []) (wr := [(a1, .inl (T 0, 940, .inl f0)), (a3, .inl (T 0, 53, .inl (cI f1))), (a11, .inl (T 2, 3, .inl (cI f2)))]) (r_V (f := 0) [0] M w V_HookedCityModel_72 G1667 G55 (c18_X12_bad l D T _ a0 3 r0 a1 x0 x1 r1 x2 r2 x3 x4 r3 r4 r5 y0 x5 a2 a3 a4 a5 a6 a7 a8 a9 a10 a11 x6 a12 a13 a14 a15 x7 r6 r7 a16 r8 r9 a17 a18 x8 a19 x9 r10 a20 a21 x10 r11 a22 x11 x12 x13 x14 (by decide) (by decide) x0_a x0_b x1_a x1_b x2_a x2_b x3_a x3_b x4_a x4_b x5_a x5_b x6_a x6_b x7_a x7_b x8_a x8_b x9_a x9_b x10_a x10_b x11_a x11_b x12_a x12_b x13_a x13_b x14_a x14_b) 0 clX12 rfl rfl (by decide) rfl hl.1 rfl (Nat.le_of_ble_eq_true rfl) dX12_readOnce_11 (by decide) (by decide) (by decide) (by decide)) w [0] [1, 2, 3] rfl rfl (by decide) (by decide) rfl rfl (fun v u H locs hp w => ?_)
    obtain ⟨z31, fr32, fr33⟩ := u
    have hv : iI z31 = v := hp.1
    subst hv
    have z31_a : 0 ≤ z31 := hp.2.1
    have z31_b : z31 ≤ 1 := hp.2.2.1
    have w : WD D A s.heap [(a1, .inl (T 0, 940, .inl f0)), (a3, .inl (T 0, 53, .inl (cI f1))), (a11, .inl (T 2, 3, .inl (cI f2))), (a0, .inr (11, [.int r0, .ref a1, .int (iI x0), .int (iI x1), .int r1, .int (iI x2), .int r2, .int (iI x3), .int (iI x4), .int r3, .int fr32, .int fr33, .long y0, .int (iI x5), .ref a2, .ref a3, .ref a4, .ref a5, .ref a6, .ref a7, .ref a8, .ref a9, .ref a10, .ref a11, .int (iI x6), .ref a12, .ref a13, .ref a14, .ref a15, .int (iI x7), .int r6, .int r7, .ref a16, .int r8, .int r9, .ref a17, .ref a18, .int (iI x8), .ref a19, .int (iI x9), .int r10, .ref a20, .ref a21, .int (iI x10), .int r11, .ref a22, .int (iI x11), .int (iI x12), .int (iI x13), .int (iI x14)]))] H locs := w
    rcases hp.2.2.2 with hr
    · subst hr
      exact ret _ (0, x2, r2, x3, x4, r3, fr32, fr33, y0, x5, f1, f2) _ _ _ _ _ [3, 0, 1, 2] dX12_readOnce_14 (by decide +kernel) ⟨rfl, (show (0 : Int) ≤ 0 from by decide), (show (0 : Int) ≤ 1 from by decide), x2_a, x2_b, x3_a, x3_b, x4_a, x4_b, x5_a, x5_b, f1_h, f2_h, (show 0 ≤ (x2 - x2) from by omega), (show 0 ≤ ((((x2 - x2) - x3) + 4) - 0) from by omega)⟩ w (by decide) rfl
set_option maxRecDepth 100000 in
set_option maxHeartbeats 4000000 in
theorem c36_X12_readOnce (l : Launch) (D : va_G) (T : Nat → ClassId) (sz : Nat) (a0 : Nat) (r0 : Int32) (a1 : Nat) (x0 : Int) (x1 : Int) (r1 : Int32) (x2 : Int) (r2 : Int32) (x3 : Int) (x4 : Int) (r3 : Int32) (r4 : Int32) (r5 : Int32) (y0 : Int64) (x5 : Int) (a2 : Nat) (a3 : Nat) (a4 : Nat) (a5 : Nat) (a6 : Nat) (a7 : Nat) (a8 : Nat) (a9 : Nat) (a10 : Nat) (a11 : Nat) (x6 : Int) (a12 : Nat) (a13 : Nat) (a14 : Nat) (a15 : Nat) (x7 : Int) (r6 : Int32) (r7 : Int32) (a16 : Nat) (r8 : Int32) (r9 : Int32) (a17 : Nat) (a18 : Nat) (x8 : Int) (a19 : Nat) (x9 : Int) (r10 : Int32) (a20 : Nat) (a21 : Nat) (x10 : Int) (r11 : Int32) (a22 : Nat) (x11 : Int) (x12 : Int) (x13 : Int) (x14 : Int) (f0 : Nat → Int32) (f1 : Int → Int) (f2 : Int → Int) (x0_a : 0 ≤ x0) (x0_b : x0 ≤ 940) (x1_a : 0 ≤ x1) (x1_b : x1 ≤ 940) (x2_a : 0 ≤ x2) (x2_b : x2 ≤ 940) (x3_a : 0 ≤ x3) (x3_b : x3 ≤ 4) (x4_a : (-2147483648) ≤ x4) (x4_b : x4 ≤ 2147483647) (x5_a : (-2147483648) ≤ x5) (x5_b : x5 ≤ 2147483647) (x6_a : 0 ≤ x6) (x6_b : x6 ≤ 8) (x7_a : 0 ≤ x7) (x7_b : x7 ≤ 9) (x8_a : 0 ≤ x8) (x8_b : x8 ≤ 9) (x9_a : 0 ≤ x9) (x9_b : x9 ≤ 64) (x10_a : 0 ≤ x10) (x10_b : x10 ≤ 40) (x11_a : 0 ≤ x11) (x11_b : x11 ≤ 40) (x12_a : 0 ≤ x12) (x12_b : x12 ≤ 20) (x13_a : 0 ≤ x13) (x13_b : x13 ≤ 8) (x14_a : 0 ≤ x14) (x14_b : x14 ≤ 39) (f1_h : rdI f1) (f2_h : rng 0 1 f2) : Met l yX12_readOnce (Cond.code yX12_readOnce cX12_readOnce 4 (some .boolean) :: GW) (Rm 3 0 0) (cPre [.ref a0, .int (iI 1), .int (iI 2), .int (iI 60)] D T [(a0, .inr (11, [.int r0, .ref a1, .int (iI x0), .int (iI x1), .int r1, .int (iI x2), .int r2, .int (iI x3), .int (iI x4), .int r3, .int r4, .int r5, .long y0, .int (iI x5), .ref a2, .ref a3, .ref a4, .ref a5, .ref a6, .ref a7, .ref a8, .ref a9, .ref a10, .ref a11, .int (iI x6), .ref a12, .ref a13, .ref a14, .ref a15, .int (iI x7), .int r6, .int r7, .ref a16, .int r8, .int r9, .ref a17, .ref a18, .int (iI x8), .ref a19, .int (iI x9), .int r10, .ref a20, .ref a21, .int (iI x10), .int r11, .ref a22, .int (iI x11), .int (iI x12), .int (iI x13), .int (iI x14)])), (a1, .inl (T 0, 940, .inl f0)), (a3, .inl (T 0, 53, .inl (cI f1))), (a11, .inl (T 2, 3, .inl (cI f2)))] sz) (qI D [(a0, .inr (11, [.int r0, .ref a1, .int (iI x0), .int (iI x1), .int r1, .int (iI x2), .int r2, .int (iI x3), .int (iI x4), .int r3, .int r4, .int r5, .long y0, .int (iI x5), .ref a2, .ref a3, .ref a4, .ref a5, .ref a6, .ref a7, .ref a8, .ref a9, .ref a10, .ref a11, .int (iI x6), .ref a12, .ref a13, .ref a14, .ref a15, .int (iI x7), .int r6, .int r7, .ref a16, .int r8, .int r9, .ref a17, .ref a18, .int (iI x8), .ref a19, .int (iI x9), .int r10, .ref a20, .ref a21, .int (iI x10), .int r11, .ref a22, .int (iI x11), .int (iI x12), .int (iI x13), .int (iI x14)])), (a1, .inl (T 0, 940, .inl f0)), (a3, .inl (T 0, 53, .inl (cI f1))), (a11, .inl (T 2, 3, .inl (cI f2)))] sz (fun (v : Int32) (u : Int × Int × Int32 × Int × Int × Int32 × Int32 × Int32 × Int64 × Int × (Int → Int) × (Int → Int)) => iI u.1 = v ∧ 0 ≤ u.1 ∧ u.1 ≤ 1 ∧ 0 ≤ u.2.1 ∧ u.2.1 ≤ 940 ∧ 0 ≤ u.2.2.2.1 ∧ u.2.2.2.1 ≤ 4 ∧ (-2147483648) ≤ u.2.2.2.2.1 ∧ u.2.2.2.2.1 ≤ 2147483647 ∧ (-2147483648) ≤ u.2.2.2.2.2.2.2.2.2.1 ∧ u.2.2.2.2.2.2.2.2.2.1 ≤ 2147483647 ∧ rdI u.2.2.2.2.2.2.2.2.2.2.1 ∧ rng 0 1 u.2.2.2.2.2.2.2.2.2.2.2 ∧ 0 ≤ (u.2.1 - x2) ∧ 0 ≤ ((((u.2.1 - x2) - u.2.2.2.1) + 4) - u.1)) (fun u => [(a0, .inr (11, [.int r0, .ref a1, .int (iI x0), .int (iI x1), .int r1, .int (iI u.2.1), .int u.2.2.1, .int (iI u.2.2.2.1), .int (iI u.2.2.2.2.1), .int u.2.2.2.2.2.1, .int u.2.2.2.2.2.2.1, .int u.2.2.2.2.2.2.2.1, .long u.2.2.2.2.2.2.2.2.1, .int (iI u.2.2.2.2.2.2.2.2.2.1), .ref a2, .ref a3, .ref a4, .ref a5, .ref a6, .ref a7, .ref a8, .ref a9, .ref a10, .ref a11, .int (iI x6), .ref a12, .ref a13, .ref a14, .ref a15, .int (iI x7), .int r6, .int r7, .ref a16, .int r8, .int r9, .ref a17, .ref a18, .int (iI x8), .ref a19, .int (iI x9), .int r10, .ref a20, .ref a21, .int (iI x10), .int r11, .ref a22, .int (iI x11), .int (iI x12), .int (iI x13), .int (iI x14)])), (a1, .inl (T 0, 940, .inl f0)), (a3, .inl (T 0, 53, .inl (cI u.2.2.2.2.2.2.2.2.2.2.1))), (a11, .inl (T 2, 3, .inl (cI u.2.2.2.2.2.2.2.2.2.2.2)))])) 0 0 (va_A [(a0, .inr (11, [.int r0, .ref a1, .int (iI x0), .int (iI x1), .int r1, .int (iI x2), .int r2, .int (iI x3), .int (iI x4), .int r3, .int r4, .int r5, .long y0, .int (iI x5), .ref a2, .ref a3, .ref a4, .ref a5, .ref a6, .ref a7, .ref a8, .ref a9, .ref a10, .ref a11, .int (iI x6), .ref a12, .ref a13, .ref a14, .ref a15, .int (iI x7), .int r6, .int r7, .ref a16, .int r8, .int r9, .ref a17, .ref a18, .int (iI x8), .ref a19, .int (iI x9), .int r10, .ref a20, .ref a21, .int (iI x10), .int r11, .ref a22, .int (iI x11), .int (iI x12), .int (iI x13), .int (iI x14)])), (a1, .inl (T 0, 940, .inl f0)), (a3, .inl (T 0, 53, .inl (cI f1))), (a11, .inl (T 2, 3, .inl (cI f2)))] sz) := by
  refine e_Z (by decide) (Nat.le_of_ble_eq_true rfl) ?_
  intro p e s m args below meth c A Q ls M hin w ret hl
  have hx := M.1.1
  have hb := M.1.2.1
  have hl : lv_has ls 4 [(0, .ref a0), (1, .int (iI 1)), (2, .int (iI 2)), (3, .int (iI 60))] := hl
  refine lv_aload_n hx hb dX12_readOnce_0 rfl (lv_at hl 0 rfl) ?_
  refine r_get (v := .ref a11) M w 0 23 clX12 rfl (by decide) G1486 rfl rfl dX12_readOnce_1 ?_
  refine lv_iload_n hx hb dX12_readOnce_4 rfl (lv_at hl 1 rfl) ?_
  refine r_zald (v := iI (f2 1)) M w 3 rfl (iI_in (by decide) (by decide) (by decide)) (cI_at (by omega) (by omega)) dX12_readOnce_5 ?_
  have hh1 : 0 ≤ (f2 1) ∧ (f2 1) ≤ 1 := f2_h 1
  refine lv_if_eq (tgt := 15) hx hb dX12_readOnce_6 (by decide) (fun c_2 => ?_) (fun c_2 => ?_)
  · replace c_2 := (iz_eq (by omega) (by omega)).mp c_2
    refine lv_aload_n hx hb dX12_readOnce_15 rfl (lv_at hl 0 rfl) ?_
    refine r_get (v := .ref a11) M w 0 23 clX12 rfl (by decide) G1486 rfl rfl dX12_readOnce_16 ?_
    refine lv_iload_n hx hb dX12_readOnce_19 rfl (lv_at hl 1 rfl) ?_
    refine lv_iconst (v := iI 1) hx hb dX12_readOnce_20 (by decide +kernel) ?_
    refine r_zast (x2 := iI 1) (ws' := [(a0, .inr (11, [.int r0, .ref a1, .int (iI x0), .int (iI x1), .int r1, .int (iI x2), .int r2, .int (iI x3), .int (iI x4), .int r3, .int r4, .int r5, .long y0, .int (iI x5), .ref a2, .ref a3, .ref a4, .ref a5, .ref a6, .ref a7, .ref a8, .ref a9, .ref a10, .ref a11, .int (iI x6), .ref a12, .ref a13, .ref a14, .ref a15, .int (iI x7), .int r6, .int r7, .ref a16, .int r8, .int r9, .ref a17, .ref a18, .int (iI x8), .ref a19, .int (iI x9), .int r10, .ref a20, .ref a21, .int (iI x10), .int r11, .ref a22, .int (iI x11), .int (iI x12), .int (iI x13), .int (iI x14)])), (a1, .inl (T 0, 940, .inl f0)), (a3, .inl (T 0, 53, .inl (cI f1))), (a11, .inl (T 2, 3, .inl (cI (upz f2 1 1))))]) M w 3 rfl (iI_in (by decide) (by decide) (by decide)) (nb_z (by omega) (by omega)) (by rw [cI_up (by omega) (by omega)]; rfl) dX12_readOnce_21 (fun H locs w => ?_)
    refine lv_aload_n hx hb dX12_readOnce_22 rfl (lv_at hl 0 rfl) ?_
    refine k_V (ce := 0) (sl := 0) (rest := []) (wr := [(a3, .inl (T 0, 53, .inl (cI f1))), (a11, .inl (T 2, 3, .inl (cI (upz f2 1 1))))]) (r_V (f := 1) [0, 1] M w V_HookedCityModel_82 G1629 G49 (c12_X12_go l D T _ a0 r0 a1 x0 x1 r1 x2 r2 x3 x4 r3 r4 r5 y0 x5 a2 a3 a4 a5 a6 a7 a8 a9 a10 a11 x6 a12 a13 a14 a15 x7 r6 r7 a16 r8 r9 a17 a18 x8 a19 x9 r10 a20 a21 x10 r11 a22 x11 x12 x13 x14 f0 x0_a x0_b x1_a x1_b x2_a x2_b x3_a x3_b x4_a x4_b x5_a x5_b x6_a x6_b x7_a x7_b x8_a x8_b x9_a x9_b x10_a x10_b x11_a x11_b x12_a x12_b x13_a x13_b x14_a x14_b) 0 clX12 rfl rfl (by decide) rfl hl.1 rfl (Nat.le_of_ble_eq_true rfl) dX12_readOnce_23 (by decide) (by decide) (by decide) (by decide)) w [0, 1] [2, 3] rfl rfl (by decide) (by decide) rfl rfl (fun u H locs hp w => ?_)
    obtain ⟨z3, fr4, z5, z6, fr7, fy8⟩ := u
    have z3_a : 0 ≤ z3 := hp.1
    have z3_b : z3 ≤ 940 := hp.2.1
    have z5_a : 0 ≤ z5 := hp.2.2.1
    have z5_b : z5 ≤ 4 := hp.2.2.2.1
    have z6_a : (-2147483648) ≤ z6 := hp.2.2.2.2.1
    have z6_b : z6 ≤ 2147483647 := hp.2.2.2.2.2.1
    have ee9 : 0 ≤ (z3 - x2) := hp.2.2.2.2.2.2.1
    have ee10 : 0 ≤ (((z3 - x2) - z5) + 3) := hp.2.2.2.2.2.2.2
    have w : WD D A s.heap [(a3, .inl (T 0, 53, .inl (cI f1))), (a11, .inl (T 2, 3, .inl (cI (upz f2 1 1)))), (a0, .inr (11, [.int r0, .ref a1, .int (iI x0), .int (iI x1), .int r1, .int (iI z3), .int fr4, .int (iI z5), .int (iI z6), .int fr7, .int r4, .int r5, .long fy8, .int (iI x5), .ref a2, .ref a3, .ref a4, .ref a5, .ref a6, .ref a7, .ref a8, .ref a9, .ref a10, .ref a11, .int (iI x6), .ref a12, .ref a13, .ref a14, .ref a15, .int (iI x7), .int r6, .int r7, .ref a16, .int r8, .int r9, .ref a17, .ref a18, .int (iI x8), .ref a19, .int (iI x9), .int r10, .ref a20, .ref a21, .int (iI x10), .int r11, .ref a22, .int (iI x11), .int (iI x12), .int (iI x13), .int (iI x14)])), (a1, .inl (T 0, 940, .inl f0))] H locs := w
    refine lv_aload_n hx hb dX12_readOnce_26 rfl (lv_at hl 0 rfl) ?_
    refine lv_iconst (v := iI 2) hx hb dX12_readOnce_27 (by decide +kernel) ?_
    refine lv_iload_n hx hb dX12_readOnce_28 rfl (lv_at hl 1 rfl) ?_
    refine r_iadd (v := iI 3) M (by decide +kernel) dX12_readOnce_29 ?_
    refine lv_aload_n hx hb dX12_readOnce_30 rfl (lv_at hl 0 rfl) ?_
    refine lv_iload_n hx hb dX12_readOnce_31 rfl (lv_at hl 2 rfl) ?_
    refine lv_iload_n hx hb dX12_readOnce_32 rfl (lv_at hl 3 rfl) ?_
    refine k_I (ce := 0) (sl := 0) (rest := [.int (iI 3), .ref a0]) (wr := [(a3, .inl (T 0, 53, .inl (cI f1))), (a11, .inl (T 2, 3, .inl (cI (upz f2 1 1))))]) (r_V (f := 2) [2, 3] M w V_HookedCityModel_200 G1690 G60 (c19_X12_readNumber l D T _ a0 2 60 r0 a1 x0 x1 r1 z3 fr4 z5 z6 fr7 r4 r5 fy8 x5 a2 a3 a4 a5 a6 a7 a8 a9 a10 a11 x6 a12 a13 a14 a15 x7 r6 r7 a16 r8 r9 a17 a18 x8 a19 x9 r10 a20 a21 x10 r11 a22 x11 x12 x13 x14 f0 (by decide) (by decide) (by decide) (by decide) x0_a x0_b x1_a x1_b z3_a z3_b z5_a z5_b z6_a z6_b x5_a x5_b x6_a x6_b x7_a x7_b x8_a x8_b x9_a x9_b x10_a x10_b x11_a x11_b x12_a x12_b x13_a x13_b x14_a x14_b) 2 clX12 rfl rfl (by decide) rfl hl.1 rfl (Nat.le_of_ble_eq_true rfl) dX12_readOnce_33 (by decide) (by decide) (by decide) (by decide)) w [2, 3] [0, 1] rfl rfl (by decide) (by decide) rfl rfl (fun v u H locs hp w => ?_)
    obtain ⟨z11, z12, fr13, z14, z15, fr16, fr17, fr18, fy19, z20⟩ := u
    have hv : iI z11 = v := hp.1
    subst hv
    have z11_a : 0 ≤ z11 := hp.2.1
    have z11_b : z11 ≤ 1 := hp.2.2.1
    have z12_a : 0 ≤ z12 := hp.2.2.2.1
    have z12_b : z12 ≤ 940 := hp.2.2.2.2.1
    have z14_a : 0 ≤ z14 := hp.2.2.2.2.2.1
    have z14_b : z14 ≤ 4 := hp.2.2.2.2.2.2.1
    have z15_a : (-2147483648) ≤ z15 := hp.2.2.2.2.2.2.2.1
    have z15_b : z15 ≤ 2147483647 := hp.2.2.2.2.2.2.2.2.1
    have z20_a : (-2147483648) ≤ z20 := hp.2.2.2.2.2.2.2.2.2.1
    have z20_b : z20 ≤ 2147483647 := hp.2.2.2.2.2.2.2.2.2.2.1
    have ee21 : 0 ≤ (z12 - z3) := hp.2.2.2.2.2.2.2.2.2.2.2.1
    have ee22 : 0 ≤ ((((z12 - z3) - z14) + 4) - z11) := hp.2.2.2.2.2.2.2.2.2.2.2.2.1
    have ee23 : 0 ≤ (((z20 - 2) + 4294967296) - (z11 * 4294967296)) := hp.2.2.2.2.2.2.2.2.2.2.2.2.2.1
    have ee24 : 0 ≤ (((60 - z20) + 4294967296) - (z11 * 4294967296)) := hp.2.2.2.2.2.2.2.2.2.2.2.2.2.2
    have w : WD D A s.heap [(a3, .inl (T 0, 53, .inl (cI f1))), (a11, .inl (T 2, 3, .inl (cI (upz f2 1 1)))), (a0, .inr (11, [.int r0, .ref a1, .int (iI x0), .int (iI x1), .int r1, .int (iI z12), .int fr13, .int (iI z14), .int (iI z15), .int fr16, .int fr17, .int fr18, .long fy19, .int (iI z20), .ref a2, .ref a3, .ref a4, .ref a5, .ref a6, .ref a7, .ref a8, .ref a9, .ref a10, .ref a11, .int (iI x6), .ref a12, .ref a13, .ref a14, .ref a15, .int (iI x7), .int r6, .int r7, .ref a16, .int r8, .int r9, .ref a17, .ref a18, .int (iI x8), .ref a19, .int (iI x9), .int r10, .ref a20, .ref a21, .int (iI x10), .int r11, .ref a22, .int (iI x11), .int (iI x12), .int (iI x13), .int (iI x14)])), (a1, .inl (T 0, 940, .inl f0))] H locs := w
    refine k_I (ce := 0) (sl := 0) (rest := []) (wr := [(a11, .inl (T 2, 3, .inl (cI (upz f2 1 1)))), (a1, .inl (T 0, 940, .inl f0))]) (r_V (f := 0) [2, 0] M w V_HookedCityModel_196 G1686 G59 (c28_X12_put l D T _ a0 3 z11 r0 a1 x0 x1 r1 z12 fr13 z14 z15 fr16 fr17 fr18 fy19 z20 a2 a3 a4 a5 a6 a7 a8 a9 a10 a11 x6 a12 a13 a14 a15 x7 r6 r7 a16 r8 r9 a17 a18 x8 a19 x9 r10 a20 a21 x10 r11 a22 x11 x12 x13 x14 f1 (by decide) (by decide) z11_a z11_b x0_a x0_b x1_a x1_b z12_a z12_b z14_a z14_b z15_a z15_b z20_a z20_b x6_a x6_b x7_a x7_b x8_a x8_b x9_a x9_b x10_a x10_b x11_a x11_b x12_a x12_b x13_a x13_b x14_a x14_b f1_h (fun h => rd_up f1_h (by omega) (by omega) (by unfold rr; omega) (fun h => absurd h (by omega)) (by omega))) 2 clX12 rfl rfl (by decide) rfl hl.1 rfl (Nat.le_of_ble_eq_true rfl) dX12_readOnce_36 (by decide) (by decide) (by decide) (by decide)) w [2, 0] [1, 3] rfl rfl (by decide) (by decide) rfl rfl (fun v u H locs hp w => ?_)
    obtain ⟨z25, ff26⟩ := u
    have hv : iI z25 = v := hp.1
    subst hv
    have z25_a : 0 ≤ z25 := hp.2.1
    have z25_b : z25 ≤ 1 := hp.2.2.1
    have ff26_h : rdI ff26 := hp.2.2.2.1
    have ee27 : 0 ≤ (z11 - z25) := hp.2.2.2.2.1
    have ee28 : 0 ≤ (z25 - z11) := hp.2.2.2.2.2.1
    have pq29 : ff26 0 = f1 0 := hp.2.2.2.2.2.2.1
    have pq30 : ff26 1 = f1 1 := hp.2.2.2.2.2.2.2
    have w : WD D A s.heap [(a11, .inl (T 2, 3, .inl (cI (upz f2 1 1)))), (a1, .inl (T 0, 940, .inl f0)), (a0, .inr (11, [.int r0, .ref a1, .int (iI x0), .int (iI x1), .int r1, .int (iI z12), .int fr13, .int (iI z14), .int (iI z15), .int fr16, .int fr17, .int fr18, .long fy19, .int (iI z20), .ref a2, .ref a3, .ref a4, .ref a5, .ref a6, .ref a7, .ref a8, .ref a9, .ref a10, .ref a11, .int (iI x6), .ref a12, .ref a13, .ref a14, .ref a15, .int (iI x7), .int r6, .int r7, .ref a16, .int r8, .int r9, .ref a17, .ref a18, .int (iI x8), .ref a19, .int (iI x9), .int r10, .ref a20, .ref a21, .int (iI x10), .int r11, .ref a22, .int (iI x11), .int (iI x12), .int (iI x13), .int (iI x14)])), (a3, .inl (T 0, 53, .inl (cI ff26)))] H locs := w
    exact ret _ (z25, z12, fr13, z14, z15, fr16, fr17, fr18, fy19, z20, ff26, (upz f2 1 1)) _ _ _ _ _ [2, 1, 3, 0] dX12_readOnce_39 (nb_n (by omega) (by omega)) ⟨rfl, z25_a, z25_b, z12_a, z12_b, z14_a, z14_b, z15_a, z15_b, z20_a, z20_b, ff26_h, (rng_up f2_h (by omega) (by omega)), (show 0 ≤ (z12 - x2) from by omega), (show 0 ≤ ((((z12 - x2) - z14) + 4) - z25) from by omega)⟩ w (by decide) rfl
  · replace c_2 : ¬ (f2 1) = 0 := fun h => c_2 ((iz_eq (by omega) (by omega)).mpr h)
    refine lv_aload_n hx hb dX12_readOnce_9 rfl (lv_at hl 0 rfl) ?_
    refine lv_iconst (v := iI 3) hx hb dX12_readOnce_10 (by decide +kernel) ?_
    refine k_I (ce := 0) (sl := 0) (rest := []) (wr := [(a1, .inl (T 0, 940, .inl f0)), (a3, .inl (T 0, 53, .inl (cI f1))), (a11, .inl (T 2, 3, .inl (cI f2)))]) (r_V (f := 0) [0] M w V_HookedCityModel_72 G1667 G55 (c18_X12_bad l D T _ a0 3 r0 a1 x0 x1 r1 x2 r2 x3 x4 r3 r4 r5 y0 x5 a2 a3 a4 a5 a6 a7 a8 a9 a10 a11 x6 a12 a13 a14 a15 x7 r6 r7 a16 r8 r9 a17 a18 x8 a19 x9 r10 a20 a21 x10 r11 a22 x11 x12 x13 x14 (by decide) (by decide) x0_a x0_b x1_a x1_b x2_a x2_b x3_a x3_b x4_a x4_b x5_a x5_b x6_a x6_b x7_a x7_b x8_a x8_b x9_a x9_b x10_a x10_b x11_a x11_b x12_a x12_b x13_a x13_b x14_a x14_b) 0 clX12 rfl rfl (by decide) rfl hl.1 rfl (Nat.le_of_ble_eq_true rfl) dX12_readOnce_11 (by decide) (by decide) (by decide) (by decide)) w [0] [1, 2, 3] rfl rfl (by decide) (by decide) rfl rfl (fun v u H locs hp w => ?_)
    obtain ⟨z31, fr32, fr33⟩ := u
    have hv : iI z31 = v := hp.1
    subst hv
    have z31_a : 0 ≤ z31 := hp.2.1
    have z31_b : z31 ≤ 1 := hp.2.2.1
    have w : WD D A s.heap [(a1, .inl (T 0, 940, .inl f0)), (a3, .inl (T 0, 53, .inl (cI f1))), (a11, .inl (T 2, 3, .inl (cI f2))), (a0, .inr (11, [.int r0, .ref a1, .int (iI x0), .int (iI x1), .int r1, .int (iI x2), .int r2, .int (iI x3), .int (iI x4), .int r3, .int fr32, .int fr33, .long y0, .int (iI x5), .ref a2, .ref a3, .ref a4, .ref a5, .ref a6, .ref a7, .ref a8, .ref a9, .ref a10, .ref a11, .int (iI x6), .ref a12, .ref a13, .ref a14, .ref a15, .int (iI x7), .int r6, .int r7, .ref a16, .int r8, .int r9, .ref a17, .ref a18, .int (iI x8), .ref a19, .int (iI x9), .int r10, .ref a20, .ref a21, .int (iI x10), .int r11, .ref a22, .int (iI x11), .int (iI x12), .int (iI x13), .int (iI x14)]))] H locs := w
    rcases hp.2.2.2 with hr
    · subst hr
      exact ret _ (0, x2, r2, x3, x4, r3, fr32, fr33, y0, x5, f1, f2) _ _ _ _ _ [3, 0, 1, 2] dX12_readOnce_14 (by decide +kernel) ⟨rfl, (show (0 : Int) ≤ 0 from by decide), (show (0 : Int) ≤ 1 from by decide), x2_a, x2_b, x3_a, x3_b, x4_a, x4_b, x5_a, x5_b, f1_h, f2_h, (show 0 ≤ (x2 - x2) from by omega), (show 0 ≤ ((((x2 - x2) - x3) + 4) - 0) from by omega)⟩ w (by decide) rfl
set_option maxRecDepth 100000 in
set_option maxHeartbeats 4000000 in
theorem c37_X12_readOnce (l : Launch) (D : va_G) (T : Nat → ClassId) (sz : Nat) (a0 : Nat) (r0 : Int32) (a1 : Nat) (x0 : Int) (x1 : Int) (r1 : Int32) (x2 : Int) (r2 : Int32) (x3 : Int) (x4 : Int) (r3 : Int32) (r4 : Int32) (r5 : Int32) (y0 : Int64) (x5 : Int) (a2 : Nat) (a3 : Nat) (a4 : Nat) (a5 : Nat) (a6 : Nat) (a7 : Nat) (a8 : Nat) (a9 : Nat) (a10 : Nat) (a11 : Nat) (x6 : Int) (a12 : Nat) (a13 : Nat) (a14 : Nat) (a15 : Nat) (x7 : Int) (r6 : Int32) (r7 : Int32) (a16 : Nat) (r8 : Int32) (r9 : Int32) (a17 : Nat) (a18 : Nat) (x8 : Int) (a19 : Nat) (x9 : Int) (r10 : Int32) (a20 : Nat) (a21 : Nat) (x10 : Int) (r11 : Int32) (a22 : Nat) (x11 : Int) (x12 : Int) (x13 : Int) (x14 : Int) (f0 : Nat → Int32) (f1 : Int → Int) (f2 : Int → Int) (x0_a : 0 ≤ x0) (x0_b : x0 ≤ 940) (x1_a : 0 ≤ x1) (x1_b : x1 ≤ 940) (x2_a : 0 ≤ x2) (x2_b : x2 ≤ 940) (x3_a : 0 ≤ x3) (x3_b : x3 ≤ 4) (x4_a : (-2147483648) ≤ x4) (x4_b : x4 ≤ 2147483647) (x5_a : (-2147483648) ≤ x5) (x5_b : x5 ≤ 2147483647) (x6_a : 0 ≤ x6) (x6_b : x6 ≤ 8) (x7_a : 0 ≤ x7) (x7_b : x7 ≤ 9) (x8_a : 0 ≤ x8) (x8_b : x8 ≤ 9) (x9_a : 0 ≤ x9) (x9_b : x9 ≤ 64) (x10_a : 0 ≤ x10) (x10_b : x10 ≤ 40) (x11_a : 0 ≤ x11) (x11_b : x11 ≤ 40) (x12_a : 0 ≤ x12) (x12_b : x12 ≤ 20) (x13_a : 0 ≤ x13) (x13_b : x13 ≤ 8) (x14_a : 0 ≤ x14) (x14_b : x14 ≤ 39) (f1_h : rdI f1) (f2_h : rng 0 1 f2) : Met l yX12_readOnce (Cond.code yX12_readOnce cX12_readOnce 4 (some .boolean) :: GW) (Rm 3 0 0) (cPre [.ref a0, .int (iI 0), .int (iI 0), .int (iI 20)] D T [(a0, .inr (11, [.int r0, .ref a1, .int (iI x0), .int (iI x1), .int r1, .int (iI x2), .int r2, .int (iI x3), .int (iI x4), .int r3, .int r4, .int r5, .long y0, .int (iI x5), .ref a2, .ref a3, .ref a4, .ref a5, .ref a6, .ref a7, .ref a8, .ref a9, .ref a10, .ref a11, .int (iI x6), .ref a12, .ref a13, .ref a14, .ref a15, .int (iI x7), .int r6, .int r7, .ref a16, .int r8, .int r9, .ref a17, .ref a18, .int (iI x8), .ref a19, .int (iI x9), .int r10, .ref a20, .ref a21, .int (iI x10), .int r11, .ref a22, .int (iI x11), .int (iI x12), .int (iI x13), .int (iI x14)])), (a1, .inl (T 0, 940, .inl f0)), (a3, .inl (T 0, 53, .inl (cI f1))), (a11, .inl (T 2, 3, .inl (cI f2)))] sz) (qI D [(a0, .inr (11, [.int r0, .ref a1, .int (iI x0), .int (iI x1), .int r1, .int (iI x2), .int r2, .int (iI x3), .int (iI x4), .int r3, .int r4, .int r5, .long y0, .int (iI x5), .ref a2, .ref a3, .ref a4, .ref a5, .ref a6, .ref a7, .ref a8, .ref a9, .ref a10, .ref a11, .int (iI x6), .ref a12, .ref a13, .ref a14, .ref a15, .int (iI x7), .int r6, .int r7, .ref a16, .int r8, .int r9, .ref a17, .ref a18, .int (iI x8), .ref a19, .int (iI x9), .int r10, .ref a20, .ref a21, .int (iI x10), .int r11, .ref a22, .int (iI x11), .int (iI x12), .int (iI x13), .int (iI x14)])), (a1, .inl (T 0, 940, .inl f0)), (a3, .inl (T 0, 53, .inl (cI f1))), (a11, .inl (T 2, 3, .inl (cI f2)))] sz (fun (v : Int32) (u : Int × Int × Int32 × Int × Int × Int32 × Int32 × Int32 × Int64 × Int × (Int → Int) × (Int → Int)) => iI u.1 = v ∧ 0 ≤ u.1 ∧ u.1 ≤ 1 ∧ 0 ≤ u.2.1 ∧ u.2.1 ≤ 940 ∧ 0 ≤ u.2.2.2.1 ∧ u.2.2.2.1 ≤ 4 ∧ (-2147483648) ≤ u.2.2.2.2.1 ∧ u.2.2.2.2.1 ≤ 2147483647 ∧ (-2147483648) ≤ u.2.2.2.2.2.2.2.2.2.1 ∧ u.2.2.2.2.2.2.2.2.2.1 ≤ 2147483647 ∧ rdI u.2.2.2.2.2.2.2.2.2.2.1 ∧ rng 0 1 u.2.2.2.2.2.2.2.2.2.2.2 ∧ 0 ≤ (u.2.1 - x2) ∧ 0 ≤ ((((u.2.1 - x2) - u.2.2.2.1) + 4) - u.1)) (fun u => [(a0, .inr (11, [.int r0, .ref a1, .int (iI x0), .int (iI x1), .int r1, .int (iI u.2.1), .int u.2.2.1, .int (iI u.2.2.2.1), .int (iI u.2.2.2.2.1), .int u.2.2.2.2.2.1, .int u.2.2.2.2.2.2.1, .int u.2.2.2.2.2.2.2.1, .long u.2.2.2.2.2.2.2.2.1, .int (iI u.2.2.2.2.2.2.2.2.2.1), .ref a2, .ref a3, .ref a4, .ref a5, .ref a6, .ref a7, .ref a8, .ref a9, .ref a10, .ref a11, .int (iI x6), .ref a12, .ref a13, .ref a14, .ref a15, .int (iI x7), .int r6, .int r7, .ref a16, .int r8, .int r9, .ref a17, .ref a18, .int (iI x8), .ref a19, .int (iI x9), .int r10, .ref a20, .ref a21, .int (iI x10), .int r11, .ref a22, .int (iI x11), .int (iI x12), .int (iI x13), .int (iI x14)])), (a1, .inl (T 0, 940, .inl f0)), (a3, .inl (T 0, 53, .inl (cI u.2.2.2.2.2.2.2.2.2.2.1))), (a11, .inl (T 2, 3, .inl (cI u.2.2.2.2.2.2.2.2.2.2.2)))])) 0 0 (va_A [(a0, .inr (11, [.int r0, .ref a1, .int (iI x0), .int (iI x1), .int r1, .int (iI x2), .int r2, .int (iI x3), .int (iI x4), .int r3, .int r4, .int r5, .long y0, .int (iI x5), .ref a2, .ref a3, .ref a4, .ref a5, .ref a6, .ref a7, .ref a8, .ref a9, .ref a10, .ref a11, .int (iI x6), .ref a12, .ref a13, .ref a14, .ref a15, .int (iI x7), .int r6, .int r7, .ref a16, .int r8, .int r9, .ref a17, .ref a18, .int (iI x8), .ref a19, .int (iI x9), .int r10, .ref a20, .ref a21, .int (iI x10), .int r11, .ref a22, .int (iI x11), .int (iI x12), .int (iI x13), .int (iI x14)])), (a1, .inl (T 0, 940, .inl f0)), (a3, .inl (T 0, 53, .inl (cI f1))), (a11, .inl (T 2, 3, .inl (cI f2)))] sz) := by
  refine e_Z (by decide) (Nat.le_of_ble_eq_true rfl) ?_
  intro p e s m args below meth c A Q ls M hin w ret hl
  have hx := M.1.1
  have hb := M.1.2.1
  have hl : lv_has ls 4 [(0, .ref a0), (1, .int (iI 0)), (2, .int (iI 0)), (3, .int (iI 20))] := hl
  refine lv_aload_n hx hb dX12_readOnce_0 rfl (lv_at hl 0 rfl) ?_
  refine r_get (v := .ref a11) M w 0 23 clX12 rfl (by decide) G1486 rfl rfl dX12_readOnce_1 ?_
  refine lv_iload_n hx hb dX12_readOnce_4 rfl (lv_at hl 1 rfl) ?_
  refine r_zald (v := iI (f2 0)) M w 3 rfl (iI_in (by decide) (by decide) (by decide)) (cI_at (by omega) (by omega)) dX12_readOnce_5 ?_
  have hh1 : 0 ≤ (f2 0) ∧ (f2 0) ≤ 1 := f2_h 0
  refine lv_if_eq (tgt := 15) hx hb dX12_readOnce_6 (by decide) (fun c_2 => ?_) (fun c_2 => ?_)
  · replace c_2 := (iz_eq (by omega) (by omega)).mp c_2
    refine lv_aload_n hx hb dX12_readOnce_15 rfl (lv_at hl 0 rfl) ?_
    refine r_get (v := .ref a11) M w 0 23 clX12 rfl (by decide) G1486 rfl rfl dX12_readOnce_16 ?_
    refine lv_iload_n hx hb dX12_readOnce_19 rfl (lv_at hl 1 rfl) ?_
    refine lv_iconst (v := iI 1) hx hb dX12_readOnce_20 (by decide +kernel) ?_
    refine r_zast (x2 := iI 1) (ws' := [(a0, .inr (11, [.int r0, .ref a1, .int (iI x0), .int (iI x1), .int r1, .int (iI x2), .int r2, .int (iI x3), .int (iI x4), .int r3, .int r4, .int r5, .long y0, .int (iI x5), .ref a2, .ref a3, .ref a4, .ref a5, .ref a6, .ref a7, .ref a8, .ref a9, .ref a10, .ref a11, .int (iI x6), .ref a12, .ref a13, .ref a14, .ref a15, .int (iI x7), .int r6, .int r7, .ref a16, .int r8, .int r9, .ref a17, .ref a18, .int (iI x8), .ref a19, .int (iI x9), .int r10, .ref a20, .ref a21, .int (iI x10), .int r11, .ref a22, .int (iI x11), .int (iI x12), .int (iI x13), .int (iI x14)])), (a1, .inl (T 0, 940, .inl f0)), (a3, .inl (T 0, 53, .inl (cI f1))), (a11, .inl (T 2, 3, .inl (cI (upz f2 0 1))))]) M w 3 rfl (iI_in (by decide) (by decide) (by decide)) (nb_z (by omega) (by omega)) (by rw [cI_up (by omega) (by omega)]; rfl) dX12_readOnce_21 (fun H locs w => ?_)
    refine lv_aload_n hx hb dX12_readOnce_22 rfl (lv_at hl 0 rfl) ?_
    refine k_V (ce := 0) (sl := 0) (rest := []) (wr := [(a3, .inl (T 0, 53, .inl (cI f1))), (a11, .inl (T 2, 3, .inl (cI (upz f2 0 1))))]) (r_V (f := 1) [0, 1] M w V_HookedCityModel_82 G1629 G49 (c12_X12_go l D T _ a0 r0 a1 x0 x1 r1 x2 r2 x3 x4 r3 r4 r5 y0 x5 a2 a3 a4 a5 a6 a7 a8 a9 a10 a11 x6 a12 a13 a14 a15 x7 r6 r7 a16 r8 r9 a17 a18 x8 a19 x9 r10 a20 a21 x10 r11 a22 x11 x12 x13 x14 f0 x0_a x0_b x1_a x1_b x2_a x2_b x3_a x3_b x4_a x4_b x5_a x5_b x6_a x6_b x7_a x7_b x8_a x8_b x9_a x9_b x10_a x10_b x11_a x11_b x12_a x12_b x13_a x13_b x14_a x14_b) 0 clX12 rfl rfl (by decide) rfl hl.1 rfl (Nat.le_of_ble_eq_true rfl) dX12_readOnce_23 (by decide) (by decide) (by decide) (by decide)) w [0, 1] [2, 3] rfl rfl (by decide) (by decide) rfl rfl (fun u H locs hp w => ?_)
    obtain ⟨z3, fr4, z5, z6, fr7, fy8⟩ := u
    have z3_a : 0 ≤ z3 := hp.1
    have z3_b : z3 ≤ 940 := hp.2.1
    have z5_a : 0 ≤ z5 := hp.2.2.1
    have z5_b : z5 ≤ 4 := hp.2.2.2.1
    have z6_a : (-2147483648) ≤ z6 := hp.2.2.2.2.1
    have z6_b : z6 ≤ 2147483647 := hp.2.2.2.2.2.1
    have ee9 : 0 ≤ (z3 - x2) := hp.2.2.2.2.2.2.1
    have ee10 : 0 ≤ (((z3 - x2) - z5) + 3) := hp.2.2.2.2.2.2.2
    have w : WD D A s.heap [(a3, .inl (T 0, 53, .inl (cI f1))), (a11, .inl (T 2, 3, .inl (cI (upz f2 0 1)))), (a0, .inr (11, [.int r0, .ref a1, .int (iI x0), .int (iI x1), .int r1, .int (iI z3), .int fr4, .int (iI z5), .int (iI z6), .int fr7, .int r4, .int r5, .long fy8, .int (iI x5), .ref a2, .ref a3, .ref a4, .ref a5, .ref a6, .ref a7, .ref a8, .ref a9, .ref a10, .ref a11, .int (iI x6), .ref a12, .ref a13, .ref a14, .ref a15, .int (iI x7), .int r6, .int r7, .ref a16, .int r8, .int r9, .ref a17, .ref a18, .int (iI x8), .ref a19, .int (iI x9), .int r10, .ref a20, .ref a21, .int (iI x10), .int r11, .ref a22, .int (iI x11), .int (iI x12), .int (iI x13), .int (iI x14)])), (a1, .inl (T 0, 940, .inl f0))] H locs := w
    refine lv_aload_n hx hb dX12_readOnce_26 rfl (lv_at hl 0 rfl) ?_
    refine lv_iconst (v := iI 2) hx hb dX12_readOnce_27 (by decide +kernel) ?_
    refine lv_iload_n hx hb dX12_readOnce_28 rfl (lv_at hl 1 rfl) ?_
    refine r_iadd (v := iI 2) M (by decide +kernel) dX12_readOnce_29 ?_
    refine lv_aload_n hx hb dX12_readOnce_30 rfl (lv_at hl 0 rfl) ?_
    refine lv_iload_n hx hb dX12_readOnce_31 rfl (lv_at hl 2 rfl) ?_
    refine lv_iload_n hx hb dX12_readOnce_32 rfl (lv_at hl 3 rfl) ?_
    refine k_I (ce := 0) (sl := 0) (rest := [.int (iI 2), .ref a0]) (wr := [(a3, .inl (T 0, 53, .inl (cI f1))), (a11, .inl (T 2, 3, .inl (cI (upz f2 0 1))))]) (r_V (f := 2) [2, 3] M w V_HookedCityModel_200 G1690 G60 (c19_X12_readNumber l D T _ a0 0 20 r0 a1 x0 x1 r1 z3 fr4 z5 z6 fr7 r4 r5 fy8 x5 a2 a3 a4 a5 a6 a7 a8 a9 a10 a11 x6 a12 a13 a14 a15 x7 r6 r7 a16 r8 r9 a17 a18 x8 a19 x9 r10 a20 a21 x10 r11 a22 x11 x12 x13 x14 f0 (by decide) (by decide) (by decide) (by decide) x0_a x0_b x1_a x1_b z3_a z3_b z5_a z5_b z6_a z6_b x5_a x5_b x6_a x6_b x7_a x7_b x8_a x8_b x9_a x9_b x10_a x10_b x11_a x11_b x12_a x12_b x13_a x13_b x14_a x14_b) 2 clX12 rfl rfl (by decide) rfl hl.1 rfl (Nat.le_of_ble_eq_true rfl) dX12_readOnce_33 (by decide) (by decide) (by decide) (by decide)) w [2, 3] [0, 1] rfl rfl (by decide) (by decide) rfl rfl (fun v u H locs hp w => ?_)
    obtain ⟨z11, z12, fr13, z14, z15, fr16, fr17, fr18, fy19, z20⟩ := u
    have hv : iI z11 = v := hp.1
    subst hv
    have z11_a : 0 ≤ z11 := hp.2.1
    have z11_b : z11 ≤ 1 := hp.2.2.1
    have z12_a : 0 ≤ z12 := hp.2.2.2.1
    have z12_b : z12 ≤ 940 := hp.2.2.2.2.1
    have z14_a : 0 ≤ z14 := hp.2.2.2.2.2.1
    have z14_b : z14 ≤ 4 := hp.2.2.2.2.2.2.1
    have z15_a : (-2147483648) ≤ z15 := hp.2.2.2.2.2.2.2.1
    have z15_b : z15 ≤ 2147483647 := hp.2.2.2.2.2.2.2.2.1
    have z20_a : (-2147483648) ≤ z20 := hp.2.2.2.2.2.2.2.2.2.1
    have z20_b : z20 ≤ 2147483647 := hp.2.2.2.2.2.2.2.2.2.2.1
    have ee21 : 0 ≤ (z12 - z3) := hp.2.2.2.2.2.2.2.2.2.2.2.1
    have ee22 : 0 ≤ ((((z12 - z3) - z14) + 4) - z11) := hp.2.2.2.2.2.2.2.2.2.2.2.2.1
    have ee23 : 0 ≤ (((z20 - 0) + 4294967296) - (z11 * 4294967296)) := hp.2.2.2.2.2.2.2.2.2.2.2.2.2.1
    have ee24 : 0 ≤ (((20 - z20) + 4294967296) - (z11 * 4294967296)) := hp.2.2.2.2.2.2.2.2.2.2.2.2.2.2
    have w : WD D A s.heap [(a3, .inl (T 0, 53, .inl (cI f1))), (a11, .inl (T 2, 3, .inl (cI (upz f2 0 1)))), (a0, .inr (11, [.int r0, .ref a1, .int (iI x0), .int (iI x1), .int r1, .int (iI z12), .int fr13, .int (iI z14), .int (iI z15), .int fr16, .int fr17, .int fr18, .long fy19, .int (iI z20), .ref a2, .ref a3, .ref a4, .ref a5, .ref a6, .ref a7, .ref a8, .ref a9, .ref a10, .ref a11, .int (iI x6), .ref a12, .ref a13, .ref a14, .ref a15, .int (iI x7), .int r6, .int r7, .ref a16, .int r8, .int r9, .ref a17, .ref a18, .int (iI x8), .ref a19, .int (iI x9), .int r10, .ref a20, .ref a21, .int (iI x10), .int r11, .ref a22, .int (iI x11), .int (iI x12), .int (iI x13), .int (iI x14)])), (a1, .inl (T 0, 940, .inl f0))] H locs := w
    refine k_I (ce := 0) (sl := 0) (rest := []) (wr := [(a11, .inl (T 2, 3, .inl (cI (upz f2 0 1)))), (a1, .inl (T 0, 940, .inl f0))]) (r_V (f := 0) [2, 0] M w V_HookedCityModel_196 G1686 G59 (c28_X12_put l D T _ a0 2 z11 r0 a1 x0 x1 r1 z12 fr13 z14 z15 fr16 fr17 fr18 fy19 z20 a2 a3 a4 a5 a6 a7 a8 a9 a10 a11 x6 a12 a13 a14 a15 x7 r6 r7 a16 r8 r9 a17 a18 x8 a19 x9 r10 a20 a21 x10 r11 a22 x11 x12 x13 x14 f1 (by decide) (by decide) z11_a z11_b x0_a x0_b x1_a x1_b z12_a z12_b z14_a z14_b z15_a z15_b z20_a z20_b x6_a x6_b x7_a x7_b x8_a x8_b x9_a x9_b x10_a x10_b x11_a x11_b x12_a x12_b x13_a x13_b x14_a x14_b f1_h (fun h => rd_up f1_h (by omega) (by omega) (by unfold rr; omega) (fun h => absurd h (by omega)) (by omega))) 2 clX12 rfl rfl (by decide) rfl hl.1 rfl (Nat.le_of_ble_eq_true rfl) dX12_readOnce_36 (by decide) (by decide) (by decide) (by decide)) w [2, 0] [1, 3] rfl rfl (by decide) (by decide) rfl rfl (fun v u H locs hp w => ?_)
    obtain ⟨z25, ff26⟩ := u
    have hv : iI z25 = v := hp.1
    subst hv
    have z25_a : 0 ≤ z25 := hp.2.1
    have z25_b : z25 ≤ 1 := hp.2.2.1
    have ff26_h : rdI ff26 := hp.2.2.2.1
    have ee27 : 0 ≤ (z11 - z25) := hp.2.2.2.2.1
    have ee28 : 0 ≤ (z25 - z11) := hp.2.2.2.2.2.1
    have pq29 : ff26 0 = f1 0 := hp.2.2.2.2.2.2.1
    have pq30 : ff26 1 = f1 1 := hp.2.2.2.2.2.2.2
    have w : WD D A s.heap [(a11, .inl (T 2, 3, .inl (cI (upz f2 0 1)))), (a1, .inl (T 0, 940, .inl f0)), (a0, .inr (11, [.int r0, .ref a1, .int (iI x0), .int (iI x1), .int r1, .int (iI z12), .int fr13, .int (iI z14), .int (iI z15), .int fr16, .int fr17, .int fr18, .long fy19, .int (iI z20), .ref a2, .ref a3, .ref a4, .ref a5, .ref a6, .ref a7, .ref a8, .ref a9, .ref a10, .ref a11, .int (iI x6), .ref a12, .ref a13, .ref a14, .ref a15, .int (iI x7), .int r6, .int r7, .ref a16, .int r8, .int r9, .ref a17, .ref a18, .int (iI x8), .ref a19, .int (iI x9), .int r10, .ref a20, .ref a21, .int (iI x10), .int r11, .ref a22, .int (iI x11), .int (iI x12), .int (iI x13), .int (iI x14)])), (a3, .inl (T 0, 53, .inl (cI ff26)))] H locs := w
    exact ret _ (z25, z12, fr13, z14, z15, fr16, fr17, fr18, fy19, z20, ff26, (upz f2 0 1)) _ _ _ _ _ [2, 1, 3, 0] dX12_readOnce_39 (nb_n (by omega) (by omega)) ⟨rfl, z25_a, z25_b, z12_a, z12_b, z14_a, z14_b, z15_a, z15_b, z20_a, z20_b, ff26_h, (rng_up f2_h (by omega) (by omega)), (show 0 ≤ (z12 - x2) from by omega), (show 0 ≤ ((((z12 - x2) - z14) + 4) - z25) from by omega)⟩ w (by decide) rfl
  · replace c_2 : ¬ (f2 0) = 0 := fun h => c_2 ((iz_eq (by omega) (by omega)).mpr h)
    refine lv_aload_n hx hb dX12_readOnce_9 rfl (lv_at hl 0 rfl) ?_
    refine lv_iconst (v := iI 3) hx hb dX12_readOnce_10 (by decide +kernel) ?_
    refine k_I (ce := 0) (sl := 0) (rest := []) (wr := [(a1, .inl (T 0, 940, .inl f0)), (a3, .inl (T 0, 53, .inl (cI f1))), (a11, .inl (T 2, 3, .inl (cI f2)))]) (r_V (f := 0) [0] M w V_HookedCityModel_72 G1667 G55 (c18_X12_bad l D T _ a0 3 r0 a1 x0 x1 r1 x2 r2 x3 x4 r3 r4 r5 y0 x5 a2 a3 a4 a5 a6 a7 a8 a9 a10 a11 x6 a12 a13 a14 a15 x7 r6 r7 a16 r8 r9 a17 a18 x8 a19 x9 r10 a20 a21 x10 r11 a22 x11 x12 x13 x14 (by decide) (by decide) x0_a x0_b x1_a x1_b x2_a x2_b x3_a x3_b x4_a x4_b x5_a x5_b x6_a x6_b x7_a x7_b x8_a x8_b x9_a x9_b x10_a x10_b x11_a x11_b x12_a x12_b x13_a x13_b x14_a x14_b) 0 clX12 rfl rfl (by decide) rfl hl.1 rfl (Nat.le_of_ble_eq_true rfl) dX12_readOnce_11 (by decide) (by decide) (by decide) (by decide)) w [0] [1, 2, 3] rfl rfl (by decide) (by decide) rfl rfl (fun v u H locs hp w => ?_)
    obtain ⟨z31, fr32, fr33⟩ := u
    have hv : iI z31 = v := hp.1
    subst hv
    have z31_a : 0 ≤ z31 := hp.2.1
    have z31_b : z31 ≤ 1 := hp.2.2.1
    have w : WD D A s.heap [(a1, .inl (T 0, 940, .inl f0)), (a3, .inl (T 0, 53, .inl (cI f1))), (a11, .inl (T 2, 3, .inl (cI f2))), (a0, .inr (11, [.int r0, .ref a1, .int (iI x0), .int (iI x1), .int r1, .int (iI x2), .int r2, .int (iI x3), .int (iI x4), .int r3, .int fr32, .int fr33, .long y0, .int (iI x5), .ref a2, .ref a3, .ref a4, .ref a5, .ref a6, .ref a7, .ref a8, .ref a9, .ref a10, .ref a11, .int (iI x6), .ref a12, .ref a13, .ref a14, .ref a15, .int (iI x7), .int r6, .int r7, .ref a16, .int r8, .int r9, .ref a17, .ref a18, .int (iI x8), .ref a19, .int (iI x9), .int r10, .ref a20, .ref a21, .int (iI x10), .int r11, .ref a22, .int (iI x11), .int (iI x12), .int (iI x13), .int (iI x14)]))] H locs := w
    rcases hp.2.2.2 with hr
    · subst hr
      exact ret _ (0, x2, r2, x3, x4, r3, fr32, fr33, y0, x5, f1, f2) _ _ _ _ _ [3, 0, 1, 2] dX12_readOnce_14 (by decide +kernel) ⟨rfl, (show (0 : Int) ≤ 0 from by decide), (show (0 : Int) ≤ 1 from by decide), x2_a, x2_b, x3_a, x3_b, x4_a, x4_b, x5_a, x5_b, f1_h, f2_h, (show 0 ≤ (x2 - x2) from by omega), (show 0 ≤ ((((x2 - x2) - x3) + 4) - 0) from by omega)⟩ w (by decide) rfl
set_option maxRecDepth 100000 in
set_option maxHeartbeats 4000000 in
theorem c38_X12_readLine (l : Launch) (D : va_G) (T : Nat → ClassId) (sz : Nat) (a0 : Nat) (r0 : Int32) (a1 : Nat) (x0 : Int) (x1 : Int) (r1 : Int32) (x2 : Int) (r2 : Int32) (x3 : Int) (x4 : Int) (r3 : Int32) (r4 : Int32) (r5 : Int32) (y0 : Int64) (x5 : Int) (a2 : Nat) (a3 : Nat) (a4 : Nat) (a5 : Nat) (a6 : Nat) (a7 : Nat) (a8 : Nat) (a9 : Nat) (a10 : Nat) (a11 : Nat) (x6 : Int) (a12 : Nat) (a13 : Nat) (a14 : Nat) (a15 : Nat) (x7 : Int) (r6 : Int32) (r7 : Int32) (a16 : Nat) (r8 : Int32) (r9 : Int32) (a17 : Nat) (a18 : Nat) (x8 : Int) (a19 : Nat) (x9 : Int) (r10 : Int32) (a20 : Nat) (a21 : Nat) (x10 : Int) (r11 : Int32) (a22 : Nat) (x11 : Int) (x12 : Int) (x13 : Int) (x14 : Int) (f0 : Nat → Int32) (f1 : Int → Int) (h0 : Nat → Int64) (f2 : Int → Int) (x0_a : 0 ≤ x0) (x0_b : x0 ≤ 940) (x1_a : 0 ≤ x1) (x1_b : x1 ≤ 940) (x2_a : 0 ≤ x2) (x2_b : x2 ≤ 940) (x3_a : 0 ≤ x3) (x3_b : x3 ≤ 4) (x4_a : (-2147483648) ≤ x4) (x4_b : x4 ≤ 2147483647) (x5_a : (-2147483648) ≤ x5) (x5_b : x5 ≤ 2147483647) (x6_a : 0 ≤ x6) (x6_b : x6 ≤ 8) (x7_a : 0 ≤ x7) (x7_b : x7 ≤ 9) (x8_a : 0 ≤ x8) (x8_b : x8 ≤ 9) (x9_a : 0 ≤ x9) (x9_b : x9 ≤ 64) (x10_a : 0 ≤ x10) (x10_b : x10 ≤ 40) (x11_a : 0 ≤ x11) (x11_b : x11 ≤ 40) (x12_a : 0 ≤ x12) (x12_b : x12 ≤ 20) (x13_a : 0 ≤ x13) (x13_b : x13 ≤ 8) (x14_a : 0 ≤ x14) (x14_b : x14 ≤ 39) (f1_h : rdI f1) (f2_h : rng 0 1 f2) : Met l yX12_readLine (Cond.code yX12_readLine cX12_readLine 1 (some .boolean) :: GW) (Rm 5 0 0) (cPre [.ref a0] D T [(a0, .inr (11, [.int r0, .ref a1, .int (iI x0), .int (iI x1), .int r1, .int (iI x2), .int r2, .int (iI x3), .int (iI x4), .int r3, .int r4, .int r5, .long y0, .int (iI x5), .ref a2, .ref a3, .ref a4, .ref a5, .ref a6, .ref a7, .ref a8, .ref a9, .ref a10, .ref a11, .int (iI x6), .ref a12, .ref a13, .ref a14, .ref a15, .int (iI x7), .int r6, .int r7, .ref a16, .int r8, .int r9, .ref a17, .ref a18, .int (iI x8), .ref a19, .int (iI x9), .int r10, .ref a20, .ref a21, .int (iI x10), .int r11, .ref a22, .int (iI x11), .int (iI x12), .int (iI x13), .int (iI x14)])), (a1, .inl (T 0, 940, .inl f0)), (a3, .inl (T 0, 53, .inl (cI f1))), (a8, .inl (T 1, 12, .inr (.inl h0))), (a11, .inl (T 2, 3, .inl (cI f2)))] sz) (qI D [(a0, .inr (11, [.int r0, .ref a1, .int (iI x0), .int (iI x1), .int r1, .int (iI x2), .int r2, .int (iI x3), .int (iI x4), .int r3, .int r4, .int r5, .long y0, .int (iI x5), .ref a2, .ref a3, .ref a4, .ref a5, .ref a6, .ref a7, .ref a8, .ref a9, .ref a10, .ref a11, .int (iI x6), .ref a12, .ref a13, .ref a14, .ref a15, .int (iI x7), .int r6, .int r7, .ref a16, .int r8, .int r9, .ref a17, .ref a18, .int (iI x8), .ref a19, .int (iI x9), .int r10, .ref a20, .ref a21, .int (iI x10), .int r11, .ref a22, .int (iI x11), .int (iI x12), .int (iI x13), .int (iI x14)])), (a1, .inl (T 0, 940, .inl f0)), (a3, .inl (T 0, 53, .inl (cI f1))), (a8, .inl (T 1, 12, .inr (.inl h0))), (a11, .inl (T 2, 3, .inl (cI f2)))] sz (fun (v : Int32) (u : Int × Int × Int32 × Int × Int × Int32 × Int32 × Int32 × Int64 × Int × (Int → Int) × (Nat → Int64) × (Int → Int)) => iI u.1 = v ∧ 0 ≤ u.1 ∧ u.1 ≤ 1 ∧ 0 ≤ u.2.1 ∧ u.2.1 ≤ 940 ∧ 0 ≤ u.2.2.2.1 ∧ u.2.2.2.1 ≤ 4 ∧ (-2147483648) ≤ u.2.2.2.2.1 ∧ u.2.2.2.2.1 ≤ 2147483647 ∧ (-2147483648) ≤ u.2.2.2.2.2.2.2.2.2.1 ∧ u.2.2.2.2.2.2.2.2.2.1 ≤ 2147483647 ∧ rdI u.2.2.2.2.2.2.2.2.2.2.1 ∧ rng 0 1 u.2.2.2.2.2.2.2.2.2.2.2.2 ∧ 0 ≤ (u.2.1 - x2) ∧ 0 ≤ ((((u.2.1 - x2) - u.2.2.2.1) + 4) - u.1)) (fun u => [(a0, .inr (11, [.int r0, .ref a1, .int (iI x0), .int (iI x1), .int r1, .int (iI u.2.1), .int u.2.2.1, .int (iI u.2.2.2.1), .int (iI u.2.2.2.2.1), .int u.2.2.2.2.2.1, .int u.2.2.2.2.2.2.1, .int u.2.2.2.2.2.2.2.1, .long u.2.2.2.2.2.2.2.2.1, .int (iI u.2.2.2.2.2.2.2.2.2.1), .ref a2, .ref a3, .ref a4, .ref a5, .ref a6, .ref a7, .ref a8, .ref a9, .ref a10, .ref a11, .int (iI x6), .ref a12, .ref a13, .ref a14, .ref a15, .int (iI x7), .int r6, .int r7, .ref a16, .int r8, .int r9, .ref a17, .ref a18, .int (iI x8), .ref a19, .int (iI x9), .int r10, .ref a20, .ref a21, .int (iI x10), .int r11, .ref a22, .int (iI x11), .int (iI x12), .int (iI x13), .int (iI x14)])), (a1, .inl (T 0, 940, .inl f0)), (a3, .inl (T 0, 53, .inl (cI u.2.2.2.2.2.2.2.2.2.2.1))), (a8, .inl (T 1, 12, .inr (.inl u.2.2.2.2.2.2.2.2.2.2.2.1))), (a11, .inl (T 2, 3, .inl (cI u.2.2.2.2.2.2.2.2.2.2.2.2)))])) 0 0 (va_A [(a0, .inr (11, [.int r0, .ref a1, .int (iI x0), .int (iI x1), .int r1, .int (iI x2), .int r2, .int (iI x3), .int (iI x4), .int r3, .int r4, .int r5, .long y0, .int (iI x5), .ref a2, .ref a3, .ref a4, .ref a5, .ref a6, .ref a7, .ref a8, .ref a9, .ref a10, .ref a11, .int (iI x6), .ref a12, .ref a13, .ref a14, .ref a15, .int (iI x7), .int r6, .int r7, .ref a16, .int r8, .int r9, .ref a17, .ref a18, .int (iI x8), .ref a19, .int (iI x9), .int r10, .ref a20, .ref a21, .int (iI x10), .int r11, .ref a22, .int (iI x11), .int (iI x12), .int (iI x13), .int (iI x14)])), (a1, .inl (T 0, 940, .inl f0)), (a3, .inl (T 0, 53, .inl (cI f1))), (a8, .inl (T 1, 12, .inr (.inl h0))), (a11, .inl (T 2, 3, .inl (cI f2)))] sz) := by
  refine e_Z (by decide) (Nat.le_of_ble_eq_true rfl) ?_
  intro p e s m args below meth c A Q ls M hin w ret hl
  have hx := M.1.1
  have hb := M.1.2.1
  have hl : lv_has ls 1 [(0, .ref a0)] := hl
  refine lv_aload_n hx hb dX12_readLine_0 rfl (lv_at hl 0 rfl) ?_
  refine lv_iconst (v := iI 0) hx hb dX12_readLine_1 (by decide +kernel) ?_
  refine k_I (ce := 0) (sl := 0) (rest := []) (wr := [(a1, .inl (T 0, 940, .inl f0)), (a3, .inl (T 0, 53, .inl (cI f1))), (a8, .inl (T 1, 12, .inr (.inl h0))), (a11, .inl (T 2, 3, .inl (cI f2)))]) (r_V (f := 2) [0] M w V_HookedCityModel_183 G1649 G52 (c15_X12_isWord l D T _ a0 0 r0 a1 x0 x1 r1 x2 r2 x3 x4 r3 r4 r5 y0 x5 a2 a3 a4 a5 a6 a7 a8 a9 a10 a11 x6 a12 a13 a14 a15 x7 r6 r7 a16 r8 r9 a17 a18 x8 a19 x9 r10 a20 a21 x10 r11 a22 x11 x12 x13 x14 (by decide) (by decide) x0_a x0_b x1_a x1_b x2_a x2_b x3_a x3_b x4_a x4_b x5_a x5_b x6_a x6_b x7_a x7_b x8_a x8_b x9_a x9_b x10_a x10_b x11_a x11_b x12_a x12_b x13_a x13_b x14_a x14_b) 0 clX12 rfl rfl (by decide) rfl hl.1 rfl (Nat.le_of_ble_eq_true rfl) dX12_readLine_2 (by decide) (by decide) (by decide) (by decide)) w [0] [1, 2, 3, 4] rfl rfl (by decide) (by decide) rfl rfl (fun v z1 H locs hp w => ?_)
  have hv : iI z1 = v := hp.1
  subst hv
  have z1_a : 0 ≤ z1 := hp.2.1
  have z1_b : z1 ≤ 1 := hp.2.2
  have w : WD D A s.heap [(a1, .inl (T 0, 940, .inl f0)), (a3, .inl (T 0, 53, .inl (cI f1))), (a8, .inl (T 1, 12, .inr (.inl h0))), (a11, .inl (T 2, 3, .inl (cI f2))), (a0, .inr (11, [.int r0, .ref a1, .int (iI x0), .int (iI x1), .int r1, .int (iI x2), .int r2, .int (iI x3), .int (iI x4), .int r3, .int r4, .int r5, .long y0, .int (iI x5), .ref a2, .ref a3, .ref a4, .ref a5, .ref a6, .ref a7, .ref a8, .ref a9, .ref a10, .ref a11, .int (iI x6), .ref a12, .ref a13, .ref a14, .ref a15, .int (iI x7), .int r6, .int r7, .ref a16, .int r8, .int r9, .ref a17, .ref a18, .int (iI x8), .ref a19, .int (iI x9), .int r10, .ref a20, .ref a21, .int (iI x10), .int r11, .ref a22, .int (iI x11), .int (iI x12), .int (iI x13), .int (iI x14)]))] H locs := w
  refine lv_if_eq (tgt := 13) hx hb dX12_readLine_5 (by decide) (fun c_2 => ?_) (fun c_2 => ?_)
  · replace c_2 := (iz_eq (Int.le_trans (by decide) z1_a) (Int.le_trans z1_b (by decide))).mp c_2
    refine lv_aload_n hx hb dX12_readLine_13 rfl (lv_at hl 0 rfl) ?_
    refine lv_iconst (v := iI 1) hx hb dX12_readLine_14 (by decide +kernel) ?_
    refine k_I (ce := 0) (sl := 0) (rest := []) (wr := [(a1, .inl (T 0, 940, .inl f0)), (a3, .inl (T 0, 53, .inl (cI f1))), (a8, .inl (T 1, 12, .inr (.inl h0))), (a11, .inl (T 2, 3, .inl (cI f2)))]) (r_V (f := 2) [4] M w V_HookedCityModel_183 G1649 G52 (c15_X12_isWord l D T _ a0 1 r0 a1 x0 x1 r1 x2 r2 x3 x4 r3 r4 r5 y0 x5 a2 a3 a4 a5 a6 a7 a8 a9 a10 a11 x6 a12 a13 a14 a15 x7 r6 r7 a16 r8 r9 a17 a18 x8 a19 x9 r10 a20 a21 x10 r11 a22 x11 x12 x13 x14 (by decide) (by decide) x0_a x0_b x1_a x1_b x2_a x2_b x3_a x3_b x4_a x4_b x5_a x5_b x6_a x6_b x7_a x7_b x8_a x8_b x9_a x9_b x10_a x10_b x11_a x11_b x12_a x12_b x13_a x13_b x14_a x14_b) 4 clX12 rfl rfl (by decide) rfl hl.1 rfl (Nat.le_of_ble_eq_true rfl) dX12_readLine_15 (by decide) (by decide) (by decide) (by decide)) w [4] [0, 1, 2, 3] rfl rfl (by decide) (by decide) rfl rfl (fun v z3 H locs hp w => ?_)
    have hv : iI z3 = v := hp.1
    subst hv
    have z3_a : 0 ≤ z3 := hp.2.1
    have z3_b : z3 ≤ 1 := hp.2.2
    have w : WD D A s.heap [(a1, .inl (T 0, 940, .inl f0)), (a3, .inl (T 0, 53, .inl (cI f1))), (a8, .inl (T 1, 12, .inr (.inl h0))), (a11, .inl (T 2, 3, .inl (cI f2))), (a0, .inr (11, [.int r0, .ref a1, .int (iI x0), .int (iI x1), .int r1, .int (iI x2), .int r2, .int (iI x3), .int (iI x4), .int r3, .int r4, .int r5, .long y0, .int (iI x5), .ref a2, .ref a3, .ref a4, .ref a5, .ref a6, .ref a7, .ref a8, .ref a9, .ref a10, .ref a11, .int (iI x6), .ref a12, .ref a13, .ref a14, .ref a15, .int (iI x7), .int r6, .int r7, .ref a16, .int r8, .int r9, .ref a17, .ref a18, .int (iI x8), .ref a19, .int (iI x9), .int r10, .ref a20, .ref a21, .int (iI x10), .int r11, .ref a22, .int (iI x11), .int (iI x12), .int (iI x13), .int (iI x14)]))] H locs := w
    refine lv_if_eq (tgt := 26) hx hb dX12_readLine_18 (by decide) (fun c_4 => ?_) (fun c_4 => ?_)
    · replace c_4 := (iz_eq (Int.le_trans (by decide) z3_a) (Int.le_trans z3_b (by decide))).mp c_4
      refine lv_aload_n hx hb dX12_readLine_26 rfl (lv_at hl 0 rfl) ?_
      refine lv_iconst (v := iI 2) hx hb dX12_readLine_27 (by decide +kernel) ?_
      refine k_I (ce := 0) (sl := 0) (rest := []) (wr := [(a1, .inl (T 0, 940, .inl f0)), (a3, .inl (T 0, 53, .inl (cI f1))), (a8, .inl (T 1, 12, .inr (.inl h0))), (a11, .inl (T 2, 3, .inl (cI f2)))]) (r_V (f := 2) [4] M w V_HookedCityModel_183 G1649 G52 (c15_X12_isWord l D T _ a0 2 r0 a1 x0 x1 r1 x2 r2 x3 x4 r3 r4 r5 y0 x5 a2 a3 a4 a5 a6 a7 a8 a9 a10 a11 x6 a12 a13 a14 a15 x7 r6 r7 a16 r8 r9 a17 a18 x8 a19 x9 r10 a20 a21 x10 r11 a22 x11 x12 x13 x14 (by decide) (by decide) x0_a x0_b x1_a x1_b x2_a x2_b x3_a x3_b x4_a x4_b x5_a x5_b x6_a x6_b x7_a x7_b x8_a x8_b x9_a x9_b x10_a x10_b x11_a x11_b x12_a x12_b x13_a x13_b x14_a x14_b) 4 clX12 rfl rfl (by decide) rfl hl.1 rfl (Nat.le_of_ble_eq_true rfl) dX12_readLine_28 (by decide) (by decide) (by decide) (by decide)) w [4] [0, 1, 2, 3] rfl rfl (by decide) (by decide) rfl rfl (fun v z5 H locs hp w => ?_)
      have hv : iI z5 = v := hp.1
      subst hv
      have z5_a : 0 ≤ z5 := hp.2.1
      have z5_b : z5 ≤ 1 := hp.2.2
      have w : WD D A s.heap [(a1, .inl (T 0, 940, .inl f0)), (a3, .inl (T 0, 53, .inl (cI f1))), (a8, .inl (T 1, 12, .inr (.inl h0))), (a11, .inl (T 2, 3, .inl (cI f2))), (a0, .inr (11, [.int r0, .ref a1, .int (iI x0), .int (iI x1), .int r1, .int (iI x2), .int r2, .int (iI x3), .int (iI x4), .int r3, .int r4, .int r5, .long y0, .int (iI x5), .ref a2, .ref a3, .ref a4, .ref a5, .ref a6, .ref a7, .ref a8, .ref a9, .ref a10, .ref a11, .int (iI x6), .ref a12, .ref a13, .ref a14, .ref a15, .int (iI x7), .int r6, .int r7, .ref a16, .int r8, .int r9, .ref a17, .ref a18, .int (iI x8), .ref a19, .int (iI x9), .int r10, .ref a20, .ref a21, .int (iI x10), .int r11, .ref a22, .int (iI x11), .int (iI x12), .int (iI x13), .int (iI x14)]))] H locs := w
      refine lv_if_eq (tgt := 39) hx hb dX12_readLine_31 (by decide) (fun c_6 => ?_) (fun c_6 => ?_)
      · replace c_6 := (iz_eq (Int.le_trans (by decide) z5_a) (Int.le_trans z5_b (by decide))).mp c_6
        refine lv_aload_n hx hb dX12_readLine_39 rfl (lv_at hl 0 rfl) ?_
        refine lv_iconst (v := iI 3) hx hb dX12_readLine_40 (by decide +kernel) ?_
        refine k_I (ce := 0) (sl := 0) (rest := []) (wr := [(a1, .inl (T 0, 940, .inl f0)), (a3, .inl (T 0, 53, .inl (cI f1))), (a8, .inl (T 1, 12, .inr (.inl h0))), (a11, .inl (T 2, 3, .inl (cI f2)))]) (r_V (f := 2) [4] M w V_HookedCityModel_183 G1649 G52 (c15_X12_isWord l D T _ a0 3 r0 a1 x0 x1 r1 x2 r2 x3 x4 r3 r4 r5 y0 x5 a2 a3 a4 a5 a6 a7 a8 a9 a10 a11 x6 a12 a13 a14 a15 x7 r6 r7 a16 r8 r9 a17 a18 x8 a19 x9 r10 a20 a21 x10 r11 a22 x11 x12 x13 x14 (by decide) (by decide) x0_a x0_b x1_a x1_b x2_a x2_b x3_a x3_b x4_a x4_b x5_a x5_b x6_a x6_b x7_a x7_b x8_a x8_b x9_a x9_b x10_a x10_b x11_a x11_b x12_a x12_b x13_a x13_b x14_a x14_b) 4 clX12 rfl rfl (by decide) rfl hl.1 rfl (Nat.le_of_ble_eq_true rfl) dX12_readLine_41 (by decide) (by decide) (by decide) (by decide)) w [4] [0, 1, 2, 3] rfl rfl (by decide) (by decide) rfl rfl (fun v z7 H locs hp w => ?_)
        have hv : iI z7 = v := hp.1
        subst hv
        have z7_a : 0 ≤ z7 := hp.2.1
        have z7_b : z7 ≤ 1 := hp.2.2
        have w : WD D A s.heap [(a1, .inl (T 0, 940, .inl f0)), (a3, .inl (T 0, 53, .inl (cI f1))), (a8, .inl (T 1, 12, .inr (.inl h0))), (a11, .inl (T 2, 3, .inl (cI f2))), (a0, .inr (11, [.int r0, .ref a1, .int (iI x0), .int (iI x1), .int r1, .int (iI x2), .int r2, .int (iI x3), .int (iI x4), .int r3, .int r4, .int r5, .long y0, .int (iI x5), .ref a2, .ref a3, .ref a4, .ref a5, .ref a6, .ref a7, .ref a8, .ref a9, .ref a10, .ref a11, .int (iI x6), .ref a12, .ref a13, .ref a14, .ref a15, .int (iI x7), .int r6, .int r7, .ref a16, .int r8, .int r9, .ref a17, .ref a18, .int (iI x8), .ref a19, .int (iI x9), .int r10, .ref a20, .ref a21, .int (iI x10), .int r11, .ref a22, .int (iI x11), .int (iI x12), .int (iI x13), .int (iI x14)]))] H locs := w
        refine lv_if_eq (tgt := 52) hx hb dX12_readLine_44 (by decide) (fun c_8 => ?_) (fun c_8 => ?_)
        · replace c_8 := (iz_eq (Int.le_trans (by decide) z7_a) (Int.le_trans z7_b (by decide))).mp c_8
          refine lv_aload_n hx hb dX12_readLine_52 rfl (lv_at hl 0 rfl) ?_
          refine lv_iconst (v := iI 4) hx hb dX12_readLine_53 (by decide +kernel) ?_
          refine k_I (ce := 0) (sl := 0) (rest := []) (wr := [(a1, .inl (T 0, 940, .inl f0)), (a3, .inl (T 0, 53, .inl (cI f1))), (a8, .inl (T 1, 12, .inr (.inl h0))), (a11, .inl (T 2, 3, .inl (cI f2)))]) (r_V (f := 2) [4] M w V_HookedCityModel_183 G1649 G52 (c15_X12_isWord l D T _ a0 4 r0 a1 x0 x1 r1 x2 r2 x3 x4 r3 r4 r5 y0 x5 a2 a3 a4 a5 a6 a7 a8 a9 a10 a11 x6 a12 a13 a14 a15 x7 r6 r7 a16 r8 r9 a17 a18 x8 a19 x9 r10 a20 a21 x10 r11 a22 x11 x12 x13 x14 (by decide) (by decide) x0_a x0_b x1_a x1_b x2_a x2_b x3_a x3_b x4_a x4_b x5_a x5_b x6_a x6_b x7_a x7_b x8_a x8_b x9_a x9_b x10_a x10_b x11_a x11_b x12_a x12_b x13_a x13_b x14_a x14_b) 4 clX12 rfl rfl (by decide) rfl hl.1 rfl (Nat.le_of_ble_eq_true rfl) dX12_readLine_54 (by decide) (by decide) (by decide) (by decide)) w [4] [0, 1, 2, 3] rfl rfl (by decide) (by decide) rfl rfl (fun v z9 H locs hp w => ?_)
          have hv : iI z9 = v := hp.1
          subst hv
          have z9_a : 0 ≤ z9 := hp.2.1
          have z9_b : z9 ≤ 1 := hp.2.2
          have w : WD D A s.heap [(a1, .inl (T 0, 940, .inl f0)), (a3, .inl (T 0, 53, .inl (cI f1))), (a8, .inl (T 1, 12, .inr (.inl h0))), (a11, .inl (T 2, 3, .inl (cI f2))), (a0, .inr (11, [.int r0, .ref a1, .int (iI x0), .int (iI x1), .int r1, .int (iI x2), .int r2, .int (iI x3), .int (iI x4), .int r3, .int r4, .int r5, .long y0, .int (iI x5), .ref a2, .ref a3, .ref a4, .ref a5, .ref a6, .ref a7, .ref a8, .ref a9, .ref a10, .ref a11, .int (iI x6), .ref a12, .ref a13, .ref a14, .ref a15, .int (iI x7), .int r6, .int r7, .ref a16, .int r8, .int r9, .ref a17, .ref a18, .int (iI x8), .ref a19, .int (iI x9), .int r10, .ref a20, .ref a21, .int (iI x10), .int r11, .ref a22, .int (iI x11), .int (iI x12), .int (iI x13), .int (iI x14)]))] H locs := w
          refine lv_if_eq (tgt := 69) hx hb dX12_readLine_57 (by decide) (fun c_10 => ?_) (fun c_10 => ?_)
          · replace c_10 := (iz_eq (Int.le_trans (by decide) z9_a) (Int.le_trans z9_b (by decide))).mp c_10
            refine lv_aload_n hx hb dX12_readLine_69 rfl (lv_at hl 0 rfl) ?_
            refine lv_iconst (v := iI 5) hx hb dX12_readLine_70 (by decide +kernel) ?_
            refine k_I (ce := 0) (sl := 0) (rest := []) (wr := [(a1, .inl (T 0, 940, .inl f0)), (a3, .inl (T 0, 53, .inl (cI f1))), (a8, .inl (T 1, 12, .inr (.inl h0))), (a11, .inl (T 2, 3, .inl (cI f2)))]) (r_V (f := 2) [4] M w V_HookedCityModel_183 G1649 G52 (c15_X12_isWord l D T _ a0 5 r0 a1 x0 x1 r1 x2 r2 x3 x4 r3 r4 r5 y0 x5 a2 a3 a4 a5 a6 a7 a8 a9 a10 a11 x6 a12 a13 a14 a15 x7 r6 r7 a16 r8 r9 a17 a18 x8 a19 x9 r10 a20 a21 x10 r11 a22 x11 x12 x13 x14 (by decide) (by decide) x0_a x0_b x1_a x1_b x2_a x2_b x3_a x3_b x4_a x4_b x5_a x5_b x6_a x6_b x7_a x7_b x8_a x8_b x9_a x9_b x10_a x10_b x11_a x11_b x12_a x12_b x13_a x13_b x14_a x14_b) 4 clX12 rfl rfl (by decide) rfl hl.1 rfl (Nat.le_of_ble_eq_true rfl) dX12_readLine_71 (by decide) (by decide) (by decide) (by decide)) w [4] [0, 1, 2, 3] rfl rfl (by decide) (by decide) rfl rfl (fun v z11 H locs hp w => ?_)
            have hv : iI z11 = v := hp.1
            subst hv
            have z11_a : 0 ≤ z11 := hp.2.1
            have z11_b : z11 ≤ 1 := hp.2.2
            have w : WD D A s.heap [(a1, .inl (T 0, 940, .inl f0)), (a3, .inl (T 0, 53, .inl (cI f1))), (a8, .inl (T 1, 12, .inr (.inl h0))), (a11, .inl (T 2, 3, .inl (cI f2))), (a0, .inr (11, [.int r0, .ref a1, .int (iI x0), .int (iI x1), .int r1, .int (iI x2), .int r2, .int (iI x3), .int (iI x4), .int r3, .int r4, .int r5, .long y0, .int (iI x5), .ref a2, .ref a3, .ref a4, .ref a5, .ref a6, .ref a7, .ref a8, .ref a9, .ref a10, .ref a11, .int (iI x6), .ref a12, .ref a13, .ref a14, .ref a15, .int (iI x7), .int r6, .int r7, .ref a16, .int r8, .int r9, .ref a17, .ref a18, .int (iI x8), .ref a19, .int (iI x9), .int r10, .ref a20, .ref a21, .int (iI x10), .int r11, .ref a22, .int (iI x11), .int (iI x12), .int (iI x13), .int (iI x14)]))] H locs := w
            refine lv_if_eq (tgt := 86) hx hb dX12_readLine_74 (by decide) (fun c_12 => ?_) (fun c_12 => ?_)
            · replace c_12 := (iz_eq (Int.le_trans (by decide) z11_a) (Int.le_trans z11_b (by decide))).mp c_12
              refine lv_aload_n hx hb dX12_readLine_86 rfl (lv_at hl 0 rfl) ?_
              refine lv_bipush (v := iI 6) hx hb dX12_readLine_87 (by decide +kernel) ?_
              refine k_I (ce := 0) (sl := 0) (rest := []) (wr := [(a1, .inl (T 0, 940, .inl f0)), (a3, .inl (T 0, 53, .inl (cI f1))), (a8, .inl (T 1, 12, .inr (.inl h0))), (a11, .inl (T 2, 3, .inl (cI f2)))]) (r_V (f := 2) [4] M w V_HookedCityModel_183 G1649 G52 (c15_X12_isWord l D T _ a0 6 r0 a1 x0 x1 r1 x2 r2 x3 x4 r3 r4 r5 y0 x5 a2 a3 a4 a5 a6 a7 a8 a9 a10 a11 x6 a12 a13 a14 a15 x7 r6 r7 a16 r8 r9 a17 a18 x8 a19 x9 r10 a20 a21 x10 r11 a22 x11 x12 x13 x14 (by decide) (by decide) x0_a x0_b x1_a x1_b x2_a x2_b x3_a x3_b x4_a x4_b x5_a x5_b x6_a x6_b x7_a x7_b x8_a x8_b x9_a x9_b x10_a x10_b x11_a x11_b x12_a x12_b x13_a x13_b x14_a x14_b) 4 clX12 rfl rfl (by decide) rfl hl.1 rfl (Nat.le_of_ble_eq_true rfl) dX12_readLine_89 (by decide) (by decide) (by decide) (by decide)) w [4] [0, 1, 2, 3] rfl rfl (by decide) (by decide) rfl rfl (fun v z13 H locs hp w => ?_)
              have hv : iI z13 = v := hp.1
              subst hv
              have z13_a : 0 ≤ z13 := hp.2.1
              have z13_b : z13 ≤ 1 := hp.2.2
              have w : WD D A s.heap [(a1, .inl (T 0, 940, .inl f0)), (a3, .inl (T 0, 53, .inl (cI f1))), (a8, .inl (T 1, 12, .inr (.inl h0))), (a11, .inl (T 2, 3, .inl (cI f2))), (a0, .inr (11, [.int r0, .ref a1, .int (iI x0), .int (iI x1), .int r1, .int (iI x2), .int r2, .int (iI x3), .int (iI x4), .int r3, .int r4, .int r5, .long y0, .int (iI x5), .ref a2, .ref a3, .ref a4, .ref a5, .ref a6, .ref a7, .ref a8, .ref a9, .ref a10, .ref a11, .int (iI x6), .ref a12, .ref a13, .ref a14, .ref a15, .int (iI x7), .int r6, .int r7, .ref a16, .int r8, .int r9, .ref a17, .ref a18, .int (iI x8), .ref a19, .int (iI x9), .int r10, .ref a20, .ref a21, .int (iI x10), .int r11, .ref a22, .int (iI x11), .int (iI x12), .int (iI x13), .int (iI x14)]))] H locs := w
              refine lv_if_eq (tgt := 106) hx hb dX12_readLine_92 (by decide) (fun c_14 => ?_) (fun c_14 => ?_)
              · replace c_14 := (iz_eq (Int.le_trans (by decide) z13_a) (Int.le_trans z13_b (by decide))).mp c_14
                refine lv_aload_n hx hb dX12_readLine_106 rfl (lv_at hl 0 rfl) ?_
                refine lv_iconst (v := iI 1) hx hb dX12_readLine_107 (by decide +kernel) ?_
                refine k_I (ce := 0) (sl := 0) (rest := []) (wr := [(a1, .inl (T 0, 940, .inl f0)), (a3, .inl (T 0, 53, .inl (cI f1))), (a8, .inl (T 1, 12, .inr (.inl h0))), (a11, .inl (T 2, 3, .inl (cI f2)))]) (r_V (f := 0) [4] M w V_HookedCityModel_72 G1667 G55 (c18_X12_bad l D T _ a0 1 r0 a1 x0 x1 r1 x2 r2 x3 x4 r3 r4 r5 y0 x5 a2 a3 a4 a5 a6 a7 a8 a9 a10 a11 x6 a12 a13 a14 a15 x7 r6 r7 a16 r8 r9 a17 a18 x8 a19 x9 r10 a20 a21 x10 r11 a22 x11 x12 x13 x14 (by decide) (by decide) x0_a x0_b x1_a x1_b x2_a x2_b x3_a x3_b x4_a x4_b x5_a x5_b x6_a x6_b x7_a x7_b x8_a x8_b x9_a x9_b x10_a x10_b x11_a x11_b x12_a x12_b x13_a x13_b x14_a x14_b) 4 clX12 rfl rfl (by decide) rfl hl.1 rfl (Nat.le_of_ble_eq_true rfl) dX12_readLine_108 (by decide) (by decide) (by decide) (by decide)) w [4] [0, 1, 2, 3] rfl rfl (by decide) (by decide) rfl rfl (fun v u H locs hp w => ?_)
                obtain ⟨z15, fr16, fr17⟩ := u
                have hv : iI z15 = v := hp.1
                subst hv
                have z15_a : 0 ≤ z15 := hp.2.1
                have z15_b : z15 ≤ 1 := hp.2.2.1
                have w : WD D A s.heap [(a1, .inl (T 0, 940, .inl f0)), (a3, .inl (T 0, 53, .inl (cI f1))), (a8, .inl (T 1, 12, .inr (.inl h0))), (a11, .inl (T 2, 3, .inl (cI f2))), (a0, .inr (11, [.int r0, .ref a1, .int (iI x0), .int (iI x1), .int r1, .int (iI x2), .int r2, .int (iI x3), .int (iI x4), .int r3, .int fr16, .int fr17, .long y0, .int (iI x5), .ref a2, .ref a3, .ref a4, .ref a5, .ref a6, .ref a7, .ref a8, .ref a9, .ref a10, .ref a11, .int (iI x6), .ref a12, .ref a13, .ref a14, .ref a15, .int (iI x7), .int r6, .int r7, .ref a16, .int r8, .int r9, .ref a17, .ref a18, .int (iI x8), .ref a19, .int (iI x9), .int r10, .ref a20, .ref a21, .int (iI x10), .int r11, .ref a22, .int (iI x11), .int (iI x12), .int (iI x13), .int (iI x14)]))] H locs := w
                rcases hp.2.2.2 with hr
                · subst hr
                  exact ret _ (0, x2, r2, x3, x4, r3, fr16, fr17, y0, x5, f1, h0, f2) _ _ _ _ _ [4, 0, 1, 2, 3] dX12_readLine_111 (by decide +kernel) ⟨rfl, (show (0 : Int) ≤ 0 from by decide), (show (0 : Int) ≤ 1 from by decide), x2_a, x2_b, x3_a, x3_b, x4_a, x4_b, x5_a, x5_b, f1_h, f2_h, (show 0 ≤ (x2 - x2) from by omega), (show 0 ≤ ((((x2 - x2) - x3) + 4) - 0) from by omega)⟩ w (by decide) rfl
              · replace c_14 : ¬ z13 = 0 := fun h => c_14 ((iz_eq (Int.le_trans (by decide) z13_a) (Int.le_trans z13_b (by decide))).mpr h)
                refine lv_aload_n hx hb dX12_readLine_95 rfl (lv_at hl 0 rfl) ?_
                refine lv_iconst (v := iI 2) hx hb dX12_readLine_96 (by decide +kernel) ?_
                refine lv_iconst (v := iI 0) hx hb dX12_readLine_97 (by decide +kernel) ?_
                refine lv_bipush (v := iI 60) hx hb dX12_readLine_98 (by decide +kernel) ?_
                refine k_I (ce := 0) (sl := 0) (rest := []) (wr := [(a8, .inl (T 1, 12, .inr (.inl h0)))]) (r_V (f := 3) [4, 0, 1, 3] M w V_HookedCityModel_221 G1716 G65 (c35_X12_readOnce l D T _ a0 r0 a1 x0 x1 r1 x2 r2 x3 x4 r3 r4 r5 y0 x5 a2 a3 a4 a5 a6 a7 a8 a9 a10 a11 x6 a12 a13 a14 a15 x7 r6 r7 a16 r8 r9 a17 a18 x8 a19 x9 r10 a20 a21 x10 r11 a22 x11 x12 x13 x14 f0 f1 f2 x0_a x0_b x1_a x1_b x2_a x2_b x3_a x3_b x4_a x4_b x5_a x5_b x6_a x6_b x7_a x7_b x8_a x8_b x9_a x9_b x10_a x10_b x11_a x11_b x12_a x12_b x13_a x13_b x14_a x14_b f1_h f2_h) 4 clX12 rfl rfl (by decide) rfl hl.1 rfl (Nat.le_of_ble_eq_true rfl) dX12_readLine_100 (by decide) (by decide) (by decide) (by decide)) w [4, 0, 1, 3] [2] rfl rfl (by decide) (by decide) rfl rfl (fun v u H locs hp w => ?_)
                obtain ⟨z18, z19, fr20, z21, z22, fr23, fr24, fr25, fy26, z27, ff28, ff29⟩ := u
                have hv : iI z18 = v := hp.1
                subst hv
                have z18_a : 0 ≤ z18 := hp.2.1
                have z18_b : z18 ≤ 1 := hp.2.2.1
                have z19_a : 0 ≤ z19 := hp.2.2.2.1
                have z19_b : z19 ≤ 940 := hp.2.2.2.2.1
                have z21_a : 0 ≤ z21 := hp.2.2.2.2.2.1
                have z21_b : z21 ≤ 4 := hp.2.2.2.2.2.2.1
                have z22_a : (-2147483648) ≤ z22 := hp.2.2.2.2.2.2.2.1
                have z22_b : z22 ≤ 2147483647 := hp.2.2.2.2.2.2.2.2.1
                have z27_a : (-2147483648) ≤ z27 := hp.2.2.2.2.2.2.2.2.2.1
                have z27_b : z27 ≤ 2147483647 := hp.2.2.2.2.2.2.2.2.2.2.1
                have ff28_h : rdI ff28 := hp.2.2.2.2.2.2.2.2.2.2.2.1
                have ff29_h : rng 0 1 ff29 := hp.2.2.2.2.2.2.2.2.2.2.2.2.1
                have ee30 : 0 ≤ (z19 - x2) := hp.2.2.2.2.2.2.2.2.2.2.2.2.2.1
                have ee31 : 0 ≤ ((((z19 - x2) - z21) + 4) - z18) := hp.2.2.2.2.2.2.2.2.2.2.2.2.2.2
                have w : WD D A s.heap [(a8, .inl (T 1, 12, .inr (.inl h0))), (a0, .inr (11, [.int r0, .ref a1, .int (iI x0), .int (iI x1), .int r1, .int (iI z19), .int fr20, .int (iI z21), .int (iI z22), .int fr23, .int fr24, .int fr25, .long fy26, .int (iI z27), .ref a2, .ref a3, .ref a4, .ref a5, .ref a6, .ref a7, .ref a8, .ref a9, .ref a10, .ref a11, .int (iI x6), .ref a12, .ref a13, .ref a14, .ref a15, .int (iI x7), .int r6, .int r7, .ref a16, .int r8, .int r9, .ref a17, .ref a18, .int (iI x8), .ref a19, .int (iI x9), .int r10, .ref a20, .ref a21, .int (iI x10), .int r11, .ref a22, .int (iI x11), .int (iI x12), .int (iI x13), .int (iI x14)])), (a1, .inl (T 0, 940, .inl f0)), (a3, .inl (T 0, 53, .inl (cI ff28))), (a11, .inl (T 2, 3, .inl (cI ff29)))] H locs := w
                refine lv_goto (tgt := 111) hx hb dX12_readLine_103 (by decide) ?_
                exact ret _ (z18, z19, fr20, z21, z22, fr23, fr24, fr25, fy26, z27, ff28, h0, ff29) _ _ _ _ _ [1, 2, 3, 0, 4] dX12_readLine_111 (nb_n (by omega) (by omega)) ⟨rfl, z18_a, z18_b, z19_a, z19_b, z21_a, z21_b, z22_a, z22_b, z27_a, z27_b, ff28_h, ff29_h, (show 0 ≤ (z19 - x2) from by omega), (show 0 ≤ ((((z19 - x2) - z21) + 4) - z18) from by omega)⟩ w (by decide) rfl
            · replace c_12 : ¬ z11 = 0 := fun h => c_12 ((iz_eq (Int.le_trans (by decide) z11_a) (Int.le_trans z11_b (by decide))).mpr h)
              refine lv_aload_n hx hb dX12_readLine_77 rfl (lv_at hl 0 rfl) ?_
              refine lv_iconst (v := iI 1) hx hb dX12_readLine_78 (by decide +kernel) ?_
              refine lv_iconst (v := iI 2) hx hb dX12_readLine_79 (by decide +kernel) ?_
              refine lv_bipush (v := iI 60) hx hb dX12_readLine_80 (by decide +kernel) ?_
              refine k_I (ce := 0) (sl := 0) (rest := []) (wr := [(a8, .inl (T 1, 12, .inr (.inl h0)))]) (r_V (f := 3) [4, 0, 1, 3] M w V_HookedCityModel_221 G1716 G65 (c36_X12_readOnce l D T _ a0 r0 a1 x0 x1 r1 x2 r2 x3 x4 r3 r4 r5 y0 x5 a2 a3 a4 a5 a6 a7 a8 a9 a10 a11 x6 a12 a13 a14 a15 x7 r6 r7 a16 r8 r9 a17 a18 x8 a19 x9 r10 a20 a21 x10 r11 a22 x11 x12 x13 x14 f0 f1 f2 x0_a x0_b x1_a x1_b x2_a x2_b x3_a x3_b x4_a x4_b x5_a x5_b x6_a x6_b x7_a x7_b x8_a x8_b x9_a x9_b x10_a x10_b x11_a x11_b x12_a x12_b x13_a x13_b x14_a x14_b f1_h f2_h) 4 clX12 rfl rfl (by decide) rfl hl.1 rfl (Nat.le_of_ble_eq_true rfl) dX12_readLine_82 (by decide) (by decide) (by decide) (by decide)) w [4, 0, 1, 3] [2] rfl rfl (by decide) (by decide) rfl rfl (fun v u H locs hp w => ?_)
              obtain ⟨z32, z33, fr34, z35, z36, fr37, fr38, fr39, fy40, z41, ff42, ff43⟩ := u
              have hv : iI z32 = v := hp.1
              subst hv
              have z32_a : 0 ≤ z32 := hp.2.1
              have z32_b : z32 ≤ 1 := hp.2.2.1
              have z33_a : 0 ≤ z33 := hp.2.2.2.1
              have z33_b : z33 ≤ 940 := hp.2.2.2.2.1
              have z35_a : 0 ≤ z35 := hp.2.2.2.2.2.1
              have z35_b : z35 ≤ 4 := hp.2.2.2.2.2.2.1
              have z36_a : (-2147483648) ≤ z36 := hp.2.2.2.2.2.2.2.1
              have z36_b : z36 ≤ 2147483647 := hp.2.2.2.2.2.2.2.2.1
              have z41_a : (-2147483648) ≤ z41 := hp.2.2.2.2.2.2.2.2.2.1
              have z41_b : z41 ≤ 2147483647 := hp.2.2.2.2.2.2.2.2.2.2.1
              have ff42_h : rdI ff42 := hp.2.2.2.2.2.2.2.2.2.2.2.1
              have ff43_h : rng 0 1 ff43 := hp.2.2.2.2.2.2.2.2.2.2.2.2.1
              have ee44 : 0 ≤ (z33 - x2) := hp.2.2.2.2.2.2.2.2.2.2.2.2.2.1
              have ee45 : 0 ≤ ((((z33 - x2) - z35) + 4) - z32) := hp.2.2.2.2.2.2.2.2.2.2.2.2.2.2
              have w : WD D A s.heap [(a8, .inl (T 1, 12, .inr (.inl h0))), (a0, .inr (11, [.int r0, .ref a1, .int (iI x0), .int (iI x1), .int r1, .int (iI z33), .int fr34, .int (iI z35), .int (iI z36), .int fr37, .int fr38, .int fr39, .long fy40, .int (iI z41), .ref a2, .ref a3, .ref a4, .ref a5, .ref a6, .ref a7, .ref a8, .ref a9, .ref a10, .ref a11, .int (iI x6), .ref a12, .ref a13, .ref a14, .ref a15, .int (iI x7), .int r6, .int r7, .ref a16, .int r8, .int r9, .ref a17, .ref a18, .int (iI x8), .ref a19, .int (iI x9), .int r10, .ref a20, .ref a21, .int (iI x10), .int r11, .ref a22, .int (iI x11), .int (iI x12), .int (iI x13), .int (iI x14)])), (a1, .inl (T 0, 940, .inl f0)), (a3, .inl (T 0, 53, .inl (cI ff42))), (a11, .inl (T 2, 3, .inl (cI ff43)))] H locs := w
              exact ret _ (z32, z33, fr34, z35, z36, fr37, fr38, fr39, fy40, z41, ff42, h0, ff43) _ _ _ _ _ [1, 2, 3, 0, 4] dX12_readLine_85 (nb_n (by omega) (by omega)) ⟨rfl, z32_a, z32_b, z33_a, z33_b, z35_a, z35_b, z36_a, z36_b, z41_a, z41_b, ff42_h, ff43_h, (show 0 ≤ (z33 - x2) from by omega), (show 0 ≤ ((((z33 - x2) - z35) + 4) - z32) from by omega)⟩ w (by decide) rfl
          · replace c_10 : ¬ z9 = 0 := fun h => c_10 ((iz_eq (Int.le_trans (by decide) z9_a) (Int.le_trans z9_b (by decide))).mpr h)
            refine lv_aload_n hx hb dX12_readLine_60 rfl (lv_at hl 0 rfl) ?_
            refine lv_iconst (v := iI 0) hx hb dX12_readLine_61 (by decide +kernel) ?_
            refine lv_iconst (v := iI 0) hx hb dX12_readLine_62 (by decide +kernel) ?_
            refine lv_bipush (v := iI 20) hx hb dX12_readLine_63 (by decide +kernel) ?_
            refine k_I (ce := 0) (sl := 0) (rest := []) (wr := [(a8, .inl (T 1, 12, .inr (.inl h0)))]) (r_V (f := 3) [4, 0, 1, 3] M w V_HookedCityModel_221 G1716 G65 (c37_X12_readOnce l D T _ a0 r0 a1 x0 x1 r1 x2 r2 x3 x4 r3 r4 r5 y0 x5 a2 a3 a4 a5 a6 a7 a8 a9 a10 a11 x6 a12 a13 a14 a15 x7 r6 r7 a16 r8 r9 a17 a18 x8 a19 x9 r10 a20 a21 x10 r11 a22 x11 x12 x13 x14 f0 f1 f2 x0_a x0_b x1_a x1_b x2_a x2_b x3_a x3_b x4_a x4_b x5_a x5_b x6_a x6_b x7_a x7_b x8_a x8_b x9_a x9_b x10_a x10_b x11_a x11_b x12_a x12_b x13_a x13_b x14_a x14_b f1_h f2_h) 4 clX12 rfl rfl (by decide) rfl hl.1 rfl (Nat.le_of_ble_eq_true rfl) dX12_readLine_65 (by decide) (by decide) (by decide) (by decide)) w [4, 0, 1, 3] [2] rfl rfl (by decide) (by decide) rfl rfl (fun v u H locs hp w => ?_)
            obtain ⟨z46, z47, fr48, z49, z50, fr51, fr52, fr53, fy54, z55, ff56, ff57⟩ := u
            have hv : iI z46 = v := hp.1
            subst hv
            have z46_a : 0 ≤ z46 := hp.2.1
            have z46_b : z46 ≤ 1 := hp.2.2.1
            have z47_a : 0 ≤ z47 := hp.2.2.2.1
            have z47_b : z47 ≤ 940 := hp.2.2.2.2.1
            have z49_a : 0 ≤ z49 := hp.2.2.2.2.2.1
            have z49_b : z49 ≤ 4 := hp.2.2.2.2.2.2.1
            have z50_a : (-2147483648) ≤ z50 := hp.2.2.2.2.2.2.2.1
            have z50_b : z50 ≤ 2147483647 := hp.2.2.2.2.2.2.2.2.1
            have z55_a : (-2147483648) ≤ z55 := hp.2.2.2.2.2.2.2.2.2.1
            have z55_b : z55 ≤ 2147483647 := hp.2.2.2.2.2.2.2.2.2.2.1
            have ff56_h : rdI ff56 := hp.2.2.2.2.2.2.2.2.2.2.2.1
            have ff57_h : rng 0 1 ff57 := hp.2.2.2.2.2.2.2.2.2.2.2.2.1
            have ee58 : 0 ≤ (z47 - x2) := hp.2.2.2.2.2.2.2.2.2.2.2.2.2.1
            have ee59 : 0 ≤ ((((z47 - x2) - z49) + 4) - z46) := hp.2.2.2.2.2.2.2.2.2.2.2.2.2.2
            have w : WD D A s.heap [(a8, .inl (T 1, 12, .inr (.inl h0))), (a0, .inr (11, [.int r0, .ref a1, .int (iI x0), .int (iI x1), .int r1, .int (iI z47), .int fr48, .int (iI z49), .int (iI z50), .int fr51, .int fr52, .int fr53, .long fy54, .int (iI z55), .ref a2, .ref a3, .ref a4, .ref a5, .ref a6, .ref a7, .ref a8, .ref a9, .ref a10, .ref a11, .int (iI x6), .ref a12, .ref a13, .ref a14, .ref a15, .int (iI x7), .int r6, .int r7, .ref a16, .int r8, .int r9, .ref a17, .ref a18, .int (iI x8), .ref a19, .int (iI x9), .int r10, .ref a20, .ref a21, .int (iI x10), .int r11, .ref a22, .int (iI x11), .int (iI x12), .int (iI x13), .int (iI x14)])), (a1, .inl (T 0, 940, .inl f0)), (a3, .inl (T 0, 53, .inl (cI ff56))), (a11, .inl (T 2, 3, .inl (cI ff57)))] H locs := w
            exact ret _ (z46, z47, fr48, z49, z50, fr51, fr52, fr53, fy54, z55, ff56, h0, ff57) _ _ _ _ _ [1, 2, 3, 0, 4] dX12_readLine_68 (nb_n (by omega) (by omega)) ⟨rfl, z46_a, z46_b, z47_a, z47_b, z49_a, z49_b, z50_a, z50_b, z55_a, z55_b, ff56_h, ff57_h, (show 0 ≤ (z47 - x2) from by omega), (show 0 ≤ ((((z47 - x2) - z49) + 4) - z46) from by omega)⟩ w (by decide) rfl
        · replace c_8 : ¬ z7 = 0 := fun h => c_8 ((iz_eq (Int.le_trans (by decide) z7_a) (Int.le_trans z7_b (by decide))).mpr h)
          refine lv_aload_n hx hb dX12_readLine_47 rfl (lv_at hl 0 rfl) ?_
          refine k_I (ce := 0) (sl := 0) (rest := []) (wr := [(a11, .inl (T 2, 3, .inl (cI f2)))]) (r_V (f := 4) [4, 0, 1, 2] M w V_HookedCityModel_218 G1712 G64 (c34_X12_readDone l D T _ a0 r0 a1 x0 x1 r1 x2 r2 x3 x4 r3 r4 r5 y0 x5 a2 a3 a4 a5 a6 a7 a8 a9 a10 a11 x6 a12 a13 a14 a15 x7 r6 r7 a16 r8 r9 a17 a18 x8 a19 x9 r10 a20 a21 x10 r11 a22 x11 x12 x13 x14 f0 f1 h0 x0_a x0_b x1_a x1_b x2_a x2_b x3_a x3_b x4_a x4_b x5_a x5_b x6_a x6_b x7_a x7_b x8_a x8_b x9_a x9_b x10_a x10_b x11_a x11_b x12_a x12_b x13_a x13_b x14_a x14_b f1_h) 4 clX12 rfl rfl (by decide) rfl hl.1 rfl (Nat.le_of_ble_eq_true rfl) dX12_readLine_48 (by decide) (by decide) (by decide) (by decide)) w [4, 0, 1, 2] [3] rfl rfl (by decide) (by decide) rfl rfl (fun v u H locs hp w => ?_)
          obtain ⟨z60, z61, fr62, z63, z64, fr65, fr66, fr67, fy68, z69, ff70⟩ := u
          have hv : iI z60 = v := hp.1
          subst hv
          have z60_a : 0 ≤ z60 := hp.2.1
          have z60_b : z60 ≤ 1 := hp.2.2.1
          have z61_a : 0 ≤ z61 := hp.2.2.2.1
          have z61_b : z61 ≤ 940 := hp.2.2.2.2.1
          have z63_a : 0 ≤ z63 := hp.2.2.2.2.2.1
          have z63_b : z63 ≤ 4 := hp.2.2.2.2.2.2.1
          have z64_a : (-2147483648) ≤ z64 := hp.2.2.2.2.2.2.2.1
          have z64_b : z64 ≤ 2147483647 := hp.2.2.2.2.2.2.2.2.1
          have z69_a : (-2147483648) ≤ z69 := hp.2.2.2.2.2.2.2.2.2.1
          have z69_b : z69 ≤ 2147483647 := hp.2.2.2.2.2.2.2.2.2.2.1
          have ff70_h : rdI ff70 := hp.2.2.2.2.2.2.2.2.2.2.2.1
          have ee71 : 0 ≤ (z61 - x2) := hp.2.2.2.2.2.2.2.2.2.2.2.2.1
          have ee72 : 0 ≤ ((((z61 - x2) - z63) + 4) - z60) := hp.2.2.2.2.2.2.2.2.2.2.2.2.2
          have w : WD D A s.heap [(a11, .inl (T 2, 3, .inl (cI f2))), (a0, .inr (11, [.int r0, .ref a1, .int (iI x0), .int (iI x1), .int r1, .int (iI z61), .int fr62, .int (iI z63), .int (iI z64), .int fr65, .int fr66, .int fr67, .long fy68, .int (iI z69), .ref a2, .ref a3, .ref a4, .ref a5, .ref a6, .ref a7, .ref a8, .ref a9, .ref a10, .ref a11, .int (iI x6), .ref a12, .ref a13, .ref a14, .ref a15, .int (iI x7), .int r6, .int r7, .ref a16, .int r8, .int r9, .ref a17, .ref a18, .int (iI x8), .ref a19, .int (iI x9), .int r10, .ref a20, .ref a21, .int (iI x10), .int r11, .ref a22, .int (iI x11), .int (iI x12), .int (iI x13), .int (iI x14)])), (a1, .inl (T 0, 940, .inl f0)), (a3, .inl (T 0, 53, .inl (cI ff70))), (a8, .inl (T 1, 12, .inr (.inl h0)))] H locs := w
          exact ret _ (z60, z61, fr62, z63, z64, fr65, fr66, fr67, fy68, z69, ff70, h0, f2) _ _ _ _ _ [1, 2, 3, 4, 0] dX12_readLine_51 (nb_n (by omega) (by omega)) ⟨rfl, z60_a, z60_b, z61_a, z61_b, z63_a, z63_b, z64_a, z64_b, z69_a, z69_b, ff70_h, f2_h, (show 0 ≤ (z61 - x2) from by omega), (show 0 ≤ ((((z61 - x2) - z63) + 4) - z60) from by omega)⟩ w (by decide) rfl
      · replace c_6 : ¬ z5 = 0 := fun h => c_6 ((iz_eq (Int.le_trans (by decide) z5_a) (Int.le_trans z5_b (by decide))).mpr h)
        refine lv_aload_n hx hb dX12_readLine_34 rfl (lv_at hl 0 rfl) ?_
        refine k_I (ce := 0) (sl := 0) (rest := []) (wr := [(a11, .inl (T 2, 3, .inl (cI f2)))]) (r_V (f := 4) [4, 0, 1, 2] M w V_HookedCityModel_215 G1701 G62 (c33_X12_readStreet l D T _ a0 r0 a1 x0 x1 r1 x2 r2 x3 x4 r3 r4 r5 y0 x5 a2 a3 a4 a5 a6 a7 a8 a9 a10 a11 x6 a12 a13 a14 a15 x7 r6 r7 a16 r8 r9 a17 a18 x8 a19 x9 r10 a20 a21 x10 r11 a22 x11 x12 x13 x14 f0 f1 h0 x0_a x0_b x1_a x1_b x2_a x2_b x3_a x3_b x4_a x4_b x5_a x5_b x6_a x6_b x7_a x7_b x8_a x8_b x9_a x9_b x10_a x10_b x11_a x11_b x12_a x12_b x13_a x13_b x14_a x14_b f1_h) 4 clX12 rfl rfl (by decide) rfl hl.1 rfl (Nat.le_of_ble_eq_true rfl) dX12_readLine_35 (by decide) (by decide) (by decide) (by decide)) w [4, 0, 1, 2] [3] rfl rfl (by decide) (by decide) rfl rfl (fun v u H locs hp w => ?_)
        obtain ⟨z73, z74, fr75, z76, z77, fr78, fr79, fr80, fy81, z82, ff83⟩ := u
        have hv : iI z73 = v := hp.1
        subst hv
        have z73_a : 0 ≤ z73 := hp.2.1
        have z73_b : z73 ≤ 1 := hp.2.2.1
        have z74_a : 0 ≤ z74 := hp.2.2.2.1
        have z74_b : z74 ≤ 940 := hp.2.2.2.2.1
        have z76_a : 0 ≤ z76 := hp.2.2.2.2.2.1
        have z76_b : z76 ≤ 4 := hp.2.2.2.2.2.2.1
        have z77_a : (-2147483648) ≤ z77 := hp.2.2.2.2.2.2.2.1
        have z77_b : z77 ≤ 2147483647 := hp.2.2.2.2.2.2.2.2.1
        have z82_a : (-2147483648) ≤ z82 := hp.2.2.2.2.2.2.2.2.2.1
        have z82_b : z82 ≤ 2147483647 := hp.2.2.2.2.2.2.2.2.2.2.1
        have ff83_h : rdI ff83 := hp.2.2.2.2.2.2.2.2.2.2.2.1
        have ee84 : 0 ≤ (z74 - x2) := hp.2.2.2.2.2.2.2.2.2.2.2.2.1
        have ee85 : 0 ≤ ((((z74 - x2) - z76) + 4) - z73) := hp.2.2.2.2.2.2.2.2.2.2.2.2.2
        have w : WD D A s.heap [(a11, .inl (T 2, 3, .inl (cI f2))), (a0, .inr (11, [.int r0, .ref a1, .int (iI x0), .int (iI x1), .int r1, .int (iI z74), .int fr75, .int (iI z76), .int (iI z77), .int fr78, .int fr79, .int fr80, .long fy81, .int (iI z82), .ref a2, .ref a3, .ref a4, .ref a5, .ref a6, .ref a7, .ref a8, .ref a9, .ref a10, .ref a11, .int (iI x6), .ref a12, .ref a13, .ref a14, .ref a15, .int (iI x7), .int r6, .int r7, .ref a16, .int r8, .int r9, .ref a17, .ref a18, .int (iI x8), .ref a19, .int (iI x9), .int r10, .ref a20, .ref a21, .int (iI x10), .int r11, .ref a22, .int (iI x11), .int (iI x12), .int (iI x13), .int (iI x14)])), (a1, .inl (T 0, 940, .inl f0)), (a3, .inl (T 0, 53, .inl (cI ff83))), (a8, .inl (T 1, 12, .inr (.inl h0)))] H locs := w
        exact ret _ (z73, z74, fr75, z76, z77, fr78, fr79, fr80, fy81, z82, ff83, h0, f2) _ _ _ _ _ [1, 2, 3, 4, 0] dX12_readLine_38 (nb_n (by omega) (by omega)) ⟨rfl, z73_a, z73_b, z74_a, z74_b, z76_a, z76_b, z77_a, z77_b, z82_a, z82_b, ff83_h, f2_h, (show 0 ≤ (z74 - x2) from by omega), (show 0 ≤ ((((z74 - x2) - z76) + 4) - z73) from by omega)⟩ w (by decide) rfl
    · replace c_4 : ¬ z3 = 0 := fun h => c_4 ((iz_eq (Int.le_trans (by decide) z3_a) (Int.le_trans z3_b (by decide))).mpr h)
      refine lv_aload_n hx hb dX12_readLine_21 rfl (lv_at hl 0 rfl) ?_
      refine k_I (ce := 0) (sl := 0) (rest := []) (wr := [(a11, .inl (T 2, 3, .inl (cI f2)))]) (r_V (f := 4) [4, 0, 1, 2] M w V_HookedCityModel_212 G1697 G61 (c32_X12_readMaid l D T _ a0 r0 a1 x0 x1 r1 x2 r2 x3 x4 r3 r4 r5 y0 x5 a2 a3 a4 a5 a6 a7 a8 a9 a10 a11 x6 a12 a13 a14 a15 x7 r6 r7 a16 r8 r9 a17 a18 x8 a19 x9 r10 a20 a21 x10 r11 a22 x11 x12 x13 x14 f0 f1 h0 x0_a x0_b x1_a x1_b x2_a x2_b x3_a x3_b x4_a x4_b x5_a x5_b x6_a x6_b x7_a x7_b x8_a x8_b x9_a x9_b x10_a x10_b x11_a x11_b x12_a x12_b x13_a x13_b x14_a x14_b f1_h) 4 clX12 rfl rfl (by decide) rfl hl.1 rfl (Nat.le_of_ble_eq_true rfl) dX12_readLine_22 (by decide) (by decide) (by decide) (by decide)) w [4, 0, 1, 2] [3] rfl rfl (by decide) (by decide) rfl rfl (fun v u H locs hp w => ?_)
      obtain ⟨z86, z87, fr88, z89, z90, fr91, fr92, fr93, fy94, z95, ff96, fh97⟩ := u
      have hv : iI z86 = v := hp.1
      subst hv
      have z86_a : 0 ≤ z86 := hp.2.1
      have z86_b : z86 ≤ 1 := hp.2.2.1
      have z87_a : 0 ≤ z87 := hp.2.2.2.1
      have z87_b : z87 ≤ 940 := hp.2.2.2.2.1
      have z89_a : 0 ≤ z89 := hp.2.2.2.2.2.1
      have z89_b : z89 ≤ 4 := hp.2.2.2.2.2.2.1
      have z90_a : (-2147483648) ≤ z90 := hp.2.2.2.2.2.2.2.1
      have z90_b : z90 ≤ 2147483647 := hp.2.2.2.2.2.2.2.2.1
      have z95_a : (-2147483648) ≤ z95 := hp.2.2.2.2.2.2.2.2.2.1
      have z95_b : z95 ≤ 2147483647 := hp.2.2.2.2.2.2.2.2.2.2.1
      have ff96_h : rdI ff96 := hp.2.2.2.2.2.2.2.2.2.2.2.1
      have ee98 : 0 ≤ (z87 - x2) := hp.2.2.2.2.2.2.2.2.2.2.2.2.1
      have ee99 : 0 ≤ ((((z87 - x2) - z89) + 4) - z86) := hp.2.2.2.2.2.2.2.2.2.2.2.2.2
      have w : WD D A s.heap [(a11, .inl (T 2, 3, .inl (cI f2))), (a0, .inr (11, [.int r0, .ref a1, .int (iI x0), .int (iI x1), .int r1, .int (iI z87), .int fr88, .int (iI z89), .int (iI z90), .int fr91, .int fr92, .int fr93, .long fy94, .int (iI z95), .ref a2, .ref a3, .ref a4, .ref a5, .ref a6, .ref a7, .ref a8, .ref a9, .ref a10, .ref a11, .int (iI x6), .ref a12, .ref a13, .ref a14, .ref a15, .int (iI x7), .int r6, .int r7, .ref a16, .int r8, .int r9, .ref a17, .ref a18, .int (iI x8), .ref a19, .int (iI x9), .int r10, .ref a20, .ref a21, .int (iI x10), .int r11, .ref a22, .int (iI x11), .int (iI x12), .int (iI x13), .int (iI x14)])), (a1, .inl (T 0, 940, .inl f0)), (a3, .inl (T 0, 53, .inl (cI ff96))), (a8, .inl (T 1, 12, .inr (.inl fh97)))] H locs := w
      exact ret _ (z86, z87, fr88, z89, z90, fr91, fr92, fr93, fy94, z95, ff96, fh97, f2) _ _ _ _ _ [1, 2, 3, 4, 0] dX12_readLine_25 (nb_n (by omega) (by omega)) ⟨rfl, z86_a, z86_b, z87_a, z87_b, z89_a, z89_b, z90_a, z90_b, z95_a, z95_b, ff96_h, f2_h, (show 0 ≤ (z87 - x2) from by omega), (show 0 ≤ ((((z87 - x2) - z89) + 4) - z86) from by omega)⟩ w (by decide) rfl
  · replace c_2 : ¬ z1 = 0 := fun h => c_2 ((iz_eq (Int.le_trans (by decide) z1_a) (Int.le_trans z1_b (by decide))).mpr h)
    refine lv_aload_n hx hb dX12_readLine_8 rfl (lv_at hl 0 rfl) ?_
    refine k_I (ce := 0) (sl := 0) (rest := []) (wr := [(a11, .inl (T 2, 3, .inl (cI f2)))]) (r_V (f := 4) [4, 0, 1, 2] M w V_HookedCityModel_209 G1659 G53 (c30_X12_readPerson l D T _ a0 r0 a1 x0 x1 r1 x2 r2 x3 x4 r3 r4 r5 y0 x5 a2 a3 a4 a5 a6 a7 a8 a9 a10 a11 x6 a12 a13 a14 a15 x7 r6 r7 a16 r8 r9 a17 a18 x8 a19 x9 r10 a20 a21 x10 r11 a22 x11 x12 x13 x14 f0 f1 h0 x0_a x0_b x1_a x1_b x2_a x2_b x3_a x3_b x4_a x4_b x5_a x5_b x6_a x6_b x7_a x7_b x8_a x8_b x9_a x9_b x10_a x10_b x11_a x11_b x12_a x12_b x13_a x13_b x14_a x14_b f1_h) 4 clX12 rfl rfl (by decide) rfl hl.1 rfl (Nat.le_of_ble_eq_true rfl) dX12_readLine_9 (by decide) (by decide) (by decide) (by decide)) w [4, 0, 1, 2] [3] rfl rfl (by decide) (by decide) rfl rfl (fun v u H locs hp w => ?_)
    obtain ⟨z100, z101, fr102, z103, z104, fr105, fr106, fr107, fy108, z109, ff110, fh111⟩ := u
    have hv : iI z100 = v := hp.1
    subst hv
    have z100_a : 0 ≤ z100 := hp.2.1
    have z100_b : z100 ≤ 1 := hp.2.2.1
    have z101_a : 0 ≤ z101 := hp.2.2.2.1
    have z101_b : z101 ≤ 940 := hp.2.2.2.2.1
    have z103_a : 0 ≤ z103 := hp.2.2.2.2.2.1
    have z103_b : z103 ≤ 4 := hp.2.2.2.2.2.2.1
    have z104_a : (-2147483648) ≤ z104 := hp.2.2.2.2.2.2.2.1
    have z104_b : z104 ≤ 2147483647 := hp.2.2.2.2.2.2.2.2.1
    have z109_a : (-2147483648) ≤ z109 := hp.2.2.2.2.2.2.2.2.2.1
    have z109_b : z109 ≤ 2147483647 := hp.2.2.2.2.2.2.2.2.2.2.1
    have ff110_h : rdI ff110 := hp.2.2.2.2.2.2.2.2.2.2.2.1
    have ee112 : 0 ≤ (z101 - x2) := hp.2.2.2.2.2.2.2.2.2.2.2.2.1
    have ee113 : 0 ≤ ((((z101 - x2) - z103) + 4) - z100) := hp.2.2.2.2.2.2.2.2.2.2.2.2.2
    have w : WD D A s.heap [(a11, .inl (T 2, 3, .inl (cI f2))), (a0, .inr (11, [.int r0, .ref a1, .int (iI x0), .int (iI x1), .int r1, .int (iI z101), .int fr102, .int (iI z103), .int (iI z104), .int fr105, .int fr106, .int fr107, .long fy108, .int (iI z109), .ref a2, .ref a3, .ref a4, .ref a5, .ref a6, .ref a7, .ref a8, .ref a9, .ref a10, .ref a11, .int (iI x6), .ref a12, .ref a13, .ref a14, .ref a15, .int (iI x7), .int r6, .int r7, .ref a16, .int r8, .int r9, .ref a17, .ref a18, .int (iI x8), .ref a19, .int (iI x9), .int r10, .ref a20, .ref a21, .int (iI x10), .int r11, .ref a22, .int (iI x11), .int (iI x12), .int (iI x13), .int (iI x14)])), (a1, .inl (T 0, 940, .inl f0)), (a3, .inl (T 0, 53, .inl (cI ff110))), (a8, .inl (T 1, 12, .inr (.inl fh111)))] H locs := w
    exact ret _ (z100, z101, fr102, z103, z104, fr105, fr106, fr107, fy108, z109, ff110, fh111, f2) _ _ _ _ _ [1, 2, 3, 4, 0] dX12_readLine_12 (nb_n (by omega) (by omega)) ⟨rfl, z100_a, z100_b, z101_a, z101_b, z103_a, z103_b, z104_a, z104_b, z109_a, z109_b, ff110_h, f2_h, (show 0 ≤ (z101 - x2) from by omega), (show 0 ≤ ((((z101 - x2) - z103) + 4) - z100) from by omega)⟩ w (by decide) rfl
