theorem dX12_startRead_0 : decode cX12_startRead 0 = .ok (.iconst 0, 1) := by decide +kernel
theorem dX12_startRead_1 : decode cX12_startRead 1 = .ok (.istore_n 1, 1) := by decide +kernel
theorem dX12_startRead_2 : decode cX12_startRead 2 = .ok (.iload_n 1, 1) := by decide +kernel
theorem dX12_startRead_3 : decode cX12_startRead 3 = .ok (.bipush 53, 2) := by decide +kernel
theorem dX12_startRead_5 : decode cX12_startRead 5 = .ok (.if_icmp .ge 16, 3) := by decide +kernel
theorem dX12_startRead_21 : decode cX12_startRead 21 = .ok (.iconst 0, 1) := by decide +kernel
theorem dX12_startRead_22 : decode cX12_startRead 22 = .ok (.istore_n 1, 1) := by decide +kernel
theorem dX12_startRead_23 : decode cX12_startRead 23 = .ok (.iload_n 1, 1) := by decide +kernel
theorem dX12_startRead_24 : decode cX12_startRead 24 = .ok (.iconst 3, 1) := by decide +kernel
theorem dX12_startRead_25 : decode cX12_startRead 25 = .ok (.if_icmp .ge 16, 3) := by decide +kernel
theorem dX12_startRead_28 : decode cX12_startRead 28 = .ok (.aload_n 0, 1) := by decide +kernel
theorem dX12_startRead_29 : decode cX12_startRead 29 = .ok (.getfield 127, 3) := by decide +kernel
theorem G1486 : Cond.fieldLink "HookedCityModel" 127 "HookedCityModel" "onces" "[Z" ∈ GW := gw_i 1486 (by decide +kernel) rfl
theorem dX12_startRead_32 : decode cX12_startRead 32 = .ok (.iload_n 1, 1) := by decide +kernel
theorem dX12_startRead_33 : decode cX12_startRead 33 = .ok (.iconst 0, 1) := by decide +kernel
theorem dX12_startRead_34 : decode cX12_startRead 34 = .ok (.bastore, 1) := by decide +kernel
theorem dX12_startRead_35 : decode cX12_startRead 35 = .ok (.iinc 1 1, 3) := by decide +kernel
theorem dX12_startRead_38 : decode cX12_startRead 38 = .ok (.goto (-15), 3) := by decide +kernel
theorem dX12_startRead_41 : decode cX12_startRead 41 = .ok (.iconst 0, 1) := by decide +kernel
theorem dX12_startRead_42 : decode cX12_startRead 42 = .ok (.istore_n 1, 1) := by decide +kernel
theorem dX12_startRead_43 : decode cX12_startRead 43 = .ok (.iload_n 1, 1) := by decide +kernel
theorem dX12_startRead_44 : decode cX12_startRead 44 = .ok (.bipush 9, 2) := by decide +kernel
theorem dX12_startRead_46 : decode cX12_startRead 46 = .ok (.if_icmp .ge 19, 3) := by decide +kernel
theorem dX12_startRead_65 : decode cX12_startRead 65 = .ok (.aload_n 0, 1) := by decide +kernel
theorem dX12_startRead_66 : decode cX12_startRead 66 = .ok (.getfield 101, 3) := by decide +kernel
theorem G1478 : Cond.fieldLink "HookedCityModel" 101 "HookedCityModel" "read" "[I" ∈ GW := gw_i 1478 (by decide +kernel) rfl
theorem dX12_startRead_69 : decode cX12_startRead 69 = .ok (.iconst 3, 1) := by decide +kernel
theorem dX12_startRead_70 : decode cX12_startRead 70 = .ok (.bipush 12, 2) := by decide +kernel
theorem dX12_startRead_72 : decode cX12_startRead 72 = .ok (.iastore, 1) := by decide +kernel
theorem dX12_startRead_73 : decode cX12_startRead 73 = .ok (.aload_n 0, 1) := by decide +kernel
theorem dX12_startRead_74 : decode cX12_startRead 74 = .ok (.getfield 101, 3) := by decide +kernel
theorem dX12_startRead_77 : decode cX12_startRead 77 = .ok (.iconst 4, 1) := by decide +kernel
theorem dX12_startRead_78 : decode cX12_startRead 78 = .ok (.iconst 1, 1) := by decide +kernel
theorem dX12_startRead_79 : decode cX12_startRead 79 = .ok (.iastore, 1) := by decide +kernel
theorem dX12_startRead_80 : decode cX12_startRead 80 = .ok (.return_, 1) := by decide +kernel
theorem dX12_startRead_49 : decode cX12_startRead 49 = .ok (.aload_n 0, 1) := by decide +kernel
theorem dX12_startRead_50 : decode cX12_startRead 50 = .ok (.getfield 101, 3) := by decide +kernel
theorem dX12_startRead_53 : decode cX12_startRead 53 = .ok (.bipush 32, 2) := by decide +kernel
theorem dX12_startRead_55 : decode cX12_startRead 55 = .ok (.iload_n 1, 1) := by decide +kernel
theorem dX12_startRead_56 : decode cX12_startRead 56 = .ok (.iadd, 1) := by decide +kernel
theorem dX12_startRead_57 : decode cX12_startRead 57 = .ok (.iconst (-1), 1) := by decide +kernel
theorem dX12_startRead_58 : decode cX12_startRead 58 = .ok (.iastore, 1) := by decide +kernel
theorem dX12_startRead_59 : decode cX12_startRead 59 = .ok (.iinc 1 1, 3) := by decide +kernel
theorem dX12_startRead_62 : decode cX12_startRead 62 = .ok (.goto (-19), 3) := by decide +kernel
theorem dX12_startRead_8 : decode cX12_startRead 8 = .ok (.aload_n 0, 1) := by decide +kernel
theorem dX12_startRead_9 : decode cX12_startRead 9 = .ok (.getfield 101, 3) := by decide +kernel
theorem dX12_startRead_12 : decode cX12_startRead 12 = .ok (.iload_n 1, 1) := by decide +kernel
theorem dX12_startRead_13 : decode cX12_startRead 13 = .ok (.iconst 0, 1) := by decide +kernel
theorem dX12_startRead_14 : decode cX12_startRead 14 = .ok (.iastore, 1) := by decide +kernel
theorem dX12_startRead_15 : decode cX12_startRead 15 = .ok (.iinc 1 1, 3) := by decide +kernel
theorem dX12_startRead_18 : decode cX12_startRead 18 = .ok (.goto (-16), 3) := by decide +kernel
theorem dX12_findIn_0 : decode cX12_findIn 0 = .ok (.iconst 0, 1) := by decide +kernel
theorem dX12_findIn_1 : decode cX12_findIn 1 = .ok (.istore 5, 2) := by decide +kernel
theorem dX12_findIn_3 : decode cX12_findIn 3 = .ok (.iload 5, 2) := by decide +kernel
theorem dX12_findIn_5 : decode cX12_findIn 5 = .ok (.iload_n 2, 1) := by decide +kernel
theorem dX12_findIn_6 : decode cX12_findIn 6 = .ok (.if_icmp .ge 23, 3) := by decide +kernel
theorem dX12_findIn_29 : decode cX12_findIn 29 = .ok (.iconst (-1), 1) := by decide +kernel
theorem dX12_findIn_30 : decode cX12_findIn 30 = .ok (.ireturn, 1) := by decide +kernel
theorem dX12_findIn_9 : decode cX12_findIn 9 = .ok (.aload_n 0, 1) := by decide +kernel
theorem dX12_findIn_10 : decode cX12_findIn 10 = .ok (.iload_n 1, 1) := by decide +kernel
theorem dX12_findIn_11 : decode cX12_findIn 11 = .ok (.iload 5, 2) := by decide +kernel
theorem dX12_findIn_13 : decode cX12_findIn 13 = .ok (.iadd, 1) := by decide +kernel
theorem dX12_findIn_14 : decode cX12_findIn 14 = .ok (.laload, 1) := by decide +kernel
theorem dX12_findIn_15 : decode cX12_findIn 15 = .ok (.lload_n 3, 1) := by decide +kernel
theorem dX12_findIn_16 : decode cX12_findIn 16 = .ok (.lcmp, 1) := by decide +kernel
theorem dX12_findIn_17 : decode cX12_findIn 17 = .ok (.ifCond .ne 6, 3) := by decide +kernel
theorem dX12_findIn_23 : decode cX12_findIn 23 = .ok (.iinc 5 1, 3) := by decide +kernel
theorem dX12_findIn_26 : decode cX12_findIn 26 = .ok (.goto (-23), 3) := by decide +kernel
theorem dX12_findIn_20 : decode cX12_findIn 20 = .ok (.iload 5, 2) := by decide +kernel
theorem dX12_findIn_22 : decode cX12_findIn 22 = .ok (.ireturn, 1) := by decide +kernel
theorem dX12_readNew_0 : decode cX12_readNew 0 = .ok (.aload_n 0, 1) := by decide +kernel
theorem dX12_readNew_1 : decode cX12_readNew 1 = .ok (.invokevirtual 175, 3) := by decide +kernel
theorem G1676 : Cond.code ⟨"HookedCityModel", "isName", "()Z"⟩ prog_14_method_21_code 2 (some .boolean) ∈ GW := gw_i 1676 (by decide +kernel) rfl
theorem G1673 : Cond.methodLink "HookedCityModel" 175 ⟨"HookedCityModel", "isName", "()Z"⟩ ∈ GW := gw_i 1673 (by decide +kernel) rfl
theorem V_HookedCityModel_175 : VL "HookedCityModel" 175 yX12_isName cX12_isName 2 (some .boolean) 0 := ⟨G1676, G1673, G131, by decide +kernel, by decide +kernel, by decide +kernel⟩
theorem G1675 : Cond.instanceMethod ⟨"HookedCityModel", "isName", "()Z"⟩ ∈ GW := gw_i 1675 (by decide +kernel) rfl
theorem G57 : Cond.selects "HookedCityModel" ⟨"HookedCityModel", "isName", "()Z"⟩ ⟨"HookedCityModel", "isName", "()Z"⟩ ∈ GW := gw_i 57 (by decide +kernel) rfl
theorem dX12_readNew_4 : decode cX12_readNew 4 = .ok (.ifCond .ne 9, 3) := by decide +kernel
theorem dX12_readNew_13 : decode cX12_readNew 13 = .ok (.aload_n 0, 1) := by decide +kernel
theorem dX12_readNew_14 : decode cX12_readNew 14 = .ok (.getfield 117, 3) := by decide +kernel
theorem G1483 : Cond.fieldLink "HookedCityModel" 117 "HookedCityModel" "readName" "[J" ∈ GW := gw_i 1483 (by decide +kernel) rfl
theorem dX12_readNew_17 : decode cX12_readNew 17 = .ok (.iconst 0, 1) := by decide +kernel
theorem dX12_readNew_18 : decode cX12_readNew 18 = .ok (.aload_n 0, 1) := by decide +kernel
theorem dX12_readNew_19 : decode cX12_readNew 19 = .ok (.getfield 101, 3) := by decide +kernel
theorem dX12_readNew_22 : decode cX12_readNew 22 = .ok (.iconst 0, 1) := by decide +kernel
theorem dX12_readNew_23 : decode cX12_readNew 23 = .ok (.iaload, 1) := by decide +kernel
theorem dX12_readNew_24 : decode cX12_readNew 24 = .ok (.aload_n 0, 1) := by decide +kernel
theorem dX12_readNew_25 : decode cX12_readNew 25 = .ok (.getfield 43, 3) := by decide +kernel
theorem dX12_readNew_28 : decode cX12_readNew 28 = .ok (.invokestatic 179, 3) := by decide +kernel
theorem G1679 : Cond.code ⟨"HookedCityModel", "findIn", "([JIIJ)I"⟩ prog_14_method_29_code 6 (some .int) ∈ GW := gw_i 1679 (by decide +kernel) rfl
theorem G1677 : Cond.methodLink "HookedCityModel" 179 ⟨"HookedCityModel", "findIn", "([JIIJ)I"⟩ ∈ GW := gw_i 1677 (by decide +kernel) rfl
theorem V_HookedCityModel_179 : VL "HookedCityModel" 179 yX12_findIn cX12_findIn 6 (some .int) 4 := ⟨G1679, G1677, G131, by decide +kernel, by decide +kernel, by decide +kernel⟩
theorem G1678 : Cond.static ⟨"HookedCityModel", "findIn", "([JIIJ)I"⟩ ∈ GW := gw_i 1678 (by decide +kernel) rfl
theorem dX12_readNew_31 : decode cX12_readNew 31 = .ok (.iconst (-1), 1) := by decide +kernel
theorem dX12_readNew_32 : decode cX12_readNew 32 = .ok (.if_icmp .ne 26, 3) := by decide +kernel
theorem dX12_readNew_58 : decode cX12_readNew 58 = .ok (.aload_n 0, 1) := by decide +kernel
theorem dX12_readNew_59 : decode cX12_readNew 59 = .ok (.iconst 3, 1) := by decide +kernel
theorem dX12_readNew_60 : decode cX12_readNew 60 = .ok (.invokevirtual 72, 3) := by decide +kernel
theorem dX12_readNew_63 : decode cX12_readNew 63 = .ok (.ireturn, 1) := by decide +kernel
theorem dX12_readNew_35 : decode cX12_readNew 35 = .ok (.aload_n 0, 1) := by decide +kernel
theorem dX12_readNew_36 : decode cX12_readNew 36 = .ok (.getfield 117, 3) := by decide +kernel
theorem dX12_readNew_39 : decode cX12_readNew 39 = .ok (.bipush 9, 2) := by decide +kernel
theorem dX12_readNew_41 : decode cX12_readNew 41 = .ok (.aload_n 0, 1) := by decide +kernel
theorem dX12_readNew_42 : decode cX12_readNew 42 = .ok (.getfield 101, 3) := by decide +kernel
theorem dX12_readNew_45 : decode cX12_readNew 45 = .ok (.iconst 1, 1) := by decide +kernel
theorem dX12_readNew_46 : decode cX12_readNew 46 = .ok (.iaload, 1) := by decide +kernel
theorem dX12_readNew_47 : decode cX12_readNew 47 = .ok (.aload_n 0, 1) := by decide +kernel
theorem dX12_readNew_48 : decode cX12_readNew 48 = .ok (.getfield 43, 3) := by decide +kernel
theorem dX12_readNew_51 : decode cX12_readNew 51 = .ok (.invokestatic 179, 3) := by decide +kernel
theorem dX12_readNew_54 : decode cX12_readNew 54 = .ok (.iconst (-1), 1) := by decide +kernel
theorem dX12_readNew_55 : decode cX12_readNew 55 = .ok (.if_icmp .eq 9, 3) := by decide +kernel
theorem dX12_readNew_64 : decode cX12_readNew 64 = .ok (.aload_n 0, 1) := by decide +kernel
theorem dX12_readNew_65 : decode cX12_readNew 65 = .ok (.getfield 117, 3) := by decide +kernel
theorem dX12_readNew_68 : decode cX12_readNew 68 = .ok (.iload_n 1, 1) := by decide +kernel
theorem dX12_readNew_69 : decode cX12_readNew 69 = .ok (.aload_n 0, 1) := by decide +kernel
theorem dX12_readNew_70 : decode cX12_readNew 70 = .ok (.getfield 43, 3) := by decide +kernel
theorem dX12_readNew_73 : decode cX12_readNew 73 = .ok (.lastore, 1) := by decide +kernel
theorem dX12_readNew_74 : decode cX12_readNew 74 = .ok (.aload_n 0, 1) := by decide +kernel
theorem dX12_readNew_75 : decode cX12_readNew 75 = .ok (.invokevirtual 82, 3) := by decide +kernel
theorem dX12_readNew_78 : decode cX12_readNew 78 = .ok (.iconst 1, 1) := by decide +kernel
theorem dX12_readNew_79 : decode cX12_readNew 79 = .ok (.ireturn, 1) := by decide +kernel
theorem dX12_readNew_7 : decode cX12_readNew 7 = .ok (.aload_n 0, 1) := by decide +kernel
theorem dX12_readNew_8 : decode cX12_readNew 8 = .ok (.iconst 1, 1) := by decide +kernel
theorem dX12_readNew_9 : decode cX12_readNew 9 = .ok (.invokevirtual 72, 3) := by decide +kernel
theorem dX12_readNew_12 : decode cX12_readNew 12 = .ok (.ireturn, 1) := by decide +kernel
theorem dX12_isOne_0 : decode cX12_isOne 0 = .ok (.aload_n 0, 1) := by decide +kernel
theorem dX12_isOne_1 : decode cX12_isOne 1 = .ok (.invokevirtual 175, 3) := by decide +kernel
theorem dX12_isOne_4 : decode cX12_isOne 4 = .ok (.ifCond .ne 9, 3) := by decide +kernel
theorem dX12_isOne_13 : decode cX12_isOne 13 = .ok (.aload_n 0, 1) := by decide +kernel
theorem dX12_isOne_14 : decode cX12_isOne 14 = .ok (.aload_n 0, 1) := by decide +kernel
theorem dX12_isOne_15 : decode cX12_isOne 15 = .ok (.getfield 117, 3) := by decide +kernel
theorem dX12_isOne_18 : decode cX12_isOne 18 = .ok (.iconst 0, 1) := by decide +kernel
theorem dX12_isOne_19 : decode cX12_isOne 19 = .ok (.aload_n 0, 1) := by decide +kernel
theorem dX12_isOne_20 : decode cX12_isOne 20 = .ok (.getfield 101, 3) := by decide +kernel
theorem dX12_isOne_23 : decode cX12_isOne 23 = .ok (.iconst 0, 1) := by decide +kernel
theorem dX12_isOne_24 : decode cX12_isOne 24 = .ok (.iaload, 1) := by decide +kernel
theorem dX12_isOne_25 : decode cX12_isOne 25 = .ok (.aload_n 0, 1) := by decide +kernel
theorem dX12_isOne_26 : decode cX12_isOne 26 = .ok (.getfield 43, 3) := by decide +kernel
theorem dX12_isOne_29 : decode cX12_isOne 29 = .ok (.invokestatic 179, 3) := by decide +kernel
theorem dX12_isOne_32 : decode cX12_isOne 32 = .ok (.putfield 79, 3) := by decide +kernel
theorem dX12_isOne_35 : decode cX12_isOne 35 = .ok (.aload_n 0, 1) := by decide +kernel
theorem dX12_isOne_36 : decode cX12_isOne 36 = .ok (.getfield 79, 3) := by decide +kernel
theorem dX12_isOne_39 : decode cX12_isOne 39 = .ok (.iconst (-1), 1) := by decide +kernel
theorem dX12_isOne_40 : decode cX12_isOne 40 = .ok (.if_icmp .ne 11, 3) := by decide +kernel
theorem dX12_isOne_51 : decode cX12_isOne 51 = .ok (.iconst 1, 1) := by decide +kernel
theorem dX12_isOne_52 : decode cX12_isOne 52 = .ok (.goto 4, 3) := by decide +kernel
theorem dX12_isOne_56 : decode cX12_isOne 56 = .ok (.ireturn, 1) := by decide +kernel
theorem dX12_isOne_43 : decode cX12_isOne 43 = .ok (.aload_n 0, 1) := by decide +kernel
theorem dX12_isOne_44 : decode cX12_isOne 44 = .ok (.iconst 3, 1) := by decide +kernel
theorem dX12_isOne_45 : decode cX12_isOne 45 = .ok (.invokevirtual 72, 3) := by decide +kernel
theorem dX12_isOne_48 : decode cX12_isOne 48 = .ok (.ifCond .eq 7, 3) := by decide +kernel
theorem dX12_isOne_55 : decode cX12_isOne 55 = .ok (.iconst 0, 1) := by decide +kernel
theorem dX12_isOne_7 : decode cX12_isOne 7 = .ok (.aload_n 0, 1) := by decide +kernel
theorem dX12_isOne_8 : decode cX12_isOne 8 = .ok (.iconst 1, 1) := by decide +kernel
theorem dX12_isOne_9 : decode cX12_isOne 9 = .ok (.invokevirtual 72, 3) := by decide +kernel
theorem dX12_isOne_12 : decode cX12_isOne 12 = .ok (.ireturn, 1) := by decide +kernel
theorem dX12_put_0 : decode cX12_put 0 = .ok (.iload_n 2, 1) := by decide +kernel
theorem dX12_put_1 : decode cX12_put 1 = .ok (.ifCond .eq 13, 3) := by decide +kernel
theorem dX12_put_14 : decode cX12_put 14 = .ok (.iload_n 2, 1) := by decide +kernel
theorem dX12_put_15 : decode cX12_put 15 = .ok (.ireturn, 1) := by decide +kernel
theorem dX12_put_4 : decode cX12_put 4 = .ok (.aload_n 0, 1) := by decide +kernel
theorem dX12_put_5 : decode cX12_put 5 = .ok (.getfield 101, 3) := by decide +kernel
theorem dX12_put_8 : decode cX12_put 8 = .ok (.iload_n 1, 1) := by decide +kernel
theorem dX12_put_9 : decode cX12_put 9 = .ok (.aload_n 0, 1) := by decide +kernel
theorem dX12_put_10 : decode cX12_put 10 = .ok (.getfield 79, 3) := by decide +kernel
theorem dX12_put_13 : decode cX12_put 13 = .ok (.iastore, 1) := by decide +kernel
theorem dX12_readFirst_0 : decode cX12_readFirst 0 = .ok (.aload_n 0, 1) := by decide +kernel
theorem dX12_readFirst_1 : decode cX12_readFirst 1 = .ok (.getfield 101, 3) := by decide +kernel
theorem dX12_readFirst_4 : decode cX12_readFirst 4 = .ok (.iload_n 1, 1) := by decide +kernel
theorem dX12_readFirst_5 : decode cX12_readFirst 5 = .ok (.iaload, 1) := by decide +kernel
theorem dX12_readFirst_6 : decode cX12_readFirst 6 = .ok (.iload_n 2, 1) := by decide +kernel
theorem dX12_readFirst_7 : decode cX12_readFirst 7 = .ok (.if_icmp .ne 9, 3) := by decide +kernel
theorem dX12_readFirst_16 : decode cX12_readFirst 16 = .ok (.aload_n 0, 1) := by decide +kernel
theorem dX12_readFirst_17 : decode cX12_readFirst 17 = .ok (.invokevirtual 82, 3) := by decide +kernel
theorem dX12_readFirst_20 : decode cX12_readFirst 20 = .ok (.iconst 1, 1) := by decide +kernel
theorem dX12_readFirst_21 : decode cX12_readFirst 21 = .ok (.ireturn, 1) := by decide +kernel
theorem dX12_readFirst_10 : decode cX12_readFirst 10 = .ok (.aload_n 0, 1) := by decide +kernel
theorem dX12_readFirst_11 : decode cX12_readFirst 11 = .ok (.iconst 4, 1) := by decide +kernel
theorem dX12_readFirst_12 : decode cX12_readFirst 12 = .ok (.invokevirtual 72, 3) := by decide +kernel
theorem dX12_readFirst_15 : decode cX12_readFirst 15 = .ok (.ireturn, 1) := by decide +kernel
theorem dX12_readPerson_0 : decode cX12_readPerson 0 = .ok (.aload_n 0, 1) := by decide +kernel
theorem dX12_readPerson_1 : decode cX12_readPerson 1 = .ok (.iconst 0, 1) := by decide +kernel
theorem dX12_readPerson_2 : decode cX12_readPerson 2 = .ok (.bipush 9, 2) := by decide +kernel
theorem dX12_readPerson_4 : decode cX12_readPerson 4 = .ok (.invokevirtual 186, 3) := by decide +kernel
theorem G1664 : Cond.code ⟨"HookedCityModel", "readFirst", "(II)Z"⟩ prog_14_method_32_code 3 (some .boolean) ∈ GW := gw_i 1664 (by decide +kernel) rfl
theorem G1661 : Cond.methodLink "HookedCityModel" 186 ⟨"HookedCityModel", "readFirst", "(II)Z"⟩ ∈ GW := gw_i 1661 (by decide +kernel) rfl
theorem V_HookedCityModel_186 : VL "HookedCityModel" 186 yX12_readFirst cX12_readFirst 3 (some .boolean) 2 := ⟨G1664, G1661, G131, by decide +kernel, by decide +kernel, by decide +kernel⟩
theorem G1663 : Cond.instanceMethod ⟨"HookedCityModel", "readFirst", "(II)Z"⟩ ∈ GW := gw_i 1663 (by decide +kernel) rfl
theorem G54 : Cond.selects "HookedCityModel" ⟨"HookedCityModel", "readFirst", "(II)Z"⟩ ⟨"HookedCityModel", "readFirst", "(II)Z"⟩ ∈ GW := gw_i 54 (by decide +kernel) rfl
theorem dX12_readPerson_7 : decode cX12_readPerson 7 = .ok (.ifCond .ne 5, 3) := by decide +kernel
theorem dX12_readPerson_12 : decode cX12_readPerson 12 = .ok (.aload_n 0, 1) := by decide +kernel
theorem dX12_readPerson_13 : decode cX12_readPerson 13 = .ok (.getfield 101, 3) := by decide +kernel
theorem dX12_readPerson_16 : decode cX12_readPerson 16 = .ok (.iconst 0, 1) := by decide +kernel
theorem dX12_readPerson_17 : decode cX12_readPerson 17 = .ok (.iaload, 1) := by decide +kernel
theorem dX12_readPerson_18 : decode cX12_readPerson 18 = .ok (.istore_n 1, 1) := by decide +kernel
theorem dX12_readPerson_19 : decode cX12_readPerson 19 = .ok (.aload_n 0, 1) := by decide +kernel
theorem dX12_readPerson_20 : decode cX12_readPerson 20 = .ok (.iload_n 1, 1) := by decide +kernel
theorem dX12_readPerson_21 : decode cX12_readPerson 21 = .ok (.invokevirtual 190, 3) := by decide +kernel
theorem G1672 : Cond.code ⟨"HookedCityModel", "readNew", "(I)Z"⟩ prog_14_method_30_code 2 (some .boolean) ∈ GW := gw_i 1672 (by decide +kernel) rfl
theorem G1669 : Cond.methodLink "HookedCityModel" 190 ⟨"HookedCityModel", "readNew", "(I)Z"⟩ ∈ GW := gw_i 1669 (by decide +kernel) rfl
theorem V_HookedCityModel_190 : VL "HookedCityModel" 190 yX12_readNew cX12_readNew 2 (some .boolean) 1 := ⟨G1672, G1669, G131, by decide +kernel, by decide +kernel, by decide +kernel⟩
theorem G1671 : Cond.instanceMethod ⟨"HookedCityModel", "readNew", "(I)Z"⟩ ∈ GW := gw_i 1671 (by decide +kernel) rfl
theorem G56 : Cond.selects "HookedCityModel" ⟨"HookedCityModel", "readNew", "(I)Z"⟩ ⟨"HookedCityModel", "readNew", "(I)Z"⟩ ∈ GW := gw_i 56 (by decide +kernel) rfl
theorem dX12_readPerson_24 : decode cX12_readPerson 24 = .ok (.ifCond .eq 50, 3) := by decide +kernel
theorem dX12_readPerson_74 : decode cX12_readPerson 74 = .ok (.iconst 0, 1) := by decide +kernel
theorem dX12_readPerson_75 : decode cX12_readPerson 75 = .ok (.ireturn, 1) := by decide +kernel
theorem dX12_readPerson_27 : decode cX12_readPerson 27 = .ok (.aload_n 0, 1) := by decide +kernel
theorem dX12_readPerson_28 : decode cX12_readPerson 28 = .ok (.iconst 5, 1) := by decide +kernel
theorem dX12_readPerson_29 : decode cX12_readPerson 29 = .ok (.iload_n 1, 1) := by decide +kernel
theorem dX12_readPerson_30 : decode cX12_readPerson 30 = .ok (.iadd, 1) := by decide +kernel
theorem dX12_readPerson_31 : decode cX12_readPerson 31 = .ok (.aload_n 0, 1) := by decide +kernel
theorem dX12_readPerson_32 : decode cX12_readPerson 32 = .ok (.invokevirtual 193, 3) := by decide +kernel
theorem G1683 : Cond.code ⟨"HookedCityModel", "readKind", "()Z"⟩ prog_14_method_34_code 2 (some .boolean) ∈ GW := gw_i 1683 (by decide +kernel) rfl
theorem G1680 : Cond.methodLink "HookedCityModel" 193 ⟨"HookedCityModel", "readKind", "()Z"⟩ ∈ GW := gw_i 1680 (by decide +kernel) rfl
theorem V_HookedCityModel_193 : VL "HookedCityModel" 193 yX12_readKind cX12_readKind 2 (some .boolean) 0 := ⟨G1683, G1680, G131, by decide +kernel, by decide +kernel, by decide +kernel⟩
theorem G1682 : Cond.instanceMethod ⟨"HookedCityModel", "readKind", "()Z"⟩ ∈ GW := gw_i 1682 (by decide +kernel) rfl
theorem G58 : Cond.selects "HookedCityModel" ⟨"HookedCityModel", "readKind", "()Z"⟩ ⟨"HookedCityModel", "readKind", "()Z"⟩ ∈ GW := gw_i 58 (by decide +kernel) rfl
theorem dX12_readPerson_35 : decode cX12_readPerson 35 = .ok (.invokevirtual 196, 3) := by decide +kernel
theorem G1687 : Cond.code ⟨"HookedCityModel", "put", "(IZ)Z"⟩ prog_14_method_33_code 3 (some .boolean) ∈ GW := gw_i 1687 (by decide +kernel) rfl
theorem G1684 : Cond.methodLink "HookedCityModel" 196 ⟨"HookedCityModel", "put", "(IZ)Z"⟩ ∈ GW := gw_i 1684 (by decide +kernel) rfl
theorem V_HookedCityModel_196 : VL "HookedCityModel" 196 yX12_put cX12_put 3 (some .boolean) 2 := ⟨G1687, G1684, G131, by decide +kernel, by decide +kernel, by decide +kernel⟩
theorem G1686 : Cond.instanceMethod ⟨"HookedCityModel", "put", "(IZ)Z"⟩ ∈ GW := gw_i 1686 (by decide +kernel) rfl
theorem G59 : Cond.selects "HookedCityModel" ⟨"HookedCityModel", "put", "(IZ)Z"⟩ ⟨"HookedCityModel", "put", "(IZ)Z"⟩ ∈ GW := gw_i 59 (by decide +kernel) rfl
theorem dX12_readPerson_38 : decode cX12_readPerson 38 = .ok (.ifCond .eq 36, 3) := by decide +kernel
theorem dX12_readPerson_41 : decode cX12_readPerson 41 = .ok (.aload_n 0, 1) := by decide +kernel
theorem dX12_readPerson_42 : decode cX12_readPerson 42 = .ok (.bipush 14, 2) := by decide +kernel
theorem dX12_readPerson_44 : decode cX12_readPerson 44 = .ok (.iload_n 1, 1) := by decide +kernel
theorem dX12_readPerson_45 : decode cX12_readPerson 45 = .ok (.iadd, 1) := by decide +kernel
theorem dX12_readPerson_46 : decode cX12_readPerson 46 = .ok (.aload_n 0, 1) := by decide +kernel
theorem dX12_readPerson_47 : decode cX12_readPerson 47 = .ok (.invokevirtual 193, 3) := by decide +kernel
theorem dX12_readPerson_50 : decode cX12_readPerson 50 = .ok (.invokevirtual 196, 3) := by decide +kernel
theorem dX12_readPerson_53 : decode cX12_readPerson 53 = .ok (.ifCond .eq 21, 3) := by decide +kernel
theorem dX12_readPerson_56 : decode cX12_readPerson 56 = .ok (.aload_n 0, 1) := by decide +kernel
theorem dX12_readPerson_57 : decode cX12_readPerson 57 = .ok (.bipush 23, 2) := by decide +kernel
theorem dX12_readPerson_59 : decode cX12_readPerson 59 = .ok (.iload_n 1, 1) := by decide +kernel
theorem dX12_readPerson_60 : decode cX12_readPerson 60 = .ok (.iadd, 1) := by decide +kernel
theorem dX12_readPerson_61 : decode cX12_readPerson 61 = .ok (.aload_n 0, 1) := by decide +kernel
theorem dX12_readPerson_62 : decode cX12_readPerson 62 = .ok (.iconst 1, 1) := by decide +kernel
theorem dX12_readPerson_63 : decode cX12_readPerson 63 = .ok (.bipush 9, 2) := by decide +kernel
theorem dX12_readPerson_65 : decode cX12_readPerson 65 = .ok (.invokevirtual 200, 3) := by decide +kernel
theorem G1691 : Cond.code ⟨"HookedCityModel", "readNumber", "(II)Z"⟩ prog_14_method_23_code 3 (some .boolean) ∈ GW := gw_i 1691 (by decide +kernel) rfl
theorem G1688 : Cond.methodLink "HookedCityModel" 200 ⟨"HookedCityModel", "readNumber", "(II)Z"⟩ ∈ GW := gw_i 1688 (by decide +kernel) rfl
theorem V_HookedCityModel_200 : VL "HookedCityModel" 200 yX12_readNumber cX12_readNumber 3 (some .boolean) 2 := ⟨G1691, G1688, G131, by decide +kernel, by decide +kernel, by decide +kernel⟩
theorem G1690 : Cond.instanceMethod ⟨"HookedCityModel", "readNumber", "(II)Z"⟩ ∈ GW := gw_i 1690 (by decide +kernel) rfl
theorem G60 : Cond.selects "HookedCityModel" ⟨"HookedCityModel", "readNumber", "(II)Z"⟩ ⟨"HookedCityModel", "readNumber", "(II)Z"⟩ ∈ GW := gw_i 60 (by decide +kernel) rfl
theorem dX12_readPerson_68 : decode cX12_readPerson 68 = .ok (.invokevirtual 196, 3) := by decide +kernel
theorem dX12_readPerson_71 : decode cX12_readPerson 71 = .ok (.ifCond .ne 5, 3) := by decide +kernel
theorem dX12_readPerson_76 : decode cX12_readPerson 76 = .ok (.aload_n 0, 1) := by decide +kernel
theorem dX12_readPerson_77 : decode cX12_readPerson 77 = .ok (.getfield 101, 3) := by decide +kernel
theorem dX12_readPerson_80 : decode cX12_readPerson 80 = .ok (.iconst 0, 1) := by decide +kernel
theorem dX12_readPerson_81 : decode cX12_readPerson 81 = .ok (.dup2, 1) := by decide +kernel
theorem dX12_readPerson_82 : decode cX12_readPerson 82 = .ok (.iaload, 1) := by decide +kernel
theorem dX12_readPerson_83 : decode cX12_readPerson 83 = .ok (.iconst 1, 1) := by decide +kernel
theorem dX12_readPerson_84 : decode cX12_readPerson 84 = .ok (.iadd, 1) := by decide +kernel
theorem dX12_readPerson_85 : decode cX12_readPerson 85 = .ok (.iastore, 1) := by decide +kernel
theorem dX12_readPerson_86 : decode cX12_readPerson 86 = .ok (.iconst 1, 1) := by decide +kernel
theorem dX12_readPerson_87 : decode cX12_readPerson 87 = .ok (.ireturn, 1) := by decide +kernel
theorem dX12_readPerson_10 : decode cX12_readPerson 10 = .ok (.iconst 0, 1) := by decide +kernel
theorem dX12_readPerson_11 : decode cX12_readPerson 11 = .ok (.ireturn, 1) := by decide +kernel
theorem dX12_readMaid_0 : decode cX12_readMaid 0 = .ok (.aload_n 0, 1) := by decide +kernel
theorem dX12_readMaid_1 : decode cX12_readMaid 1 = .ok (.iconst 1, 1) := by decide +kernel
theorem dX12_readMaid_2 : decode cX12_readMaid 2 = .ok (.iconst 3, 1) := by decide +kernel
theorem dX12_readMaid_3 : decode cX12_readMaid 3 = .ok (.invokevirtual 186, 3) := by decide +kernel
theorem dX12_readMaid_6 : decode cX12_readMaid 6 = .ok (.ifCond .ne 5, 3) := by decide +kernel
theorem dX12_readMaid_11 : decode cX12_readMaid 11 = .ok (.aload_n 0, 1) := by decide +kernel
theorem dX12_readMaid_12 : decode cX12_readMaid 12 = .ok (.getfield 101, 3) := by decide +kernel
theorem dX12_readMaid_15 : decode cX12_readMaid 15 = .ok (.iconst 1, 1) := by decide +kernel
theorem dX12_readMaid_16 : decode cX12_readMaid 16 = .ok (.iaload, 1) := by decide +kernel
theorem dX12_readMaid_17 : decode cX12_readMaid 17 = .ok (.istore_n 1, 1) := by decide +kernel
theorem dX12_readMaid_18 : decode cX12_readMaid 18 = .ok (.aload_n 0, 1) := by decide +kernel
theorem dX12_readMaid_19 : decode cX12_readMaid 19 = .ok (.bipush 9, 2) := by decide +kernel
theorem dX12_readMaid_21 : decode cX12_readMaid 21 = .ok (.iload_n 1, 1) := by decide +kernel
theorem dX12_readMaid_22 : decode cX12_readMaid 22 = .ok (.iadd, 1) := by decide +kernel
theorem dX12_readMaid_23 : decode cX12_readMaid 23 = .ok (.invokevirtual 190, 3) := by decide +kernel
theorem dX12_readMaid_26 : decode cX12_readMaid 26 = .ok (.ifCond .eq 21, 3) := by decide +kernel
theorem dX12_readMaid_47 : decode cX12_readMaid 47 = .ok (.iconst 0, 1) := by decide +kernel
theorem dX12_readMaid_48 : decode cX12_readMaid 48 = .ok (.ireturn, 1) := by decide +kernel
theorem dX12_readMaid_29 : decode cX12_readMaid 29 = .ok (.aload_n 0, 1) := by decide +kernel
theorem dX12_readMaid_30 : decode cX12_readMaid 30 = .ok (.bipush 41, 2) := by decide +kernel
theorem dX12_readMaid_32 : decode cX12_readMaid 32 = .ok (.iload_n 1, 1) := by decide +kernel
theorem dX12_readMaid_33 : decode cX12_readMaid 33 = .ok (.iadd, 1) := by decide +kernel
theorem dX12_readMaid_34 : decode cX12_readMaid 34 = .ok (.aload_n 0, 1) := by decide +kernel
theorem dX12_readMaid_35 : decode cX12_readMaid 35 = .ok (.iconst 1, 1) := by decide +kernel
theorem dX12_readMaid_36 : decode cX12_readMaid 36 = .ok (.bipush 9, 2) := by decide +kernel
theorem dX12_readMaid_38 : decode cX12_readMaid 38 = .ok (.invokevirtual 200, 3) := by decide +kernel
theorem dX12_readMaid_41 : decode cX12_readMaid 41 = .ok (.invokevirtual 196, 3) := by decide +kernel
theorem dX12_readMaid_44 : decode cX12_readMaid 44 = .ok (.ifCond .ne 5, 3) := by decide +kernel
theorem dX12_readMaid_49 : decode cX12_readMaid 49 = .ok (.aload_n 0, 1) := by decide +kernel
theorem dX12_readMaid_50 : decode cX12_readMaid 50 = .ok (.getfield 101, 3) := by decide +kernel
theorem dX12_readMaid_53 : decode cX12_readMaid 53 = .ok (.iconst 1, 1) := by decide +kernel
theorem dX12_readMaid_54 : decode cX12_readMaid 54 = .ok (.dup2, 1) := by decide +kernel
theorem dX12_readMaid_55 : decode cX12_readMaid 55 = .ok (.iaload, 1) := by decide +kernel
theorem dX12_readMaid_56 : decode cX12_readMaid 56 = .ok (.iconst 1, 1) := by decide +kernel
theorem dX12_readMaid_57 : decode cX12_readMaid 57 = .ok (.iadd, 1) := by decide +kernel
theorem dX12_readMaid_58 : decode cX12_readMaid 58 = .ok (.iastore, 1) := by decide +kernel
theorem dX12_readMaid_59 : decode cX12_readMaid 59 = .ok (.iconst 1, 1) := by decide +kernel
theorem dX12_readMaid_60 : decode cX12_readMaid 60 = .ok (.ireturn, 1) := by decide +kernel
theorem dX12_readMaid_9 : decode cX12_readMaid 9 = .ok (.iconst 0, 1) := by decide +kernel
theorem dX12_readMaid_10 : decode cX12_readMaid 10 = .ok (.ireturn, 1) := by decide +kernel
theorem dX12_readStreet_0 : decode cX12_readStreet 0 = .ok (.aload_n 0, 1) := by decide +kernel
theorem dX12_readStreet_1 : decode cX12_readStreet 1 = .ok (.invokevirtual 82, 3) := by decide +kernel
theorem dX12_readStreet_4 : decode cX12_readStreet 4 = .ok (.aload_n 0, 1) := by decide +kernel
theorem dX12_readStreet_5 : decode cX12_readStreet 5 = .ok (.invokevirtual 203, 3) := by decide +kernel
theorem G1706 : Cond.code ⟨"HookedCityModel", "isOne", "()Z"⟩ prog_14_method_31_code 1 (some .boolean) ∈ GW := gw_i 1706 (by decide +kernel) rfl
theorem G1703 : Cond.methodLink "HookedCityModel" 203 ⟨"HookedCityModel", "isOne", "()Z"⟩ ∈ GW := gw_i 1703 (by decide +kernel) rfl
theorem V_HookedCityModel_203 : VL "HookedCityModel" 203 yX12_isOne cX12_isOne 1 (some .boolean) 0 := ⟨G1706, G1703, G131, by decide +kernel, by decide +kernel, by decide +kernel⟩
theorem G1705 : Cond.instanceMethod ⟨"HookedCityModel", "isOne", "()Z"⟩ ∈ GW := gw_i 1705 (by decide +kernel) rfl
theorem G63 : Cond.selects "HookedCityModel" ⟨"HookedCityModel", "isOne", "()Z"⟩ ⟨"HookedCityModel", "isOne", "()Z"⟩ ∈ GW := gw_i 63 (by decide +kernel) rfl
theorem dX12_readStreet_8 : decode cX12_readStreet 8 = .ok (.ifCond .ne 5, 3) := by decide +kernel
theorem dX12_readStreet_13 : decode cX12_readStreet 13 = .ok (.aload_n 0, 1) := by decide +kernel
theorem dX12_readStreet_14 : decode cX12_readStreet 14 = .ok (.getfield 79, 3) := by decide +kernel
theorem dX12_readStreet_17 : decode cX12_readStreet 17 = .ok (.istore_n 1, 1) := by decide +kernel
theorem dX12_readStreet_18 : decode cX12_readStreet 18 = .ok (.aload_n 0, 1) := by decide +kernel
theorem dX12_readStreet_19 : decode cX12_readStreet 19 = .ok (.invokevirtual 82, 3) := by decide +kernel
theorem dX12_readStreet_22 : decode cX12_readStreet 22 = .ok (.aload_n 0, 1) := by decide +kernel
theorem dX12_readStreet_23 : decode cX12_readStreet 23 = .ok (.invokevirtual 203, 3) := by decide +kernel
theorem dX12_readStreet_26 : decode cX12_readStreet 26 = .ok (.ifCond .ne 5, 3) := by decide +kernel
theorem dX12_readStreet_31 : decode cX12_readStreet 31 = .ok (.aload_n 0, 1) := by decide +kernel
theorem dX12_readStreet_32 : decode cX12_readStreet 32 = .ok (.getfield 79, 3) := by decide +kernel
theorem dX12_readStreet_35 : decode cX12_readStreet 35 = .ok (.iload_n 1, 1) := by decide +kernel
theorem dX12_readStreet_36 : decode cX12_readStreet 36 = .ok (.if_icmp .eq 22, 3) := by decide +kernel
theorem dX12_readStreet_58 : decode cX12_readStreet 58 = .ok (.aload_n 0, 1) := by decide +kernel
theorem dX12_readStreet_59 : decode cX12_readStreet 59 = .ok (.iconst 3, 1) := by decide +kernel
theorem dX12_readStreet_60 : decode cX12_readStreet 60 = .ok (.invokevirtual 72, 3) := by decide +kernel
theorem dX12_readStreet_63 : decode cX12_readStreet 63 = .ok (.ireturn, 1) := by decide +kernel
theorem dX12_readStreet_39 : decode cX12_readStreet 39 = .ok (.aload_n 0, 1) := by decide +kernel
theorem dX12_readStreet_40 : decode cX12_readStreet 40 = .ok (.getfield 101, 3) := by decide +kernel
theorem dX12_readStreet_43 : decode cX12_readStreet 43 = .ok (.bipush 44, 2) := by decide +kernel
theorem dX12_readStreet_45 : decode cX12_readStreet 45 = .ok (.iload_n 1, 1) := by decide +kernel
theorem dX12_readStreet_46 : decode cX12_readStreet 46 = .ok (.iadd, 1) := by decide +kernel
theorem dX12_readStreet_47 : decode cX12_readStreet 47 = .ok (.iaload, 1) := by decide +kernel
theorem dX12_readStreet_48 : decode cX12_readStreet 48 = .ok (.aload_n 0, 1) := by decide +kernel
theorem dX12_readStreet_49 : decode cX12_readStreet 49 = .ok (.getfield 79, 3) := by decide +kernel
theorem dX12_readStreet_52 : decode cX12_readStreet 52 = .ok (.invokestatic 206, 3) := by decide +kernel
theorem G1709 : Cond.code ⟨"HookedCityModel", "has", "(II)Z"⟩ prog_14_method_8_code 2 (some .boolean) ∈ GW := gw_i 1709 (by decide +kernel) rfl
theorem G1707 : Cond.methodLink "HookedCityModel" 206 ⟨"HookedCityModel", "has", "(II)Z"⟩ ∈ GW := gw_i 1707 (by decide +kernel) rfl
theorem V_HookedCityModel_206 : VL "HookedCityModel" 206 yX12_has cX12_has 2 (some .boolean) 2 := ⟨G1709, G1707, G131, by decide +kernel, by decide +kernel, by decide +kernel⟩
theorem G1708 : Cond.static ⟨"HookedCityModel", "has", "(II)Z"⟩ ∈ GW := gw_i 1708 (by decide +kernel) rfl
theorem dX12_readStreet_55 : decode cX12_readStreet 55 = .ok (.ifCond .eq 9, 3) := by decide +kernel
theorem dX12_readStreet_64 : decode cX12_readStreet 64 = .ok (.aload_n 0, 1) := by decide +kernel
theorem dX12_readStreet_65 : decode cX12_readStreet 65 = .ok (.getfield 101, 3) := by decide +kernel
theorem dX12_readStreet_68 : decode cX12_readStreet 68 = .ok (.bipush 44, 2) := by decide +kernel
theorem dX12_readStreet_70 : decode cX12_readStreet 70 = .ok (.iload_n 1, 1) := by decide +kernel
theorem dX12_readStreet_71 : decode cX12_readStreet 71 = .ok (.iadd, 1) := by decide +kernel
theorem dX12_readStreet_72 : decode cX12_readStreet 72 = .ok (.dup2, 1) := by decide +kernel
theorem dX12_readStreet_73 : decode cX12_readStreet 73 = .ok (.iaload, 1) := by decide +kernel
theorem dX12_readStreet_74 : decode cX12_readStreet 74 = .ok (.iconst 1, 1) := by decide +kernel
theorem dX12_readStreet_75 : decode cX12_readStreet 75 = .ok (.aload_n 0, 1) := by decide +kernel
theorem dX12_readStreet_76 : decode cX12_readStreet 76 = .ok (.getfield 79, 3) := by decide +kernel
theorem dX12_readStreet_79 : decode cX12_readStreet 79 = .ok (.ishl, 1) := by decide +kernel
theorem dX12_readStreet_80 : decode cX12_readStreet 80 = .ok (.ior, 1) := by decide +kernel
theorem dX12_readStreet_81 : decode cX12_readStreet 81 = .ok (.iastore, 1) := by decide +kernel
theorem dX12_readStreet_82 : decode cX12_readStreet 82 = .ok (.aload_n 0, 1) := by decide +kernel
theorem dX12_readStreet_83 : decode cX12_readStreet 83 = .ok (.getfield 101, 3) := by decide +kernel
theorem dX12_readStreet_86 : decode cX12_readStreet 86 = .ok (.bipush 44, 2) := by decide +kernel
theorem dX12_readStreet_88 : decode cX12_readStreet 88 = .ok (.aload_n 0, 1) := by decide +kernel
theorem dX12_readStreet_89 : decode cX12_readStreet 89 = .ok (.getfield 79, 3) := by decide +kernel
theorem dX12_readStreet_92 : decode cX12_readStreet 92 = .ok (.iadd, 1) := by decide +kernel
theorem dX12_readStreet_93 : decode cX12_readStreet 93 = .ok (.dup2, 1) := by decide +kernel
theorem dX12_readStreet_94 : decode cX12_readStreet 94 = .ok (.iaload, 1) := by decide +kernel
theorem dX12_readStreet_95 : decode cX12_readStreet 95 = .ok (.iconst 1, 1) := by decide +kernel
theorem dX12_readStreet_96 : decode cX12_readStreet 96 = .ok (.iload_n 1, 1) := by decide +kernel
theorem dX12_readStreet_97 : decode cX12_readStreet 97 = .ok (.ishl, 1) := by decide +kernel
theorem dX12_readStreet_98 : decode cX12_readStreet 98 = .ok (.ior, 1) := by decide +kernel
theorem dX12_readStreet_99 : decode cX12_readStreet 99 = .ok (.iastore, 1) := by decide +kernel
theorem dX12_readStreet_100 : decode cX12_readStreet 100 = .ok (.aload_n 0, 1) := by decide +kernel
theorem dX12_readStreet_101 : decode cX12_readStreet 101 = .ok (.invokevirtual 82, 3) := by decide +kernel
theorem dX12_readStreet_104 : decode cX12_readStreet 104 = .ok (.iconst 1, 1) := by decide +kernel
theorem dX12_readStreet_105 : decode cX12_readStreet 105 = .ok (.ireturn, 1) := by decide +kernel
theorem dX12_readStreet_29 : decode cX12_readStreet 29 = .ok (.iconst 0, 1) := by decide +kernel
theorem dX12_readStreet_30 : decode cX12_readStreet 30 = .ok (.ireturn, 1) := by decide +kernel
theorem dX12_readStreet_11 : decode cX12_readStreet 11 = .ok (.iconst 0, 1) := by decide +kernel
theorem dX12_readStreet_12 : decode cX12_readStreet 12 = .ok (.ireturn, 1) := by decide +kernel
theorem dX12_readDone_0 : decode cX12_readDone 0 = .ok (.aload_n 0, 1) := by decide +kernel
theorem dX12_readDone_1 : decode cX12_readDone 1 = .ok (.invokevirtual 82, 3) := by decide +kernel
theorem dX12_readDone_4 : decode cX12_readDone 4 = .ok (.aload_n 0, 1) := by decide +kernel
theorem dX12_readDone_5 : decode cX12_readDone 5 = .ok (.invokevirtual 203, 3) := by decide +kernel
theorem dX12_readDone_8 : decode cX12_readDone 8 = .ok (.ifCond .ne 5, 3) := by decide +kernel
theorem dX12_readDone_13 : decode cX12_readDone 13 = .ok (.aload_n 0, 1) := by decide +kernel
theorem dX12_readDone_14 : decode cX12_readDone 14 = .ok (.getfield 79, 3) := by decide +kernel
theorem dX12_readDone_17 : decode cX12_readDone 17 = .ok (.istore_n 1, 1) := by decide +kernel
theorem dX12_readDone_18 : decode cX12_readDone 18 = .ok (.aload_n 0, 1) := by decide +kernel
theorem dX12_readDone_19 : decode cX12_readDone 19 = .ok (.getfield 101, 3) := by decide +kernel
theorem dX12_readDone_22 : decode cX12_readDone 22 = .ok (.bipush 32, 2) := by decide +kernel
theorem dX12_readDone_24 : decode cX12_readDone 24 = .ok (.iload_n 1, 1) := by decide +kernel
theorem dX12_readDone_25 : decode cX12_readDone 25 = .ok (.iadd, 1) := by decide +kernel
theorem dX12_readDone_26 : decode cX12_readDone 26 = .ok (.iaload, 1) := by decide +kernel
theorem dX12_readDone_27 : decode cX12_readDone 27 = .ok (.iconst (-1), 1) := by decide +kernel
theorem dX12_readDone_28 : decode cX12_readDone 28 = .ok (.if_icmp .eq 9, 3) := by decide +kernel
theorem dX12_readDone_37 : decode cX12_readDone 37 = .ok (.aload_n 0, 1) := by decide +kernel
theorem dX12_readDone_38 : decode cX12_readDone 38 = .ok (.invokevirtual 82, 3) := by decide +kernel
theorem dX12_readDone_41 : decode cX12_readDone 41 = .ok (.aload_n 0, 1) := by decide +kernel
theorem dX12_readDone_42 : decode cX12_readDone 42 = .ok (.invokevirtual 203, 3) := by decide +kernel
theorem dX12_readDone_45 : decode cX12_readDone 45 = .ok (.ifCond .ne 5, 3) := by decide +kernel
theorem dX12_readDone_50 : decode cX12_readDone 50 = .ok (.aload_n 0, 1) := by decide +kernel
theorem dX12_readDone_51 : decode cX12_readDone 51 = .ok (.getfield 79, 3) := by decide +kernel
theorem dX12_readDone_54 : decode cX12_readDone 54 = .ok (.iload_n 1, 1) := by decide +kernel
theorem dX12_readDone_55 : decode cX12_readDone 55 = .ok (.if_icmp .eq 26, 3) := by decide +kernel
theorem dX12_readDone_81 : decode cX12_readDone 81 = .ok (.aload_n 0, 1) := by decide +kernel
theorem dX12_readDone_82 : decode cX12_readDone 82 = .ok (.iconst 3, 1) := by decide +kernel
theorem dX12_readDone_83 : decode cX12_readDone 83 = .ok (.invokevirtual 72, 3) := by decide +kernel
theorem dX12_readDone_86 : decode cX12_readDone 86 = .ok (.ireturn, 1) := by decide +kernel
theorem dX12_readDone_58 : decode cX12_readDone 58 = .ok (.aload_n 0, 1) := by decide +kernel
theorem dX12_readDone_59 : decode cX12_readDone 59 = .ok (.getfield 101, 3) := by decide +kernel
theorem dX12_readDone_62 : decode cX12_readDone 62 = .ok (.iconst 5, 1) := by decide +kernel
theorem dX12_readDone_63 : decode cX12_readDone 63 = .ok (.aload_n 0, 1) := by decide +kernel
theorem dX12_readDone_64 : decode cX12_readDone 64 = .ok (.getfield 79, 3) := by decide +kernel
theorem dX12_readDone_67 : decode cX12_readDone 67 = .ok (.iadd, 1) := by decide +kernel
theorem dX12_readDone_68 : decode cX12_readDone 68 = .ok (.iaload, 1) := by decide +kernel
theorem dX12_readDone_69 : decode cX12_readDone 69 = .ok (.aload_n 0, 1) := by decide +kernel
theorem dX12_readDone_70 : decode cX12_readDone 70 = .ok (.getfield 101, 3) := by decide +kernel
theorem dX12_readDone_73 : decode cX12_readDone 73 = .ok (.bipush 14, 2) := by decide +kernel
theorem dX12_readDone_75 : decode cX12_readDone 75 = .ok (.iload_n 1, 1) := by decide +kernel
theorem dX12_readDone_76 : decode cX12_readDone 76 = .ok (.iadd, 1) := by decide +kernel
theorem dX12_readDone_77 : decode cX12_readDone 77 = .ok (.iaload, 1) := by decide +kernel
theorem dX12_readDone_78 : decode cX12_readDone 78 = .ok (.if_icmp .eq 9, 3) := by decide +kernel
theorem dX12_readDone_87 : decode cX12_readDone 87 = .ok (.iconst 0, 1) := by decide +kernel
theorem dX12_readDone_88 : decode cX12_readDone 88 = .ok (.istore_n 2, 1) := by decide +kernel
theorem dX12_readDone_89 : decode cX12_readDone 89 = .ok (.iload_n 2, 1) := by decide +kernel
theorem dX12_readDone_90 : decode cX12_readDone 90 = .ok (.aload_n 0, 1) := by decide +kernel
theorem dX12_readDone_91 : decode cX12_readDone 91 = .ok (.getfield 101, 3) := by decide +kernel
theorem dX12_readDone_94 : decode cX12_readDone 94 = .ok (.iconst 0, 1) := by decide +kernel
theorem dX12_readDone_95 : decode cX12_readDone 95 = .ok (.iaload, 1) := by decide +kernel
theorem dX12_readDone_96 : decode cX12_readDone 96 = .ok (.if_icmp .ge 31, 3) := by decide +kernel
theorem dX12_readDone_127 : decode cX12_readDone 127 = .ok (.aload_n 0, 1) := by decide +kernel
theorem dX12_readDone_128 : decode cX12_readDone 128 = .ok (.getfield 101, 3) := by decide +kernel
theorem dX12_readDone_131 : decode cX12_readDone 131 = .ok (.bipush 32, 2) := by decide +kernel
theorem dX12_readDone_133 : decode cX12_readDone 133 = .ok (.iload_n 1, 1) := by decide +kernel
theorem dX12_readDone_134 : decode cX12_readDone 134 = .ok (.iadd, 1) := by decide +kernel
theorem dX12_readDone_135 : decode cX12_readDone 135 = .ok (.aload_n 0, 1) := by decide +kernel
theorem dX12_readDone_136 : decode cX12_readDone 136 = .ok (.getfield 79, 3) := by decide +kernel
theorem dX12_readDone_139 : decode cX12_readDone 139 = .ok (.iastore, 1) := by decide +kernel
theorem dX12_readDone_140 : decode cX12_readDone 140 = .ok (.aload_n 0, 1) := by decide +kernel
theorem dX12_readDone_141 : decode cX12_readDone 141 = .ok (.invokevirtual 82, 3) := by decide +kernel
theorem dX12_readDone_144 : decode cX12_readDone 144 = .ok (.iconst 1, 1) := by decide +kernel
theorem dX12_readDone_145 : decode cX12_readDone 145 = .ok (.ireturn, 1) := by decide +kernel
theorem dX12_readDone_99 : decode cX12_readDone 99 = .ok (.aload_n 0, 1) := by decide +kernel
theorem dX12_readDone_100 : decode cX12_readDone 100 = .ok (.getfield 101, 3) := by decide +kernel
theorem dX12_readDone_103 : decode cX12_readDone 103 = .ok (.bipush 32, 2) := by decide +kernel
theorem dX12_readDone_105 : decode cX12_readDone 105 = .ok (.iload_n 2, 1) := by decide +kernel
theorem dX12_readDone_106 : decode cX12_readDone 106 = .ok (.iadd, 1) := by decide +kernel
theorem dX12_readDone_107 : decode cX12_readDone 107 = .ok (.iaload, 1) := by decide +kernel
theorem dX12_readDone_108 : decode cX12_readDone 108 = .ok (.aload_n 0, 1) := by decide +kernel
theorem dX12_readDone_109 : decode cX12_readDone 109 = .ok (.getfield 79, 3) := by decide +kernel
theorem dX12_readDone_112 : decode cX12_readDone 112 = .ok (.if_icmp .ne 9, 3) := by decide +kernel
theorem dX12_readDone_121 : decode cX12_readDone 121 = .ok (.iinc 2 1, 3) := by decide +kernel
theorem dX12_readDone_124 : decode cX12_readDone 124 = .ok (.goto (-35), 3) := by decide +kernel
theorem dX12_readDone_115 : decode cX12_readDone 115 = .ok (.aload_n 0, 1) := by decide +kernel
theorem dX12_readDone_116 : decode cX12_readDone 116 = .ok (.iconst 3, 1) := by decide +kernel
theorem dX12_readDone_117 : decode cX12_readDone 117 = .ok (.invokevirtual 72, 3) := by decide +kernel
theorem dX12_readDone_120 : decode cX12_readDone 120 = .ok (.ireturn, 1) := by decide +kernel
theorem dX12_readDone_48 : decode cX12_readDone 48 = .ok (.iconst 0, 1) := by decide +kernel
theorem dX12_readDone_49 : decode cX12_readDone 49 = .ok (.ireturn, 1) := by decide +kernel
theorem dX12_readDone_31 : decode cX12_readDone 31 = .ok (.aload_n 0, 1) := by decide +kernel
theorem dX12_readDone_32 : decode cX12_readDone 32 = .ok (.iconst 3, 1) := by decide +kernel
theorem dX12_readDone_33 : decode cX12_readDone 33 = .ok (.invokevirtual 72, 3) := by decide +kernel
theorem dX12_readDone_36 : decode cX12_readDone 36 = .ok (.ireturn, 1) := by decide +kernel
theorem dX12_readDone_11 : decode cX12_readDone 11 = .ok (.iconst 0, 1) := by decide +kernel
theorem dX12_readDone_12 : decode cX12_readDone 12 = .ok (.ireturn, 1) := by decide +kernel
theorem dX12_readOnce_0 : decode cX12_readOnce 0 = .ok (.aload_n 0, 1) := by decide +kernel
theorem dX12_readOnce_1 : decode cX12_readOnce 1 = .ok (.getfield 127, 3) := by decide +kernel
theorem dX12_readOnce_4 : decode cX12_readOnce 4 = .ok (.iload_n 1, 1) := by decide +kernel
theorem dX12_readOnce_5 : decode cX12_readOnce 5 = .ok (.baload, 1) := by decide +kernel
theorem dX12_readOnce_6 : decode cX12_readOnce 6 = .ok (.ifCond .eq 9, 3) := by decide +kernel
theorem dX12_readOnce_15 : decode cX12_readOnce 15 = .ok (.aload_n 0, 1) := by decide +kernel
theorem dX12_readOnce_16 : decode cX12_readOnce 16 = .ok (.getfield 127, 3) := by decide +kernel
theorem dX12_readOnce_19 : decode cX12_readOnce 19 = .ok (.iload_n 1, 1) := by decide +kernel
theorem dX12_readOnce_20 : decode cX12_readOnce 20 = .ok (.iconst 1, 1) := by decide +kernel
theorem dX12_readOnce_21 : decode cX12_readOnce 21 = .ok (.bastore, 1) := by decide +kernel
theorem dX12_readOnce_22 : decode cX12_readOnce 22 = .ok (.aload_n 0, 1) := by decide +kernel
theorem dX12_readOnce_23 : decode cX12_readOnce 23 = .ok (.invokevirtual 82, 3) := by decide +kernel
theorem dX12_readOnce_26 : decode cX12_readOnce 26 = .ok (.aload_n 0, 1) := by decide +kernel
theorem dX12_readOnce_27 : decode cX12_readOnce 27 = .ok (.iconst 2, 1) := by decide +kernel
theorem dX12_readOnce_28 : decode cX12_readOnce 28 = .ok (.iload_n 1, 1) := by decide +kernel
theorem dX12_readOnce_29 : decode cX12_readOnce 29 = .ok (.iadd, 1) := by decide +kernel
theorem dX12_readOnce_30 : decode cX12_readOnce 30 = .ok (.aload_n 0, 1) := by decide +kernel
theorem dX12_readOnce_31 : decode cX12_readOnce 31 = .ok (.iload_n 2, 1) := by decide +kernel
theorem dX12_readOnce_32 : decode cX12_readOnce 32 = .ok (.iload_n 3, 1) := by decide +kernel
theorem dX12_readOnce_33 : decode cX12_readOnce 33 = .ok (.invokevirtual 200, 3) := by decide +kernel
theorem dX12_readOnce_36 : decode cX12_readOnce 36 = .ok (.invokevirtual 196, 3) := by decide +kernel
theorem dX12_readOnce_39 : decode cX12_readOnce 39 = .ok (.ireturn, 1) := by decide +kernel
theorem dX12_readOnce_9 : decode cX12_readOnce 9 = .ok (.aload_n 0, 1) := by decide +kernel
theorem dX12_readOnce_10 : decode cX12_readOnce 10 = .ok (.iconst 3, 1) := by decide +kernel
theorem dX12_readOnce_11 : decode cX12_readOnce 11 = .ok (.invokevirtual 72, 3) := by decide +kernel
theorem dX12_readOnce_14 : decode cX12_readOnce 14 = .ok (.ireturn, 1) := by decide +kernel
theorem dX12_readLine_0 : decode cX12_readLine 0 = .ok (.aload_n 0, 1) := by decide +kernel
theorem dX12_readLine_1 : decode cX12_readLine 1 = .ok (.iconst 0, 1) := by decide +kernel
theorem dX12_readLine_2 : decode cX12_readLine 2 = .ok (.invokevirtual 183, 3) := by decide +kernel
theorem dX12_readLine_5 : decode cX12_readLine 5 = .ok (.ifCond .eq 8, 3) := by decide +kernel
theorem dX12_readLine_13 : decode cX12_readLine 13 = .ok (.aload_n 0, 1) := by decide +kernel
theorem dX12_readLine_14 : decode cX12_readLine 14 = .ok (.iconst 1, 1) := by decide +kernel
theorem dX12_readLine_15 : decode cX12_readLine 15 = .ok (.invokevirtual 183, 3) := by decide +kernel
theorem dX12_readLine_18 : decode cX12_readLine 18 = .ok (.ifCond .eq 8, 3) := by decide +kernel
theorem dX12_readLine_26 : decode cX12_readLine 26 = .ok (.aload_n 0, 1) := by decide +kernel
theorem dX12_readLine_27 : decode cX12_readLine 27 = .ok (.iconst 2, 1) := by decide +kernel
theorem dX12_readLine_28 : decode cX12_readLine 28 = .ok (.invokevirtual 183, 3) := by decide +kernel
theorem dX12_readLine_31 : decode cX12_readLine 31 = .ok (.ifCond .eq 8, 3) := by decide +kernel
theorem dX12_readLine_39 : decode cX12_readLine 39 = .ok (.aload_n 0, 1) := by decide +kernel
theorem dX12_readLine_40 : decode cX12_readLine 40 = .ok (.iconst 3, 1) := by decide +kernel
theorem dX12_readLine_41 : decode cX12_readLine 41 = .ok (.invokevirtual 183, 3) := by decide +kernel
theorem dX12_readLine_44 : decode cX12_readLine 44 = .ok (.ifCond .eq 8, 3) := by decide +kernel
theorem dX12_readLine_52 : decode cX12_readLine 52 = .ok (.aload_n 0, 1) := by decide +kernel
theorem dX12_readLine_53 : decode cX12_readLine 53 = .ok (.iconst 4, 1) := by decide +kernel
theorem dX12_readLine_54 : decode cX12_readLine 54 = .ok (.invokevirtual 183, 3) := by decide +kernel
theorem dX12_readLine_57 : decode cX12_readLine 57 = .ok (.ifCond .eq 12, 3) := by decide +kernel
theorem dX12_readLine_69 : decode cX12_readLine 69 = .ok (.aload_n 0, 1) := by decide +kernel
theorem dX12_readLine_70 : decode cX12_readLine 70 = .ok (.iconst 5, 1) := by decide +kernel
theorem dX12_readLine_71 : decode cX12_readLine 71 = .ok (.invokevirtual 183, 3) := by decide +kernel
theorem dX12_readLine_74 : decode cX12_readLine 74 = .ok (.ifCond .eq 12, 3) := by decide +kernel
theorem dX12_readLine_86 : decode cX12_readLine 86 = .ok (.aload_n 0, 1) := by decide +kernel
theorem dX12_readLine_87 : decode cX12_readLine 87 = .ok (.bipush 6, 2) := by decide +kernel
theorem dX12_readLine_89 : decode cX12_readLine 89 = .ok (.invokevirtual 183, 3) := by decide +kernel
theorem dX12_readLine_92 : decode cX12_readLine 92 = .ok (.ifCond .eq 14, 3) := by decide +kernel
theorem dX12_readLine_106 : decode cX12_readLine 106 = .ok (.aload_n 0, 1) := by decide +kernel
theorem dX12_readLine_107 : decode cX12_readLine 107 = .ok (.iconst 1, 1) := by decide +kernel
theorem dX12_readLine_108 : decode cX12_readLine 108 = .ok (.invokevirtual 72, 3) := by decide +kernel
theorem dX12_readLine_111 : decode cX12_readLine 111 = .ok (.ireturn, 1) := by decide +kernel
theorem dX12_readLine_95 : decode cX12_readLine 95 = .ok (.aload_n 0, 1) := by decide +kernel
theorem dX12_readLine_96 : decode cX12_readLine 96 = .ok (.iconst 2, 1) := by decide +kernel
theorem dX12_readLine_97 : decode cX12_readLine 97 = .ok (.iconst 0, 1) := by decide +kernel
theorem dX12_readLine_98 : decode cX12_readLine 98 = .ok (.bipush 60, 2) := by decide +kernel
theorem dX12_readLine_100 : decode cX12_readLine 100 = .ok (.invokevirtual 221, 3) := by decide +kernel
theorem G1717 : Cond.code ⟨"HookedCityModel", "readOnce", "(III)Z"⟩ prog_14_method_39_code 4 (some .boolean) ∈ GW := gw_i 1717 (by decide +kernel) rfl
theorem G1714 : Cond.methodLink "HookedCityModel" 221 ⟨"HookedCityModel", "readOnce", "(III)Z"⟩ ∈ GW := gw_i 1714 (by decide +kernel) rfl
theorem V_HookedCityModel_221 : VL "HookedCityModel" 221 yX12_readOnce cX12_readOnce 4 (some .boolean) 3 := ⟨G1717, G1714, G131, by decide +kernel, by decide +kernel, by decide +kernel⟩
theorem G1716 : Cond.instanceMethod ⟨"HookedCityModel", "readOnce", "(III)Z"⟩ ∈ GW := gw_i 1716 (by decide +kernel) rfl
theorem G65 : Cond.selects "HookedCityModel" ⟨"HookedCityModel", "readOnce", "(III)Z"⟩ ⟨"HookedCityModel", "readOnce", "(III)Z"⟩ ∈ GW := gw_i 65 (by decide +kernel) rfl
theorem dX12_readLine_103 : decode cX12_readLine 103 = .ok (.goto 8, 3) := by decide +kernel
theorem dX12_readLine_77 : decode cX12_readLine 77 = .ok (.aload_n 0, 1) := by decide +kernel
theorem dX12_readLine_78 : decode cX12_readLine 78 = .ok (.iconst 1, 1) := by decide +kernel
theorem dX12_readLine_79 : decode cX12_readLine 79 = .ok (.iconst 2, 1) := by decide +kernel
theorem dX12_readLine_80 : decode cX12_readLine 80 = .ok (.bipush 60, 2) := by decide +kernel
theorem dX12_readLine_82 : decode cX12_readLine 82 = .ok (.invokevirtual 221, 3) := by decide +kernel
theorem dX12_readLine_85 : decode cX12_readLine 85 = .ok (.ireturn, 1) := by decide +kernel
theorem dX12_readLine_60 : decode cX12_readLine 60 = .ok (.aload_n 0, 1) := by decide +kernel
theorem dX12_readLine_61 : decode cX12_readLine 61 = .ok (.iconst 0, 1) := by decide +kernel
theorem dX12_readLine_62 : decode cX12_readLine 62 = .ok (.iconst 0, 1) := by decide +kernel
theorem dX12_readLine_63 : decode cX12_readLine 63 = .ok (.bipush 20, 2) := by decide +kernel
theorem dX12_readLine_65 : decode cX12_readLine 65 = .ok (.invokevirtual 221, 3) := by decide +kernel
theorem dX12_readLine_68 : decode cX12_readLine 68 = .ok (.ireturn, 1) := by decide +kernel
theorem dX12_readLine_47 : decode cX12_readLine 47 = .ok (.aload_n 0, 1) := by decide +kernel
theorem dX12_readLine_48 : decode cX12_readLine 48 = .ok (.invokevirtual 218, 3) := by decide +kernel
theorem G1713 : Cond.code ⟨"HookedCityModel", "readDone", "()Z"⟩ prog_14_method_38_code 3 (some .boolean) ∈ GW := gw_i 1713 (by decide +kernel) rfl
theorem G1710 : Cond.methodLink "HookedCityModel" 218 ⟨"HookedCityModel", "readDone", "()Z"⟩ ∈ GW := gw_i 1710 (by decide +kernel) rfl
theorem V_HookedCityModel_218 : VL "HookedCityModel" 218 yX12_readDone cX12_readDone 3 (some .boolean) 0 := ⟨G1713, G1710, G131, by decide +kernel, by decide +kernel, by decide +kernel⟩
theorem G1712 : Cond.instanceMethod ⟨"HookedCityModel", "readDone", "()Z"⟩ ∈ GW := gw_i 1712 (by decide +kernel) rfl
theorem G64 : Cond.selects "HookedCityModel" ⟨"HookedCityModel", "readDone", "()Z"⟩ ⟨"HookedCityModel", "readDone", "()Z"⟩ ∈ GW := gw_i 64 (by decide +kernel) rfl
theorem dX12_readLine_51 : decode cX12_readLine 51 = .ok (.ireturn, 1) := by decide +kernel
theorem dX12_readLine_34 : decode cX12_readLine 34 = .ok (.aload_n 0, 1) := by decide +kernel
theorem dX12_readLine_35 : decode cX12_readLine 35 = .ok (.invokevirtual 215, 3) := by decide +kernel
theorem G1702 : Cond.code ⟨"HookedCityModel", "readStreet", "()Z"⟩ prog_14_method_37_code 2 (some .boolean) ∈ GW := gw_i 1702 (by decide +kernel) rfl
theorem G1699 : Cond.methodLink "HookedCityModel" 215 ⟨"HookedCityModel", "readStreet", "()Z"⟩ ∈ GW := gw_i 1699 (by decide +kernel) rfl
theorem V_HookedCityModel_215 : VL "HookedCityModel" 215 yX12_readStreet cX12_readStreet 2 (some .boolean) 0 := ⟨G1702, G1699, G131, by decide +kernel, by decide +kernel, by decide +kernel⟩
theorem G1701 : Cond.instanceMethod ⟨"HookedCityModel", "readStreet", "()Z"⟩ ∈ GW := gw_i 1701 (by decide +kernel) rfl
theorem G62 : Cond.selects "HookedCityModel" ⟨"HookedCityModel", "readStreet", "()Z"⟩ ⟨"HookedCityModel", "readStreet", "()Z"⟩ ∈ GW := gw_i 62 (by decide +kernel) rfl
theorem dX12_readLine_38 : decode cX12_readLine 38 = .ok (.ireturn, 1) := by decide +kernel
theorem dX12_readLine_21 : decode cX12_readLine 21 = .ok (.aload_n 0, 1) := by decide +kernel
theorem dX12_readLine_22 : decode cX12_readLine 22 = .ok (.invokevirtual 212, 3) := by decide +kernel
theorem G1698 : Cond.code ⟨"HookedCityModel", "readMaid", "()Z"⟩ prog_14_method_36_code 2 (some .boolean) ∈ GW := gw_i 1698 (by decide +kernel) rfl
theorem G1695 : Cond.methodLink "HookedCityModel" 212 ⟨"HookedCityModel", "readMaid", "()Z"⟩ ∈ GW := gw_i 1695 (by decide +kernel) rfl
theorem V_HookedCityModel_212 : VL "HookedCityModel" 212 yX12_readMaid cX12_readMaid 2 (some .boolean) 0 := ⟨G1698, G1695, G131, by decide +kernel, by decide +kernel, by decide +kernel⟩
theorem G1697 : Cond.instanceMethod ⟨"HookedCityModel", "readMaid", "()Z"⟩ ∈ GW := gw_i 1697 (by decide +kernel) rfl
theorem G61 : Cond.selects "HookedCityModel" ⟨"HookedCityModel", "readMaid", "()Z"⟩ ⟨"HookedCityModel", "readMaid", "()Z"⟩ ∈ GW := gw_i 61 (by decide +kernel) rfl
theorem dX12_readLine_25 : decode cX12_readLine 25 = .ok (.ireturn, 1) := by decide +kernel
theorem dX12_readLine_8 : decode cX12_readLine 8 = .ok (.aload_n 0, 1) := by decide +kernel
theorem dX12_readLine_9 : decode cX12_readLine 9 = .ok (.invokevirtual 209, 3) := by decide +kernel
theorem G1660 : Cond.code ⟨"HookedCityModel", "readPerson", "()Z"⟩ prog_14_method_35_code 2 (some .boolean) ∈ GW := gw_i 1660 (by decide +kernel) rfl
theorem G1657 : Cond.methodLink "HookedCityModel" 209 ⟨"HookedCityModel", "readPerson", "()Z"⟩ ∈ GW := gw_i 1657 (by decide +kernel) rfl
theorem V_HookedCityModel_209 : VL "HookedCityModel" 209 yX12_readPerson cX12_readPerson 2 (some .boolean) 0 := ⟨G1660, G1657, G131, by decide +kernel, by decide +kernel, by decide +kernel⟩
theorem G1659 : Cond.instanceMethod ⟨"HookedCityModel", "readPerson", "()Z"⟩ ∈ GW := gw_i 1659 (by decide +kernel) rfl
theorem G53 : Cond.selects "HookedCityModel" ⟨"HookedCityModel", "readPerson", "()Z"⟩ ⟨"HookedCityModel", "readPerson", "()Z"⟩ ∈ GW := gw_i 53 (by decide +kernel) rfl
theorem dX12_readLine_12 : decode cX12_readLine 12 = .ok (.ireturn, 1) := by decide +kernel
theorem WD.eq {D : va_G} {A : Nat → Prop} {H0 : Heap} {ws ws' : va_W} {H : Heap} {locs : List Loc} (h : ws = ws') (w : WD D A H0 ws H locs) : WD D A H0 ws' H locs := h ▸ w
set_option maxRecDepth 100000 in
set_option maxHeartbeats 4000000 in
theorem c50_X12_startRead (l : Launch) (D : va_G) (T : Nat → ClassId) (sz : Nat) (a0 : Nat) (r0 : Int32) (a1 : Nat) (x0 : Int) (x1 : Int) (x2 : Int) (x3 : Int) (x4 : Int) (x5 : Int) (r1 : Int32) (x6 : Int) (x7 : Int) (x8 : Int) (y0 : Int64) (x9 : Int) (a2 : Nat) (a3 : Nat) (a4 : Nat) (a5 : Nat) (a6 : Nat) (a7 : Nat) (a8 : Nat) (a9 : Nat) (a10 : Nat) (a11 : Nat) (x10 : Int) (a12 : Nat) (a13 : Nat) (a14 : Nat) (a15 : Nat) (x11 : Int) (r2 : Int32) (r3 : Int32) (a16 : Nat) (x12 : Int) (x13 : Int) (a17 : Nat) (a18 : Nat) (x14 : Int) (a19 : Nat) (x15 : Int) (r4 : Int32) (a20 : Nat) (a21 : Nat) (x16 : Int) (r5 : Int32) (a22 : Nat) (x17 : Int) (x18 : Int) (x19 : Int) (x20 : Int) (f0 : Int → Int) (f1 : Int → Int) (x0_a : 0 ≤ x0) (x0_b : x0 ≤ 940) (x1_a : 0 ≤ x1) (x1_b : x1 ≤ 940) (x2_a : 0 ≤ x2) (x2_b : x2 ≤ 940) (x3_a : 0 ≤ x3) (x3_b : x3 ≤ 940) (x4_a : 0 ≤ x4) (x4_b : x4 ≤ 940) (x5_a : 0 ≤ x5) (x5_b : x5 ≤ 4) (x6_a : (-2147483648) ≤ x6) (x6_b : x6 ≤ 2147483647) (x7_a : (-2147483648) ≤ x7) (x7_b : x7 ≤ 2147483647) (x8_a : 0 ≤ x8) (x8_b : x8 ≤ 940) (x9_a : (-2147483648) ≤ x9) (x9_b : x9 ≤ 2147483647) (x10_a : 0 ≤ x10) (x10_b : x10 ≤ 8) (x11_a : 0 ≤ x11) (x11_b : x11 ≤ 9) (x12_a : (-1) ≤ x12) (x12_b : x12 ≤ 9) (x13_a : (-1) ≤ x13) (x13_b : x13 ≤ 8) (x14_a : 0 ≤ x14) (x14_b : x14 ≤ 9) (x15_a : 0 ≤ x15) (x15_b : x15 ≤ 64) (x16_a : 0 ≤ x16) (x16_b : x16 ≤ 40) (x17_a : 0 ≤ x17) (x17_b : x17 ≤ 40) (x18_a : 0 ≤ x18) (x18_b : x18 ≤ 20) (x19_a : 0 ≤ x19) (x19_b : x19 ≤ 8) (x20_a : 0 ≤ x20) (x20_b : x20 ≤ 39) (f0_h : rdI f0) (f1_h : rng 0 1 f1) : Met l yX12_startRead (Cond.code yX12_startRead cX12_startRead 2 none :: GW) (Rm 0 0 0) (cPre [.ref a0] D T [(a0, .inr (11, [.int r0, .ref a1, .int (iI x0), .int (iI x1), .int (iI x2), .int (iI x3), .int (iI x4), .int (iI x5), .int r1, .int (iI x6), .int (iI x7), .int (iI x8), .long y0, .int (iI x9), .ref a2, .ref a3, .ref a4, .ref a5, .ref a6, .ref a7, .ref a8, .ref a9, .ref a10, .ref a11, .int (iI x10), .ref a12, .ref a13, .ref a14, .ref a15, .int (iI x11), .int r2, .int r3, .ref a16, .int (iI x12), .int (iI x13), .ref a17, .ref a18, .int (iI x14), .ref a19, .int (iI x15), .int r4, .ref a20, .ref a21, .int (iI x16), .int r5, .ref a22, .int (iI x17), .int (iI x18), .int (iI x19), .int (iI x20)])), (a3, .inl (T 0, 53, .inl (cI f0))), (a11, .inl (T 2, 3, .inl (cI f1)))] sz) (qV D [(a0, .inr (11, [.int r0, .ref a1, .int (iI x0), .int (iI x1), .int (iI x2), .int (iI x3), .int (iI x4), .int (iI x5), .int r1, .int (iI x6), .int (iI x7), .int (iI x8), .long y0, .int (iI x9), .ref a2, .ref a3, .ref a4, .ref a5, .ref a6, .ref a7, .ref a8, .ref a9, .ref a10, .ref a11, .int (iI x10), .ref a12, .ref a13, .ref a14, .ref a15, .int (iI x11), .int r2, .int r3, .ref a16, .int (iI x12), .int (iI x13), .ref a17, .ref a18, .int (iI x14), .ref a19, .int (iI x15), .int r4, .ref a20, .ref a21, .int (iI x16), .int r5, .ref a22, .int (iI x17), .int (iI x18), .int (iI x19), .int (iI x20)])), (a3, .inl (T 0, 53, .inl (cI f0))), (a11, .inl (T 2, 3, .inl (cI f1)))] sz (fun (u : (Int → Int) × (Int → Int)) => rdI u.1 ∧ rng 0 1 u.2 ∧ (rd0P u.1) ∧ (o0P u.2)) (fun u => [(a0, .inr (11, [.int r0, .ref a1, .int (iI x0), .int (iI x1), .int (iI x2), .int (iI x3), .int (iI x4), .int (iI x5), .int r1, .int (iI x6), .int (iI x7), .int (iI x8), .long y0, .int (iI x9), .ref a2, .ref a3, .ref a4, .ref a5, .ref a6, .ref a7, .ref a8, .ref a9, .ref a10, .ref a11, .int (iI x10), .ref a12, .ref a13, .ref a14, .ref a15, .int (iI x11), .int r2, .int r3, .ref a16, .int (iI x12), .int (iI x13), .ref a17, .ref a18, .int (iI x14), .ref a19, .int (iI x15), .int r4, .ref a20, .ref a21, .int (iI x16), .int r5, .ref a22, .int (iI x17), .int (iI x18), .int (iI x19), .int (iI x20)])), (a3, .inl (T 0, 53, .inl (cI u.1))), (a11, .inl (T 2, 3, .inl (cI u.2)))])) 0 0 (va_A [(a0, .inr (11, [.int r0, .ref a1, .int (iI x0), .int (iI x1), .int (iI x2), .int (iI x3), .int (iI x4), .int (iI x5), .int r1, .int (iI x6), .int (iI x7), .int (iI x8), .long y0, .int (iI x9), .ref a2, .ref a3, .ref a4, .ref a5, .ref a6, .ref a7, .ref a8, .ref a9, .ref a10, .ref a11, .int (iI x10), .ref a12, .ref a13, .ref a14, .ref a15, .int (iI x11), .int r2, .int r3, .ref a16, .int (iI x12), .int (iI x13), .ref a17, .ref a18, .int (iI x14), .ref a19, .int (iI x15), .int r4, .ref a20, .ref a21, .int (iI x16), .int r5, .ref a22, .int (iI x17), .int (iI x18), .int (iI x19), .int (iI x20)])), (a3, .inl (T 0, 53, .inl (cI f0))), (a11, .inl (T 2, 3, .inl (cI f1)))] sz) := by
  refine e_V (by decide) (Nat.le_of_ble_eq_true rfl) ?_
  intro p e s m args below meth c A Q ls M hin w ret hl
  have hx := M.1.1
  have hb := M.1.2.1
  have hl : lv_has ls 2 [(0, .ref a0)] := hl
  refine lv_iconst (v := iI 0) hx hb dX12_startRead_0 (by decide +kernel) ?_
  refine lv_istore_n (lv' := [(1, .int (iI 0)), (0, .ref a0)]) hx hb dX12_startRead_1 rfl hl (by decide) rfl (fun ls hl => ?_)
  have w := WD.eq (ws' := [(a0, .inr (11, [.int r0, .ref a1, .int (iI x0), .int (iI x1), .int (iI x2), .int (iI x3), .int (iI x4), .int (iI x5), .int r1, .int (iI x6), .int (iI x7), .int (iI x8), .long y0, .int (iI x9), .ref a2, .ref a3, .ref a4, .ref a5, .ref a6, .ref a7, .ref a8, .ref a9, .ref a10, .ref a11, .int (iI x10), .ref a12, .ref a13, .ref a14, .ref a15, .int (iI x11), .int r2, .int r3, .ref a16, .int (iI x12), .int (iI x13), .ref a17, .ref a18, .int (iI x14), .ref a19, .int (iI x15), .int r4, .ref a20, .ref a21, .int (iI x16), .int r5, .ref a22, .int (iI x17), .int (iI x18), .int (iI x19), .int (iI x20)])), (a3, .inl (T 0, 53, .inl (cI (rgz 0 0 0 f0)))), (a11, .inl (T 2, 3, .inl (cI f1)))]) (by rw [rgz_0 (lo := 0) (hi := 0) (x := 0) (c := f0) (by decide)]) w
  have loop1 : ∀ (k1 : Nat) (z1 : Int) (H : Heap) (locs : List Loc) (ls : Array Slot), 0 ≤ z1 → z1 ≤ 53 → ((53 - z1) : Int).toNat < k1 → WD D A s.heap [(a0, .inr (11, [.int r0, .ref a1, .int (iI x0), .int (iI x1), .int (iI x2), .int (iI x3), .int (iI x4), .int (iI x5), .int r1, .int (iI x6), .int (iI x7), .int (iI x8), .long y0, .int (iI x9), .ref a2, .ref a3, .ref a4, .ref a5, .ref a6, .ref a7, .ref a8, .ref a9, .ref a10, .ref a11, .int (iI x10), .ref a12, .ref a13, .ref a14, .ref a15, .int (iI x11), .int r2, .int r3, .ref a16, .int (iI x12), .int (iI x13), .ref a17, .ref a18, .int (iI x14), .ref a19, .int (iI x15), .int r4, .ref a20, .ref a21, .int (iI x16), .int r5, .ref a22, .int (iI x17), .int (iI x18), .int (iI x19), .int (iI x20)])), (a3, .inl (T 0, 53, .inl (cI (rgz 0 z1 0 f0)))), (a11, .inl (T 2, 3, .inl (cI f1)))] H locs → lv_has ls 2 [(1, .int (iI z1)), (0, .ref a0)] → W p l e (Rm 0 0 0) s m args below meth c H locs 0 0 Q (F0 m 2 ls []) := by
    intro k1
    induction k1 with
    | zero => intro z1 H locs ls z1_a z1_b hm; exact absurd hm (Nat.not_lt_zero _)
    | succ k1 ih1 =>
      intro z1 H locs ls z1_a z1_b hm1 w hl
      refine lv_iload_n hx hb dX12_startRead_2 rfl (lv_at hl 0 rfl) ?_
      refine lv_bipush (v := iI 53) hx hb dX12_startRead_3 (by decide +kernel) ?_
      refine lv_icmp_ge (tgt := 21) hx hb dX12_startRead_5 (by decide) (fun c_2 => ?_) (fun c_2 => ?_)
      · replace c_2 := (iI_le (by decide) (by decide) (Int.le_trans (by decide) z1_a) (Int.le_trans z1_b (by decide))).mp c_2
        obtain rfl : z1 = 53 := by omega
        refine lv_iconst (v := iI 0) hx hb dX12_startRead_21 (by decide +kernel) ?_
        refine lv_istore_n (lv' := [(1, .int (iI 0)), (0, .ref a0)]) hx hb dX12_startRead_22 rfl hl (by decide) rfl (fun ls hl => ?_)
        refine lv_iload_n hx hb dX12_startRead_23 rfl (lv_at hl 0 rfl) ?_
        refine lv_iconst (v := iI 3) hx hb dX12_startRead_24 (by decide +kernel) ?_
        refine lv_icmp_ge (tgt := 41) hx hb dX12_startRead_25 (by decide) (fun c => absurd c (by decide +kernel)) (fun _ => ?_)
        refine lv_aload_n hx hb dX12_startRead_28 rfl (lv_at hl 1 rfl) ?_
        refine r_get (v := .ref a11) M w 0 23 clX12 rfl (by decide) G1486 rfl rfl dX12_startRead_29 ?_
        refine lv_iload_n hx hb dX12_startRead_32 rfl (lv_at hl 0 rfl) ?_
        refine lv_iconst (v := iI 0) hx hb dX12_startRead_33 (by decide +kernel) ?_
        refine r_zast (x2 := iI 0) (ws' := [(a0, .inr (11, [.int r0, .ref a1, .int (iI x0), .int (iI x1), .int (iI x2), .int (iI x3), .int (iI x4), .int (iI x5), .int r1, .int (iI x6), .int (iI x7), .int (iI x8), .long y0, .int (iI x9), .ref a2, .ref a3, .ref a4, .ref a5, .ref a6, .ref a7, .ref a8, .ref a9, .ref a10, .ref a11, .int (iI x10), .ref a12, .ref a13, .ref a14, .ref a15, .int (iI x11), .int r2, .int r3, .ref a16, .int (iI x12), .int (iI x13), .ref a17, .ref a18, .int (iI x14), .ref a19, .int (iI x15), .int r4, .ref a20, .ref a21, .int (iI x16), .int r5, .ref a22, .int (iI x17), .int (iI x18), .int (iI x19), .int (iI x20)])), (a3, .inl (T 0, 53, .inl (cI (rgz 0 53 0 f0)))), (a11, .inl (T 2, 3, .inl (cI (upz f1 0 0))))]) M w 2 rfl (iI_in (by decide) (by decide) (by decide)) (nb_z (by omega) (by omega)) (by rw [cI_up (by omega) (by omega)]; rfl) dX12_startRead_34 (fun H locs w => ?_)
        refine lv_iinc (v := iI 1) (lv' := [(1, .int (iI 1)), (0, .ref a0)]) hx hb dX12_startRead_35 hl (k := 0) rfl (by decide +kernel) (by decide) rfl (fun ls hl => ?_)
        refine lv_goto (tgt := 23) hx hb dX12_startRead_38 (by decide) ?_
        refine lv_iload_n hx hb dX12_startRead_23 rfl (lv_at hl 0 rfl) ?_
        refine lv_iconst (v := iI 3) hx hb dX12_startRead_24 (by decide +kernel) ?_
        refine lv_icmp_ge (tgt := 41) hx hb dX12_startRead_25 (by decide) (fun c => absurd c (by decide +kernel)) (fun _ => ?_)
        refine lv_aload_n hx hb dX12_startRead_28 rfl (lv_at hl 1 rfl) ?_
        refine r_get (v := .ref a11) M w 0 23 clX12 rfl (by decide) G1486 rfl rfl dX12_startRead_29 ?_
        refine lv_iload_n hx hb dX12_startRead_32 rfl (lv_at hl 0 rfl) ?_
        refine lv_iconst (v := iI 0) hx hb dX12_startRead_33 (by decide +kernel) ?_
        refine r_zast (x2 := iI 0) (ws' := [(a0, .inr (11, [.int r0, .ref a1, .int (iI x0), .int (iI x1), .int (iI x2), .int (iI x3), .int (iI x4), .int (iI x5), .int r1, .int (iI x6), .int (iI x7), .int (iI x8), .long y0, .int (iI x9), .ref a2, .ref a3, .ref a4, .ref a5, .ref a6, .ref a7, .ref a8, .ref a9, .ref a10, .ref a11, .int (iI x10), .ref a12, .ref a13, .ref a14, .ref a15, .int (iI x11), .int r2, .int r3, .ref a16, .int (iI x12), .int (iI x13), .ref a17, .ref a18, .int (iI x14), .ref a19, .int (iI x15), .int r4, .ref a20, .ref a21, .int (iI x16), .int r5, .ref a22, .int (iI x17), .int (iI x18), .int (iI x19), .int (iI x20)])), (a3, .inl (T 0, 53, .inl (cI (rgz 0 53 0 f0)))), (a11, .inl (T 2, 3, .inl (cI (upz (upz f1 0 0) 1 0))))]) M w 2 rfl (iI_in (by decide) (by decide) (by decide)) (nb_z (by omega) (by omega)) (by rw [cI_up (by omega) (by omega)]; rfl) dX12_startRead_34 (fun H locs w => ?_)
        refine lv_iinc (v := iI 2) (lv' := [(1, .int (iI 2)), (0, .ref a0)]) hx hb dX12_startRead_35 hl (k := 0) rfl (by decide +kernel) (by decide) rfl (fun ls hl => ?_)
        refine lv_goto (tgt := 23) hx hb dX12_startRead_38 (by decide) ?_
        refine lv_iload_n hx hb dX12_startRead_23 rfl (lv_at hl 0 rfl) ?_
        refine lv_iconst (v := iI 3) hx hb dX12_startRead_24 (by decide +kernel) ?_
        refine lv_icmp_ge (tgt := 41) hx hb dX12_startRead_25 (by decide) (fun c => absurd c (by decide +kernel)) (fun _ => ?_)
        refine lv_aload_n hx hb dX12_startRead_28 rfl (lv_at hl 1 rfl) ?_
        refine r_get (v := .ref a11) M w 0 23 clX12 rfl (by decide) G1486 rfl rfl dX12_startRead_29 ?_
        refine lv_iload_n hx hb dX12_startRead_32 rfl (lv_at hl 0 rfl) ?_
        refine lv_iconst (v := iI 0) hx hb dX12_startRead_33 (by decide +kernel) ?_
        refine r_zast (x2 := iI 0) (ws' := [(a0, .inr (11, [.int r0, .ref a1, .int (iI x0), .int (iI x1), .int (iI x2), .int (iI x3), .int (iI x4), .int (iI x5), .int r1, .int (iI x6), .int (iI x7), .int (iI x8), .long y0, .int (iI x9), .ref a2, .ref a3, .ref a4, .ref a5, .ref a6, .ref a7, .ref a8, .ref a9, .ref a10, .ref a11, .int (iI x10), .ref a12, .ref a13, .ref a14, .ref a15, .int (iI x11), .int r2, .int r3, .ref a16, .int (iI x12), .int (iI x13), .ref a17, .ref a18, .int (iI x14), .ref a19, .int (iI x15), .int r4, .ref a20, .ref a21, .int (iI x16), .int r5, .ref a22, .int (iI x17), .int (iI x18), .int (iI x19), .int (iI x20)])), (a3, .inl (T 0, 53, .inl (cI (rgz 0 53 0 f0)))), (a11, .inl (T 2, 3, .inl (cI (upz (upz (upz f1 0 0) 1 0) 2 0))))]) M w 2 rfl (iI_in (by decide) (by decide) (by decide)) (nb_z (by omega) (by omega)) (by rw [cI_up (by omega) (by omega)]; rfl) dX12_startRead_34 (fun H locs w => ?_)
        refine lv_iinc (v := iI 3) (lv' := [(1, .int (iI 3)), (0, .ref a0)]) hx hb dX12_startRead_35 hl (k := 0) rfl (by decide +kernel) (by decide) rfl (fun ls hl => ?_)
        refine lv_goto (tgt := 23) hx hb dX12_startRead_38 (by decide) ?_
        refine lv_iload_n hx hb dX12_startRead_23 rfl (lv_at hl 0 rfl) ?_
        refine lv_iconst (v := iI 3) hx hb dX12_startRead_24 (by decide +kernel) ?_
        refine lv_icmp_ge (tgt := 41) hx hb dX12_startRead_25 (by decide) (fun _ => ?_) (fun c => absurd (by decide +kernel) c)
        refine lv_iconst (v := iI 0) hx hb dX12_startRead_41 (by decide +kernel) ?_
        refine lv_istore_n (lv' := [(1, .int (iI 0)), (0, .ref a0)]) hx hb dX12_startRead_42 rfl hl (by decide) rfl (fun ls hl => ?_)
        have w := WD.eq (ws' := [(a0, .inr (11, [.int r0, .ref a1, .int (iI x0), .int (iI x1), .int (iI x2), .int (iI x3), .int (iI x4), .int (iI x5), .int r1, .int (iI x6), .int (iI x7), .int (iI x8), .long y0, .int (iI x9), .ref a2, .ref a3, .ref a4, .ref a5, .ref a6, .ref a7, .ref a8, .ref a9, .ref a10, .ref a11, .int (iI x10), .ref a12, .ref a13, .ref a14, .ref a15, .int (iI x11), .int r2, .int r3, .ref a16, .int (iI x12), .int (iI x13), .ref a17, .ref a18, .int (iI x14), .ref a19, .int (iI x15), .int r4, .ref a20, .ref a21, .int (iI x16), .int r5, .ref a22, .int (iI x17), .int (iI x18), .int (iI x19), .int (iI x20)])), (a3, .inl (T 0, 53, .inl (cI (rgz 32 32 (-1) (rgz 0 53 0 f0))))), (a11, .inl (T 2, 3, .inl (cI (upz (upz (upz f1 0 0) 1 0) 2 0))))]) (by rw [rgz_0 (lo := 32) (hi := 32) (x := (-1)) (c := (rgz 0 53 0 f0)) (by decide)]) w
        have loop2 : ∀ (k2 : Nat) (z3 : Int) (H : Heap) (locs : List Loc) (ls : Array Slot), 0 ≤ z3 → z3 ≤ 9 → ((9 - z3) : Int).toNat < k2 → WD D A s.heap [(a0, .inr (11, [.int r0, .ref a1, .int (iI x0), .int (iI x1), .int (iI x2), .int (iI x3), .int (iI x4), .int (iI x5), .int r1, .int (iI x6), .int (iI x7), .int (iI x8), .long y0, .int (iI x9), .ref a2, .ref a3, .ref a4, .ref a5, .ref a6, .ref a7, .ref a8, .ref a9, .ref a10, .ref a11, .int (iI x10), .ref a12, .ref a13, .ref a14, .ref a15, .int (iI x11), .int r2, .int r3, .ref a16, .int (iI x12), .int (iI x13), .ref a17, .ref a18, .int (iI x14), .ref a19, .int (iI x15), .int r4, .ref a20, .ref a21, .int (iI x16), .int r5, .ref a22, .int (iI x17), .int (iI x18), .int (iI x19), .int (iI x20)])), (a3, .inl (T 0, 53, .inl (cI (rgz 32 (32 + z3) (-1) (rgz 0 53 0 f0))))), (a11, .inl (T 2, 3, .inl (cI (upz (upz (upz f1 0 0) 1 0) 2 0))))] H locs → lv_has ls 2 [(1, .int (iI z3)), (0, .ref a0)] → W p l e (Rm 0 0 0) s m args below meth c H locs 0 0 Q (F0 m 43 ls []) := by
          intro k2
          induction k2 with
          | zero => intro z3 H locs ls z3_a z3_b hm; exact absurd hm (Nat.not_lt_zero _)
          | succ k2 ih2 =>
            intro z3 H locs ls z3_a z3_b hm2 w hl
            refine lv_iload_n hx hb dX12_startRead_43 rfl (lv_at hl 0 rfl) ?_
            refine lv_bipush (v := iI 9) hx hb dX12_startRead_44 (by decide +kernel) ?_
            refine lv_icmp_ge (tgt := 65) hx hb dX12_startRead_46 (by decide) (fun c_4 => ?_) (fun c_4 => ?_)
            · replace c_4 := (iI_le (by decide) (by decide) (Int.le_trans (by decide) z3_a) (Int.le_trans z3_b (by decide))).mp c_4
              obtain rfl : z3 = 9 := by omega
              refine lv_aload_n hx hb dX12_startRead_65 rfl (lv_at hl 1 rfl) ?_
              refine r_get (v := .ref a3) M w 0 15 clX12 rfl (by decide) G1478 rfl rfl dX12_startRead_66 ?_
              refine lv_iconst (v := iI 3) hx hb dX12_startRead_69 (by decide +kernel) ?_
              refine lv_bipush (v := iI 12) hx hb dX12_startRead_70 (by decide +kernel) ?_
              refine r_iast (ws' := [(a0, .inr (11, [.int r0, .ref a1, .int (iI x0), .int (iI x1), .int (iI x2), .int (iI x3), .int (iI x4), .int (iI x5), .int r1, .int (iI x6), .int (iI x7), .int (iI x8), .long y0, .int (iI x9), .ref a2, .ref a3, .ref a4, .ref a5, .ref a6, .ref a7, .ref a8, .ref a9, .ref a10, .ref a11, .int (iI x10), .ref a12, .ref a13, .ref a14, .ref a15, .int (iI x11), .int r2, .int r3, .ref a16, .int (iI x12), .int (iI x13), .ref a17, .ref a18, .int (iI x14), .ref a19, .int (iI x15), .int r4, .ref a20, .ref a21, .int (iI x16), .int r5, .ref a22, .int (iI x17), .int (iI x18), .int (iI x19), .int (iI x20)])), (a3, .inl (T 0, 53, .inl (cI (upz (rgz 32 (32 + 9) (-1) (rgz 0 53 0 f0)) 3 12)))), (a11, .inl (T 2, 3, .inl (cI (upz (upz (upz f1 0 0) 1 0) 2 0))))]) M w 1 rfl (iI_in (by decide) (by decide) (by decide)) (by rw [cI_up (by omega) (by omega)]; rfl) dX12_startRead_72 (fun H locs w => ?_)
              refine lv_aload_n hx hb dX12_startRead_73 rfl (lv_at hl 1 rfl) ?_
              refine r_get (v := .ref a3) M w 0 15 clX12 rfl (by decide) G1478 rfl rfl dX12_startRead_74 ?_
              refine lv_iconst (v := iI 4) hx hb dX12_startRead_77 (by decide +kernel) ?_
              refine lv_iconst (v := iI 1) hx hb dX12_startRead_78 (by decide +kernel) ?_
              refine r_iast (ws' := [(a0, .inr (11, [.int r0, .ref a1, .int (iI x0), .int (iI x1), .int (iI x2), .int (iI x3), .int (iI x4), .int (iI x5), .int r1, .int (iI x6), .int (iI x7), .int (iI x8), .long y0, .int (iI x9), .ref a2, .ref a3, .ref a4, .ref a5, .ref a6, .ref a7, .ref a8, .ref a9, .ref a10, .ref a11, .int (iI x10), .ref a12, .ref a13, .ref a14, .ref a15, .int (iI x11), .int r2, .int r3, .ref a16, .int (iI x12), .int (iI x13), .ref a17, .ref a18, .int (iI x14), .ref a19, .int (iI x15), .int r4, .ref a20, .ref a21, .int (iI x16), .int r5, .ref a22, .int (iI x17), .int (iI x18), .int (iI x19), .int (iI x20)])), (a3, .inl (T 0, 53, .inl (cI (upz (upz (rgz 32 (32 + 9) (-1) (rgz 0 53 0 f0)) 3 12) 4 1)))), (a11, .inl (T 2, 3, .inl (cI (upz (upz (upz f1 0 0) 1 0) 2 0))))]) M w 1 rfl (iI_in (by decide) (by decide) (by decide)) (by rw [cI_up (by omega) (by omega)]; rfl) dX12_startRead_79 (fun H locs w => ?_)
              exact ret ((upz (upz (rgz 32 (32 + 9) (-1) (rgz 0 53 0 f0)) 3 12) 4 1), (upz (upz (upz f1 0 0) 1 0) 2 0)) _ _ _ _ _ [0, 1, 2] dX12_startRead_80 ⟨(rd_start f0_h.1), (rng_up (rng_up (rng_up f1_h (by omega) (by omega)) (by omega) (by omega)) (by omega) (by omega)), (show rd0P (upz (upz (rgz 32 (32 + 9) (-1) (rgz 0 53 0 f0)) 3 12) 4 1) from (by intro i i0 i1; simp only [upz, rgz]; (repeat' split) <;> omega)), (show o0P (upz (upz (upz f1 0 0) 1 0) 2 0) from (by intro i i0 i1; simp only [upz]; (repeat' split) <;> omega))⟩ w (by decide) rfl
            · replace c_4 : z3 < 9 := Int.not_le.mp (fun h => c_4 ((iI_le (by decide) (by decide) (Int.le_trans (by decide) z3_a) (Int.le_trans z3_b (by decide))).mpr h))
              refine lv_aload_n hx hb dX12_startRead_49 rfl (lv_at hl 1 rfl) ?_
              refine r_get (v := .ref a3) M w 0 15 clX12 rfl (by decide) G1478 rfl rfl dX12_startRead_50 ?_
              refine lv_bipush (v := iI 32) hx hb dX12_startRead_53 (by decide +kernel) ?_
              refine lv_iload_n hx hb dX12_startRead_55 rfl (lv_at hl 0 rfl) ?_
              refine r_iadd (v := iI (32 + z3)) M (iI_add _ _) dX12_startRead_56 ?_
              refine lv_iconst (v := iI (-1)) hx hb dX12_startRead_57 (by decide +kernel) ?_
              refine r_iast (ws' := [(a0, .inr (11, [.int r0, .ref a1, .int (iI x0), .int (iI x1), .int (iI x2), .int (iI x3), .int (iI x4), .int (iI x5), .int r1, .int (iI x6), .int (iI x7), .int (iI x8), .long y0, .int (iI x9), .ref a2, .ref a3, .ref a4, .ref a5, .ref a6, .ref a7, .ref a8, .ref a9, .ref a10, .ref a11, .int (iI x10), .ref a12, .ref a13, .ref a14, .ref a15, .int (iI x11), .int r2, .int r3, .ref a16, .int (iI x12), .int (iI x13), .ref a17, .ref a18, .int (iI x14), .ref a19, .int (iI x15), .int r4, .ref a20, .ref a21, .int (iI x16), .int r5, .ref a22, .int (iI x17), .int (iI x18), .int (iI x19), .int (iI x20)])), (a3, .inl (T 0, 53, .inl (cI (upz (rgz 32 (32 + z3) (-1) (rgz 0 53 0 f0)) (32 + z3) (-1))))), (a11, .inl (T 2, 3, .inl (cI (upz (upz (upz f1 0 0) 1 0) 2 0))))]) M w 1 rfl (iI_in (by omega) (by omega) (by decide)) (by rw [cI_up (by omega) (by omega)]; rfl) dX12_startRead_58 (fun H locs w => ?_)
              refine lv_iinc (v := iI (z3 + 1)) (lv' := [(1, .int (iI (z3 + 1))), (0, .ref a0)]) hx hb dX12_startRead_59 hl (k := 0) rfl (ii_inc (by decide +kernel)) (by decide) rfl (fun ls hl => ?_)
              refine lv_goto (tgt := 43) hx hb dX12_startRead_62 (by decide) ?_
              have w := WD.eq (ws' := [(a0, .inr (11, [.int r0, .ref a1, .int (iI x0), .int (iI x1), .int (iI x2), .int (iI x3), .int (iI x4), .int (iI x5), .int r1, .int (iI x6), .int (iI x7), .int (iI x8), .long y0, .int (iI x9), .ref a2, .ref a3, .ref a4, .ref a5, .ref a6, .ref a7, .ref a8, .ref a9, .ref a10, .ref a11, .int (iI x10), .ref a12, .ref a13, .ref a14, .ref a15, .int (iI x11), .int r2, .int r3, .ref a16, .int (iI x12), .int (iI x13), .ref a17, .ref a18, .int (iI x14), .ref a19, .int (iI x15), .int r4, .ref a20, .ref a21, .int (iI x16), .int r5, .ref a22, .int (iI x17), .int (iI x18), .int (iI x19), .int (iI x20)])), (a3, .inl (T 0, 53, .inl (cI (rgz 32 (32 + (z3 + 1)) (-1) (rgz 0 53 0 f0))))), (a11, .inl (T 2, 3, .inl (cI (upz (upz (upz f1 0 0) 1 0) 2 0))))]) (by rw [← rgz_t (lo := 32) (k := (32 + z3)) (k' := (32 + (z3 + 1))) (x := (-1)) (c := (rgz 0 53 0 f0)) (by omega) (by omega)]) w
              exact ih2 (z3 + 1) _ _ _ (by omega) (by omega) (by omega) w (lv_sub hl [0, 1] rfl)
        exact loop2 ((9 : Int).toNat + 1) 0 _ _ _ (by decide) (by decide) (Nat.lt_succ_self _) w (lv_sub hl [0, 1] rfl)
      · replace c_2 : z1 < 53 := Int.not_le.mp (fun h => c_2 ((iI_le (by decide) (by decide) (Int.le_trans (by decide) z1_a) (Int.le_trans z1_b (by decide))).mpr h))
        refine lv_aload_n hx hb dX12_startRead_8 rfl (lv_at hl 1 rfl) ?_
        refine r_get (v := .ref a3) M w 0 15 clX12 rfl (by decide) G1478 rfl rfl dX12_startRead_9 ?_
        refine lv_iload_n hx hb dX12_startRead_12 rfl (lv_at hl 0 rfl) ?_
        refine lv_iconst (v := iI 0) hx hb dX12_startRead_13 (by decide +kernel) ?_
        refine r_iast (ws' := [(a0, .inr (11, [.int r0, .ref a1, .int (iI x0), .int (iI x1), .int (iI x2), .int (iI x3), .int (iI x4), .int (iI x5), .int r1, .int (iI x6), .int (iI x7), .int (iI x8), .long y0, .int (iI x9), .ref a2, .ref a3, .ref a4, .ref a5, .ref a6, .ref a7, .ref a8, .ref a9, .ref a10, .ref a11, .int (iI x10), .ref a12, .ref a13, .ref a14, .ref a15, .int (iI x11), .int r2, .int r3, .ref a16, .int (iI x12), .int (iI x13), .ref a17, .ref a18, .int (iI x14), .ref a19, .int (iI x15), .int r4, .ref a20, .ref a21, .int (iI x16), .int r5, .ref a22, .int (iI x17), .int (iI x18), .int (iI x19), .int (iI x20)])), (a3, .inl (T 0, 53, .inl (cI (upz (rgz 0 z1 0 f0) z1 0)))), (a11, .inl (T 2, 3, .inl (cI f1)))]) M w 1 rfl (iI_in (by omega) (by omega) (by decide)) (by rw [cI_up (by omega) (by omega)]; rfl) dX12_startRead_14 (fun H locs w => ?_)
        refine lv_iinc (v := iI (z1 + 1)) (lv' := [(1, .int (iI (z1 + 1))), (0, .ref a0)]) hx hb dX12_startRead_15 hl (k := 0) rfl (ii_inc (by decide +kernel)) (by decide) rfl (fun ls hl => ?_)
        refine lv_goto (tgt := 2) hx hb dX12_startRead_18 (by decide) ?_
        have w := WD.eq (ws' := [(a0, .inr (11, [.int r0, .ref a1, .int (iI x0), .int (iI x1), .int (iI x2), .int (iI x3), .int (iI x4), .int (iI x5), .int r1, .int (iI x6), .int (iI x7), .int (iI x8), .long y0, .int (iI x9), .ref a2, .ref a3, .ref a4, .ref a5, .ref a6, .ref a7, .ref a8, .ref a9, .ref a10, .ref a11, .int (iI x10), .ref a12, .ref a13, .ref a14, .ref a15, .int (iI x11), .int r2, .int r3, .ref a16, .int (iI x12), .int (iI x13), .ref a17, .ref a18, .int (iI x14), .ref a19, .int (iI x15), .int r4, .ref a20, .ref a21, .int (iI x16), .int r5, .ref a22, .int (iI x17), .int (iI x18), .int (iI x19), .int (iI x20)])), (a3, .inl (T 0, 53, .inl (cI (rgz 0 (z1 + 1) 0 f0)))), (a11, .inl (T 2, 3, .inl (cI f1)))]) (by rw [← rgz_t (lo := 0) (k := z1) (k' := (z1 + 1)) (x := 0) (c := f0) (by omega) (by omega)]) w
        exact ih1 (z1 + 1) _ _ _ (by omega) (by omega) (by omega) w (lv_sub hl [0, 1] rfl)
  exact loop1 ((53 : Int).toNat + 1) 0 _ _ _ (by decide) (by decide) (Nat.lt_succ_self _) w (lv_sub hl [0, 1] rfl)
set_option maxRecDepth 100000 in
set_option maxHeartbeats 4000000 in
theorem c51_X12_findIn (l : Launch) (D : va_G) (T : Nat → ClassId) (sz : Nat) (a0 : Nat) (x0 : Int) (y0 : Int64) (h0 : Nat → Int64) (x0_a : 0 ≤ x0) (x0_b : x0 ≤ 9) : Met l yX12_findIn (Cond.code yX12_findIn cX12_findIn 6 (some .int) :: GW) (Rm 0 0 0) (cPre [.ref a0, .int (iI 0), .int (iI x0), .long y0] D T [(a0, .inl (T 1, 12, .inr (.inl h0)))] sz) (qI D [(a0, .inl (T 1, 12, .inr (.inl h0)))] sz (fun (v : Int32) (u : Int) => iI u = v ∧ (-1) ≤ u ∧ u ≤ 8 ∧ 0 ≤ ((x0 - u) - 1) ∧ (u = FI h0 0 x0 y0)) (fun u => [(a0, .inl (T 1, 12, .inr (.inl h0)))])) 0 0 (va_A [(a0, .inl (T 1, 12, .inr (.inl h0)))] sz) := by
  refine e_I (by decide) (Nat.le_of_ble_eq_true rfl) ?_
  intro p e s m args below meth c A Q ls M hin w ret hl
  have hx := M.1.1
  have hb := M.1.2.1
  have hl : lv_has ls 6 [(0, .ref a0), (1, .int (iI 0)), (2, .int (iI x0)), (3, .long y0)] := hl
  refine lv_iconst (v := iI 0) hx hb dX12_findIn_0 (by decide +kernel) ?_
  refine lv_istore (lv' := [(5, .int (iI 0)), (0, .ref a0), (1, .int (iI 0)), (2, .int (iI x0)), (3, .long y0)]) hx hb dX12_findIn_1 hl (by decide) rfl (fun ls hl => ?_)
  have loop1 : ∀ (k1 : Nat) (z1 : Int) (H : Heap) (locs : List Loc) (ls : Array Slot), 0 ≤ z1 → z1 ≤ 12 → FI h0 0 x0 y0 = fiN h0 0 y0 (x0 - z1).toNat z1 → ((x0 - z1) : Int).toNat < k1 → WD D A s.heap [(a0, .inl (T 1, 12, .inr (.inl h0)))] H locs → lv_has ls 6 [(5, .int (iI z1)), (0, .ref a0), (1, .int (iI 0)), (2, .int (iI x0)), (3, .long y0)] → W p l e (Rm 0 0 0) s m args below meth c H locs 0 0 Q (F0 m 3 ls []) := by
    intro k1
    induction k1 with
    | zero => intro z1 H locs ls z1_a z1_b lq1_f hm; exact absurd hm (Nat.not_lt_zero _)
    | succ k1 ih1 =>
      intro z1 H locs ls z1_a z1_b lq1_f hm1 w hl
      refine lv_iload hx hb dX12_findIn_3 (lv_at hl 0 rfl) ?_
      refine lv_iload_n hx hb dX12_findIn_5 rfl (lv_at hl 3 rfl) ?_
      refine lv_icmp_ge (tgt := 29) hx hb dX12_findIn_6 (by decide) (fun c_2 => ?_) (fun c_2 => ?_)
      · replace c_2 := (iI_le (Int.le_trans (by decide) x0_a) (Int.le_trans x0_b (by decide)) (Int.le_trans (by decide) z1_a) (Int.le_trans z1_b (by decide))).mp c_2
        refine lv_iconst (v := iI (-1)) hx hb dX12_findIn_29 (by decide +kernel) ?_
        exact ret _ (-1) _ _ _ _ _ [0] dX12_findIn_30 ⟨rfl, (show (-1) ≤ (-1) from by decide), (show ((-1) : Int) ≤ 8 from by decide), (show 0 ≤ ((x0 - (-1)) - 1) from by omega), (show (-1) = FI h0 0 x0 y0 from (fi_end lq1_f (by omega)))⟩ w (by decide) rfl
      · replace c_2 : z1 < x0 := Int.not_le.mp (fun h => c_2 ((iI_le (Int.le_trans (by decide) x0_a) (Int.le_trans x0_b (by decide)) (Int.le_trans (by decide) z1_a) (Int.le_trans z1_b (by decide))).mpr h))
        refine lv_aload_n hx hb dX12_findIn_9 rfl (lv_at hl 1 rfl) ?_
        refine lv_iload_n hx hb dX12_findIn_10 rfl (lv_at hl 2 rfl) ?_
        refine lv_iload hx hb dX12_findIn_11 (lv_at hl 0 rfl) ?_
        refine r_iadd (v := iI (0 + z1)) M (iI_add _ _) dX12_findIn_13 ?_
        refine r_lald (v := (h0 (Int32.toNatClampNeg (iI (0 + z1))))) M w 0 rfl (iI_in (by omega) (by omega) (by decide)) rfl dX12_findIn_14 ?_
        refine lv_lload_n hx hb dX12_findIn_15 rfl (lv_at hl 4 rfl) ?_
        refine r_lcmp (v := lg_cmp (h0 (Int32.toNatClampNeg (iI (0 + z1)))) y0) M rfl dX12_findIn_16 ?_
        refine lv_if_ne (tgt := 23) hx hb dX12_findIn_17 (by decide) (fun c_3 => ?_) (fun c_3 => ?_)
        · refine lv_iinc (v := iI (z1 + 1)) (lv' := [(5, .int (iI (z1 + 1))), (0, .ref a0), (1, .int (iI 0)), (2, .int (iI x0)), (3, .long y0)]) hx hb dX12_findIn_23 hl (k := 0) rfl (ii_inc (by decide +kernel)) (by decide) rfl (fun ls hl => ?_)
          refine lv_goto (tgt := 3) hx hb dX12_findIn_26 (by decide) ?_
          exact ih1 (z1 + 1) _ _ _ (by omega) (by omega) (fi_no lq1_f (by omega) c_3) (by omega) w (lv_sub hl [0, 1, 2, 3, 4] rfl)
        · refine lv_iload hx hb dX12_findIn_20 (lv_at hl 0 rfl) ?_
          exact ret _ z1 _ _ _ _ _ [0] dX12_findIn_22 ⟨rfl, (show (-1) ≤ z1 from by omega), (show z1 ≤ 8 from by omega), (show 0 ≤ ((x0 - z1) - 1) from by omega), (show z1 = FI h0 0 x0 y0 from (fi_hit lq1_f (by omega) c_3))⟩ w (by decide) rfl
  exact loop1 (((x0 - 0) : Int).toNat + 1) 0 _ _ _ (by decide) (by decide) fi_0 (Nat.lt_succ_self _) w (lv_sub hl [0, 1, 2, 3, 4] rfl)
set_option maxRecDepth 100000 in
set_option maxHeartbeats 4000000 in
theorem c52_X12_findIn (l : Launch) (D : va_G) (T : Nat → ClassId) (sz : Nat) (a0 : Nat) (x0 : Int) (y0 : Int64) (h0 : Nat → Int64) (x0_a : 0 ≤ x0) (x0_b : x0 ≤ 3) : Met l yX12_findIn (Cond.code yX12_findIn cX12_findIn 6 (some .int) :: GW) (Rm 0 0 0) (cPre [.ref a0, .int (iI 9), .int (iI x0), .long y0] D T [(a0, .inl (T 1, 12, .inr (.inl h0)))] sz) (qI D [(a0, .inl (T 1, 12, .inr (.inl h0)))] sz (fun (v : Int32) (u : Int) => iI u = v ∧ (-1) ≤ u ∧ u ≤ 2 ∧ 0 ≤ ((x0 - u) - 1) ∧ (u = FI h0 9 x0 y0)) (fun u => [(a0, .inl (T 1, 12, .inr (.inl h0)))])) 0 0 (va_A [(a0, .inl (T 1, 12, .inr (.inl h0)))] sz) := by
  refine e_I (by decide) (Nat.le_of_ble_eq_true rfl) ?_
  intro p e s m args below meth c A Q ls M hin w ret hl
  have hx := M.1.1
  have hb := M.1.2.1
  have hl : lv_has ls 6 [(0, .ref a0), (1, .int (iI 9)), (2, .int (iI x0)), (3, .long y0)] := hl
  refine lv_iconst (v := iI 0) hx hb dX12_findIn_0 (by decide +kernel) ?_
  refine lv_istore (lv' := [(5, .int (iI 0)), (0, .ref a0), (1, .int (iI 9)), (2, .int (iI x0)), (3, .long y0)]) hx hb dX12_findIn_1 hl (by decide) rfl (fun ls hl => ?_)
  have loop1 : ∀ (k1 : Nat) (z1 : Int) (H : Heap) (locs : List Loc) (ls : Array Slot), 0 ≤ z1 → z1 ≤ 12 → FI h0 9 x0 y0 = fiN h0 9 y0 (x0 - z1).toNat z1 → ((x0 - z1) : Int).toNat < k1 → WD D A s.heap [(a0, .inl (T 1, 12, .inr (.inl h0)))] H locs → lv_has ls 6 [(5, .int (iI z1)), (0, .ref a0), (1, .int (iI 9)), (2, .int (iI x0)), (3, .long y0)] → W p l e (Rm 0 0 0) s m args below meth c H locs 0 0 Q (F0 m 3 ls []) := by
    intro k1
    induction k1 with
    | zero => intro z1 H locs ls z1_a z1_b lq1_f hm; exact absurd hm (Nat.not_lt_zero _)
    | succ k1 ih1 =>
      intro z1 H locs ls z1_a z1_b lq1_f hm1 w hl
      refine lv_iload hx hb dX12_findIn_3 (lv_at hl 0 rfl) ?_
      refine lv_iload_n hx hb dX12_findIn_5 rfl (lv_at hl 3 rfl) ?_
      refine lv_icmp_ge (tgt := 29) hx hb dX12_findIn_6 (by decide) (fun c_2 => ?_) (fun c_2 => ?_)
      · replace c_2 := (iI_le (Int.le_trans (by decide) x0_a) (Int.le_trans x0_b (by decide)) (Int.le_trans (by decide) z1_a) (Int.le_trans z1_b (by decide))).mp c_2
        refine lv_iconst (v := iI (-1)) hx hb dX12_findIn_29 (by decide +kernel) ?_
        exact ret _ (-1) _ _ _ _ _ [0] dX12_findIn_30 ⟨rfl, (show (-1) ≤ (-1) from by decide), (show ((-1) : Int) ≤ 2 from by decide), (show 0 ≤ ((x0 - (-1)) - 1) from by omega), (show (-1) = FI h0 9 x0 y0 from (fi_end lq1_f (by omega)))⟩ w (by decide) rfl
      · replace c_2 : z1 < x0 := Int.not_le.mp (fun h => c_2 ((iI_le (Int.le_trans (by decide) x0_a) (Int.le_trans x0_b (by decide)) (Int.le_trans (by decide) z1_a) (Int.le_trans z1_b (by decide))).mpr h))
        refine lv_aload_n hx hb dX12_findIn_9 rfl (lv_at hl 1 rfl) ?_
        refine lv_iload_n hx hb dX12_findIn_10 rfl (lv_at hl 2 rfl) ?_
        refine lv_iload hx hb dX12_findIn_11 (lv_at hl 0 rfl) ?_
        refine r_iadd (v := iI (9 + z1)) M (iI_add _ _) dX12_findIn_13 ?_
        refine r_lald (v := (h0 (Int32.toNatClampNeg (iI (9 + z1))))) M w 0 rfl (iI_in (by omega) (by omega) (by decide)) rfl dX12_findIn_14 ?_
        refine lv_lload_n hx hb dX12_findIn_15 rfl (lv_at hl 4 rfl) ?_
        refine r_lcmp (v := lg_cmp (h0 (Int32.toNatClampNeg (iI (9 + z1)))) y0) M rfl dX12_findIn_16 ?_
        refine lv_if_ne (tgt := 23) hx hb dX12_findIn_17 (by decide) (fun c_3 => ?_) (fun c_3 => ?_)
        · refine lv_iinc (v := iI (z1 + 1)) (lv' := [(5, .int (iI (z1 + 1))), (0, .ref a0), (1, .int (iI 9)), (2, .int (iI x0)), (3, .long y0)]) hx hb dX12_findIn_23 hl (k := 0) rfl (ii_inc (by decide +kernel)) (by decide) rfl (fun ls hl => ?_)
          refine lv_goto (tgt := 3) hx hb dX12_findIn_26 (by decide) ?_
          exact ih1 (z1 + 1) _ _ _ (by omega) (by omega) (fi_no lq1_f (by omega) c_3) (by omega) w (lv_sub hl [0, 1, 2, 3, 4] rfl)
        · refine lv_iload hx hb dX12_findIn_20 (lv_at hl 0 rfl) ?_
          exact ret _ z1 _ _ _ _ _ [0] dX12_findIn_22 ⟨rfl, (show (-1) ≤ z1 from by omega), (show z1 ≤ 2 from by omega), (show 0 ≤ ((x0 - z1) - 1) from by omega), (show z1 = FI h0 9 x0 y0 from (fi_hit lq1_f (by omega) c_3))⟩ w (by decide) rfl
  exact loop1 (((x0 - 0) : Int).toNat + 1) 0 _ _ _ (by decide) (by decide) fi_0 (Nat.lt_succ_self _) w (lv_sub hl [0, 1, 2, 3, 4] rfl)
set_option maxRecDepth 100000 in
set_option maxHeartbeats 4000000 in
theorem c53_X12_readNew (l : Launch) (D : va_G) (T : Nat → ClassId) (sz : Nat) (a0 : Nat) (x0 : Int) (r0 : Int32) (a1 : Nat) (x1 : Int) (x2 : Int) (x3 : Int) (x4 : Int) (x5 : Int) (x6 : Int) (r1 : Int32) (x7 : Int) (x8 : Int) (x9 : Int) (y0 : Int64) (x10 : Int) (a2 : Nat) (a3 : Nat) (a4 : Nat) (a5 : Nat) (a6 : Nat) (a7 : Nat) (a8 : Nat) (a9 : Nat) (a10 : Nat) (a11 : Nat) (x11 : Int) (a12 : Nat) (a13 : Nat) (a14 : Nat) (a15 : Nat) (x12 : Int) (r2 : Int32) (r3 : Int32) (a16 : Nat) (x13 : Int) (x14 : Int) (a17 : Nat) (a18 : Nat) (x15 : Int) (a19 : Nat) (x16 : Int) (r4 : Int32) (a20 : Nat) (a21 : Nat) (x17 : Int) (r5 : Int32) (a22 : Nat) (x18 : Int) (x19 : Int) (x20 : Int) (x21 : Int) (f0 : Int → Int) (f1 : Int → Int) (h0 : Nat → Int64) (x0_a : 0 ≤ x0) (x0_b : x0 ≤ 11) (x1_a : 0 ≤ x1) (x1_b : x1 ≤ 940) (x2_a : 0 ≤ x2) (x2_b : x2 ≤ 940) (x3_a : 0 ≤ x3) (x3_b : x3 ≤ 940) (x4_a : 0 ≤ x4) (x4_b : x4 ≤ 940) (x5_a : 0 ≤ x5) (x5_b : x5 ≤ 940) (x6_a : 0 ≤ x6) (x6_b : x6 ≤ 4) (x7_a : (-2147483648) ≤ x7) (x7_b : x7 ≤ 2147483647) (x8_a : (-2147483648) ≤ x8) (x8_b : x8 ≤ 2147483647) (x9_a : 0 ≤ x9) (x9_b : x9 ≤ 940) (x10_a : (-2147483648) ≤ x10) (x10_b : x10 ≤ 2147483647) (x11_a : 0 ≤ x11) (x11_b : x11 ≤ 8) (x12_a : 0 ≤ x12) (x12_b : x12 ≤ 9) (x13_a : (-1) ≤ x13) (x13_b : x13 ≤ 9) (x14_a : (-1) ≤ x14) (x14_b : x14 ≤ 8) (x15_a : 0 ≤ x15) (x15_b : x15 ≤ 9) (x16_a : 0 ≤ x16) (x16_b : x16 ≤ 64) (x17_a : 0 ≤ x17) (x17_b : x17 ≤ 40) (x18_a : 0 ≤ x18) (x18_b : x18 ≤ 40) (x19_a : 0 ≤ x19) (x19_b : x19 ≤ 20) (x20_a : 0 ≤ x20) (x20_b : x20 ≤ 8) (x21_a : 0 ≤ x21) (x21_b : x21 ≤ 39) (f0_h : rng 0 255 f0) (f1_h : rdI f1) : Met l yX12_readNew (Cond.code yX12_readNew cX12_readNew 2 (some .boolean) :: GW) (Rm 3 0 0) (cPre [.ref a0, .int (iI x0)] D T [(a0, .inr (11, [.int r0, .ref a1, .int (iI x1), .int (iI x2), .int (iI x3), .int (iI x4), .int (iI x5), .int (iI x6), .int r1, .int (iI x7), .int (iI x8), .int (iI x9), .long y0, .int (iI x10), .ref a2, .ref a3, .ref a4, .ref a5, .ref a6, .ref a7, .ref a8, .ref a9, .ref a10, .ref a11, .int (iI x11), .ref a12, .ref a13, .ref a14, .ref a15, .int (iI x12), .int r2, .int r3, .ref a16, .int (iI x13), .int (iI x14), .ref a17, .ref a18, .int (iI x15), .ref a19, .int (iI x16), .int r4, .ref a20, .ref a21, .int (iI x17), .int r5, .ref a22, .int (iI x18), .int (iI x19), .int (iI x20), .int (iI x21)])), (a1, .inl (T 0, 940, .inl (cI f0))), (a3, .inl (T 0, 53, .inl (cI f1))), (a8, .inl (T 1, 12, .inr (.inl h0)))] sz) (qI D [(a0, .inr (11, [.int r0, .ref a1, .int (iI x1), .int (iI x2), .int (iI x3), .int (iI x4), .int (iI x5), .int (iI x6), .int r1, .int (iI x7), .int (iI x8), .int (iI x9), .long y0, .int (iI x10), .ref a2, .ref a3, .ref a4, .ref a5, .ref a6, .ref a7, .ref a8, .ref a9, .ref a10, .ref a11, .int (iI x11), .ref a12, .ref a13, .ref a14, .ref a15, .int (iI x12), .int r2, .int r3, .ref a16, .int (iI x13), .int (iI x14), .ref a17, .ref a18, .int (iI x15), .ref a19, .int (iI x16), .int r4, .ref a20, .ref a21, .int (iI x17), .int r5, .ref a22, .int (iI x18), .int (iI x19), .int (iI x20), .int (iI x21)])), (a1, .inl (T 0, 940, .inl (cI f0))), (a3, .inl (T 0, 53, .inl (cI f1))), (a8, .inl (T 1, 12, .inr (.inl h0)))] sz (fun (v : Int32) (u : Int × Int × Int × Int × Int32 × Int × Int × Int × Int64 × (Nat → Int64)) => iI u.1 = v ∧ 0 ≤ u.1 ∧ u.1 ≤ 1 ∧ 0 ≤ u.2.1 ∧ u.2.1 ≤ 940 ∧ 0 ≤ u.2.2.1 ∧ u.2.2.1 ≤ 940 ∧ 0 ≤ u.2.2.2.1 ∧ u.2.2.2.1 ≤ 4 ∧ (-2147483648) ≤ u.2.2.2.2.2.1 ∧ u.2.2.2.2.2.1 ≤ 2147483647 ∧ (-2147483648) ≤ u.2.2.2.2.2.2.1 ∧ u.2.2.2.2.2.2.1 ≤ 2147483647 ∧ 0 ≤ u.2.2.2.2.2.2.2.1 ∧ u.2.2.2.2.2.2.2.1 ≤ 940 ∧ 0 ≤ (u.2.1 - x4) ∧ 0 ≤ ((((u.2.1 - x4) - u.2.2.2.1) + 4) - u.1) ∧ (∀ x : Tk × Int × Int, gT x x6 x5 x4 y0 r1 x7 → RC (sChk f1 h0 x) u.1 u.2.2.2.2.2.2.1 u.2.2.2.2.2.2.2.1 ∧ (u.1 = 1 → gT (nx f0 x2 x3 x) u.2.2.2.1 u.2.2.1 u.2.1 u.2.2.2.2.2.2.2.2.1 u.2.2.2.2.1 u.2.2.2.2.2.1 ∧ u.2.2.2.2.2.2.2.2.2 = vp_updL h0 (ix x0) (wdO x.1))) ∧ (kpB u.1 x8 u.2.2.2.2.2.2.1)) (fun u => [(a0, .inr (11, [.int r0, .ref a1, .int (iI x1), .int (iI x2), .int (iI x3), .int (iI u.2.1), .int (iI u.2.2.1), .int (iI u.2.2.2.1), .int u.2.2.2.2.1, .int (iI u.2.2.2.2.2.1), .int (iI u.2.2.2.2.2.2.1), .int (iI u.2.2.2.2.2.2.2.1), .long u.2.2.2.2.2.2.2.2.1, .int (iI x10), .ref a2, .ref a3, .ref a4, .ref a5, .ref a6, .ref a7, .ref a8, .ref a9, .ref a10, .ref a11, .int (iI x11), .ref a12, .ref a13, .ref a14, .ref a15, .int (iI x12), .int r2, .int r3, .ref a16, .int (iI x13), .int (iI x14), .ref a17, .ref a18, .int (iI x15), .ref a19, .int (iI x16), .int r4, .ref a20, .ref a21, .int (iI x17), .int r5, .ref a22, .int (iI x18), .int (iI x19), .int (iI x20), .int (iI x21)])), (a1, .inl (T 0, 940, .inl (cI f0))), (a3, .inl (T 0, 53, .inl (cI f1))), (a8, .inl (T 1, 12, .inr (.inl u.2.2.2.2.2.2.2.2.2)))])) 0 0 (va_A [(a0, .inr (11, [.int r0, .ref a1, .int (iI x1), .int (iI x2), .int (iI x3), .int (iI x4), .int (iI x5), .int (iI x6), .int r1, .int (iI x7), .int (iI x8), .int (iI x9), .long y0, .int (iI x10), .ref a2, .ref a3, .ref a4, .ref a5, .ref a6, .ref a7, .ref a8, .ref a9, .ref a10, .ref a11, .int (iI x11), .ref a12, .ref a13, .ref a14, .ref a15, .int (iI x12), .int r2, .int r3, .ref a16, .int (iI x13), .int (iI x14), .ref a17, .ref a18, .int (iI x15), .ref a19, .int (iI x16), .int r4, .ref a20, .ref a21, .int (iI x17), .int r5, .ref a22, .int (iI x18), .int (iI x19), .int (iI x20), .int (iI x21)])), (a1, .inl (T 0, 940, .inl (cI f0))), (a3, .inl (T 0, 53, .inl (cI f1))), (a8, .inl (T 1, 12, .inr (.inl h0)))] sz) := by
  refine e_Z (by decide) (Nat.le_of_ble_eq_true rfl) ?_
  intro p e s m args below meth c A Q ls M hin w ret hl
  have hx := M.1.1
  have hb := M.1.2.1
  have hl : lv_has ls 2 [(0, .ref a0), (1, .int (iI x0))] := hl
  refine lv_aload_n hx hb dX12_readNew_0 rfl (lv_at hl 0 rfl) ?_
  refine k_I (ce := 0) (sl := 0) (rest := []) (wr := [(a1, .inl (T 0, 940, .inl (cI f0))), (a3, .inl (T 0, 53, .inl (cI f1))), (a8, .inl (T 1, 12, .inr (.inl h0)))]) (r_V (f := 2) [0] M w V_HookedCityModel_175 G1675 G57 (c44_X12_isName l D T _ a0 r0 a1 x1 x2 x3 x4 x5 x6 r1 x7 x8 x9 y0 x10 a2 a3 a4 a5 a6 a7 a8 a9 a10 a11 x11 a12 a13 a14 a15 x12 r2 r3 a16 x13 x14 a17 a18 x15 a19 x16 r4 a20 a21 x17 r5 a22 x18 x19 x20 x21 x1_a x1_b x2_a x2_b x3_a x3_b x4_a x4_b x5_a x5_b x6_a x6_b x7_a x7_b x8_a x8_b x9_a x9_b x10_a x10_b x11_a x11_b x12_a x12_b x13_a x13_b x14_a x14_b x15_a x15_b x16_a x16_b x17_a x17_b x18_a x18_b x19_a x19_b x20_a x20_b x21_a x21_b) 0 clX12 rfl rfl (by decide) rfl hl.1 rfl (Nat.le_of_ble_eq_true rfl) dX12_readNew_1 (by decide) (by decide) (by decide) (by decide)) w [0] [1, 2, 3] rfl rfl (by decide) (by decide) rfl rfl (fun v z1 H locs hp w => ?_)
  have hv : iI z1 = v := hp.1
  subst hv
  have z1_a : 0 ≤ z1 := hp.2.1
  have z1_b : z1 ≤ 1 := hp.2.2.1
  have pq2 : nmQ z1 x6 y0 := hp.2.2.2
  have w : WD D A s.heap [(a1, .inl (T 0, 940, .inl (cI f0))), (a3, .inl (T 0, 53, .inl (cI f1))), (a8, .inl (T 1, 12, .inr (.inl h0))), (a0, .inr (11, [.int r0, .ref a1, .int (iI x1), .int (iI x2), .int (iI x3), .int (iI x4), .int (iI x5), .int (iI x6), .int r1, .int (iI x7), .int (iI x8), .int (iI x9), .long y0, .int (iI x10), .ref a2, .ref a3, .ref a4, .ref a5, .ref a6, .ref a7, .ref a8, .ref a9, .ref a10, .ref a11, .int (iI x11), .ref a12, .ref a13, .ref a14, .ref a15, .int (iI x12), .int r2, .int r3, .ref a16, .int (iI x13), .int (iI x14), .ref a17, .ref a18, .int (iI x15), .ref a19, .int (iI x16), .int r4, .ref a20, .ref a21, .int (iI x17), .int r5, .ref a22, .int (iI x18), .int (iI x19), .int (iI x20), .int (iI x21)]))] H locs := w
  refine lv_if_ne (tgt := 13) hx hb dX12_readNew_4 (by decide) (fun c_3 => ?_) (fun c_3 => ?_)
  · replace c_3 : ¬ z1 = 0 := fun h => c_3 ((iz_eq (Int.le_trans (by decide) z1_a) (Int.le_trans z1_b (by decide))).mpr h)
    refine lv_aload_n hx hb dX12_readNew_13 rfl (lv_at hl 0 rfl) ?_
    refine r_get (v := .ref a8) M w 3 20 clX12 rfl (by decide) G1483 rfl rfl dX12_readNew_14 ?_
    refine lv_iconst (v := iI 0) hx hb dX12_readNew_17 (by decide +kernel) ?_
    refine lv_aload_n hx hb dX12_readNew_18 rfl (lv_at hl 0 rfl) ?_
    refine r_get (v := .ref a3) M w 3 15 clX12 rfl (by decide) G1478 rfl rfl dX12_readNew_19 ?_
    refine lv_iconst (v := iI 0) hx hb dX12_readNew_22 (by decide +kernel) ?_
    refine r_iald (v := iI (f1 0)) M w 1 rfl (iI_in (by decide) (by decide) (by decide)) (cI_at (by omega) (by omega)) dX12_readNew_23 ?_
    have hh4 : (-2147483648) ≤ (f1 0) ∧ (f1 0) ≤ 2147483647 := f1_h.1 0
    have hh5 : 0 ≤ (f1 0) ∧ (f1 0) ≤ 9 := (f1_h.2.1 0).1 (by omega)
    refine lv_aload_n hx hb dX12_readNew_24 rfl (lv_at hl 0 rfl) ?_
    refine r_get (v := .long y0) M w 3 12 clX12 rfl (by decide) G1475 rfl rfl dX12_readNew_25 ?_
    refine k_I (ce := 0) (sl := 0) (rest := []) (wr := [(a1, .inl (T 0, 940, .inl (cI f0))), (a3, .inl (T 0, 53, .inl (cI f1))), (a0, .inr (11, [.int r0, .ref a1, .int (iI x1), .int (iI x2), .int (iI x3), .int (iI x4), .int (iI x5), .int (iI x6), .int r1, .int (iI x7), .int (iI x8), .int (iI x9), .long y0, .int (iI x10), .ref a2, .ref a3, .ref a4, .ref a5, .ref a6, .ref a7, .ref a8, .ref a9, .ref a10, .ref a11, .int (iI x11), .ref a12, .ref a13, .ref a14, .ref a15, .int (iI x12), .int r2, .int r3, .ref a16, .int (iI x13), .int (iI x14), .ref a17, .ref a18, .int (iI x15), .ref a19, .int (iI x16), .int r4, .ref a20, .ref a21, .int (iI x17), .int r5, .ref a22, .int (iI x18), .int (iI x19), .int (iI x20), .int (iI x21)]))]) (r_S (f := 0) [2] M w V_HookedCityModel_179 G1678 (c51_X12_findIn l D T _ a8 (f1 0) y0 h0 (by omega) (by omega)) rfl (by decide) rfl hl.1 rfl (Nat.le_of_ble_eq_true rfl) dX12_readNew_28 (by decide) (by decide) (by decide) (by decide)) w [2] [0, 1, 3] rfl rfl (by decide) (by decide) rfl rfl (fun v z6 H locs hp w => ?_)
    have hv : iI z6 = v := hp.1
    subst hv
    have z6_a : (-1) ≤ z6 := hp.2.1
    have z6_b : z6 ≤ 8 := hp.2.2.1
    have ee7 : 0 ≤ (((f1 0) - z6) - 1) := hp.2.2.2.1
    have pq8 : z6 = FI h0 0 (f1 0) y0 := hp.2.2.2.2
    have w : WD D A s.heap [(a1, .inl (T 0, 940, .inl (cI f0))), (a3, .inl (T 0, 53, .inl (cI f1))), (a0, .inr (11, [.int r0, .ref a1, .int (iI x1), .int (iI x2), .int (iI x3), .int (iI x4), .int (iI x5), .int (iI x6), .int r1, .int (iI x7), .int (iI x8), .int (iI x9), .long y0, .int (iI x10), .ref a2, .ref a3, .ref a4, .ref a5, .ref a6, .ref a7, .ref a8, .ref a9, .ref a10, .ref a11, .int (iI x11), .ref a12, .ref a13, .ref a14, .ref a15, .int (iI x12), .int r2, .int r3, .ref a16, .int (iI x13), .int (iI x14), .ref a17, .ref a18, .int (iI x15), .ref a19, .int (iI x16), .int r4, .ref a20, .ref a21, .int (iI x17), .int r5, .ref a22, .int (iI x18), .int (iI x19), .int (iI x20), .int (iI x21)])), (a8, .inl (T 1, 12, .inr (.inl h0)))] H locs := w
    refine lv_iconst (v := iI (-1)) hx hb dX12_readNew_31 (by decide +kernel) ?_
    refine lv_icmp_ne (tgt := 58) hx hb dX12_readNew_32 (by decide) (fun c_9 => ?_) (fun c_9 => ?_)
    · replace c_9 : ¬ z6 = (-1) := fun h => c_9 ((iI_eq (Int.le_trans (by decide) z6_a) (Int.le_trans z6_b (by decide)) (by decide) (by decide)).mpr h)
      refine lv_aload_n hx hb dX12_readNew_58 rfl (lv_at hl 0 rfl) ?_
      refine lv_iconst (v := iI 3) hx hb dX12_readNew_59 (by decide +kernel) ?_
      refine k_I (ce := 0) (sl := 0) (rest := []) (wr := [(a1, .inl (T 0, 940, .inl (cI f0))), (a3, .inl (T 0, 53, .inl (cI f1))), (a8, .inl (T 1, 12, .inr (.inl h0)))]) (r_V (f := 0) [2] M w V_HookedCityModel_72 G1667 G55 (c45_X12_bad l D T _ a0 3 r0 a1 x1 x2 x3 x4 x5 x6 r1 x7 x8 x9 y0 x10 a2 a3 a4 a5 a6 a7 a8 a9 a10 a11 x11 a12 a13 a14 a15 x12 r2 r3 a16 x13 x14 a17 a18 x15 a19 x16 r4 a20 a21 x17 r5 a22 x18 x19 x20 x21 (by decide) (by decide) x1_a x1_b x2_a x2_b x3_a x3_b x4_a x4_b x5_a x5_b x6_a x6_b x7_a x7_b x8_a x8_b x9_a x9_b x10_a x10_b x11_a x11_b x12_a x12_b x13_a x13_b x14_a x14_b x15_a x15_b x16_a x16_b x17_a x17_b x18_a x18_b x19_a x19_b x20_a x20_b x21_a x21_b) 2 clX12 rfl rfl (by decide) rfl hl.1 rfl (Nat.le_of_ble_eq_true rfl) dX12_readNew_60 (by decide) (by decide) (by decide) (by decide)) w [2] [0, 1, 3] rfl rfl (by decide) (by decide) rfl rfl (fun v u H locs hp w => ?_)
      obtain ⟨z10, z11, z12⟩ := u
      have hv : iI z10 = v := hp.1
      subst hv
      have z10_a : 0 ≤ z10 := hp.2.1
      have z10_b : z10 ≤ 1 := hp.2.2.1
      have z11_a : (-2147483648) ≤ z11 := hp.2.2.2.1
      have z11_b : z11 ≤ 2147483647 := hp.2.2.2.2.1
      have z12_a : 0 ≤ z12 := hp.2.2.2.2.2.1
      have z12_b : z12 ≤ 940 := hp.2.2.2.2.2.2.1
      have pq13 : baQ x6 3 z11 := hp.2.2.2.2.2.2.2.1
      have pq14 : z12 = x5 := hp.2.2.2.2.2.2.2.2.1
      have w : WD D A s.heap [(a1, .inl (T 0, 940, .inl (cI f0))), (a3, .inl (T 0, 53, .inl (cI f1))), (a8, .inl (T 1, 12, .inr (.inl h0))), (a0, .inr (11, [.int r0, .ref a1, .int (iI x1), .int (iI x2), .int (iI x3), .int (iI x4), .int (iI x5), .int (iI x6), .int r1, .int (iI x7), .int (iI z11), .int (iI z12), .long y0, .int (iI x10), .ref a2, .ref a3, .ref a4, .ref a5, .ref a6, .ref a7, .ref a8, .ref a9, .ref a10, .ref a11, .int (iI x11), .ref a12, .ref a13, .ref a14, .ref a15, .int (iI x12), .int r2, .int r3, .ref a16, .int (iI x13), .int (iI x14), .ref a17, .ref a18, .int (iI x15), .ref a19, .int (iI x16), .int r4, .ref a20, .ref a21, .int (iI x17), .int r5, .ref a22, .int (iI x18), .int (iI x19), .int (iI x20), .int (iI x21)]))] H locs := w
      rcases hp.2.2.2.2.2.2.2.2.2 with hr
      · subst hr
        exact ret _ (0, x4, x5, x6, r1, x7, z11, z12, y0, h0) _ _ _ _ _ [3, 0, 1, 2] dX12_readNew_63 (by decide +kernel) ⟨rfl, (show (0 : Int) ≤ 0 from by decide), (show (0 : Int) ≤ 1 from by decide), x4_a, x4_b, x5_a, x5_b, x6_a, x6_b, x7_a, x7_b, z11_a, z11_b, z12_a, z12_b, (show 0 ≤ (x4 - x4) from by omega), (show 0 ≤ ((((x4 - x4) - x6) + 4) - 0) from by omega), (show ∀ x : Tk × Int × Int, gT x x6 x5 x4 y0 r1 x7 → RC (sChk f1 h0 x) 0 z11 z12 ∧ (0 = 1 → gT (nx f0 x2 x3 x) x6 x5 x4 y0 r1 x7 ∧ h0 = vp_updL h0 (ix x0) (wdO x.1)) from (new_B pq2 (by omega) (by omega) pq13 pq14)), (show kpB 0 x8 z11 from (fun e => absurd e (by decide)))⟩ w (by decide) rfl
    · replace c_9 := (iI_eq (Int.le_trans (by decide) z6_a) (Int.le_trans z6_b (by decide)) (by decide) (by decide)).mp c_9
      refine lv_aload_n hx hb dX12_readNew_35 rfl (lv_at hl 0 rfl) ?_
      refine r_get (v := .ref a8) M w 2 20 clX12 rfl (by decide) G1483 rfl rfl dX12_readNew_36 ?_
      refine lv_bipush (v := iI 9) hx hb dX12_readNew_39 (by decide +kernel) ?_
      refine lv_aload_n hx hb dX12_readNew_41 rfl (lv_at hl 0 rfl) ?_
      refine r_get (v := .ref a3) M w 2 15 clX12 rfl (by decide) G1478 rfl rfl dX12_readNew_42 ?_
      refine lv_iconst (v := iI 1) hx hb dX12_readNew_45 (by decide +kernel) ?_
      refine r_iald (v := iI (f1 1)) M w 1 rfl (iI_in (by decide) (by decide) (by decide)) (cI_at (by omega) (by omega)) dX12_readNew_46 ?_
      have hh15 : (-2147483648) ≤ (f1 1) ∧ (f1 1) ≤ 2147483647 := f1_h.1 1
      have hh16 : 0 ≤ (f1 1) ∧ (f1 1) ≤ 3 := (f1_h.2.1 1).2.1 (by omega)
      refine lv_aload_n hx hb dX12_readNew_47 rfl (lv_at hl 0 rfl) ?_
      refine r_get (v := .long y0) M w 2 12 clX12 rfl (by decide) G1475 rfl rfl dX12_readNew_48 ?_
      refine k_I (ce := 0) (sl := 0) (rest := []) (wr := [(a1, .inl (T 0, 940, .inl (cI f0))), (a3, .inl (T 0, 53, .inl (cI f1))), (a0, .inr (11, [.int r0, .ref a1, .int (iI x1), .int (iI x2), .int (iI x3), .int (iI x4), .int (iI x5), .int (iI x6), .int r1, .int (iI x7), .int (iI x8), .int (iI x9), .long y0, .int (iI x10), .ref a2, .ref a3, .ref a4, .ref a5, .ref a6, .ref a7, .ref a8, .ref a9, .ref a10, .ref a11, .int (iI x11), .ref a12, .ref a13, .ref a14, .ref a15, .int (iI x12), .int r2, .int r3, .ref a16, .int (iI x13), .int (iI x14), .ref a17, .ref a18, .int (iI x15), .ref a19, .int (iI x16), .int r4, .ref a20, .ref a21, .int (iI x17), .int r5, .ref a22, .int (iI x18), .int (iI x19), .int (iI x20), .int (iI x21)]))]) (r_S (f := 0) [3] M w V_HookedCityModel_179 G1678 (c52_X12_findIn l D T _ a8 (f1 1) y0 h0 (by omega) (by omega)) rfl (by decide) rfl hl.1 rfl (Nat.le_of_ble_eq_true rfl) dX12_readNew_51 (by decide) (by decide) (by decide) (by decide)) w [3] [0, 1, 2] rfl rfl (by decide) (by decide) rfl rfl (fun v z17 H locs hp w => ?_)
      have hv : iI z17 = v := hp.1
      subst hv
      have z17_a : (-1) ≤ z17 := hp.2.1
      have z17_b : z17 ≤ 2 := hp.2.2.1
      have ee18 : 0 ≤ (((f1 1) - z17) - 1) := hp.2.2.2.1
      have pq19 : z17 = FI h0 9 (f1 1) y0 := hp.2.2.2.2
      have w : WD D A s.heap [(a1, .inl (T 0, 940, .inl (cI f0))), (a3, .inl (T 0, 53, .inl (cI f1))), (a0, .inr (11, [.int r0, .ref a1, .int (iI x1), .int (iI x2), .int (iI x3), .int (iI x4), .int (iI x5), .int (iI x6), .int r1, .int (iI x7), .int (iI x8), .int (iI x9), .long y0, .int (iI x10), .ref a2, .ref a3, .ref a4, .ref a5, .ref a6, .ref a7, .ref a8, .ref a9, .ref a10, .ref a11, .int (iI x11), .ref a12, .ref a13, .ref a14, .ref a15, .int (iI x12), .int r2, .int r3, .ref a16, .int (iI x13), .int (iI x14), .ref a17, .ref a18, .int (iI x15), .ref a19, .int (iI x16), .int r4, .ref a20, .ref a21, .int (iI x17), .int r5, .ref a22, .int (iI x18), .int (iI x19), .int (iI x20), .int (iI x21)])), (a8, .inl (T 1, 12, .inr (.inl h0)))] H locs := w
      refine lv_iconst (v := iI (-1)) hx hb dX12_readNew_54 (by decide +kernel) ?_
      refine lv_icmp_eq (tgt := 64) hx hb dX12_readNew_55 (by decide) (fun c_20 => ?_) (fun c_20 => ?_)
      · replace c_20 := (iI_eq (Int.le_trans (by decide) z17_a) (Int.le_trans z17_b (by decide)) (by decide) (by decide)).mp c_20
        refine lv_aload_n hx hb dX12_readNew_64 rfl (lv_at hl 0 rfl) ?_
        refine r_get (v := .ref a8) M w 2 20 clX12 rfl (by decide) G1483 rfl rfl dX12_readNew_65 ?_
        refine lv_iload_n hx hb dX12_readNew_68 rfl (lv_at hl 1 rfl) ?_
        refine lv_aload_n hx hb dX12_readNew_69 rfl (lv_at hl 0 rfl) ?_
        refine r_get (v := .long y0) M w 2 12 clX12 rfl (by decide) G1475 rfl rfl dX12_readNew_70 ?_
        refine r_last (ws' := [(a1, .inl (T 0, 940, .inl (cI f0))), (a3, .inl (T 0, 53, .inl (cI f1))), (a0, .inr (11, [.int r0, .ref a1, .int (iI x1), .int (iI x2), .int (iI x3), .int (iI x4), .int (iI x5), .int (iI x6), .int r1, .int (iI x7), .int (iI x8), .int (iI x9), .long y0, .int (iI x10), .ref a2, .ref a3, .ref a4, .ref a5, .ref a6, .ref a7, .ref a8, .ref a9, .ref a10, .ref a11, .int (iI x11), .ref a12, .ref a13, .ref a14, .ref a15, .int (iI x12), .int r2, .int r3, .ref a16, .int (iI x13), .int (iI x14), .ref a17, .ref a18, .int (iI x15), .ref a19, .int (iI x16), .int r4, .ref a20, .ref a21, .int (iI x17), .int r5, .ref a22, .int (iI x18), .int (iI x19), .int (iI x20), .int (iI x21)])), (a8, .inl (T 1, 12, .inr (.inl (vp_updL h0 (Int32.toNatClampNeg (iI x0)) y0))))]) M w 3 rfl (iI_in (by omega) (by omega) (by decide)) rfl dX12_readNew_73 (fun H locs w => ?_)
        refine lv_aload_n hx hb dX12_readNew_74 rfl (lv_at hl 0 rfl) ?_
        refine k_V (ce := 0) (sl := 0) (rest := []) (wr := [(a3, .inl (T 0, 53, .inl (cI f1))), (a8, .inl (T 1, 12, .inr (.inl (vp_updL h0 (Int32.toNatClampNeg (iI x0)) y0))))]) (r_V (f := 1) [2, 0] M w V_HookedCityModel_82 G1629 G49 (c12_X12_go l D T _ a0 r0 a1 x1 x2 x3 x4 x5 x6 r1 x7 x8 x9 y0 x10 a2 a3 a4 a5 a6 a7 a8 a9 a10 a11 x11 a12 a13 a14 a15 x12 r2 r3 a16 x13 x14 a17 a18 x15 a19 x16 r4 a20 a21 x17 r5 a22 x18 x19 x20 x21 f0 x1_a x1_b x2_a x2_b x3_a x3_b x4_a x4_b x5_a x5_b x6_a x6_b x7_a x7_b x8_a x8_b x9_a x9_b x10_a x10_b x11_a x11_b x12_a x12_b x13_a x13_b x14_a x14_b x15_a x15_b x16_a x16_b x17_a x17_b x18_a x18_b x19_a x19_b x20_a x20_b x21_a x21_b f0_h) 2 clX12 rfl rfl (by decide) rfl hl.1 rfl (Nat.le_of_ble_eq_true rfl) dX12_readNew_75 (by decide) (by decide) (by decide) (by decide)) w [2, 0] [1, 3] rfl rfl (by decide) (by decide) rfl rfl (fun u H locs hp w => ?_)
        obtain ⟨z21, z22, z23, fr24, z25, fy26⟩ := u
        have z21_a : 0 ≤ z21 := hp.1
        have z21_b : z21 ≤ 940 := hp.2.1
        have z22_a : 0 ≤ z22 := hp.2.2.1
        have z22_b : z22 ≤ 940 := hp.2.2.2.1
        have z23_a : 0 ≤ z23 := hp.2.2.2.2.1
        have z23_b : z23 ≤ 4 := hp.2.2.2.2.2.1
        have z25_a : (-2147483648) ≤ z25 := hp.2.2.2.2.2.2.1
        have z25_b : z25 ≤ 2147483647 := hp.2.2.2.2.2.2.2.1
        have ee27 : 0 ≤ (z21 - x4) := hp.2.2.2.2.2.2.2.2.1
        have ee28 : 0 ≤ (((z21 - x4) - z23) + 3) := hp.2.2.2.2.2.2.2.2.2.1
        have pq29 : gT (tkAt f0 x2 x3 x4) z23 z22 z21 fy26 fr24 z25 := hp.2.2.2.2.2.2.2.2.2.2
        have w : WD D A s.heap [(a3, .inl (T 0, 53, .inl (cI f1))), (a8, .inl (T 1, 12, .inr (.inl (vp_updL h0 (Int32.toNatClampNeg (iI x0)) y0)))), (a0, .inr (11, [.int r0, .ref a1, .int (iI x1), .int (iI x2), .int (iI x3), .int (iI z21), .int (iI z22), .int (iI z23), .int fr24, .int (iI z25), .int (iI x8), .int (iI x9), .long fy26, .int (iI x10), .ref a2, .ref a3, .ref a4, .ref a5, .ref a6, .ref a7, .ref a8, .ref a9, .ref a10, .ref a11, .int (iI x11), .ref a12, .ref a13, .ref a14, .ref a15, .int (iI x12), .int r2, .int r3, .ref a16, .int (iI x13), .int (iI x14), .ref a17, .ref a18, .int (iI x15), .ref a19, .int (iI x16), .int r4, .ref a20, .ref a21, .int (iI x17), .int r5, .ref a22, .int (iI x18), .int (iI x19), .int (iI x20), .int (iI x21)])), (a1, .inl (T 0, 940, .inl (cI f0)))] H locs := w
        refine lv_iconst (v := iI 1) hx hb dX12_readNew_78 (by decide +kernel) ?_
        exact ret _ (1, z21, z22, z23, fr24, z25, x8, x9, fy26, (vp_updL h0 (Int32.toNatClampNeg (iI x0)) y0)) _ _ _ _ _ [2, 3, 0, 1] dX12_readNew_79 (by decide +kernel) ⟨rfl, (show (0 : Int) ≤ 1 from by decide), (show (1 : Int) ≤ 1 from by decide), z21_a, z21_b, z22_a, z22_b, z23_a, z23_b, z25_a, z25_b, x8_a, x8_b, x9_a, x9_b, (show 0 ≤ (z21 - x4) from by omega), (show 0 ≤ ((((z21 - x4) - z23) + 4) - 1) from by omega), (show ∀ x : Tk × Int × Int, gT x x6 x5 x4 y0 r1 x7 → RC (sChk f1 h0 x) 1 x8 x9 ∧ (1 = 1 → gT (nx f0 x2 x3 x) z23 z22 z21 fy26 fr24 z25 ∧ (vp_updL h0 (Int32.toNatClampNeg (iI x0)) y0) = vp_updL h0 (ix x0) (wdO x.1)) from (new_D pq2 (by omega) ⟨by omega, by omega⟩ rfl pq29)), (show kpB 1 x8 x8 from (fun hr => by omega))⟩ w (by decide) rfl
      · replace c_20 : ¬ z17 = (-1) := fun h => c_20 ((iI_eq (Int.le_trans (by decide) z17_a) (Int.le_trans z17_b (by decide)) (by decide) (by decide)).mpr h)
        refine lv_aload_n hx hb dX12_readNew_58 rfl (lv_at hl 0 rfl) ?_
        refine lv_iconst (v := iI 3) hx hb dX12_readNew_59 (by decide +kernel) ?_
        refine k_I (ce := 0) (sl := 0) (rest := []) (wr := [(a1, .inl (T 0, 940, .inl (cI f0))), (a3, .inl (T 0, 53, .inl (cI f1))), (a8, .inl (T 1, 12, .inr (.inl h0)))]) (r_V (f := 0) [2] M w V_HookedCityModel_72 G1667 G55 (c45_X12_bad l D T _ a0 3 r0 a1 x1 x2 x3 x4 x5 x6 r1 x7 x8 x9 y0 x10 a2 a3 a4 a5 a6 a7 a8 a9 a10 a11 x11 a12 a13 a14 a15 x12 r2 r3 a16 x13 x14 a17 a18 x15 a19 x16 r4 a20 a21 x17 r5 a22 x18 x19 x20 x21 (by decide) (by decide) x1_a x1_b x2_a x2_b x3_a x3_b x4_a x4_b x5_a x5_b x6_a x6_b x7_a x7_b x8_a x8_b x9_a x9_b x10_a x10_b x11_a x11_b x12_a x12_b x13_a x13_b x14_a x14_b x15_a x15_b x16_a x16_b x17_a x17_b x18_a x18_b x19_a x19_b x20_a x20_b x21_a x21_b) 2 clX12 rfl rfl (by decide) rfl hl.1 rfl (Nat.le_of_ble_eq_true rfl) dX12_readNew_60 (by decide) (by decide) (by decide) (by decide)) w [2] [0, 1, 3] rfl rfl (by decide) (by decide) rfl rfl (fun v u H locs hp w => ?_)
        obtain ⟨z30, z31, z32⟩ := u
        have hv : iI z30 = v := hp.1
        subst hv
        have z30_a : 0 ≤ z30 := hp.2.1
        have z30_b : z30 ≤ 1 := hp.2.2.1
        have z31_a : (-2147483648) ≤ z31 := hp.2.2.2.1
        have z31_b : z31 ≤ 2147483647 := hp.2.2.2.2.1
        have z32_a : 0 ≤ z32 := hp.2.2.2.2.2.1
        have z32_b : z32 ≤ 940 := hp.2.2.2.2.2.2.1
        have pq33 : baQ x6 3 z31 := hp.2.2.2.2.2.2.2.1
        have pq34 : z32 = x5 := hp.2.2.2.2.2.2.2.2.1
        have w : WD D A s.heap [(a1, .inl (T 0, 940, .inl (cI f0))), (a3, .inl (T 0, 53, .inl (cI f1))), (a8, .inl (T 1, 12, .inr (.inl h0))), (a0, .inr (11, [.int r0, .ref a1, .int (iI x1), .int (iI x2), .int (iI x3), .int (iI x4), .int (iI x5), .int (iI x6), .int r1, .int (iI x7), .int (iI z31), .int (iI z32), .long y0, .int (iI x10), .ref a2, .ref a3, .ref a4, .ref a5, .ref a6, .ref a7, .ref a8, .ref a9, .ref a10, .ref a11, .int (iI x11), .ref a12, .ref a13, .ref a14, .ref a15, .int (iI x12), .int r2, .int r3, .ref a16, .int (iI x13), .int (iI x14), .ref a17, .ref a18, .int (iI x15), .ref a19, .int (iI x16), .int r4, .ref a20, .ref a21, .int (iI x17), .int r5, .ref a22, .int (iI x18), .int (iI x19), .int (iI x20), .int (iI x21)]))] H locs := w
        rcases hp.2.2.2.2.2.2.2.2.2 with hr
        · subst hr
          exact ret _ (0, x4, x5, x6, r1, x7, z31, z32, y0, h0) _ _ _ _ _ [3, 0, 1, 2] dX12_readNew_63 (by decide +kernel) ⟨rfl, (show (0 : Int) ≤ 0 from by decide), (show (0 : Int) ≤ 1 from by decide), x4_a, x4_b, x5_a, x5_b, x6_a, x6_b, x7_a, x7_b, z31_a, z31_b, z32_a, z32_b, (show 0 ≤ (x4 - x4) from by omega), (show 0 ≤ ((((x4 - x4) - x6) + 4) - 0) from by omega), (show ∀ x : Tk × Int × Int, gT x x6 x5 x4 y0 r1 x7 → RC (sChk f1 h0 x) 0 z31 z32 ∧ (0 = 1 → gT (nx f0 x2 x3 x) x6 x5 x4 y0 r1 x7 ∧ h0 = vp_updL h0 (ix x0) (wdO x.1)) from (new_B pq2 (by omega) (by omega) pq33 pq34)), (show kpB 0 x8 z31 from (fun e => absurd e (by decide)))⟩ w (by decide) rfl
  · replace c_3 := (iz_eq (Int.le_trans (by decide) z1_a) (Int.le_trans z1_b (by decide))).mp c_3
    refine lv_aload_n hx hb dX12_readNew_7 rfl (lv_at hl 0 rfl) ?_
    refine lv_iconst (v := iI 1) hx hb dX12_readNew_8 (by decide +kernel) ?_
    refine k_I (ce := 0) (sl := 0) (rest := []) (wr := [(a1, .inl (T 0, 940, .inl (cI f0))), (a3, .inl (T 0, 53, .inl (cI f1))), (a8, .inl (T 1, 12, .inr (.inl h0)))]) (r_V (f := 0) [3] M w V_HookedCityModel_72 G1667 G55 (c45_X12_bad l D T _ a0 1 r0 a1 x1 x2 x3 x4 x5 x6 r1 x7 x8 x9 y0 x10 a2 a3 a4 a5 a6 a7 a8 a9 a10 a11 x11 a12 a13 a14 a15 x12 r2 r3 a16 x13 x14 a17 a18 x15 a19 x16 r4 a20 a21 x17 r5 a22 x18 x19 x20 x21 (by decide) (by decide) x1_a x1_b x2_a x2_b x3_a x3_b x4_a x4_b x5_a x5_b x6_a x6_b x7_a x7_b x8_a x8_b x9_a x9_b x10_a x10_b x11_a x11_b x12_a x12_b x13_a x13_b x14_a x14_b x15_a x15_b x16_a x16_b x17_a x17_b x18_a x18_b x19_a x19_b x20_a x20_b x21_a x21_b) 3 clX12 rfl rfl (by decide) rfl hl.1 rfl (Nat.le_of_ble_eq_true rfl) dX12_readNew_9 (by decide) (by decide) (by decide) (by decide)) w [3] [0, 1, 2] rfl rfl (by decide) (by decide) rfl rfl (fun v u H locs hp w => ?_)
    obtain ⟨z35, z36, z37⟩ := u
    have hv : iI z35 = v := hp.1
    subst hv
    have z35_a : 0 ≤ z35 := hp.2.1
    have z35_b : z35 ≤ 1 := hp.2.2.1
    have z36_a : (-2147483648) ≤ z36 := hp.2.2.2.1
    have z36_b : z36 ≤ 2147483647 := hp.2.2.2.2.1
    have z37_a : 0 ≤ z37 := hp.2.2.2.2.2.1
    have z37_b : z37 ≤ 940 := hp.2.2.2.2.2.2.1
    have pq38 : baQ x6 1 z36 := hp.2.2.2.2.2.2.2.1
    have pq39 : z37 = x5 := hp.2.2.2.2.2.2.2.2.1
    have w : WD D A s.heap [(a1, .inl (T 0, 940, .inl (cI f0))), (a3, .inl (T 0, 53, .inl (cI f1))), (a8, .inl (T 1, 12, .inr (.inl h0))), (a0, .inr (11, [.int r0, .ref a1, .int (iI x1), .int (iI x2), .int (iI x3), .int (iI x4), .int (iI x5), .int (iI x6), .int r1, .int (iI x7), .int (iI z36), .int (iI z37), .long y0, .int (iI x10), .ref a2, .ref a3, .ref a4, .ref a5, .ref a6, .ref a7, .ref a8, .ref a9, .ref a10, .ref a11, .int (iI x11), .ref a12, .ref a13, .ref a14, .ref a15, .int (iI x12), .int r2, .int r3, .ref a16, .int (iI x13), .int (iI x14), .ref a17, .ref a18, .int (iI x15), .ref a19, .int (iI x16), .int r4, .ref a20, .ref a21, .int (iI x17), .int r5, .ref a22, .int (iI x18), .int (iI x19), .int (iI x20), .int (iI x21)]))] H locs := w
    rcases hp.2.2.2.2.2.2.2.2.2 with hr
    · subst hr
      exact ret _ (0, x4, x5, x6, r1, x7, z36, z37, y0, h0) _ _ _ _ _ [3, 0, 1, 2] dX12_readNew_12 (by decide +kernel) ⟨rfl, (show (0 : Int) ≤ 0 from by decide), (show (0 : Int) ≤ 1 from by decide), x4_a, x4_b, x5_a, x5_b, x6_a, x6_b, x7_a, x7_b, z36_a, z36_b, z37_a, z37_b, (show 0 ≤ (x4 - x4) from by omega), (show 0 ≤ ((((x4 - x4) - x6) + 4) - 0) from by omega), (show ∀ x : Tk × Int × Int, gT x x6 x5 x4 y0 r1 x7 → RC (sChk f1 h0 x) 0 z36 z37 ∧ (0 = 1 → gT (nx f0 x2 x3 x) x6 x5 x4 y0 r1 x7 ∧ h0 = vp_updL h0 (ix x0) (wdO x.1)) from (new_A pq2 (by omega) pq38 pq39)), (show kpB 0 x8 z36 from (fun e => absurd e (by decide)))⟩ w (by decide) rfl
set_option maxRecDepth 100000 in
set_option maxHeartbeats 4000000 in
theorem c54_X12_isOne (l : Launch) (D : va_G) (T : Nat → ClassId) (sz : Nat) (a0 : Nat) (r0 : Int32) (a1 : Nat) (x0 : Int) (x1 : Int) (x2 : Int) (x3 : Int) (x4 : Int) (x5 : Int) (r1 : Int32) (x6 : Int) (x7 : Int) (x8 : Int) (y0 : Int64) (x9 : Int) (a2 : Nat) (a3 : Nat) (a4 : Nat) (a5 : Nat) (a6 : Nat) (a7 : Nat) (a8 : Nat) (a9 : Nat) (a10 : Nat) (a11 : Nat) (x10 : Int) (a12 : Nat) (a13 : Nat) (a14 : Nat) (a15 : Nat) (x11 : Int) (r2 : Int32) (r3 : Int32) (a16 : Nat) (x12 : Int) (x13 : Int) (a17 : Nat) (a18 : Nat) (x14 : Int) (a19 : Nat) (x15 : Int) (r4 : Int32) (a20 : Nat) (a21 : Nat) (x16 : Int) (r5 : Int32) (a22 : Nat) (x17 : Int) (x18 : Int) (x19 : Int) (x20 : Int) (f0 : Int → Int) (h0 : Nat → Int64) (x0_a : 0 ≤ x0) (x0_b : x0 ≤ 940) (x1_a : 0 ≤ x1) (x1_b : x1 ≤ 940) (x2_a : 0 ≤ x2) (x2_b : x2 ≤ 940) (x3_a : 0 ≤ x3) (x3_b : x3 ≤ 940) (x4_a : 0 ≤ x4) (x4_b : x4 ≤ 940) (x5_a : 0 ≤ x5) (x5_b : x5 ≤ 4) (x6_a : (-2147483648) ≤ x6) (x6_b : x6 ≤ 2147483647) (x7_a : (-2147483648) ≤ x7) (x7_b : x7 ≤ 2147483647) (x8_a : 0 ≤ x8) (x8_b : x8 ≤ 940) (x9_a : (-2147483648) ≤ x9) (x9_b : x9 ≤ 2147483647) (x10_a : 0 ≤ x10) (x10_b : x10 ≤ 8) (x11_a : 0 ≤ x11) (x11_b : x11 ≤ 9) (x12_a : (-1) ≤ x12) (x12_b : x12 ≤ 9) (x13_a : (-1) ≤ x13) (x13_b : x13 ≤ 8) (x14_a : 0 ≤ x14) (x14_b : x14 ≤ 9) (x15_a : 0 ≤ x15) (x15_b : x15 ≤ 64) (x16_a : 0 ≤ x16) (x16_b : x16 ≤ 40) (x17_a : 0 ≤ x17) (x17_b : x17 ≤ 40) (x18_a : 0 ≤ x18) (x18_b : x18 ≤ 20) (x19_a : 0 ≤ x19) (x19_b : x19 ≤ 8) (x20_a : 0 ≤ x20) (x20_b : x20 ≤ 39) (f0_h : rdI f0) : Met l yX12_isOne (Cond.code yX12_isOne cX12_isOne 1 (some .boolean) :: GW) (Rm 3 0 0) (cPre [.ref a0] D T [(a0, .inr (11, [.int r0, .ref a1, .int (iI x0), .int (iI x1), .int (iI x2), .int (iI x3), .int (iI x4), .int (iI x5), .int r1, .int (iI x6), .int (iI x7), .int (iI x8), .long y0, .int (iI x9), .ref a2, .ref a3, .ref a4, .ref a5, .ref a6, .ref a7, .ref a8, .ref a9, .ref a10, .ref a11, .int (iI x10), .ref a12, .ref a13, .ref a14, .ref a15, .int (iI x11), .int r2, .int r3, .ref a16, .int (iI x12), .int (iI x13), .ref a17, .ref a18, .int (iI x14), .ref a19, .int (iI x15), .int r4, .ref a20, .ref a21, .int (iI x16), .int r5, .ref a22, .int (iI x17), .int (iI x18), .int (iI x19), .int (iI x20)])), (a3, .inl (T 0, 53, .inl (cI f0))), (a8, .inl (T 1, 12, .inr (.inl h0)))] sz) (qI D [(a0, .inr (11, [.int r0, .ref a1, .int (iI x0), .int (iI x1), .int (iI x2), .int (iI x3), .int (iI x4), .int (iI x5), .int r1, .int (iI x6), .int (iI x7), .int (iI x8), .long y0, .int (iI x9), .ref a2, .ref a3, .ref a4, .ref a5, .ref a6, .ref a7, .ref a8, .ref a9, .ref a10, .ref a11, .int (iI x10), .ref a12, .ref a13, .ref a14, .ref a15, .int (iI x11), .int r2, .int r3, .ref a16, .int (iI x12), .int (iI x13), .ref a17, .ref a18, .int (iI x14), .ref a19, .int (iI x15), .int r4, .ref a20, .ref a21, .int (iI x16), .int r5, .ref a22, .int (iI x17), .int (iI x18), .int (iI x19), .int (iI x20)])), (a3, .inl (T 0, 53, .inl (cI f0))), (a8, .inl (T 1, 12, .inr (.inl h0)))] sz (fun (v : Int32) (u : Int × Int × Int × Int) => iI u.1 = v ∧ 0 ≤ u.1 ∧ u.1 ≤ 1 ∧ (-2147483648) ≤ u.2.1 ∧ u.2.1 ≤ 2147483647 ∧ 0 ≤ u.2.2.1 ∧ u.2.2.1 ≤ 940 ∧ (-2147483648) ≤ u.2.2.2 ∧ u.2.2.2 ≤ 2147483647 ∧ 0 ≤ ((u.2.2.2 + 4294967296) - (u.1 * 4294967296)) ∧ 0 ≤ (((8 - u.2.2.2) + 4294967296) - (u.1 * 4294967296)) ∧ (u.1 = 1 → u.2.2.2 < f0 0) ∧ (∀ x : Tk × Int × Int, gT x x5 x4 x3 y0 r1 x6 → RV (sOne f0 h0 x) u.1 u.2.1 u.2.2.1 u.2.2.2) ∧ (kpB u.1 x7 u.2.1)) (fun u => [(a0, .inr (11, [.int r0, .ref a1, .int (iI x0), .int (iI x1), .int (iI x2), .int (iI x3), .int (iI x4), .int (iI x5), .int r1, .int (iI x6), .int (iI u.2.1), .int (iI u.2.2.1), .long y0, .int (iI u.2.2.2), .ref a2, .ref a3, .ref a4, .ref a5, .ref a6, .ref a7, .ref a8, .ref a9, .ref a10, .ref a11, .int (iI x10), .ref a12, .ref a13, .ref a14, .ref a15, .int (iI x11), .int r2, .int r3, .ref a16, .int (iI x12), .int (iI x13), .ref a17, .ref a18, .int (iI x14), .ref a19, .int (iI x15), .int r4, .ref a20, .ref a21, .int (iI x16), .int r5, .ref a22, .int (iI x17), .int (iI x18), .int (iI x19), .int (iI x20)])), (a3, .inl (T 0, 53, .inl (cI f0))), (a8, .inl (T 1, 12, .inr (.inl h0)))])) 0 0 (va_A [(a0, .inr (11, [.int r0, .ref a1, .int (iI x0), .int (iI x1), .int (iI x2), .int (iI x3), .int (iI x4), .int (iI x5), .int r1, .int (iI x6), .int (iI x7), .int (iI x8), .long y0, .int (iI x9), .ref a2, .ref a3, .ref a4, .ref a5, .ref a6, .ref a7, .ref a8, .ref a9, .ref a10, .ref a11, .int (iI x10), .ref a12, .ref a13, .ref a14, .ref a15, .int (iI x11), .int r2, .int r3, .ref a16, .int (iI x12), .int (iI x13), .ref a17, .ref a18, .int (iI x14), .ref a19, .int (iI x15), .int r4, .ref a20, .ref a21, .int (iI x16), .int r5, .ref a22, .int (iI x17), .int (iI x18), .int (iI x19), .int (iI x20)])), (a3, .inl (T 0, 53, .inl (cI f0))), (a8, .inl (T 1, 12, .inr (.inl h0)))] sz) := by
  refine e_Z (by decide) (Nat.le_of_ble_eq_true rfl) ?_
  intro p e s m args below meth c A Q ls M hin w ret hl
  have hx := M.1.1
  have hb := M.1.2.1
  have hl : lv_has ls 1 [(0, .ref a0)] := hl
  refine lv_aload_n hx hb dX12_isOne_0 rfl (lv_at hl 0 rfl) ?_
  refine k_I (ce := 0) (sl := 0) (rest := []) (wr := [(a3, .inl (T 0, 53, .inl (cI f0))), (a8, .inl (T 1, 12, .inr (.inl h0)))]) (r_V (f := 2) [0] M w V_HookedCityModel_175 G1675 G57 (c44_X12_isName l D T _ a0 r0 a1 x0 x1 x2 x3 x4 x5 r1 x6 x7 x8 y0 x9 a2 a3 a4 a5 a6 a7 a8 a9 a10 a11 x10 a12 a13 a14 a15 x11 r2 r3 a16 x12 x13 a17 a18 x14 a19 x15 r4 a20 a21 x16 r5 a22 x17 x18 x19 x20 x0_a x0_b x1_a x1_b x2_a x2_b x3_a x3_b x4_a x4_b x5_a x5_b x6_a x6_b x7_a x7_b x8_a x8_b x9_a x9_b x10_a x10_b x11_a x11_b x12_a x12_b x13_a x13_b x14_a x14_b x15_a x15_b x16_a x16_b x17_a x17_b x18_a x18_b x19_a x19_b x20_a x20_b) 0 clX12 rfl rfl (by decide) rfl hl.1 rfl (Nat.le_of_ble_eq_true rfl) dX12_isOne_1 (by decide) (by decide) (by decide) (by decide)) w [0] [1, 2] rfl rfl (by decide) (by decide) rfl rfl (fun v z1 H locs hp w => ?_)
  have hv : iI z1 = v := hp.1
  subst hv
  have z1_a : 0 ≤ z1 := hp.2.1
  have z1_b : z1 ≤ 1 := hp.2.2.1
  have pq2 : nmQ z1 x5 y0 := hp.2.2.2
  have w : WD D A s.heap [(a3, .inl (T 0, 53, .inl (cI f0))), (a8, .inl (T 1, 12, .inr (.inl h0))), (a0, .inr (11, [.int r0, .ref a1, .int (iI x0), .int (iI x1), .int (iI x2), .int (iI x3), .int (iI x4), .int (iI x5), .int r1, .int (iI x6), .int (iI x7), .int (iI x8), .long y0, .int (iI x9), .ref a2, .ref a3, .ref a4, .ref a5, .ref a6, .ref a7, .ref a8, .ref a9, .ref a10, .ref a11, .int (iI x10), .ref a12, .ref a13, .ref a14, .ref a15, .int (iI x11), .int r2, .int r3, .ref a16, .int (iI x12), .int (iI x13), .ref a17, .ref a18, .int (iI x14), .ref a19, .int (iI x15), .int r4, .ref a20, .ref a21, .int (iI x16), .int r5, .ref a22, .int (iI x17), .int (iI x18), .int (iI x19), .int (iI x20)]))] H locs := w
  refine lv_if_ne (tgt := 13) hx hb dX12_isOne_4 (by decide) (fun c_3 => ?_) (fun c_3 => ?_)
  · replace c_3 : ¬ z1 = 0 := fun h => c_3 ((iz_eq (Int.le_trans (by decide) z1_a) (Int.le_trans z1_b (by decide))).mpr h)
    refine lv_aload_n hx hb dX12_isOne_13 rfl (lv_at hl 0 rfl) ?_
    refine lv_aload_n hx hb dX12_isOne_14 rfl (lv_at hl 0 rfl) ?_
    refine r_get (v := .ref a8) M w 2 20 clX12 rfl (by decide) G1483 rfl rfl dX12_isOne_15 ?_
    refine lv_iconst (v := iI 0) hx hb dX12_isOne_18 (by decide +kernel) ?_
    refine lv_aload_n hx hb dX12_isOne_19 rfl (lv_at hl 0 rfl) ?_
    refine r_get (v := .ref a3) M w 2 15 clX12 rfl (by decide) G1478 rfl rfl dX12_isOne_20 ?_
    refine lv_iconst (v := iI 0) hx hb dX12_isOne_23 (by decide +kernel) ?_
    refine r_iald (v := iI (f0 0)) M w 0 rfl (iI_in (by decide) (by decide) (by decide)) (cI_at (by omega) (by omega)) dX12_isOne_24 ?_
    have hh4 : (-2147483648) ≤ (f0 0) ∧ (f0 0) ≤ 2147483647 := f0_h.1 0
    have hh5 : 0 ≤ (f0 0) ∧ (f0 0) ≤ 9 := (f0_h.2.1 0).1 (by omega)
    refine lv_aload_n hx hb dX12_isOne_25 rfl (lv_at hl 0 rfl) ?_
    refine r_get (v := .long y0) M w 2 12 clX12 rfl (by decide) G1475 rfl rfl dX12_isOne_26 ?_
    refine k_I (ce := 0) (sl := 0) (rest := [.ref a0]) (wr := [(a3, .inl (T 0, 53, .inl (cI f0))), (a0, .inr (11, [.int r0, .ref a1, .int (iI x0), .int (iI x1), .int (iI x2), .int (iI x3), .int (iI x4), .int (iI x5), .int r1, .int (iI x6), .int (iI x7), .int (iI x8), .long y0, .int (iI x9), .ref a2, .ref a3, .ref a4, .ref a5, .ref a6, .ref a7, .ref a8, .ref a9, .ref a10, .ref a11, .int (iI x10), .ref a12, .ref a13, .ref a14, .ref a15, .int (iI x11), .int r2, .int r3, .ref a16, .int (iI x12), .int (iI x13), .ref a17, .ref a18, .int (iI x14), .ref a19, .int (iI x15), .int r4, .ref a20, .ref a21, .int (iI x16), .int r5, .ref a22, .int (iI x17), .int (iI x18), .int (iI x19), .int (iI x20)]))]) (r_S (f := 0) [1] M w V_HookedCityModel_179 G1678 (c51_X12_findIn l D T _ a8 (f0 0) y0 h0 (by omega) (by omega)) rfl (by decide) rfl hl.1 rfl (Nat.le_of_ble_eq_true rfl) dX12_isOne_29 (by decide) (by decide) (by decide) (by decide)) w [1] [0, 2] rfl rfl (by decide) (by decide) rfl rfl (fun v z6 H locs hp w => ?_)
    have hv : iI z6 = v := hp.1
    subst hv
    have z6_a : (-1) ≤ z6 := hp.2.1
    have z6_b : z6 ≤ 8 := hp.2.2.1
    have ee7 : 0 ≤ (((f0 0) - z6) - 1) := hp.2.2.2.1
    have pq8 : z6 = FI h0 0 (f0 0) y0 := hp.2.2.2.2
    have w : WD D A s.heap [(a3, .inl (T 0, 53, .inl (cI f0))), (a0, .inr (11, [.int r0, .ref a1, .int (iI x0), .int (iI x1), .int (iI x2), .int (iI x3), .int (iI x4), .int (iI x5), .int r1, .int (iI x6), .int (iI x7), .int (iI x8), .long y0, .int (iI x9), .ref a2, .ref a3, .ref a4, .ref a5, .ref a6, .ref a7, .ref a8, .ref a9, .ref a10, .ref a11, .int (iI x10), .ref a12, .ref a13, .ref a14, .ref a15, .int (iI x11), .int r2, .int r3, .ref a16, .int (iI x12), .int (iI x13), .ref a17, .ref a18, .int (iI x14), .ref a19, .int (iI x15), .int r4, .ref a20, .ref a21, .int (iI x16), .int r5, .ref a22, .int (iI x17), .int (iI x18), .int (iI x19), .int (iI x20)])), (a8, .inl (T 1, 12, .inr (.inl h0)))] H locs := w
    refine r_put (ws' := [(a3, .inl (T 0, 53, .inl (cI f0))), (a0, .inr (11, [.int r0, .ref a1, .int (iI x0), .int (iI x1), .int (iI x2), .int (iI x3), .int (iI x4), .int (iI x5), .int r1, .int (iI x6), .int (iI x7), .int (iI x8), .long y0, .int (iI z6), .ref a2, .ref a3, .ref a4, .ref a5, .ref a6, .ref a7, .ref a8, .ref a9, .ref a10, .ref a11, .int (iI x10), .ref a12, .ref a13, .ref a14, .ref a15, .int (iI x11), .int r2, .int r3, .ref a16, .int (iI x12), .int (iI x13), .ref a17, .ref a18, .int (iI x14), .ref a19, .int (iI x15), .int r4, .ref a20, .ref a21, .int (iI x16), .int r5, .ref a22, .int (iI x17), .int (iI x18), .int (iI x19), .int (iI x20)])), (a8, .inl (T 1, 12, .inr (.inl h0)))]) M w 1 13 clX12 rfl (by decide) G1476 rfl rfl rfl rfl (Nat.le_of_ble_eq_true rfl) rfl dX12_isOne_32 (fun H locs w => ?_)
    refine lv_aload_n hx hb dX12_isOne_35 rfl (lv_at hl 0 rfl) ?_
    refine r_get (v := .int (iI z6)) M w 1 13 clX12 rfl (by decide) G1476 rfl rfl dX12_isOne_36 ?_
    refine lv_iconst (v := iI (-1)) hx hb dX12_isOne_39 (by decide +kernel) ?_
    refine lv_icmp_ne (tgt := 51) hx hb dX12_isOne_40 (by decide) (fun c_9 => ?_) (fun c_9 => ?_)
    · replace c_9 : ¬ z6 = (-1) := fun h => c_9 ((iI_eq (Int.le_trans (by decide) z6_a) (Int.le_trans z6_b (by decide)) (by decide) (by decide)).mpr h)
      refine lv_iconst (v := iI 1) hx hb dX12_isOne_51 (by decide +kernel) ?_
      refine lv_goto (tgt := 56) hx hb dX12_isOne_52 (by decide) ?_
      exact ret _ (1, x7, x8, z6) _ _ _ _ _ [1, 0, 2] dX12_isOne_56 (by decide +kernel) ⟨rfl, (show (0 : Int) ≤ 1 from by decide), (show (1 : Int) ≤ 1 from by decide), x7_a, x7_b, x8_a, x8_b, (show (-2147483648) ≤ z6 from by omega), (show z6 ≤ 2147483647 from by omega), (show 0 ≤ ((z6 + 4294967296) - (1 * 4294967296)) from by omega), (show 0 ≤ (((8 - z6) + 4294967296) - (1 * 4294967296)) from by omega), (show 1 = 1 → z6 < f0 0 from (fun _ => by omega)), (show ∀ x : Tk × Int × Int, gT x x5 x4 x3 y0 r1 x6 → RV (sOne f0 h0 x) 1 x7 x8 z6 from (one_C pq2 (by omega) pq8 (by omega))), (show kpB 1 x7 x7 from (fun hr => by omega))⟩ w (by decide) rfl
    · replace c_9 := (iI_eq (Int.le_trans (by decide) z6_a) (Int.le_trans z6_b (by decide)) (by decide) (by decide)).mp c_9
      refine lv_aload_n hx hb dX12_isOne_43 rfl (lv_at hl 0 rfl) ?_
      refine lv_iconst (v := iI 3) hx hb dX12_isOne_44 (by decide +kernel) ?_
      refine k_I (ce := 0) (sl := 0) (rest := []) (wr := [(a3, .inl (T 0, 53, .inl (cI f0))), (a8, .inl (T 1, 12, .inr (.inl h0)))]) (r_V (f := 0) [1] M w V_HookedCityModel_72 G1667 G55 (c45_X12_bad l D T _ a0 3 r0 a1 x0 x1 x2 x3 x4 x5 r1 x6 x7 x8 y0 z6 a2 a3 a4 a5 a6 a7 a8 a9 a10 a11 x10 a12 a13 a14 a15 x11 r2 r3 a16 x12 x13 a17 a18 x14 a19 x15 r4 a20 a21 x16 r5 a22 x17 x18 x19 x20 (by decide) (by decide) x0_a x0_b x1_a x1_b x2_a x2_b x3_a x3_b x4_a x4_b x5_a x5_b x6_a x6_b x7_a x7_b x8_a x8_b (by omega) (by omega) x10_a x10_b x11_a x11_b x12_a x12_b x13_a x13_b x14_a x14_b x15_a x15_b x16_a x16_b x17_a x17_b x18_a x18_b x19_a x19_b x20_a x20_b) 1 clX12 rfl rfl (by decide) rfl hl.1 rfl (Nat.le_of_ble_eq_true rfl) dX12_isOne_45 (by decide) (by decide) (by decide) (by decide)) w [1] [0, 2] rfl rfl (by decide) (by decide) rfl rfl (fun v u H locs hp w => ?_)
      obtain ⟨z10, z11, z12⟩ := u
      have hv : iI z10 = v := hp.1
      subst hv
      have z10_a : 0 ≤ z10 := hp.2.1
      have z10_b : z10 ≤ 1 := hp.2.2.1
      have z11_a : (-2147483648) ≤ z11 := hp.2.2.2.1
      have z11_b : z11 ≤ 2147483647 := hp.2.2.2.2.1
      have z12_a : 0 ≤ z12 := hp.2.2.2.2.2.1
      have z12_b : z12 ≤ 940 := hp.2.2.2.2.2.2.1
      have pq13 : baQ x5 3 z11 := hp.2.2.2.2.2.2.2.1
      have pq14 : z12 = x4 := hp.2.2.2.2.2.2.2.2.1
      have w : WD D A s.heap [(a3, .inl (T 0, 53, .inl (cI f0))), (a8, .inl (T 1, 12, .inr (.inl h0))), (a0, .inr (11, [.int r0, .ref a1, .int (iI x0), .int (iI x1), .int (iI x2), .int (iI x3), .int (iI x4), .int (iI x5), .int r1, .int (iI x6), .int (iI z11), .int (iI z12), .long y0, .int (iI z6), .ref a2, .ref a3, .ref a4, .ref a5, .ref a6, .ref a7, .ref a8, .ref a9, .ref a10, .ref a11, .int (iI x10), .ref a12, .ref a13, .ref a14, .ref a15, .int (iI x11), .int r2, .int r3, .ref a16, .int (iI x12), .int (iI x13), .ref a17, .ref a18, .int (iI x14), .ref a19, .int (iI x15), .int r4, .ref a20, .ref a21, .int (iI x16), .int r5, .ref a22, .int (iI x17), .int (iI x18), .int (iI x19), .int (iI x20)]))] H locs := w
      rcases hp.2.2.2.2.2.2.2.2.2 with hr
      · subst hr
        refine lv_if_eq (tgt := 55) hx hb dX12_isOne_48 (by decide) (fun _ => ?_) (fun c => absurd (by decide +kernel) c)
        refine lv_iconst (v := iI 0) hx hb dX12_isOne_55 (by decide +kernel) ?_
        exact ret _ (0, z11, z12, z6) _ _ _ _ _ [2, 0, 1] dX12_isOne_56 (by decide +kernel) ⟨rfl, (show (0 : Int) ≤ 0 from by decide), (show (0 : Int) ≤ 1 from by decide), z11_a, z11_b, z12_a, z12_b, (show (-2147483648) ≤ z6 from by omega), (show z6 ≤ 2147483647 from by omega), (show 0 ≤ ((z6 + 4294967296) - (0 * 4294967296)) from by omega), (show 0 ≤ (((8 - z6) + 4294967296) - (0 * 4294967296)) from by omega), (show 0 = 1 → z6 < f0 0 from (fun h => absurd h (by decide))), (show ∀ x : Tk × Int × Int, gT x x5 x4 x3 y0 r1 x6 → RV (sOne f0 h0 x) 0 z11 z12 z6 from (one_B pq2 (by omega) pq8 (by omega) pq13 pq14)), (show kpB 0 x7 z11 from (fun e => absurd e (by decide)))⟩ w (by decide) rfl
  · replace c_3 := (iz_eq (Int.le_trans (by decide) z1_a) (Int.le_trans z1_b (by decide))).mp c_3
    refine lv_aload_n hx hb dX12_isOne_7 rfl (lv_at hl 0 rfl) ?_
    refine lv_iconst (v := iI 1) hx hb dX12_isOne_8 (by decide +kernel) ?_
    refine k_I (ce := 0) (sl := 0) (rest := []) (wr := [(a3, .inl (T 0, 53, .inl (cI f0))), (a8, .inl (T 1, 12, .inr (.inl h0)))]) (r_V (f := 0) [2] M w V_HookedCityModel_72 G1667 G55 (c45_X12_bad l D T _ a0 1 r0 a1 x0 x1 x2 x3 x4 x5 r1 x6 x7 x8 y0 x9 a2 a3 a4 a5 a6 a7 a8 a9 a10 a11 x10 a12 a13 a14 a15 x11 r2 r3 a16 x12 x13 a17 a18 x14 a19 x15 r4 a20 a21 x16 r5 a22 x17 x18 x19 x20 (by decide) (by decide) x0_a x0_b x1_a x1_b x2_a x2_b x3_a x3_b x4_a x4_b x5_a x5_b x6_a x6_b x7_a x7_b x8_a x8_b x9_a x9_b x10_a x10_b x11_a x11_b x12_a x12_b x13_a x13_b x14_a x14_b x15_a x15_b x16_a x16_b x17_a x17_b x18_a x18_b x19_a x19_b x20_a x20_b) 2 clX12 rfl rfl (by decide) rfl hl.1 rfl (Nat.le_of_ble_eq_true rfl) dX12_isOne_9 (by decide) (by decide) (by decide) (by decide)) w [2] [0, 1] rfl rfl (by decide) (by decide) rfl rfl (fun v u H locs hp w => ?_)
    obtain ⟨z15, z16, z17⟩ := u
    have hv : iI z15 = v := hp.1
    subst hv
    have z15_a : 0 ≤ z15 := hp.2.1
    have z15_b : z15 ≤ 1 := hp.2.2.1
    have z16_a : (-2147483648) ≤ z16 := hp.2.2.2.1
    have z16_b : z16 ≤ 2147483647 := hp.2.2.2.2.1
    have z17_a : 0 ≤ z17 := hp.2.2.2.2.2.1
    have z17_b : z17 ≤ 940 := hp.2.2.2.2.2.2.1
    have pq18 : baQ x5 1 z16 := hp.2.2.2.2.2.2.2.1
    have pq19 : z17 = x4 := hp.2.2.2.2.2.2.2.2.1
    have w : WD D A s.heap [(a3, .inl (T 0, 53, .inl (cI f0))), (a8, .inl (T 1, 12, .inr (.inl h0))), (a0, .inr (11, [.int r0, .ref a1, .int (iI x0), .int (iI x1), .int (iI x2), .int (iI x3), .int (iI x4), .int (iI x5), .int r1, .int (iI x6), .int (iI z16), .int (iI z17), .long y0, .int (iI x9), .ref a2, .ref a3, .ref a4, .ref a5, .ref a6, .ref a7, .ref a8, .ref a9, .ref a10, .ref a11, .int (iI x10), .ref a12, .ref a13, .ref a14, .ref a15, .int (iI x11), .int r2, .int r3, .ref a16, .int (iI x12), .int (iI x13), .ref a17, .ref a18, .int (iI x14), .ref a19, .int (iI x15), .int r4, .ref a20, .ref a21, .int (iI x16), .int r5, .ref a22, .int (iI x17), .int (iI x18), .int (iI x19), .int (iI x20)]))] H locs := w
    rcases hp.2.2.2.2.2.2.2.2.2 with hr
    · subst hr
      exact ret _ (0, z16, z17, x9) _ _ _ _ _ [2, 0, 1] dX12_isOne_12 (by decide +kernel) ⟨rfl, (show (0 : Int) ≤ 0 from by decide), (show (0 : Int) ≤ 1 from by decide), z16_a, z16_b, z17_a, z17_b, x9_a, x9_b, (show 0 ≤ ((x9 + 4294967296) - (0 * 4294967296)) from by omega), (show 0 ≤ (((8 - x9) + 4294967296) - (0 * 4294967296)) from by omega), (show 0 = 1 → x9 < f0 0 from (fun h => absurd h (by decide))), (show ∀ x : Tk × Int × Int, gT x x5 x4 x3 y0 r1 x6 → RV (sOne f0 h0 x) 0 z16 z17 x9 from (one_A pq2 (by omega) pq18 pq19)), (show kpB 0 x7 z16 from (fun e => absurd e (by decide)))⟩ w (by decide) rfl
set_option maxRecDepth 100000 in
set_option maxHeartbeats 4000000 in
theorem c55_X12_put (l : Launch) (D : va_G) (T : Nat → ClassId) (sz : Nat) (a0 : Nat) (x0 : Int) (x1 : Int) (r0 : Int32) (a1 : Nat) (x2 : Int) (x3 : Int) (x4 : Int) (x5 : Int) (x6 : Int) (x7 : Int) (r1 : Int32) (x8 : Int) (x9 : Int) (x10 : Int) (y0 : Int64) (x11 : Int) (a2 : Nat) (a3 : Nat) (a4 : Nat) (a5 : Nat) (a6 : Nat) (a7 : Nat) (a8 : Nat) (a9 : Nat) (a10 : Nat) (a11 : Nat) (x12 : Int) (a12 : Nat) (a13 : Nat) (a14 : Nat) (a15 : Nat) (x13 : Int) (r2 : Int32) (r3 : Int32) (a16 : Nat) (x14 : Int) (x15 : Int) (a17 : Nat) (a18 : Nat) (x16 : Int) (a19 : Nat) (x17 : Int) (r4 : Int32) (a20 : Nat) (a21 : Nat) (x18 : Int) (r5 : Int32) (a22 : Nat) (x19 : Int) (x20 : Int) (x21 : Int) (x22 : Int) (f0 : Int → Int) (x0_a : 2 ≤ x0) (x0_b : x0 ≤ 52) (x1_a : 0 ≤ x1) (x1_b : x1 ≤ 1) (x2_a : 0 ≤ x2) (x2_b : x2 ≤ 940) (x3_a : 0 ≤ x3) (x3_b : x3 ≤ 940) (x4_a : 0 ≤ x4) (x4_b : x4 ≤ 940) (x5_a : 0 ≤ x5) (x5_b : x5 ≤ 940) (x6_a : 0 ≤ x6) (x6_b : x6 ≤ 940) (x7_a : 0 ≤ x7) (x7_b : x7 ≤ 4) (x8_a : (-2147483648) ≤ x8) (x8_b : x8 ≤ 2147483647) (x9_a : (-2147483648) ≤ x9) (x9_b : x9 ≤ 2147483647) (x10_a : 0 ≤ x10) (x10_b : x10 ≤ 940) (x11_a : (-2147483648) ≤ x11) (x11_b : x11 ≤ 2147483647) (x12_a : 0 ≤ x12) (x12_b : x12 ≤ 8) (x13_a : 0 ≤ x13) (x13_b : x13 ≤ 9) (x14_a : (-1) ≤ x14) (x14_b : x14 ≤ 9) (x15_a : (-1) ≤ x15) (x15_b : x15 ≤ 8) (x16_a : 0 ≤ x16) (x16_b : x16 ≤ 9) (x17_a : 0 ≤ x17) (x17_b : x17 ≤ 64) (x18_a : 0 ≤ x18) (x18_b : x18 ≤ 40) (x19_a : 0 ≤ x19) (x19_b : x19 ≤ 40) (x20_a : 0 ≤ x20) (x20_b : x20 ≤ 20) (x21_a : 0 ≤ x21) (x21_b : x21 ≤ 8) (x22_a : 0 ≤ x22) (x22_b : x22 ≤ 39) (f0_h : rdI f0) (pp_v : x1 = 1 → rdI (upz f0 x0 x11)) : Met l yX12_put (Cond.code yX12_put cX12_put 3 (some .boolean) :: GW) (Rm 0 0 0) (cPre [.ref a0, .int (iI x0), .int (iI x1)] D T [(a0, .inr (11, [.int r0, .ref a1, .int (iI x2), .int (iI x3), .int (iI x4), .int (iI x5), .int (iI x6), .int (iI x7), .int r1, .int (iI x8), .int (iI x9), .int (iI x10), .long y0, .int (iI x11), .ref a2, .ref a3, .ref a4, .ref a5, .ref a6, .ref a7, .ref a8, .ref a9, .ref a10, .ref a11, .int (iI x12), .ref a12, .ref a13, .ref a14, .ref a15, .int (iI x13), .int r2, .int r3, .ref a16, .int (iI x14), .int (iI x15), .ref a17, .ref a18, .int (iI x16), .ref a19, .int (iI x17), .int r4, .ref a20, .ref a21, .int (iI x18), .int r5, .ref a22, .int (iI x19), .int (iI x20), .int (iI x21), .int (iI x22)])), (a3, .inl (T 0, 53, .inl (cI f0)))] sz) (qI D [(a0, .inr (11, [.int r0, .ref a1, .int (iI x2), .int (iI x3), .int (iI x4), .int (iI x5), .int (iI x6), .int (iI x7), .int r1, .int (iI x8), .int (iI x9), .int (iI x10), .long y0, .int (iI x11), .ref a2, .ref a3, .ref a4, .ref a5, .ref a6, .ref a7, .ref a8, .ref a9, .ref a10, .ref a11, .int (iI x12), .ref a12, .ref a13, .ref a14, .ref a15, .int (iI x13), .int r2, .int r3, .ref a16, .int (iI x14), .int (iI x15), .ref a17, .ref a18, .int (iI x16), .ref a19, .int (iI x17), .int r4, .ref a20, .ref a21, .int (iI x18), .int r5, .ref a22, .int (iI x19), .int (iI x20), .int (iI x21), .int (iI x22)])), (a3, .inl (T 0, 53, .inl (cI f0)))] sz (fun (v : Int32) (u : Int × (Int → Int)) => iI u.1 = v ∧ 0 ≤ u.1 ∧ u.1 ≤ 1 ∧ rdI u.2 ∧ 0 ≤ (x1 - u.1) ∧ 0 ≤ (u.1 - x1) ∧ (u.2 0 = f0 0) ∧ (u.2 1 = f0 1) ∧ (x1 = 1 → u.2 = upz f0 x0 x11)) (fun u => [(a0, .inr (11, [.int r0, .ref a1, .int (iI x2), .int (iI x3), .int (iI x4), .int (iI x5), .int (iI x6), .int (iI x7), .int r1, .int (iI x8), .int (iI x9), .int (iI x10), .long y0, .int (iI x11), .ref a2, .ref a3, .ref a4, .ref a5, .ref a6, .ref a7, .ref a8, .ref a9, .ref a10, .ref a11, .int (iI x12), .ref a12, .ref a13, .ref a14, .ref a15, .int (iI x13), .int r2, .int r3, .ref a16, .int (iI x14), .int (iI x15), .ref a17, .ref a18, .int (iI x16), .ref a19, .int (iI x17), .int r4, .ref a20, .ref a21, .int (iI x18), .int r5, .ref a22, .int (iI x19), .int (iI x20), .int (iI x21), .int (iI x22)])), (a3, .inl (T 0, 53, .inl (cI u.2)))])) 0 0 (va_A [(a0, .inr (11, [.int r0, .ref a1, .int (iI x2), .int (iI x3), .int (iI x4), .int (iI x5), .int (iI x6), .int (iI x7), .int r1, .int (iI x8), .int (iI x9), .int (iI x10), .long y0, .int (iI x11), .ref a2, .ref a3, .ref a4, .ref a5, .ref a6, .ref a7, .ref a8, .ref a9, .ref a10, .ref a11, .int (iI x12), .ref a12, .ref a13, .ref a14, .ref a15, .int (iI x13), .int r2, .int r3, .ref a16, .int (iI x14), .int (iI x15), .ref a17, .ref a18, .int (iI x16), .ref a19, .int (iI x17), .int r4, .ref a20, .ref a21, .int (iI x18), .int r5, .ref a22, .int (iI x19), .int (iI x20), .int (iI x21), .int (iI x22)])), (a3, .inl (T 0, 53, .inl (cI f0)))] sz) := by
  refine e_Z (by decide) (Nat.le_of_ble_eq_true rfl) ?_
  intro p e s m args below meth c A Q ls M hin w ret hl
  have hx := M.1.1
  have hb := M.1.2.1
  have hl : lv_has ls 3 [(0, .ref a0), (1, .int (iI x0)), (2, .int (iI x1))] := hl
  refine lv_iload_n hx hb dX12_put_0 rfl (lv_at hl 2 rfl) ?_
  refine lv_if_eq (tgt := 14) hx hb dX12_put_1 (by decide) (fun c_1 => ?_) (fun c_1 => ?_)
  · replace c_1 := (iz_eq (Int.le_trans (by decide) x1_a) (Int.le_trans x1_b (by decide))).mp c_1
    refine lv_iload_n hx hb dX12_put_14 rfl (lv_at hl 2 rfl) ?_
    exact ret _ (x1, f0) _ _ _ _ _ [0, 1] dX12_put_15 (nb_n (by omega) (by omega)) ⟨rfl, x1_a, x1_b, f0_h, (show 0 ≤ (x1 - x1) from by omega), (show 0 ≤ (x1 - x1) from by omega), (show f0 0 = f0 0 from rfl), (show f0 1 = f0 1 from rfl), (show x1 = 1 → f0 = upz f0 x0 x11 from (fun h => absurd h (by omega)))⟩ w (by decide) rfl
  · replace c_1 : ¬ x1 = 0 := fun h => c_1 ((iz_eq (Int.le_trans (by decide) x1_a) (Int.le_trans x1_b (by decide))).mpr h)
    refine lv_aload_n hx hb dX12_put_4 rfl (lv_at hl 0 rfl) ?_
    refine r_get (v := .ref a3) M w 0 15 clX12 rfl (by decide) G1478 rfl rfl dX12_put_5 ?_
    refine lv_iload_n hx hb dX12_put_8 rfl (lv_at hl 1 rfl) ?_
    refine lv_aload_n hx hb dX12_put_9 rfl (lv_at hl 0 rfl) ?_
    refine r_get (v := .int (iI x11)) M w 0 13 clX12 rfl (by decide) G1476 rfl rfl dX12_put_10 ?_
    refine r_iast (ws' := [(a0, .inr (11, [.int r0, .ref a1, .int (iI x2), .int (iI x3), .int (iI x4), .int (iI x5), .int (iI x6), .int (iI x7), .int r1, .int (iI x8), .int (iI x9), .int (iI x10), .long y0, .int (iI x11), .ref a2, .ref a3, .ref a4, .ref a5, .ref a6, .ref a7, .ref a8, .ref a9, .ref a10, .ref a11, .int (iI x12), .ref a12, .ref a13, .ref a14, .ref a15, .int (iI x13), .int r2, .int r3, .ref a16, .int (iI x14), .int (iI x15), .ref a17, .ref a18, .int (iI x16), .ref a19, .int (iI x17), .int r4, .ref a20, .ref a21, .int (iI x18), .int r5, .ref a22, .int (iI x19), .int (iI x20), .int (iI x21), .int (iI x22)])), (a3, .inl (T 0, 53, .inl (cI (upz f0 x0 x11))))]) M w 1 rfl (iI_in (by omega) (by omega) (by decide)) (by rw [cI_up (by omega) (by omega)]; rfl) dX12_put_13 (fun H locs w => ?_)
    refine lv_iload_n hx hb dX12_put_14 rfl (lv_at hl 2 rfl) ?_
    exact ret _ (x1, (upz f0 x0 x11)) _ _ _ _ _ [0, 1] dX12_put_15 (nb_n (by omega) (by omega)) ⟨rfl, x1_a, x1_b, (pp_v (by omega)), (show 0 ≤ (x1 - x1) from by omega), (show 0 ≤ (x1 - x1) from by omega), (show (upz f0 x0 x11) 0 = f0 0 from (upz_n (by omega))), (show (upz f0 x0 x11) 1 = f0 1 from (upz_n (by omega))), (show x1 = 1 → (upz f0 x0 x11) = upz f0 x0 x11 from (fun _ => rfl))⟩ w (by decide) rfl
set_option maxRecDepth 100000 in
set_option maxHeartbeats 4000000 in
theorem c56_X12_readFirst (l : Launch) (D : va_G) (T : Nat → ClassId) (sz : Nat) (a0 : Nat) (r0 : Int32) (a1 : Nat) (x0 : Int) (x1 : Int) (x2 : Int) (x3 : Int) (x4 : Int) (x5 : Int) (r1 : Int32) (x6 : Int) (x7 : Int) (x8 : Int) (y0 : Int64) (x9 : Int) (a2 : Nat) (a3 : Nat) (a4 : Nat) (a5 : Nat) (a6 : Nat) (a7 : Nat) (a8 : Nat) (a9 : Nat) (a10 : Nat) (a11 : Nat) (x10 : Int) (a12 : Nat) (a13 : Nat) (a14 : Nat) (a15 : Nat) (x11 : Int) (r2 : Int32) (r3 : Int32) (a16 : Nat) (x12 : Int) (x13 : Int) (a17 : Nat) (a18 : Nat) (x14 : Int) (a19 : Nat) (x15 : Int) (r4 : Int32) (a20 : Nat) (a21 : Nat) (x16 : Int) (r5 : Int32) (a22 : Nat) (x17 : Int) (x18 : Int) (x19 : Int) (x20 : Int) (f0 : Int → Int) (f1 : Int → Int) (x0_a : 0 ≤ x0) (x0_b : x0 ≤ 940) (x1_a : 0 ≤ x1) (x1_b : x1 ≤ 940) (x2_a : 0 ≤ x2) (x2_b : x2 ≤ 940) (x3_a : 0 ≤ x3) (x3_b : x3 ≤ 940) (x4_a : 0 ≤ x4) (x4_b : x4 ≤ 940) (x5_a : 0 ≤ x5) (x5_b : x5 ≤ 4) (x6_a : (-2147483648) ≤ x6) (x6_b : x6 ≤ 2147483647) (x7_a : (-2147483648) ≤ x7) (x7_b : x7 ≤ 2147483647) (x8_a : 0 ≤ x8) (x8_b : x8 ≤ 940) (x9_a : (-2147483648) ≤ x9) (x9_b : x9 ≤ 2147483647) (x10_a : 0 ≤ x10) (x10_b : x10 ≤ 8) (x11_a : 0 ≤ x11) (x11_b : x11 ≤ 9) (x12_a : (-1) ≤ x12) (x12_b : x12 ≤ 9) (x13_a : (-1) ≤ x13) (x13_b : x13 ≤ 8) (x14_a : 0 ≤ x14) (x14_b : x14 ≤ 9) (x15_a : 0 ≤ x15) (x15_b : x15 ≤ 64) (x16_a : 0 ≤ x16) (x16_b : x16 ≤ 40) (x17_a : 0 ≤ x17) (x17_b : x17 ≤ 40) (x18_a : 0 ≤ x18) (x18_b : x18 ≤ 20) (x19_a : 0 ≤ x19) (x19_b : x19 ≤ 8) (x20_a : 0 ≤ x20) (x20_b : x20 ≤ 39) (f0_h : rng 0 255 f0) (f1_h : rdI f1) : Met l yX12_readFirst (Cond.code yX12_readFirst cX12_readFirst 3 (some .boolean) :: GW) (Rm 2 0 0) (cPre [.ref a0, .int (iI 0), .int (iI 9)] D T [(a0, .inr (11, [.int r0, .ref a1, .int (iI x0), .int (iI x1), .int (iI x2), .int (iI x3), .int (iI x4), .int (iI x5), .int r1, .int (iI x6), .int (iI x7), .int (iI x8), .long y0, .int (iI x9), .ref a2, .ref a3, .ref a4, .ref a5, .ref a6, .ref a7, .ref a8, .ref a9, .ref a10, .ref a11, .int (iI x10), .ref a12, .ref a13, .ref a14, .ref a15, .int (iI x11), .int r2, .int r3, .ref a16, .int (iI x12), .int (iI x13), .ref a17, .ref a18, .int (iI x14), .ref a19, .int (iI x15), .int r4, .ref a20, .ref a21, .int (iI x16), .int r5, .ref a22, .int (iI x17), .int (iI x18), .int (iI x19), .int (iI x20)])), (a1, .inl (T 0, 940, .inl (cI f0))), (a3, .inl (T 0, 53, .inl (cI f1)))] sz) (qI D [(a0, .inr (11, [.int r0, .ref a1, .int (iI x0), .int (iI x1), .int (iI x2), .int (iI x3), .int (iI x4), .int (iI x5), .int r1, .int (iI x6), .int (iI x7), .int (iI x8), .long y0, .int (iI x9), .ref a2, .ref a3, .ref a4, .ref a5, .ref a6, .ref a7, .ref a8, .ref a9, .ref a10, .ref a11, .int (iI x10), .ref a12, .ref a13, .ref a14, .ref a15, .int (iI x11), .int r2, .int r3, .ref a16, .int (iI x12), .int (iI x13), .ref a17, .ref a18, .int (iI x14), .ref a19, .int (iI x15), .int r4, .ref a20, .ref a21, .int (iI x16), .int r5, .ref a22, .int (iI x17), .int (iI x18), .int (iI x19), .int (iI x20)])), (a1, .inl (T 0, 940, .inl (cI f0))), (a3, .inl (T 0, 53, .inl (cI f1)))] sz (fun (v : Int32) (u : Int × Int × Int × Int × Int32 × Int × Int × Int × Int64) => iI u.1 = v ∧ 0 ≤ u.1 ∧ u.1 ≤ 1 ∧ 0 ≤ u.2.1 ∧ u.2.1 ≤ 940 ∧ 0 ≤ u.2.2.1 ∧ u.2.2.1 ≤ 940 ∧ 0 ≤ u.2.2.2.1 ∧ u.2.2.2.1 ≤ 4 ∧ (-2147483648) ≤ u.2.2.2.2.2.1 ∧ u.2.2.2.2.2.1 ≤ 2147483647 ∧ (-2147483648) ≤ u.2.2.2.2.2.2.1 ∧ u.2.2.2.2.2.2.1 ≤ 2147483647 ∧ 0 ≤ u.2.2.2.2.2.2.2.1 ∧ u.2.2.2.2.2.2.2.1 ≤ 940 ∧ 0 ≤ (u.2.1 - x3) ∧ 0 ≤ ((((u.2.1 - x3) - u.2.2.2.1) + 4) - u.1) ∧ (u.1 = 1 → f1 0 ≤ 8) ∧ (∀ x : Tk × Int × Int, gT x x5 x4 x3 y0 r1 x6 → fsP f0 x1 x2 f1 0 9 x u.1 u.2.2.2.2.2.2.1 u.2.2.2.2.2.2.2.1 (fun y => gT y u.2.2.2.1 u.2.2.1 u.2.1 u.2.2.2.2.2.2.2.2 u.2.2.2.2.1 u.2.2.2.2.2.1)) ∧ (kpB u.1 x7 u.2.2.2.2.2.2.1)) (fun u => [(a0, .inr (11, [.int r0, .ref a1, .int (iI x0), .int (iI x1), .int (iI x2), .int (iI u.2.1), .int (iI u.2.2.1), .int (iI u.2.2.2.1), .int u.2.2.2.2.1, .int (iI u.2.2.2.2.2.1), .int (iI u.2.2.2.2.2.2.1), .int (iI u.2.2.2.2.2.2.2.1), .long u.2.2.2.2.2.2.2.2, .int (iI x9), .ref a2, .ref a3, .ref a4, .ref a5, .ref a6, .ref a7, .ref a8, .ref a9, .ref a10, .ref a11, .int (iI x10), .ref a12, .ref a13, .ref a14, .ref a15, .int (iI x11), .int r2, .int r3, .ref a16, .int (iI x12), .int (iI x13), .ref a17, .ref a18, .int (iI x14), .ref a19, .int (iI x15), .int r4, .ref a20, .ref a21, .int (iI x16), .int r5, .ref a22, .int (iI x17), .int (iI x18), .int (iI x19), .int (iI x20)])), (a1, .inl (T 0, 940, .inl (cI f0))), (a3, .inl (T 0, 53, .inl (cI f1)))])) 0 0 (va_A [(a0, .inr (11, [.int r0, .ref a1, .int (iI x0), .int (iI x1), .int (iI x2), .int (iI x3), .int (iI x4), .int (iI x5), .int r1, .int (iI x6), .int (iI x7), .int (iI x8), .long y0, .int (iI x9), .ref a2, .ref a3, .ref a4, .ref a5, .ref a6, .ref a7, .ref a8, .ref a9, .ref a10, .ref a11, .int (iI x10), .ref a12, .ref a13, .ref a14, .ref a15, .int (iI x11), .int r2, .int r3, .ref a16, .int (iI x12), .int (iI x13), .ref a17, .ref a18, .int (iI x14), .ref a19, .int (iI x15), .int r4, .ref a20, .ref a21, .int (iI x16), .int r5, .ref a22, .int (iI x17), .int (iI x18), .int (iI x19), .int (iI x20)])), (a1, .inl (T 0, 940, .inl (cI f0))), (a3, .inl (T 0, 53, .inl (cI f1)))] sz) := by
  refine e_Z (by decide) (Nat.le_of_ble_eq_true rfl) ?_
  intro p e s m args below meth c A Q ls M hin w ret hl
  have hx := M.1.1
  have hb := M.1.2.1
  have hl : lv_has ls 3 [(0, .ref a0), (1, .int (iI 0)), (2, .int (iI 9))] := hl
  refine lv_aload_n hx hb dX12_readFirst_0 rfl (lv_at hl 0 rfl) ?_
  refine r_get (v := .ref a3) M w 0 15 clX12 rfl (by decide) G1478 rfl rfl dX12_readFirst_1 ?_
  refine lv_iload_n hx hb dX12_readFirst_4 rfl (lv_at hl 1 rfl) ?_
  refine r_iald (v := iI (f1 0)) M w 2 rfl (iI_in (by decide) (by decide) (by decide)) (cI_at (by omega) (by omega)) dX12_readFirst_5 ?_
  have hh1 : (-2147483648) ≤ (f1 0) ∧ (f1 0) ≤ 2147483647 := f1_h.1 0
  have hh2 : 0 ≤ (f1 0) ∧ (f1 0) ≤ 9 := (f1_h.2.1 0).1 (by omega)
  refine lv_iload_n hx hb dX12_readFirst_6 rfl (lv_at hl 2 rfl) ?_
  refine lv_icmp_ne (tgt := 16) hx hb dX12_readFirst_7 (by decide) (fun c_3 => ?_) (fun c_3 => ?_)
  · replace c_3 : ¬ (f1 0) = 9 := fun h => c_3 ((iI_eq (by omega) (by omega) (by decide) (by decide)).mpr h)
    refine lv_aload_n hx hb dX12_readFirst_16 rfl (lv_at hl 0 rfl) ?_
    refine k_V (ce := 0) (sl := 0) (rest := []) (wr := [(a3, .inl (T 0, 53, .inl (cI f1)))]) (r_V (f := 1) [0, 1] M w V_HookedCityModel_82 G1629 G49 (c12_X12_go l D T _ a0 r0 a1 x0 x1 x2 x3 x4 x5 r1 x6 x7 x8 y0 x9 a2 a3 a4 a5 a6 a7 a8 a9 a10 a11 x10 a12 a13 a14 a15 x11 r2 r3 a16 x12 x13 a17 a18 x14 a19 x15 r4 a20 a21 x16 r5 a22 x17 x18 x19 x20 f0 x0_a x0_b x1_a x1_b x2_a x2_b x3_a x3_b x4_a x4_b x5_a x5_b x6_a x6_b x7_a x7_b x8_a x8_b x9_a x9_b x10_a x10_b x11_a x11_b x12_a x12_b x13_a x13_b x14_a x14_b x15_a x15_b x16_a x16_b x17_a x17_b x18_a x18_b x19_a x19_b x20_a x20_b f0_h) 0 clX12 rfl rfl (by decide) rfl hl.1 rfl (Nat.le_of_ble_eq_true rfl) dX12_readFirst_17 (by decide) (by decide) (by decide) (by decide)) w [0, 1] [2] rfl rfl (by decide) (by decide) rfl rfl (fun u H locs hp w => ?_)
    obtain ⟨z4, z5, z6, fr7, z8, fy9⟩ := u
    have z4_a : 0 ≤ z4 := hp.1
    have z4_b : z4 ≤ 940 := hp.2.1
    have z5_a : 0 ≤ z5 := hp.2.2.1
    have z5_b : z5 ≤ 940 := hp.2.2.2.1
    have z6_a : 0 ≤ z6 := hp.2.2.2.2.1
    have z6_b : z6 ≤ 4 := hp.2.2.2.2.2.1
    have z8_a : (-2147483648) ≤ z8 := hp.2.2.2.2.2.2.1
    have z8_b : z8 ≤ 2147483647 := hp.2.2.2.2.2.2.2.1
    have ee10 : 0 ≤ (z4 - x3) := hp.2.2.2.2.2.2.2.2.1
    have ee11 : 0 ≤ (((z4 - x3) - z6) + 3) := hp.2.2.2.2.2.2.2.2.2.1
    have pq12 : gT (tkAt f0 x1 x2 x3) z6 z5 z4 fy9 fr7 z8 := hp.2.2.2.2.2.2.2.2.2.2
    have w : WD D A s.heap [(a3, .inl (T 0, 53, .inl (cI f1))), (a0, .inr (11, [.int r0, .ref a1, .int (iI x0), .int (iI x1), .int (iI x2), .int (iI z4), .int (iI z5), .int (iI z6), .int fr7, .int (iI z8), .int (iI x7), .int (iI x8), .long fy9, .int (iI x9), .ref a2, .ref a3, .ref a4, .ref a5, .ref a6, .ref a7, .ref a8, .ref a9, .ref a10, .ref a11, .int (iI x10), .ref a12, .ref a13, .ref a14, .ref a15, .int (iI x11), .int r2, .int r3, .ref a16, .int (iI x12), .int (iI x13), .ref a17, .ref a18, .int (iI x14), .ref a19, .int (iI x15), .int r4, .ref a20, .ref a21, .int (iI x16), .int r5, .ref a22, .int (iI x17), .int (iI x18), .int (iI x19), .int (iI x20)])), (a1, .inl (T 0, 940, .inl (cI f0)))] H locs := w
    refine lv_iconst (v := iI 1) hx hb dX12_readFirst_20 (by decide +kernel) ?_
    exact ret _ (1, z4, z5, z6, fr7, z8, x7, x8, fy9) _ _ _ _ _ [1, 2, 0] dX12_readFirst_21 (by decide +kernel) ⟨rfl, (show (0 : Int) ≤ 1 from by decide), (show (1 : Int) ≤ 1 from by decide), z4_a, z4_b, z5_a, z5_b, z6_a, z6_b, z8_a, z8_b, x7_a, x7_b, x8_a, x8_b, (show 0 ≤ (z4 - x3) from by omega), (show 0 ≤ ((((z4 - x3) - z6) + 4) - 1) from by omega), (show 1 = 1 → f1 0 ≤ 8 from (fun _ => by omega)), (show ∀ x : Tk × Int × Int, gT x x5 x4 x3 y0 r1 x6 → fsP f0 x1 x2 f1 0 9 x 1 x7 x8 (fun y => gT y z6 z5 z4 fy9 fr7 z8) from (fst_B (by omega) pq12)), (show kpB 1 x7 x7 from (fun hr => by omega))⟩ w (by decide) rfl
  · replace c_3 := (iI_eq (by omega) (by omega) (by decide) (by decide)).mp c_3
    refine lv_aload_n hx hb dX12_readFirst_10 rfl (lv_at hl 0 rfl) ?_
    refine lv_iconst (v := iI 4) hx hb dX12_readFirst_11 (by decide +kernel) ?_
    refine k_I (ce := 0) (sl := 0) (rest := []) (wr := [(a1, .inl (T 0, 940, .inl (cI f0))), (a3, .inl (T 0, 53, .inl (cI f1)))]) (r_V (f := 0) [0] M w V_HookedCityModel_72 G1667 G55 (c45_X12_bad l D T _ a0 4 r0 a1 x0 x1 x2 x3 x4 x5 r1 x6 x7 x8 y0 x9 a2 a3 a4 a5 a6 a7 a8 a9 a10 a11 x10 a12 a13 a14 a15 x11 r2 r3 a16 x12 x13 a17 a18 x14 a19 x15 r4 a20 a21 x16 r5 a22 x17 x18 x19 x20 (by decide) (by decide) x0_a x0_b x1_a x1_b x2_a x2_b x3_a x3_b x4_a x4_b x5_a x5_b x6_a x6_b x7_a x7_b x8_a x8_b x9_a x9_b x10_a x10_b x11_a x11_b x12_a x12_b x13_a x13_b x14_a x14_b x15_a x15_b x16_a x16_b x17_a x17_b x18_a x18_b x19_a x19_b x20_a x20_b) 0 clX12 rfl rfl (by decide) rfl hl.1 rfl (Nat.le_of_ble_eq_true rfl) dX12_readFirst_12 (by decide) (by decide) (by decide) (by decide)) w [0] [1, 2] rfl rfl (by decide) (by decide) rfl rfl (fun v u H locs hp w => ?_)
    obtain ⟨z13, z14, z15⟩ := u
    have hv : iI z13 = v := hp.1
    subst hv
    have z13_a : 0 ≤ z13 := hp.2.1
    have z13_b : z13 ≤ 1 := hp.2.2.1
    have z14_a : (-2147483648) ≤ z14 := hp.2.2.2.1
    have z14_b : z14 ≤ 2147483647 := hp.2.2.2.2.1
    have z15_a : 0 ≤ z15 := hp.2.2.2.2.2.1
    have z15_b : z15 ≤ 940 := hp.2.2.2.2.2.2.1
    have pq16 : baQ x5 4 z14 := hp.2.2.2.2.2.2.2.1
    have pq17 : z15 = x4 := hp.2.2.2.2.2.2.2.2.1
    have w : WD D A s.heap [(a1, .inl (T 0, 940, .inl (cI f0))), (a3, .inl (T 0, 53, .inl (cI f1))), (a0, .inr (11, [.int r0, .ref a1, .int (iI x0), .int (iI x1), .int (iI x2), .int (iI x3), .int (iI x4), .int (iI x5), .int r1, .int (iI x6), .int (iI z14), .int (iI z15), .long y0, .int (iI x9), .ref a2, .ref a3, .ref a4, .ref a5, .ref a6, .ref a7, .ref a8, .ref a9, .ref a10, .ref a11, .int (iI x10), .ref a12, .ref a13, .ref a14, .ref a15, .int (iI x11), .int r2, .int r3, .ref a16, .int (iI x12), .int (iI x13), .ref a17, .ref a18, .int (iI x14), .ref a19, .int (iI x15), .int r4, .ref a20, .ref a21, .int (iI x16), .int r5, .ref a22, .int (iI x17), .int (iI x18), .int (iI x19), .int (iI x20)]))] H locs := w
    rcases hp.2.2.2.2.2.2.2.2.2 with hr
    · subst hr
      exact ret _ (0, x3, x4, x5, r1, x6, z14, z15, y0) _ _ _ _ _ [2, 0, 1] dX12_readFirst_15 (by decide +kernel) ⟨rfl, (show (0 : Int) ≤ 0 from by decide), (show (0 : Int) ≤ 1 from by decide), x3_a, x3_b, x4_a, x4_b, x5_a, x5_b, x6_a, x6_b, z14_a, z14_b, z15_a, z15_b, (show 0 ≤ (x3 - x3) from by omega), (show 0 ≤ ((((x3 - x3) - x5) + 4) - 0) from by omega), (show 0 = 1 → f1 0 ≤ 8 from (fun h => absurd h (by decide))), (show ∀ x : Tk × Int × Int, gT x x5 x4 x3 y0 r1 x6 → fsP f0 x1 x2 f1 0 9 x 0 z14 z15 (fun y => gT y x5 x4 x3 y0 r1 x6) from (fst_A (by omega) pq16 pq17)), (show kpB 0 x7 z14 from (fun e => absurd e (by decide)))⟩ w (by decide) rfl
set_option maxRecDepth 100000 in
set_option maxHeartbeats 4000000 in
theorem c57_X12_readPerson (l : Launch) (D : va_G) (T : Nat → ClassId) (sz : Nat) (a0 : Nat) (r0 : Int32) (a1 : Nat) (x0 : Int) (x1 : Int) (x2 : Int) (x3 : Int) (x4 : Int) (x5 : Int) (r1 : Int32) (x6 : Int) (x7 : Int) (x8 : Int) (y0 : Int64) (x9 : Int) (a2 : Nat) (a3 : Nat) (a4 : Nat) (a5 : Nat) (a6 : Nat) (a7 : Nat) (a8 : Nat) (a9 : Nat) (a10 : Nat) (a11 : Nat) (x10 : Int) (a12 : Nat) (a13 : Nat) (a14 : Nat) (a15 : Nat) (x11 : Int) (r2 : Int32) (r3 : Int32) (a16 : Nat) (x12 : Int) (x13 : Int) (a17 : Nat) (a18 : Nat) (x14 : Int) (a19 : Nat) (x15 : Int) (r4 : Int32) (a20 : Nat) (a21 : Nat) (x16 : Int) (r5 : Int32) (a22 : Nat) (x17 : Int) (x18 : Int) (x19 : Int) (x20 : Int) (f0 : Int → Int) (f1 : Int → Int) (h0 : Nat → Int64) (x0_a : 0 ≤ x0) (x0_b : x0 ≤ 940) (x1_a : 0 ≤ x1) (x1_b : x1 ≤ 940) (x2_a : 0 ≤ x2) (x2_b : x2 ≤ 940) (x3_a : 0 ≤ x3) (x3_b : x3 ≤ 940) (x4_a : 0 ≤ x4) (x4_b : x4 ≤ 940) (x5_a : 0 ≤ x5) (x5_b : x5 ≤ 4) (x6_a : (-2147483648) ≤ x6) (x6_b : x6 ≤ 2147483647) (x7_a : (-2147483648) ≤ x7) (x7_b : x7 ≤ 2147483647) (x8_a : 0 ≤ x8) (x8_b : x8 ≤ 940) (x9_a : (-2147483648) ≤ x9) (x9_b : x9 ≤ 2147483647) (x10_a : 0 ≤ x10) (x10_b : x10 ≤ 8) (x11_a : 0 ≤ x11) (x11_b : x11 ≤ 9) (x12_a : (-1) ≤ x12) (x12_b : x12 ≤ 9) (x13_a : (-1) ≤ x13) (x13_b : x13 ≤ 8) (x14_a : 0 ≤ x14) (x14_b : x14 ≤ 9) (x15_a : 0 ≤ x15) (x15_b : x15 ≤ 64) (x16_a : 0 ≤ x16) (x16_b : x16 ≤ 40) (x17_a : 0 ≤ x17) (x17_b : x17 ≤ 40) (x18_a : 0 ≤ x18) (x18_b : x18 ≤ 20) (x19_a : 0 ≤ x19) (x19_b : x19 ≤ 8) (x20_a : 0 ≤ x20) (x20_b : x20 ≤ 39) (f0_h : rng 0 255 f0) (f1_h : rdI f1) : Met l yX12_readPerson (Cond.code yX12_readPerson cX12_readPerson 2 (some .boolean) :: GW) (Rm 4 0 0) (cPre [.ref a0] D T [(a0, .inr (11, [.int r0, .ref a1, .int (iI x0), .int (iI x1), .int (iI x2), .int (iI x3), .int (iI x4), .int (iI x5), .int r1, .int (iI x6), .int (iI x7), .int (iI x8), .long y0, .int (iI x9), .ref a2, .ref a3, .ref a4, .ref a5, .ref a6, .ref a7, .ref a8, .ref a9, .ref a10, .ref a11, .int (iI x10), .ref a12, .ref a13, .ref a14, .ref a15, .int (iI x11), .int r2, .int r3, .ref a16, .int (iI x12), .int (iI x13), .ref a17, .ref a18, .int (iI x14), .ref a19, .int (iI x15), .int r4, .ref a20, .ref a21, .int (iI x16), .int r5, .ref a22, .int (iI x17), .int (iI x18), .int (iI x19), .int (iI x20)])), (a1, .inl (T 0, 940, .inl (cI f0))), (a3, .inl (T 0, 53, .inl (cI f1))), (a8, .inl (T 1, 12, .inr (.inl h0)))] sz) (qI D [(a0, .inr (11, [.int r0, .ref a1, .int (iI x0), .int (iI x1), .int (iI x2), .int (iI x3), .int (iI x4), .int (iI x5), .int r1, .int (iI x6), .int (iI x7), .int (iI x8), .long y0, .int (iI x9), .ref a2, .ref a3, .ref a4, .ref a5, .ref a6, .ref a7, .ref a8, .ref a9, .ref a10, .ref a11, .int (iI x10), .ref a12, .ref a13, .ref a14, .ref a15, .int (iI x11), .int r2, .int r3, .ref a16, .int (iI x12), .int (iI x13), .ref a17, .ref a18, .int (iI x14), .ref a19, .int (iI x15), .int r4, .ref a20, .ref a21, .int (iI x16), .int r5, .ref a22, .int (iI x17), .int (iI x18), .int (iI x19), .int (iI x20)])), (a1, .inl (T 0, 940, .inl (cI f0))), (a3, .inl (T 0, 53, .inl (cI f1))), (a8, .inl (T 1, 12, .inr (.inl h0)))] sz (fun (v : Int32) (u : Int × Int × Int × Int × Int32 × Int × Int × Int × Int64 × Int × (Int → Int) × (Nat → Int64)) => iI u.1 = v ∧ 0 ≤ u.1 ∧ u.1 ≤ 1 ∧ 0 ≤ u.2.1 ∧ u.2.1 ≤ 940 ∧ 0 ≤ u.2.2.1 ∧ u.2.2.1 ≤ 940 ∧ 0 ≤ u.2.2.2.1 ∧ u.2.2.2.1 ≤ 4 ∧ (-2147483648) ≤ u.2.2.2.2.2.1 ∧ u.2.2.2.2.2.1 ≤ 2147483647 ∧ (-2147483648) ≤ u.2.2.2.2.2.2.1 ∧ u.2.2.2.2.2.2.1 ≤ 2147483647 ∧ 0 ≤ u.2.2.2.2.2.2.2.1 ∧ u.2.2.2.2.2.2.2.1 ≤ 940 ∧ (-2147483648) ≤ u.2.2.2.2.2.2.2.2.2.1 ∧ u.2.2.2.2.2.2.2.2.2.1 ≤ 2147483647 ∧ rdI u.2.2.2.2.2.2.2.2.2.2.1 ∧ 0 ≤ (u.2.1 - x3) ∧ 0 ≤ ((((u.2.1 - x3) - u.2.2.2.1) + 4) - u.1) ∧ (∀ (x : Tk × Int × Int) (o : Int → Int), gT x x5 x4 x3 y0 r1 x6 → ¬ x.1 = tkBad → RP (sPerson f0 x1 x2 x f1 h0 o) u.1 u.2.2.2.2.2.2.1 u.2.2.2.2.2.2.2.1 (fun y => gT y u.2.2.2.1 u.2.2.1 u.2.1 u.2.2.2.2.2.2.2.2.1 u.2.2.2.2.1 u.2.2.2.2.2.1) u.2.2.2.2.2.2.2.2.2.2.1 u.2.2.2.2.2.2.2.2.2.2.2 o) ∧ (kpB u.1 x7 u.2.2.2.2.2.2.1)) (fun u => [(a0, .inr (11, [.int r0, .ref a1, .int (iI x0), .int (iI x1), .int (iI x2), .int (iI u.2.1), .int (iI u.2.2.1), .int (iI u.2.2.2.1), .int u.2.2.2.2.1, .int (iI u.2.2.2.2.2.1), .int (iI u.2.2.2.2.2.2.1), .int (iI u.2.2.2.2.2.2.2.1), .long u.2.2.2.2.2.2.2.2.1, .int (iI u.2.2.2.2.2.2.2.2.2.1), .ref a2, .ref a3, .ref a4, .ref a5, .ref a6, .ref a7, .ref a8, .ref a9, .ref a10, .ref a11, .int (iI x10), .ref a12, .ref a13, .ref a14, .ref a15, .int (iI x11), .int r2, .int r3, .ref a16, .int (iI x12), .int (iI x13), .ref a17, .ref a18, .int (iI x14), .ref a19, .int (iI x15), .int r4, .ref a20, .ref a21, .int (iI x16), .int r5, .ref a22, .int (iI x17), .int (iI x18), .int (iI x19), .int (iI x20)])), (a1, .inl (T 0, 940, .inl (cI f0))), (a3, .inl (T 0, 53, .inl (cI u.2.2.2.2.2.2.2.2.2.2.1))), (a8, .inl (T 1, 12, .inr (.inl u.2.2.2.2.2.2.2.2.2.2.2)))])) 0 0 (va_A [(a0, .inr (11, [.int r0, .ref a1, .int (iI x0), .int (iI x1), .int (iI x2), .int (iI x3), .int (iI x4), .int (iI x5), .int r1, .int (iI x6), .int (iI x7), .int (iI x8), .long y0, .int (iI x9), .ref a2, .ref a3, .ref a4, .ref a5, .ref a6, .ref a7, .ref a8, .ref a9, .ref a10, .ref a11, .int (iI x10), .ref a12, .ref a13, .ref a14, .ref a15, .int (iI x11), .int r2, .int r3, .ref a16, .int (iI x12), .int (iI x13), .ref a17, .ref a18, .int (iI x14), .ref a19, .int (iI x15), .int r4, .ref a20, .ref a21, .int (iI x16), .int r5, .ref a22, .int (iI x17), .int (iI x18), .int (iI x19), .int (iI x20)])), (a1, .inl (T 0, 940, .inl (cI f0))), (a3, .inl (T 0, 53, .inl (cI f1))), (a8, .inl (T 1, 12, .inr (.inl h0)))] sz) := by
  refine e_Z (by decide) (Nat.le_of_ble_eq_true rfl) ?_
  intro p e s m args below meth c A Q ls M hin w ret hl
  have hx := M.1.1
  have hb := M.1.2.1
  have hl : lv_has ls 2 [(0, .ref a0)] := hl
  refine lv_aload_n hx hb dX12_readPerson_0 rfl (lv_at hl 0 rfl) ?_
  refine lv_iconst (v := iI 0) hx hb dX12_readPerson_1 (by decide +kernel) ?_
  refine lv_bipush (v := iI 9) hx hb dX12_readPerson_2 (by decide +kernel) ?_
  refine k_I (ce := 0) (sl := 0) (rest := []) (wr := [(a8, .inl (T 1, 12, .inr (.inl h0)))]) (r_V (f := 2) [0, 1, 2] M w V_HookedCityModel_186 G1663 G54 (c56_X12_readFirst l D T _ a0 r0 a1 x0 x1 x2 x3 x4 x5 r1 x6 x7 x8 y0 x9 a2 a3 a4 a5 a6 a7 a8 a9 a10 a11 x10 a12 a13 a14 a15 x11 r2 r3 a16 x12 x13 a17 a18 x14 a19 x15 r4 a20 a21 x16 r5 a22 x17 x18 x19 x20 f0 f1 x0_a x0_b x1_a x1_b x2_a x2_b x3_a x3_b x4_a x4_b x5_a x5_b x6_a x6_b x7_a x7_b x8_a x8_b x9_a x9_b x10_a x10_b x11_a x11_b x12_a x12_b x13_a x13_b x14_a x14_b x15_a x15_b x16_a x16_b x17_a x17_b x18_a x18_b x19_a x19_b x20_a x20_b f0_h f1_h) 0 clX12 rfl rfl (by decide) rfl hl.1 rfl (Nat.le_of_ble_eq_true rfl) dX12_readPerson_4 (by decide) (by decide) (by decide) (by decide)) w [0, 1, 2] [3] rfl rfl (by decide) (by decide) rfl rfl (fun v u H locs hp w => ?_)
  obtain ⟨z1, z2, z3, z4, fr5, z6, z7, z8, fy9⟩ := u
  have hv : iI z1 = v := hp.1
  subst hv
  have z1_a : 0 ≤ z1 := hp.2.1
  have z1_b : z1 ≤ 1 := hp.2.2.1
  have z2_a : 0 ≤ z2 := hp.2.2.2.1
  have z2_b : z2 ≤ 940 := hp.2.2.2.2.1
  have z3_a : 0 ≤ z3 := hp.2.2.2.2.2.1
  have z3_b : z3 ≤ 940 := hp.2.2.2.2.2.2.1
  have z4_a : 0 ≤ z4 := hp.2.2.2.2.2.2.2.1
  have z4_b : z4 ≤ 4 := hp.2.2.2.2.2.2.2.2.1
  have z6_a : (-2147483648) ≤ z6 := hp.2.2.2.2.2.2.2.2.2.1
  have z6_b : z6 ≤ 2147483647 := hp.2.2.2.2.2.2.2.2.2.2.1
  have z7_a : (-2147483648) ≤ z7 := hp.2.2.2.2.2.2.2.2.2.2.2.1
  have z7_b : z7 ≤ 2147483647 := hp.2.2.2.2.2.2.2.2.2.2.2.2.1
  have z8_a : 0 ≤ z8 := hp.2.2.2.2.2.2.2.2.2.2.2.2.2.1
  have z8_b : z8 ≤ 940 := hp.2.2.2.2.2.2.2.2.2.2.2.2.2.2.1
  have ee10 : 0 ≤ (z2 - x3) := hp.2.2.2.2.2.2.2.2.2.2.2.2.2.2.2.1
  have ee11 : 0 ≤ ((((z2 - x3) - z4) + 4) - z1) := hp.2.2.2.2.2.2.2.2.2.2.2.2.2.2.2.2.1
  have pq12 : z1 = 1 → f1 0 ≤ 8 := hp.2.2.2.2.2.2.2.2.2.2.2.2.2.2.2.2.2.1
  have pq13 : ∀ x : Tk × Int × Int, gT x x5 x4 x3 y0 r1 x6 → fsP f0 x1 x2 f1 0 9 x z1 z7 z8 (fun y => gT y z4 z3 z2 fy9 fr5 z6) := hp.2.2.2.2.2.2.2.2.2.2.2.2.2.2.2.2.2.2.1
  have pq14 : kpB z1 x7 z7 := hp.2.2.2.2.2.2.2.2.2.2.2.2.2.2.2.2.2.2.2
  have w : WD D A s.heap [(a8, .inl (T 1, 12, .inr (.inl h0))), (a0, .inr (11, [.int r0, .ref a1, .int (iI x0), .int (iI x1), .int (iI x2), .int (iI z2), .int (iI z3), .int (iI z4), .int fr5, .int (iI z6), .int (iI z7), .int (iI z8), .long fy9, .int (iI x9), .ref a2, .ref a3, .ref a4, .ref a5, .ref a6, .ref a7, .ref a8, .ref a9, .ref a10, .ref a11, .int (iI x10), .ref a12, .ref a13, .ref a14, .ref a15, .int (iI x11), .int r2, .int r3, .ref a16, .int (iI x12), .int (iI x13), .ref a17, .ref a18, .int (iI x14), .ref a19, .int (iI x15), .int r4, .ref a20, .ref a21, .int (iI x16), .int r5, .ref a22, .int (iI x17), .int (iI x18), .int (iI x19), .int (iI x20)])), (a1, .inl (T 0, 940, .inl (cI f0))), (a3, .inl (T 0, 53, .inl (cI f1)))] H locs := w
  refine lv_if_ne (tgt := 12) hx hb dX12_readPerson_7 (by decide) (fun c_15 => ?_) (fun c_15 => ?_)
  · replace c_15 : ¬ z1 = 0 := fun h => c_15 ((iz_eq (Int.le_trans (by decide) z1_a) (Int.le_trans z1_b (by decide))).mpr h)
    refine lv_aload_n hx hb dX12_readPerson_12 rfl (lv_at hl 0 rfl) ?_
    refine r_get (v := .ref a3) M w 1 15 clX12 rfl (by decide) G1478 rfl rfl dX12_readPerson_13 ?_
    refine lv_iconst (v := iI 0) hx hb dX12_readPerson_16 (by decide +kernel) ?_
    refine r_iald (v := iI (f1 0)) M w 3 rfl (iI_in (by decide) (by decide) (by decide)) (cI_at (by omega) (by omega)) dX12_readPerson_17 ?_
    have hh16 : (-2147483648) ≤ (f1 0) ∧ (f1 0) ≤ 2147483647 := f1_h.1 0
    have hh17 : 0 ≤ (f1 0) ∧ (f1 0) ≤ 9 := (f1_h.2.1 0).1 (by omega)
    refine lv_istore_n (lv' := [(1, .int (iI (f1 0))), (0, .ref a0)]) hx hb dX12_readPerson_18 rfl hl (by decide) rfl (fun ls hl => ?_)
    refine lv_aload_n hx hb dX12_readPerson_19 rfl (lv_at hl 1 rfl) ?_
    refine lv_iload_n hx hb dX12_readPerson_20 rfl (lv_at hl 0 rfl) ?_
    refine k_I (ce := 0) (sl := 0) (rest := []) (wr := []) (r_V (f := 3) [1, 2, 3, 0] M w V_HookedCityModel_190 G1671 G56 (c53_X12_readNew l D T _ a0 (f1 0) r0 a1 x0 x1 x2 z2 z3 z4 fr5 z6 z7 z8 fy9 x9 a2 a3 a4 a5 a6 a7 a8 a9 a10 a11 x10 a12 a13 a14 a15 x11 r2 r3 a16 x12 x13 a17 a18 x14 a19 x15 r4 a20 a21 x16 r5 a22 x17 x18 x19 x20 f0 f1 h0 (by omega) (by omega) x0_a x0_b x1_a x1_b x2_a x2_b z2_a z2_b z3_a z3_b z4_a z4_b z6_a z6_b z7_a z7_b z8_a z8_b x9_a x9_b x10_a x10_b x11_a x11_b x12_a x12_b x13_a x13_b x14_a x14_b x15_a x15_b x16_a x16_b x17_a x17_b x18_a x18_b x19_a x19_b x20_a x20_b f0_h f1_h) 1 clX12 rfl rfl (by decide) rfl hl.1 rfl (Nat.le_of_ble_eq_true rfl) dX12_readPerson_21 (by decide) (by decide) (by decide) (by decide)) w [1, 2, 3, 0] [] rfl rfl (by decide) (by decide) rfl rfl (fun v u H locs hp w => ?_)
    obtain ⟨z18, z19, z20, z21, fr22, z23, z24, z25, fy26, fh27⟩ := u
    have hv : iI z18 = v := hp.1
    subst hv
    have z18_a : 0 ≤ z18 := hp.2.1
    have z18_b : z18 ≤ 1 := hp.2.2.1
    have z19_a : 0 ≤ z19 := hp.2.2.2.1
    have z19_b : z19 ≤ 940 := hp.2.2.2.2.1
    have z20_a : 0 ≤ z20 := hp.2.2.2.2.2.1
    have z20_b : z20 ≤ 940 := hp.2.2.2.2.2.2.1
    have z21_a : 0 ≤ z21 := hp.2.2.2.2.2.2.2.1
    have z21_b : z21 ≤ 4 := hp.2.2.2.2.2.2.2.2.1
    have z23_a : (-2147483648) ≤ z23 := hp.2.2.2.2.2.2.2.2.2.1
    have z23_b : z23 ≤ 2147483647 := hp.2.2.2.2.2.2.2.2.2.2.1
    have z24_a : (-2147483648) ≤ z24 := hp.2.2.2.2.2.2.2.2.2.2.2.1
    have z24_b : z24 ≤ 2147483647 := hp.2.2.2.2.2.2.2.2.2.2.2.2.1
    have z25_a : 0 ≤ z25 := hp.2.2.2.2.2.2.2.2.2.2.2.2.2.1
    have z25_b : z25 ≤ 940 := hp.2.2.2.2.2.2.2.2.2.2.2.2.2.2.1
    have ee28 : 0 ≤ (z19 - z2) := hp.2.2.2.2.2.2.2.2.2.2.2.2.2.2.2.1
    have ee29 : 0 ≤ ((((z19 - z2) - z21) + 4) - z18) := hp.2.2.2.2.2.2.2.2.2.2.2.2.2.2.2.2.1
    have pq30 : ∀ x : Tk × Int × Int, gT x z4 z3 z2 fy9 fr5 z6 → RC (sChk f1 h0 x) z18 z24 z25 ∧ (z18 = 1 → gT (nx f0 x1 x2 x) z21 z20 z19 fy26 fr22 z23 ∧ fh27 = vp_updL h0 (ix (f1 0)) (wdO x.1)) := hp.2.2.2.2.2.2.2.2.2.2.2.2.2.2.2.2.2.1
    have pq31 : kpB z18 z7 z24 := hp.2.2.2.2.2.2.2.2.2.2.2.2.2.2.2.2.2.2
    have w : WD D A s.heap [(a0, .inr (11, [.int r0, .ref a1, .int (iI x0), .int (iI x1), .int (iI x2), .int (iI z19), .int (iI z20), .int (iI z21), .int fr22, .int (iI z23), .int (iI z24), .int (iI z25), .long fy26, .int (iI x9), .ref a2, .ref a3, .ref a4, .ref a5, .ref a6, .ref a7, .ref a8, .ref a9, .ref a10, .ref a11, .int (iI x10), .ref a12, .ref a13, .ref a14, .ref a15, .int (iI x11), .int r2, .int r3, .ref a16, .int (iI x12), .int (iI x13), .ref a17, .ref a18, .int (iI x14), .ref a19, .int (iI x15), .int r4, .ref a20, .ref a21, .int (iI x16), .int r5, .ref a22, .int (iI x17), .int (iI x18), .int (iI x19), .int (iI x20)])), (a1, .inl (T 0, 940, .inl (cI f0))), (a3, .inl (T 0, 53, .inl (cI f1))), (a8, .inl (T 1, 12, .inr (.inl fh27)))] H locs := w
    refine lv_if_eq (tgt := 74) hx hb dX12_readPerson_24 (by decide) (fun c_32 => ?_) (fun c_32 => ?_)
    · replace c_32 := (iz_eq (Int.le_trans (by decide) z18_a) (Int.le_trans z18_b (by decide))).mp c_32
      refine lv_iconst (v := iI 0) hx hb dX12_readPerson_74 (by decide +kernel) ?_
      exact ret _ (0, z19, z20, z21, fr22, z23, z24, z25, fy26, x9, f1, fh27) _ _ _ _ _ [0, 1, 2, 3] dX12_readPerson_75 (by decide +kernel) ⟨rfl, (show (0 : Int) ≤ 0 from by decide), (show (0 : Int) ≤ 1 from by decide), z19_a, z19_b, z20_a, z20_b, z21_a, z21_b, z23_a, z23_b, z24_a, z24_b, z25_a, z25_b, x9_a, x9_b, f1_h, (show 0 ≤ (z19 - x3) from by omega), (show 0 ≤ ((((z19 - x3) - z21) + 4) - 0) from by omega), (show ∀ (x : Tk × Int × Int) (o : Int → Int), gT x x5 x4 x3 y0 r1 x6 → ¬ x.1 = tkBad → RP (sPerson f0 x1 x2 x f1 h0 o) 0 z24 z25 (fun y => gT y z21 z20 z19 fy26 fr22 z23) f1 fh27 o from (by intro x o hx hb; have g1 := fs_1 (pq13 x hx) (by omega); rw [sPerson, if_neg g1.1]; exact bdC_bad (pq30 _ g1.2).1 (by omega) rfl)), (show kpB 0 x7 z24 from (fun e => absurd e (by decide)))⟩ w (by decide) rfl
    · replace c_32 : ¬ z18 = 0 := fun h => c_32 ((iz_eq (Int.le_trans (by decide) z18_a) (Int.le_trans z18_b (by decide))).mpr h)
      refine lv_aload_n hx hb dX12_readPerson_27 rfl (lv_at hl 1 rfl) ?_
      refine lv_iconst (v := iI 5) hx hb dX12_readPerson_28 (by decide +kernel) ?_
      refine lv_iload_n hx hb dX12_readPerson_29 rfl (lv_at hl 0 rfl) ?_
      refine r_iadd (v := iI (5 + (f1 0))) M (iI_add _ _) dX12_readPerson_30 ?_
      refine lv_aload_n hx hb dX12_readPerson_31 rfl (lv_at hl 1 rfl) ?_
      refine k_I (ce := 0) (sl := 0) (rest := [.int (iI (5 + (f1 0))), .ref a0]) (wr := [(a3, .inl (T 0, 53, .inl (cI f1))), (a8, .inl (T 1, 12, .inr (.inl fh27)))]) (r_V (f := 3) [0, 1] M w V_HookedCityModel_193 G1682 G58 (c49_X12_readKind l D T _ a0 r0 a1 x0 x1 x2 z19 z20 z21 fr22 z23 z24 z25 fy26 x9 a2 a3 a4 a5 a6 a7 a8 a9 a10 a11 x10 a12 a13 a14 a15 x11 r2 r3 a16 x12 x13 a17 a18 x14 a19 x15 r4 a20 a21 x16 r5 a22 x17 x18 x19 x20 f0 x0_a x0_b x1_a x1_b x2_a x2_b z19_a z19_b z20_a z20_b z21_a z21_b z23_a z23_b z24_a z24_b z25_a z25_b x9_a x9_b x10_a x10_b x11_a x11_b x12_a x12_b x13_a x13_b x14_a x14_b x15_a x15_b x16_a x16_b x17_a x17_b x18_a x18_b x19_a x19_b x20_a x20_b f0_h) 0 clX12 rfl rfl (by decide) rfl hl.1 rfl (Nat.le_of_ble_eq_true rfl) dX12_readPerson_32 (by decide) (by decide) (by decide) (by decide)) w [0, 1] [2, 3] rfl rfl (by decide) (by decide) rfl rfl (fun v u H locs hp w => ?_)
      obtain ⟨z33, z34, z35, z36, fr37, z38, z39, z40, fy41, z42⟩ := u
      have hv : iI z33 = v := hp.1
      subst hv
      have z33_a : 0 ≤ z33 := hp.2.1
      have z33_b : z33 ≤ 1 := hp.2.2.1
      have z34_a : 0 ≤ z34 := hp.2.2.2.1
      have z34_b : z34 ≤ 940 := hp.2.2.2.2.1
      have z35_a : 0 ≤ z35 := hp.2.2.2.2.2.1
      have z35_b : z35 ≤ 940 := hp.2.2.2.2.2.2.1
      have z36_a : 0 ≤ z36 := hp.2.2.2.2.2.2.2.1
      have z36_b : z36 ≤ 4 := hp.2.2.2.2.2.2.2.2.1
      have z38_a : (-2147483648) ≤ z38 := hp.2.2.2.2.2.2.2.2.2.1
      have z38_b : z38 ≤ 2147483647 := hp.2.2.2.2.2.2.2.2.2.2.1
      have z39_a : (-2147483648) ≤ z39 := hp.2.2.2.2.2.2.2.2.2.2.2.1
      have z39_b : z39 ≤ 2147483647 := hp.2.2.2.2.2.2.2.2.2.2.2.2.1
      have z40_a : 0 ≤ z40 := hp.2.2.2.2.2.2.2.2.2.2.2.2.2.1
      have z40_b : z40 ≤ 940 := hp.2.2.2.2.2.2.2.2.2.2.2.2.2.2.1
      have z42_a : (-2147483648) ≤ z42 := hp.2.2.2.2.2.2.2.2.2.2.2.2.2.2.2.1
      have z42_b : z42 ≤ 2147483647 := hp.2.2.2.2.2.2.2.2.2.2.2.2.2.2.2.2.1
      have ee43 : 0 ≤ (z34 - z19) := hp.2.2.2.2.2.2.2.2.2.2.2.2.2.2.2.2.2.1
      have ee44 : 0 ≤ ((((z34 - z19) - z36) + 4) - z33) := hp.2.2.2.2.2.2.2.2.2.2.2.2.2.2.2.2.2.2.1
      have pq45 : ∀ x : Tk × Int × Int, gT x z21 z20 z19 fy26 fr22 z23 → RV (sKd x) z33 z39 z40 z42 ∧ (z33 = 1 → gT (nx f0 x1 x2 x) z36 z35 z34 fy41 fr37 z38) := hp.2.2.2.2.2.2.2.2.2.2.2.2.2.2.2.2.2.2.2.1
      have pq46 : kpB z33 z24 z39 := hp.2.2.2.2.2.2.2.2.2.2.2.2.2.2.2.2.2.2.2.2
      have w : WD D A s.heap [(a3, .inl (T 0, 53, .inl (cI f1))), (a8, .inl (T 1, 12, .inr (.inl fh27))), (a0, .inr (11, [.int r0, .ref a1, .int (iI x0), .int (iI x1), .int (iI x2), .int (iI z34), .int (iI z35), .int (iI z36), .int fr37, .int (iI z38), .int (iI z39), .int (iI z40), .long fy41, .int (iI z42), .ref a2, .ref a3, .ref a4, .ref a5, .ref a6, .ref a7, .ref a8, .ref a9, .ref a10, .ref a11, .int (iI x10), .ref a12, .ref a13, .ref a14, .ref a15, .int (iI x11), .int r2, .int r3, .ref a16, .int (iI x12), .int (iI x13), .ref a17, .ref a18, .int (iI x14), .ref a19, .int (iI x15), .int r4, .ref a20, .ref a21, .int (iI x16), .int r5, .ref a22, .int (iI x17), .int (iI x18), .int (iI x19), .int (iI x20)])), (a1, .inl (T 0, 940, .inl (cI f0)))] H locs := w
      refine k_I (ce := 0) (sl := 0) (rest := []) (wr := [(a8, .inl (T 1, 12, .inr (.inl fh27))), (a1, .inl (T 0, 940, .inl (cI f0)))]) (r_V (f := 0) [2, 0] M w V_HookedCityModel_196 G1686 G59 (c55_X12_put l D T _ a0 (5 + (f1 0)) z33 r0 a1 x0 x1 x2 z34 z35 z36 fr37 z38 z39 z40 fy41 z42 a2 a3 a4 a5 a6 a7 a8 a9 a10 a11 x10 a12 a13 a14 a15 x11 r2 r3 a16 x12 x13 a17 a18 x14 a19 x15 r4 a20 a21 x16 r5 a22 x17 x18 x19 x20 f1 (by omega) (by omega) z33_a z33_b x0_a x0_b x1_a x1_b x2_a x2_b z34_a z34_b z35_a z35_b z36_a z36_b z38_a z38_b z39_a z39_b z40_a z40_b z42_a z42_b x10_a x10_b x11_a x11_b x12_a x12_b x13_a x13_b x14_a x14_b x15_a x15_b x16_a x16_b x17_a x17_b x18_a x18_b x19_a x19_b x20_a x20_b f1_h (fun h => rd_up f1_h (by omega) (by omega) (by unfold rr; omega) (fun h => absurd h (by omega)) (by omega))) 2 clX12 rfl rfl (by decide) rfl hl.1 rfl (Nat.le_of_ble_eq_true rfl) dX12_readPerson_35 (by decide) (by decide) (by decide) (by decide)) w [2, 0] [1, 3] rfl rfl (by decide) (by decide) rfl rfl (fun v u H locs hp w => ?_)
      obtain ⟨z47, ff48⟩ := u
      have hv : iI z47 = v := hp.1
      subst hv
      have z47_a : 0 ≤ z47 := hp.2.1
      have z47_b : z47 ≤ 1 := hp.2.2.1
      have ff48_h : rdI ff48 := hp.2.2.2.1
      have ee49 : 0 ≤ (z33 - z47) := hp.2.2.2.2.1
      have ee50 : 0 ≤ (z47 - z33) := hp.2.2.2.2.2.1
      have pq51 : ff48 0 = f1 0 := hp.2.2.2.2.2.2.1
      have pq52 : ff48 1 = f1 1 := hp.2.2.2.2.2.2.2.1
      have pq53 : z33 = 1 → ff48 = upz f1 (5 + (f1 0)) z42 := hp.2.2.2.2.2.2.2.2
      have w : WD D A s.heap [(a8, .inl (T 1, 12, .inr (.inl fh27))), (a1, .inl (T 0, 940, .inl (cI f0))), (a0, .inr (11, [.int r0, .ref a1, .int (iI x0), .int (iI x1), .int (iI x2), .int (iI z34), .int (iI z35), .int (iI z36), .int fr37, .int (iI z38), .int (iI z39), .int (iI z40), .long fy41, .int (iI z42), .ref a2, .ref a3, .ref a4, .ref a5, .ref a6, .ref a7, .ref a8, .ref a9, .ref a10, .ref a11, .int (iI x10), .ref a12, .ref a13, .ref a14, .ref a15, .int (iI x11), .int r2, .int r3, .ref a16, .int (iI x12), .int (iI x13), .ref a17, .ref a18, .int (iI x14), .ref a19, .int (iI x15), .int r4, .ref a20, .ref a21, .int (iI x16), .int r5, .ref a22, .int (iI x17), .int (iI x18), .int (iI x19), .int (iI x20)])), (a3, .inl (T 0, 53, .inl (cI ff48)))] H locs := w
      refine lv_if_eq (tgt := 74) hx hb dX12_readPerson_38 (by decide) (fun c_54 => ?_) (fun c_54 => ?_)
      · replace c_54 := (iz_eq (Int.le_trans (by decide) z47_a) (Int.le_trans z47_b (by decide))).mp c_54
        refine lv_iconst (v := iI 0) hx hb dX12_readPerson_74 (by decide +kernel) ?_
        exact ret _ (0, z34, z35, z36, fr37, z38, z39, z40, fy41, z42, ff48, fh27) _ _ _ _ _ [2, 1, 3, 0] dX12_readPerson_75 (by decide +kernel) ⟨rfl, (show (0 : Int) ≤ 0 from by decide), (show (0 : Int) ≤ 1 from by decide), z34_a, z34_b, z35_a, z35_b, z36_a, z36_b, z38_a, z38_b, z39_a, z39_b, z40_a, z40_b, z42_a, z42_b, ff48_h, (show 0 ≤ (z34 - x3) from by omega), (show 0 ≤ ((((z34 - x3) - z36) + 4) - 0) from by omega), (show ∀ (x : Tk × Int × Int) (o : Int → Int), gT x x5 x4 x3 y0 r1 x6 → ¬ x.1 = tkBad → RP (sPerson f0 x1 x2 x f1 h0 o) 0 z39 z40 (fun y => gT y z36 z35 z34 fy41 fr37 z38) ff48 fh27 o from (by intro x o hx hb; have g1 := fs_1 (pq13 x hx) (by omega); rw [sPerson, if_neg g1.1]; refine bdC_ok (pq30 _ g1.2).1 (by omega) (fun _ => ?_); have g2 := (pq30 _ g1.2).2 (by omega); have g2h := g2.2; replace g2 := g2.1; exact bdV_bad (pq45 _ g2).1 (by omega) rfl)), (show kpB 0 x7 z39 from (fun e => absurd e (by decide)))⟩ w (by decide) rfl
      · replace c_54 : ¬ z47 = 0 := fun h => c_54 ((iz_eq (Int.le_trans (by decide) z47_a) (Int.le_trans z47_b (by decide))).mpr h)
        refine lv_aload_n hx hb dX12_readPerson_41 rfl (lv_at hl 1 rfl) ?_
        refine lv_bipush (v := iI 14) hx hb dX12_readPerson_42 (by decide +kernel) ?_
        refine lv_iload_n hx hb dX12_readPerson_44 rfl (lv_at hl 0 rfl) ?_
        refine r_iadd (v := iI (14 + (f1 0))) M (iI_add _ _) dX12_readPerson_45 ?_
        refine lv_aload_n hx hb dX12_readPerson_46 rfl (lv_at hl 1 rfl) ?_
        refine k_I (ce := 0) (sl := 0) (rest := [.int (iI (14 + (f1 0))), .ref a0]) (wr := [(a8, .inl (T 1, 12, .inr (.inl fh27))), (a3, .inl (T 0, 53, .inl (cI ff48)))]) (r_V (f := 3) [2, 1] M w V_HookedCityModel_193 G1682 G58 (c49_X12_readKind l D T _ a0 r0 a1 x0 x1 x2 z34 z35 z36 fr37 z38 z39 z40 fy41 z42 a2 a3 a4 a5 a6 a7 a8 a9 a10 a11 x10 a12 a13 a14 a15 x11 r2 r3 a16 x12 x13 a17 a18 x14 a19 x15 r4 a20 a21 x16 r5 a22 x17 x18 x19 x20 f0 x0_a x0_b x1_a x1_b x2_a x2_b z34_a z34_b z35_a z35_b z36_a z36_b z38_a z38_b z39_a z39_b z40_a z40_b z42_a z42_b x10_a x10_b x11_a x11_b x12_a x12_b x13_a x13_b x14_a x14_b x15_a x15_b x16_a x16_b x17_a x17_b x18_a x18_b x19_a x19_b x20_a x20_b f0_h) 2 clX12 rfl rfl (by decide) rfl hl.1 rfl (Nat.le_of_ble_eq_true rfl) dX12_readPerson_47 (by decide) (by decide) (by decide) (by decide)) w [2, 1] [0, 3] rfl rfl (by decide) (by decide) rfl rfl (fun v u H locs hp w => ?_)
        obtain ⟨z55, z56, z57, z58, fr59, z60, z61, z62, fy63, z64⟩ := u
        have hv : iI z55 = v := hp.1
        subst hv
        have z55_a : 0 ≤ z55 := hp.2.1
        have z55_b : z55 ≤ 1 := hp.2.2.1
        have z56_a : 0 ≤ z56 := hp.2.2.2.1
        have z56_b : z56 ≤ 940 := hp.2.2.2.2.1
        have z57_a : 0 ≤ z57 := hp.2.2.2.2.2.1
        have z57_b : z57 ≤ 940 := hp.2.2.2.2.2.2.1
        have z58_a : 0 ≤ z58 := hp.2.2.2.2.2.2.2.1
        have z58_b : z58 ≤ 4 := hp.2.2.2.2.2.2.2.2.1
        have z60_a : (-2147483648) ≤ z60 := hp.2.2.2.2.2.2.2.2.2.1
        have z60_b : z60 ≤ 2147483647 := hp.2.2.2.2.2.2.2.2.2.2.1
        have z61_a : (-2147483648) ≤ z61 := hp.2.2.2.2.2.2.2.2.2.2.2.1
        have z61_b : z61 ≤ 2147483647 := hp.2.2.2.2.2.2.2.2.2.2.2.2.1
        have z62_a : 0 ≤ z62 := hp.2.2.2.2.2.2.2.2.2.2.2.2.2.1
        have z62_b : z62 ≤ 940 := hp.2.2.2.2.2.2.2.2.2.2.2.2.2.2.1
        have z64_a : (-2147483648) ≤ z64 := hp.2.2.2.2.2.2.2.2.2.2.2.2.2.2.2.1
        have z64_b : z64 ≤ 2147483647 := hp.2.2.2.2.2.2.2.2.2.2.2.2.2.2.2.2.1
        have ee65 : 0 ≤ (z56 - z34) := hp.2.2.2.2.2.2.2.2.2.2.2.2.2.2.2.2.2.1
        have ee66 : 0 ≤ ((((z56 - z34) - z58) + 4) - z55) := hp.2.2.2.2.2.2.2.2.2.2.2.2.2.2.2.2.2.2.1
        have pq67 : ∀ x : Tk × Int × Int, gT x z36 z35 z34 fy41 fr37 z38 → RV (sKd x) z55 z61 z62 z64 ∧ (z55 = 1 → gT (nx f0 x1 x2 x) z58 z57 z56 fy63 fr59 z60) := hp.2.2.2.2.2.2.2.2.2.2.2.2.2.2.2.2.2.2.2.1
        have pq68 : kpB z55 z39 z61 := hp.2.2.2.2.2.2.2.2.2.2.2.2.2.2.2.2.2.2.2.2
        have w : WD D A s.heap [(a8, .inl (T 1, 12, .inr (.inl fh27))), (a3, .inl (T 0, 53, .inl (cI ff48))), (a0, .inr (11, [.int r0, .ref a1, .int (iI x0), .int (iI x1), .int (iI x2), .int (iI z56), .int (iI z57), .int (iI z58), .int fr59, .int (iI z60), .int (iI z61), .int (iI z62), .long fy63, .int (iI z64), .ref a2, .ref a3, .ref a4, .ref a5, .ref a6, .ref a7, .ref a8, .ref a9, .ref a10, .ref a11, .int (iI x10), .ref a12, .ref a13, .ref a14, .ref a15, .int (iI x11), .int r2, .int r3, .ref a16, .int (iI x12), .int (iI x13), .ref a17, .ref a18, .int (iI x14), .ref a19, .int (iI x15), .int r4, .ref a20, .ref a21, .int (iI x16), .int r5, .ref a22, .int (iI x17), .int (iI x18), .int (iI x19), .int (iI x20)])), (a1, .inl (T 0, 940, .inl (cI f0)))] H locs := w
        refine k_I (ce := 0) (sl := 0) (rest := []) (wr := [(a8, .inl (T 1, 12, .inr (.inl fh27))), (a1, .inl (T 0, 940, .inl (cI f0)))]) (r_V (f := 0) [2, 1] M w V_HookedCityModel_196 G1686 G59 (c55_X12_put l D T _ a0 (14 + (f1 0)) z55 r0 a1 x0 x1 x2 z56 z57 z58 fr59 z60 z61 z62 fy63 z64 a2 a3 a4 a5 a6 a7 a8 a9 a10 a11 x10 a12 a13 a14 a15 x11 r2 r3 a16 x12 x13 a17 a18 x14 a19 x15 r4 a20 a21 x16 r5 a22 x17 x18 x19 x20 ff48 (by omega) (by omega) z55_a z55_b x0_a x0_b x1_a x1_b x2_a x2_b z56_a z56_b z57_a z57_b z58_a z58_b z60_a z60_b z61_a z61_b z62_a z62_b z64_a z64_b x10_a x10_b x11_a x11_b x12_a x12_b x13_a x13_b x14_a x14_b x15_a x15_b x16_a x16_b x17_a x17_b x18_a x18_b x19_a x19_b x20_a x20_b ff48_h (fun h => rd_up ff48_h (by omega) (by omega) (by unfold rr; omega) (fun h => absurd h (by omega)) (by omega))) 2 clX12 rfl rfl (by decide) rfl hl.1 rfl (Nat.le_of_ble_eq_true rfl) dX12_readPerson_50 (by decide) (by decide) (by decide) (by decide)) w [2, 1] [0, 3] rfl rfl (by decide) (by decide) rfl rfl (fun v u H locs hp w => ?_)
        obtain ⟨z69, ff70⟩ := u
        have hv : iI z69 = v := hp.1
        subst hv
        have z69_a : 0 ≤ z69 := hp.2.1
        have z69_b : z69 ≤ 1 := hp.2.2.1
        have ff70_h : rdI ff70 := hp.2.2.2.1
        have ee71 : 0 ≤ (z55 - z69) := hp.2.2.2.2.1
        have ee72 : 0 ≤ (z69 - z55) := hp.2.2.2.2.2.1
        have pq73 : ff70 0 = ff48 0 := hp.2.2.2.2.2.2.1
        have pq74 : ff70 1 = ff48 1 := hp.2.2.2.2.2.2.2.1
        have pq75 : z55 = 1 → ff70 = upz ff48 (14 + (f1 0)) z64 := hp.2.2.2.2.2.2.2.2
        have w : WD D A s.heap [(a8, .inl (T 1, 12, .inr (.inl fh27))), (a1, .inl (T 0, 940, .inl (cI f0))), (a0, .inr (11, [.int r0, .ref a1, .int (iI x0), .int (iI x1), .int (iI x2), .int (iI z56), .int (iI z57), .int (iI z58), .int fr59, .int (iI z60), .int (iI z61), .int (iI z62), .long fy63, .int (iI z64), .ref a2, .ref a3, .ref a4, .ref a5, .ref a6, .ref a7, .ref a8, .ref a9, .ref a10, .ref a11, .int (iI x10), .ref a12, .ref a13, .ref a14, .ref a15, .int (iI x11), .int r2, .int r3, .ref a16, .int (iI x12), .int (iI x13), .ref a17, .ref a18, .int (iI x14), .ref a19, .int (iI x15), .int r4, .ref a20, .ref a21, .int (iI x16), .int r5, .ref a22, .int (iI x17), .int (iI x18), .int (iI x19), .int (iI x20)])), (a3, .inl (T 0, 53, .inl (cI ff70)))] H locs := w
        refine lv_if_eq (tgt := 74) hx hb dX12_readPerson_53 (by decide) (fun c_76 => ?_) (fun c_76 => ?_)
        · replace c_76 := (iz_eq (Int.le_trans (by decide) z69_a) (Int.le_trans z69_b (by decide))).mp c_76
          refine lv_iconst (v := iI 0) hx hb dX12_readPerson_74 (by decide +kernel) ?_
          exact ret _ (0, z56, z57, z58, fr59, z60, z61, z62, fy63, z64, ff70, fh27) _ _ _ _ _ [2, 1, 3, 0] dX12_readPerson_75 (by decide +kernel) ⟨rfl, (show (0 : Int) ≤ 0 from by decide), (show (0 : Int) ≤ 1 from by decide), z56_a, z56_b, z57_a, z57_b, z58_a, z58_b, z60_a, z60_b, z61_a, z61_b, z62_a, z62_b, z64_a, z64_b, ff70_h, (show 0 ≤ (z56 - x3) from by omega), (show 0 ≤ ((((z56 - x3) - z58) + 4) - 0) from by omega), (show ∀ (x : Tk × Int × Int) (o : Int → Int), gT x x5 x4 x3 y0 r1 x6 → ¬ x.1 = tkBad → RP (sPerson f0 x1 x2 x f1 h0 o) 0 z61 z62 (fun y => gT y z58 z57 z56 fy63 fr59 z60) ff70 fh27 o from (by intro x o hx hb; have g1 := fs_1 (pq13 x hx) (by omega); rw [sPerson, if_neg g1.1]; refine bdC_ok (pq30 _ g1.2).1 (by omega) (fun _ => ?_); have g2 := (pq30 _ g1.2).2 (by omega); have g2h := g2.2; replace g2 := g2.1; refine bdV_ok (pq45 _ g2).1 (by omega) ?_; have g3 := (pq45 _ g2).2 (by omega); exact bdV_bad (pq67 _ g3).1 (by omega) rfl)), (show kpB 0 x7 z61 from (fun e => absurd e (by decide)))⟩ w (by decide) rfl
        · replace c_76 : ¬ z69 = 0 := fun h => c_76 ((iz_eq (Int.le_trans (by decide) z69_a) (Int.le_trans z69_b (by decide))).mpr h)
          refine lv_aload_n hx hb dX12_readPerson_56 rfl (lv_at hl 1 rfl) ?_
          refine lv_bipush (v := iI 23) hx hb dX12_readPerson_57 (by decide +kernel) ?_
          refine lv_iload_n hx hb dX12_readPerson_59 rfl (lv_at hl 0 rfl) ?_
          refine r_iadd (v := iI (23 + (f1 0))) M (iI_add _ _) dX12_readPerson_60 ?_
          refine lv_aload_n hx hb dX12_readPerson_61 rfl (lv_at hl 1 rfl) ?_
          refine lv_iconst (v := iI 1) hx hb dX12_readPerson_62 (by decide +kernel) ?_
          refine lv_bipush (v := iI 9) hx hb dX12_readPerson_63 (by decide +kernel) ?_
          refine k_I (ce := 0) (sl := 0) (rest := [.int (iI (23 + (f1 0))), .ref a0]) (wr := [(a8, .inl (T 1, 12, .inr (.inl fh27))), (a3, .inl (T 0, 53, .inl (cI ff70)))]) (r_V (f := 2) [2, 1] M w V_HookedCityModel_200 G1690 G60 (c46_X12_readNumber l D T _ a0 1 9 r0 a1 x0 x1 x2 z56 z57 z58 fr59 z60 z61 z62 fy63 z64 a2 a3 a4 a5 a6 a7 a8 a9 a10 a11 x10 a12 a13 a14 a15 x11 r2 r3 a16 x12 x13 a17 a18 x14 a19 x15 r4 a20 a21 x16 r5 a22 x17 x18 x19 x20 f0 (by decide) (by decide) (by decide) (by decide) x0_a x0_b x1_a x1_b x2_a x2_b z56_a z56_b z57_a z57_b z58_a z58_b z60_a z60_b z61_a z61_b z62_a z62_b z64_a z64_b x10_a x10_b x11_a x11_b x12_a x12_b x13_a x13_b x14_a x14_b x15_a x15_b x16_a x16_b x17_a x17_b x18_a x18_b x19_a x19_b x20_a x20_b f0_h) 2 clX12 rfl rfl (by decide) rfl hl.1 rfl (Nat.le_of_ble_eq_true rfl) dX12_readPerson_65 (by decide) (by decide) (by decide) (by decide)) w [2, 1] [0, 3] rfl rfl (by decide) (by decide) rfl rfl (fun v u H locs hp w => ?_)
          obtain ⟨z77, z78, z79, z80, fr81, z82, z83, z84, fy85, z86⟩ := u
          have hv : iI z77 = v := hp.1
          subst hv
          have z77_a : 0 ≤ z77 := hp.2.1
          have z77_b : z77 ≤ 1 := hp.2.2.1
          have z78_a : 0 ≤ z78 := hp.2.2.2.1
          have z78_b : z78 ≤ 940 := hp.2.2.2.2.1
          have z79_a : 0 ≤ z79 := hp.2.2.2.2.2.1
          have z79_b : z79 ≤ 940 := hp.2.2.2.2.2.2.1
          have z80_a : 0 ≤ z80 := hp.2.2.2.2.2.2.2.1
          have z80_b : z80 ≤ 4 := hp.2.2.2.2.2.2.2.2.1
          have z82_a : (-2147483648) ≤ z82 := hp.2.2.2.2.2.2.2.2.2.1
          have z82_b : z82 ≤ 2147483647 := hp.2.2.2.2.2.2.2.2.2.2.1
          have z83_a : (-2147483648) ≤ z83 := hp.2.2.2.2.2.2.2.2.2.2.2.1
          have z83_b : z83 ≤ 2147483647 := hp.2.2.2.2.2.2.2.2.2.2.2.2.1
          have z84_a : 0 ≤ z84 := hp.2.2.2.2.2.2.2.2.2.2.2.2.2.1
          have z84_b : z84 ≤ 940 := hp.2.2.2.2.2.2.2.2.2.2.2.2.2.2.1
          have z86_a : (-2147483648) ≤ z86 := hp.2.2.2.2.2.2.2.2.2.2.2.2.2.2.2.1
          have z86_b : z86 ≤ 2147483647 := hp.2.2.2.2.2.2.2.2.2.2.2.2.2.2.2.2.1
          have ee87 : 0 ≤ (z78 - z56) := hp.2.2.2.2.2.2.2.2.2.2.2.2.2.2.2.2.2.1
          have ee88 : 0 ≤ ((((z78 - z56) - z80) + 4) - z77) := hp.2.2.2.2.2.2.2.2.2.2.2.2.2.2.2.2.2.2.1
          have ee89 : 0 ≤ (((z86 - 1) + 4294967296) - (z77 * 4294967296)) := hp.2.2.2.2.2.2.2.2.2.2.2.2.2.2.2.2.2.2.2.1
          have ee90 : 0 ≤ (((9 - z86) + 4294967296) - (z77 * 4294967296)) := hp.2.2.2.2.2.2.2.2.2.2.2.2.2.2.2.2.2.2.2.2.1
          have pq91 : ∀ x : Tk × Int × Int, gT x z58 z57 z56 fy63 fr59 z60 → RV (sNu 1 9 x) z77 z83 z84 z86 ∧ (z77 = 1 → gT (nx f0 x1 x2 x) z80 z79 z78 fy85 fr81 z82) := hp.2.2.2.2.2.2.2.2.2.2.2.2.2.2.2.2.2.2.2.2.2.1
          have pq92 : kpB z77 z61 z83 := hp.2.2.2.2.2.2.2.2.2.2.2.2.2.2.2.2.2.2.2.2.2.2
          have w : WD D A s.heap [(a8, .inl (T 1, 12, .inr (.inl fh27))), (a3, .inl (T 0, 53, .inl (cI ff70))), (a0, .inr (11, [.int r0, .ref a1, .int (iI x0), .int (iI x1), .int (iI x2), .int (iI z78), .int (iI z79), .int (iI z80), .int fr81, .int (iI z82), .int (iI z83), .int (iI z84), .long fy85, .int (iI z86), .ref a2, .ref a3, .ref a4, .ref a5, .ref a6, .ref a7, .ref a8, .ref a9, .ref a10, .ref a11, .int (iI x10), .ref a12, .ref a13, .ref a14, .ref a15, .int (iI x11), .int r2, .int r3, .ref a16, .int (iI x12), .int (iI x13), .ref a17, .ref a18, .int (iI x14), .ref a19, .int (iI x15), .int r4, .ref a20, .ref a21, .int (iI x16), .int r5, .ref a22, .int (iI x17), .int (iI x18), .int (iI x19), .int (iI x20)])), (a1, .inl (T 0, 940, .inl (cI f0)))] H locs := w
          refine k_I (ce := 0) (sl := 0) (rest := []) (wr := [(a8, .inl (T 1, 12, .inr (.inl fh27))), (a1, .inl (T 0, 940, .inl (cI f0)))]) (r_V (f := 0) [2, 1] M w V_HookedCityModel_196 G1686 G59 (c55_X12_put l D T _ a0 (23 + (f1 0)) z77 r0 a1 x0 x1 x2 z78 z79 z80 fr81 z82 z83 z84 fy85 z86 a2 a3 a4 a5 a6 a7 a8 a9 a10 a11 x10 a12 a13 a14 a15 x11 r2 r3 a16 x12 x13 a17 a18 x14 a19 x15 r4 a20 a21 x16 r5 a22 x17 x18 x19 x20 ff70 (by omega) (by omega) z77_a z77_b x0_a x0_b x1_a x1_b x2_a x2_b z78_a z78_b z79_a z79_b z80_a z80_b z82_a z82_b z83_a z83_b z84_a z84_b z86_a z86_b x10_a x10_b x11_a x11_b x12_a x12_b x13_a x13_b x14_a x14_b x15_a x15_b x16_a x16_b x17_a x17_b x18_a x18_b x19_a x19_b x20_a x20_b ff70_h (fun h => rd_up ff70_h (by omega) (by omega) (by unfold rr; omega) (fun h => absurd h (by omega)) (by omega))) 2 clX12 rfl rfl (by decide) rfl hl.1 rfl (Nat.le_of_ble_eq_true rfl) dX12_readPerson_68 (by decide) (by decide) (by decide) (by decide)) w [2, 1] [0, 3] rfl rfl (by decide) (by decide) rfl rfl (fun v u H locs hp w => ?_)
          obtain ⟨z93, ff94⟩ := u
          have hv : iI z93 = v := hp.1
          subst hv
          have z93_a : 0 ≤ z93 := hp.2.1
          have z93_b : z93 ≤ 1 := hp.2.2.1
          have ff94_h : rdI ff94 := hp.2.2.2.1
          have ee95 : 0 ≤ (z77 - z93) := hp.2.2.2.2.1
          have ee96 : 0 ≤ (z93 - z77) := hp.2.2.2.2.2.1
          have pq97 : ff94 0 = ff70 0 := hp.2.2.2.2.2.2.1
          have pq98 : ff94 1 = ff70 1 := hp.2.2.2.2.2.2.2.1
          have pq99 : z77 = 1 → ff94 = upz ff70 (23 + (f1 0)) z86 := hp.2.2.2.2.2.2.2.2
          have w : WD D A s.heap [(a8, .inl (T 1, 12, .inr (.inl fh27))), (a1, .inl (T 0, 940, .inl (cI f0))), (a0, .inr (11, [.int r0, .ref a1, .int (iI x0), .int (iI x1), .int (iI x2), .int (iI z78), .int (iI z79), .int (iI z80), .int fr81, .int (iI z82), .int (iI z83), .int (iI z84), .long fy85, .int (iI z86), .ref a2, .ref a3, .ref a4, .ref a5, .ref a6, .ref a7, .ref a8, .ref a9, .ref a10, .ref a11, .int (iI x10), .ref a12, .ref a13, .ref a14, .ref a15, .int (iI x11), .int r2, .int r3, .ref a16, .int (iI x12), .int (iI x13), .ref a17, .ref a18, .int (iI x14), .ref a19, .int (iI x15), .int r4, .ref a20, .ref a21, .int (iI x16), .int r5, .ref a22, .int (iI x17), .int (iI x18), .int (iI x19), .int (iI x20)])), (a3, .inl (T 0, 53, .inl (cI ff94)))] H locs := w
          refine lv_if_ne (tgt := 76) hx hb dX12_readPerson_71 (by decide) (fun c_100 => ?_) (fun c_100 => ?_)
          · replace c_100 : ¬ z93 = 0 := fun h => c_100 ((iz_eq (Int.le_trans (by decide) z93_a) (Int.le_trans z93_b (by decide))).mpr h)
            refine lv_aload_n hx hb dX12_readPerson_76 rfl (lv_at hl 1 rfl) ?_
            refine r_get (v := .ref a3) M w 2 15 clX12 rfl (by decide) G1478 rfl rfl dX12_readPerson_77 ?_
            refine lv_iconst (v := iI 0) hx hb dX12_readPerson_80 (by decide +kernel) ?_
            refine lv_dup2_11 hx hb dX12_readPerson_81 rfl rfl ?_
            refine r_iald (v := iI (ff94 0)) M w 3 rfl (iI_in (by decide) (by decide) (by decide)) (cI_at (by omega) (by omega)) dX12_readPerson_82 ?_
            have hh101 : (-2147483648) ≤ (ff94 0) ∧ (ff94 0) ≤ 2147483647 := ff94_h.1 0
            have hh102 : 0 ≤ (ff94 0) ∧ (ff94 0) ≤ 9 := (ff94_h.2.1 0).1 (by omega)
            refine lv_iconst (v := iI 1) hx hb dX12_readPerson_83 (by decide +kernel) ?_
            refine r_iadd (v := iI ((ff94 0) + 1)) M (iI_add _ _) dX12_readPerson_84 ?_
            refine r_iast (ws' := [(a8, .inl (T 1, 12, .inr (.inl fh27))), (a1, .inl (T 0, 940, .inl (cI f0))), (a0, .inr (11, [.int r0, .ref a1, .int (iI x0), .int (iI x1), .int (iI x2), .int (iI z78), .int (iI z79), .int (iI z80), .int fr81, .int (iI z82), .int (iI z83), .int (iI z84), .long fy85, .int (iI z86), .ref a2, .ref a3, .ref a4, .ref a5, .ref a6, .ref a7, .ref a8, .ref a9, .ref a10, .ref a11, .int (iI x10), .ref a12, .ref a13, .ref a14, .ref a15, .int (iI x11), .int r2, .int r3, .ref a16, .int (iI x12), .int (iI x13), .ref a17, .ref a18, .int (iI x14), .ref a19, .int (iI x15), .int r4, .ref a20, .ref a21, .int (iI x16), .int r5, .ref a22, .int (iI x17), .int (iI x18), .int (iI x19), .int (iI x20)])), (a3, .inl (T 0, 53, .inl (cI (upz ff94 0 ((ff94 0) + 1)))))]) M w 3 rfl (iI_in (by decide) (by decide) (by decide)) (by rw [cI_up (by omega) (by omega)]; rfl) dX12_readPerson_85 (fun H locs w => ?_)
            refine lv_iconst (v := iI 1) hx hb dX12_readPerson_86 (by decide +kernel) ?_
            exact ret _ (1, z78, z79, z80, fr81, z82, z83, z84, fy85, z86, (upz ff94 0 ((ff94 0) + 1)), fh27) _ _ _ _ _ [2, 1, 3, 0] dX12_readPerson_87 (by decide +kernel) ⟨rfl, (show (0 : Int) ≤ 1 from by decide), (show (1 : Int) ≤ 1 from by decide), z78_a, z78_b, z79_a, z79_b, z80_a, z80_b, z82_a, z82_b, z83_a, z83_b, z84_a, z84_b, z86_a, z86_b, (rd_up ff94_h (by omega) (by omega) (by unfold rr; omega) (fun _ => by omega) (by omega)), (show 0 ≤ (z78 - x3) from by omega), (show 0 ≤ ((((z78 - x3) - z80) + 4) - 1) from by omega), (show ∀ (x : Tk × Int × Int) (o : Int → Int), gT x x5 x4 x3 y0 r1 x6 → ¬ x.1 = tkBad → RP (sPerson f0 x1 x2 x f1 h0 o) 1 z83 z84 (fun y => gT y z80 z79 z78 fy85 fr81 z82) (upz ff94 0 ((ff94 0) + 1)) fh27 o from (by intro x o hx hb; have g1 := fs_1 (pq13 x hx) (by omega); rw [sPerson, if_neg g1.1]; refine bdC_ok (pq30 _ g1.2).1 (by omega) (fun _ => ?_); have g2 := (pq30 _ g1.2).2 (by omega); have g2h := g2.2; replace g2 := g2.1; refine bdV_ok (pq45 _ g2).1 (by omega) ?_; have g3 := (pq45 _ g2).2 (by omega); refine bdV_ok (pq67 _ g3).1 (by omega) ?_; have g4 := (pq67 _ g3).2 (by omega); refine bdV_ok (pq91 _ g4).1 (by omega) ?_; have g5 := (pq91 _ g4).2 (by omega); have e0 : ff94 0 = f1 0 := (by omega); refine ⟨rfl, g5, ?_, g2h, rfl⟩; rw [e0, pq99 (by omega), pq75 (by omega), pq53 (by omega)])), (show kpB 1 x7 z83 from (fun hr => by have y0 := pq14 (by omega); have y1 := pq31 (by omega); have y2 := pq46 (by omega); have y4 := pq68 (by omega); have y6 := pq92 (by omega); omega))⟩ w (by decide) rfl
          · replace c_100 := (iz_eq (Int.le_trans (by decide) z93_a) (Int.le_trans z93_b (by decide))).mp c_100
            refine lv_iconst (v := iI 0) hx hb dX12_readPerson_74 (by decide +kernel) ?_
            exact ret _ (0, z78, z79, z80, fr81, z82, z83, z84, fy85, z86, ff94, fh27) _ _ _ _ _ [2, 1, 3, 0] dX12_readPerson_75 (by decide +kernel) ⟨rfl, (show (0 : Int) ≤ 0 from by decide), (show (0 : Int) ≤ 1 from by decide), z78_a, z78_b, z79_a, z79_b, z80_a, z80_b, z82_a, z82_b, z83_a, z83_b, z84_a, z84_b, z86_a, z86_b, ff94_h, (show 0 ≤ (z78 - x3) from by omega), (show 0 ≤ ((((z78 - x3) - z80) + 4) - 0) from by omega), (show ∀ (x : Tk × Int × Int) (o : Int → Int), gT x x5 x4 x3 y0 r1 x6 → ¬ x.1 = tkBad → RP (sPerson f0 x1 x2 x f1 h0 o) 0 z83 z84 (fun y => gT y z80 z79 z78 fy85 fr81 z82) ff94 fh27 o from (by intro x o hx hb; have g1 := fs_1 (pq13 x hx) (by omega); rw [sPerson, if_neg g1.1]; refine bdC_ok (pq30 _ g1.2).1 (by omega) (fun _ => ?_); have g2 := (pq30 _ g1.2).2 (by omega); have g2h := g2.2; replace g2 := g2.1; refine bdV_ok (pq45 _ g2).1 (by omega) ?_; have g3 := (pq45 _ g2).2 (by omega); refine bdV_ok (pq67 _ g3).1 (by omega) ?_; have g4 := (pq67 _ g3).2 (by omega); exact bdV_bad (pq91 _ g4).1 (by omega) rfl)), (show kpB 0 x7 z83 from (fun e => absurd e (by decide)))⟩ w (by decide) rfl
  · replace c_15 := (iz_eq (Int.le_trans (by decide) z1_a) (Int.le_trans z1_b (by decide))).mp c_15
    refine lv_iconst (v := iI 0) hx hb dX12_readPerson_10 (by decide +kernel) ?_
    exact ret _ (0, z2, z3, z4, fr5, z6, z7, z8, fy9, x9, f1, h0) _ _ _ _ _ [1, 2, 3, 0] dX12_readPerson_11 (by decide +kernel) ⟨rfl, (show (0 : Int) ≤ 0 from by decide), (show (0 : Int) ≤ 1 from by decide), z2_a, z2_b, z3_a, z3_b, z4_a, z4_b, z6_a, z6_b, z7_a, z7_b, z8_a, z8_b, x9_a, x9_b, f1_h, (show 0 ≤ (z2 - x3) from by omega), (show 0 ≤ ((((z2 - x3) - z4) + 4) - 0) from by omega), (show ∀ (x : Tk × Int × Int) (o : Int → Int), gT x x5 x4 x3 y0 r1 x6 → ¬ x.1 = tkBad → RP (sPerson f0 x1 x2 x f1 h0 o) 0 z7 z8 (fun y => gT y z4 z3 z2 fy9 fr5 z6) f1 h0 o from (by intro x o hx hb; obtain ⟨a1, a2, a3⟩ := fs_0 (pq13 x hx) (by omega) hb; rw [sPerson, if_pos a1]; exact ⟨rfl, a3, a2⟩)), (show kpB 0 x7 z7 from (fun e => absurd e (by decide)))⟩ w (by decide) rfl
set_option maxRecDepth 100000 in
set_option maxHeartbeats 4000000 in
theorem c58_X12_readFirst (l : Launch) (D : va_G) (T : Nat → ClassId) (sz : Nat) (a0 : Nat) (r0 : Int32) (a1 : Nat) (x0 : Int) (x1 : Int) (x2 : Int) (x3 : Int) (x4 : Int) (x5 : Int) (r1 : Int32) (x6 : Int) (x7 : Int) (x8 : Int) (y0 : Int64) (x9 : Int) (a2 : Nat) (a3 : Nat) (a4 : Nat) (a5 : Nat) (a6 : Nat) (a7 : Nat) (a8 : Nat) (a9 : Nat) (a10 : Nat) (a11 : Nat) (x10 : Int) (a12 : Nat) (a13 : Nat) (a14 : Nat) (a15 : Nat) (x11 : Int) (r2 : Int32) (r3 : Int32) (a16 : Nat) (x12 : Int) (x13 : Int) (a17 : Nat) (a18 : Nat) (x14 : Int) (a19 : Nat) (x15 : Int) (r4 : Int32) (a20 : Nat) (a21 : Nat) (x16 : Int) (r5 : Int32) (a22 : Nat) (x17 : Int) (x18 : Int) (x19 : Int) (x20 : Int) (f0 : Int → Int) (f1 : Int → Int) (x0_a : 0 ≤ x0) (x0_b : x0 ≤ 940) (x1_a : 0 ≤ x1) (x1_b : x1 ≤ 940) (x2_a : 0 ≤ x2) (x2_b : x2 ≤ 940) (x3_a : 0 ≤ x3) (x3_b : x3 ≤ 940) (x4_a : 0 ≤ x4) (x4_b : x4 ≤ 940) (x5_a : 0 ≤ x5) (x5_b : x5 ≤ 4) (x6_a : (-2147483648) ≤ x6) (x6_b : x6 ≤ 2147483647) (x7_a : (-2147483648) ≤ x7) (x7_b : x7 ≤ 2147483647) (x8_a : 0 ≤ x8) (x8_b : x8 ≤ 940) (x9_a : (-2147483648) ≤ x9) (x9_b : x9 ≤ 2147483647) (x10_a : 0 ≤ x10) (x10_b : x10 ≤ 8) (x11_a : 0 ≤ x11) (x11_b : x11 ≤ 9) (x12_a : (-1) ≤ x12) (x12_b : x12 ≤ 9) (x13_a : (-1) ≤ x13) (x13_b : x13 ≤ 8) (x14_a : 0 ≤ x14) (x14_b : x14 ≤ 9) (x15_a : 0 ≤ x15) (x15_b : x15 ≤ 64) (x16_a : 0 ≤ x16) (x16_b : x16 ≤ 40) (x17_a : 0 ≤ x17) (x17_b : x17 ≤ 40) (x18_a : 0 ≤ x18) (x18_b : x18 ≤ 20) (x19_a : 0 ≤ x19) (x19_b : x19 ≤ 8) (x20_a : 0 ≤ x20) (x20_b : x20 ≤ 39) (f0_h : rng 0 255 f0) (f1_h : rdI f1) : Met l yX12_readFirst (Cond.code yX12_readFirst cX12_readFirst 3 (some .boolean) :: GW) (Rm 2 0 0) (cPre [.ref a0, .int (iI 1), .int (iI 3)] D T [(a0, .inr (11, [.int r0, .ref a1, .int (iI x0), .int (iI x1), .int (iI x2), .int (iI x3), .int (iI x4), .int (iI x5), .int r1, .int (iI x6), .int (iI x7), .int (iI x8), .long y0, .int (iI x9), .ref a2, .ref a3, .ref a4, .ref a5, .ref a6, .ref a7, .ref a8, .ref a9, .ref a10, .ref a11, .int (iI x10), .ref a12, .ref a13, .ref a14, .ref a15, .int (iI x11), .int r2, .int r3, .ref a16, .int (iI x12), .int (iI x13), .ref a17, .ref a18, .int (iI x14), .ref a19, .int (iI x15), .int r4, .ref a20, .ref a21, .int (iI x16), .int r5, .ref a22, .int (iI x17), .int (iI x18), .int (iI x19), .int (iI x20)])), (a1, .inl (T 0, 940, .inl (cI f0))), (a3, .inl (T 0, 53, .inl (cI f1)))] sz) (qI D [(a0, .inr (11, [.int r0, .ref a1, .int (iI x0), .int (iI x1), .int (iI x2), .int (iI x3), .int (iI x4), .int (iI x5), .int r1, .int (iI x6), .int (iI x7), .int (iI x8), .long y0, .int (iI x9), .ref a2, .ref a3, .ref a4, .ref a5, .ref a6, .ref a7, .ref a8, .ref a9, .ref a10, .ref a11, .int (iI x10), .ref a12, .ref a13, .ref a14, .ref a15, .int (iI x11), .int r2, .int r3, .ref a16, .int (iI x12), .int (iI x13), .ref a17, .ref a18, .int (iI x14), .ref a19, .int (iI x15), .int r4, .ref a20, .ref a21, .int (iI x16), .int r5, .ref a22, .int (iI x17), .int (iI x18), .int (iI x19), .int (iI x20)])), (a1, .inl (T 0, 940, .inl (cI f0))), (a3, .inl (T 0, 53, .inl (cI f1)))] sz (fun (v : Int32) (u : Int × Int × Int × Int × Int32 × Int × Int × Int × Int64) => iI u.1 = v ∧ 0 ≤ u.1 ∧ u.1 ≤ 1 ∧ 0 ≤ u.2.1 ∧ u.2.1 ≤ 940 ∧ 0 ≤ u.2.2.1 ∧ u.2.2.1 ≤ 940 ∧ 0 ≤ u.2.2.2.1 ∧ u.2.2.2.1 ≤ 4 ∧ (-2147483648) ≤ u.2.2.2.2.2.1 ∧ u.2.2.2.2.2.1 ≤ 2147483647 ∧ (-2147483648) ≤ u.2.2.2.2.2.2.1 ∧ u.2.2.2.2.2.2.1 ≤ 2147483647 ∧ 0 ≤ u.2.2.2.2.2.2.2.1 ∧ u.2.2.2.2.2.2.2.1 ≤ 940 ∧ 0 ≤ (u.2.1 - x3) ∧ 0 ≤ ((((u.2.1 - x3) - u.2.2.2.1) + 4) - u.1) ∧ (u.1 = 1 → f1 1 ≤ 2) ∧ (∀ x : Tk × Int × Int, gT x x5 x4 x3 y0 r1 x6 → fsP f0 x1 x2 f1 1 3 x u.1 u.2.2.2.2.2.2.1 u.2.2.2.2.2.2.2.1 (fun y => gT y u.2.2.2.1 u.2.2.1 u.2.1 u.2.2.2.2.2.2.2.2 u.2.2.2.2.1 u.2.2.2.2.2.1)) ∧ (kpB u.1 x7 u.2.2.2.2.2.2.1)) (fun u => [(a0, .inr (11, [.int r0, .ref a1, .int (iI x0), .int (iI x1), .int (iI x2), .int (iI u.2.1), .int (iI u.2.2.1), .int (iI u.2.2.2.1), .int u.2.2.2.2.1, .int (iI u.2.2.2.2.2.1), .int (iI u.2.2.2.2.2.2.1), .int (iI u.2.2.2.2.2.2.2.1), .long u.2.2.2.2.2.2.2.2, .int (iI x9), .ref a2, .ref a3, .ref a4, .ref a5, .ref a6, .ref a7, .ref a8, .ref a9, .ref a10, .ref a11, .int (iI x10), .ref a12, .ref a13, .ref a14, .ref a15, .int (iI x11), .int r2, .int r3, .ref a16, .int (iI x12), .int (iI x13), .ref a17, .ref a18, .int (iI x14), .ref a19, .int (iI x15), .int r4, .ref a20, .ref a21, .int (iI x16), .int r5, .ref a22, .int (iI x17), .int (iI x18), .int (iI x19), .int (iI x20)])), (a1, .inl (T 0, 940, .inl (cI f0))), (a3, .inl (T 0, 53, .inl (cI f1)))])) 0 0 (va_A [(a0, .inr (11, [.int r0, .ref a1, .int (iI x0), .int (iI x1), .int (iI x2), .int (iI x3), .int (iI x4), .int (iI x5), .int r1, .int (iI x6), .int (iI x7), .int (iI x8), .long y0, .int (iI x9), .ref a2, .ref a3, .ref a4, .ref a5, .ref a6, .ref a7, .ref a8, .ref a9, .ref a10, .ref a11, .int (iI x10), .ref a12, .ref a13, .ref a14, .ref a15, .int (iI x11), .int r2, .int r3, .ref a16, .int (iI x12), .int (iI x13), .ref a17, .ref a18, .int (iI x14), .ref a19, .int (iI x15), .int r4, .ref a20, .ref a21, .int (iI x16), .int r5, .ref a22, .int (iI x17), .int (iI x18), .int (iI x19), .int (iI x20)])), (a1, .inl (T 0, 940, .inl (cI f0))), (a3, .inl (T 0, 53, .inl (cI f1)))] sz) := by
  refine e_Z (by decide) (Nat.le_of_ble_eq_true rfl) ?_
  intro p e s m args below meth c A Q ls M hin w ret hl
  have hx := M.1.1
  have hb := M.1.2.1
  have hl : lv_has ls 3 [(0, .ref a0), (1, .int (iI 1)), (2, .int (iI 3))] := hl
  refine lv_aload_n hx hb dX12_readFirst_0 rfl (lv_at hl 0 rfl) ?_
  refine r_get (v := .ref a3) M w 0 15 clX12 rfl (by decide) G1478 rfl rfl dX12_readFirst_1 ?_
  refine lv_iload_n hx hb dX12_readFirst_4 rfl (lv_at hl 1 rfl) ?_
  refine r_iald (v := iI (f1 1)) M w 2 rfl (iI_in (by decide) (by decide) (by decide)) (cI_at (by omega) (by omega)) dX12_readFirst_5 ?_
  have hh1 : (-2147483648) ≤ (f1 1) ∧ (f1 1) ≤ 2147483647 := f1_h.1 1
  have hh2 : 0 ≤ (f1 1) ∧ (f1 1) ≤ 3 := (f1_h.2.1 1).2.1 (by omega)
  refine lv_iload_n hx hb dX12_readFirst_6 rfl (lv_at hl 2 rfl) ?_
  refine lv_icmp_ne (tgt := 16) hx hb dX12_readFirst_7 (by decide) (fun c_3 => ?_) (fun c_3 => ?_)
  · replace c_3 : ¬ (f1 1) = 3 := fun h => c_3 ((iI_eq (by omega) (by omega) (by decide) (by decide)).mpr h)
    refine lv_aload_n hx hb dX12_readFirst_16 rfl (lv_at hl 0 rfl) ?_
    refine k_V (ce := 0) (sl := 0) (rest := []) (wr := [(a3, .inl (T 0, 53, .inl (cI f1)))]) (r_V (f := 1) [0, 1] M w V_HookedCityModel_82 G1629 G49 (c12_X12_go l D T _ a0 r0 a1 x0 x1 x2 x3 x4 x5 r1 x6 x7 x8 y0 x9 a2 a3 a4 a5 a6 a7 a8 a9 a10 a11 x10 a12 a13 a14 a15 x11 r2 r3 a16 x12 x13 a17 a18 x14 a19 x15 r4 a20 a21 x16 r5 a22 x17 x18 x19 x20 f0 x0_a x0_b x1_a x1_b x2_a x2_b x3_a x3_b x4_a x4_b x5_a x5_b x6_a x6_b x7_a x7_b x8_a x8_b x9_a x9_b x10_a x10_b x11_a x11_b x12_a x12_b x13_a x13_b x14_a x14_b x15_a x15_b x16_a x16_b x17_a x17_b x18_a x18_b x19_a x19_b x20_a x20_b f0_h) 0 clX12 rfl rfl (by decide) rfl hl.1 rfl (Nat.le_of_ble_eq_true rfl) dX12_readFirst_17 (by decide) (by decide) (by decide) (by decide)) w [0, 1] [2] rfl rfl (by decide) (by decide) rfl rfl (fun u H locs hp w => ?_)
    obtain ⟨z4, z5, z6, fr7, z8, fy9⟩ := u
    have z4_a : 0 ≤ z4 := hp.1
    have z4_b : z4 ≤ 940 := hp.2.1
    have z5_a : 0 ≤ z5 := hp.2.2.1
    have z5_b : z5 ≤ 940 := hp.2.2.2.1
    have z6_a : 0 ≤ z6 := hp.2.2.2.2.1
    have z6_b : z6 ≤ 4 := hp.2.2.2.2.2.1
    have z8_a : (-2147483648) ≤ z8 := hp.2.2.2.2.2.2.1
    have z8_b : z8 ≤ 2147483647 := hp.2.2.2.2.2.2.2.1
    have ee10 : 0 ≤ (z4 - x3) := hp.2.2.2.2.2.2.2.2.1
    have ee11 : 0 ≤ (((z4 - x3) - z6) + 3) := hp.2.2.2.2.2.2.2.2.2.1
    have pq12 : gT (tkAt f0 x1 x2 x3) z6 z5 z4 fy9 fr7 z8 := hp.2.2.2.2.2.2.2.2.2.2
    have w : WD D A s.heap [(a3, .inl (T 0, 53, .inl (cI f1))), (a0, .inr (11, [.int r0, .ref a1, .int (iI x0), .int (iI x1), .int (iI x2), .int (iI z4), .int (iI z5), .int (iI z6), .int fr7, .int (iI z8), .int (iI x7), .int (iI x8), .long fy9, .int (iI x9), .ref a2, .ref a3, .ref a4, .ref a5, .ref a6, .ref a7, .ref a8, .ref a9, .ref a10, .ref a11, .int (iI x10), .ref a12, .ref a13, .ref a14, .ref a15, .int (iI x11), .int r2, .int r3, .ref a16, .int (iI x12), .int (iI x13), .ref a17, .ref a18, .int (iI x14), .ref a19, .int (iI x15), .int r4, .ref a20, .ref a21, .int (iI x16), .int r5, .ref a22, .int (iI x17), .int (iI x18), .int (iI x19), .int (iI x20)])), (a1, .inl (T 0, 940, .inl (cI f0)))] H locs := w
    refine lv_iconst (v := iI 1) hx hb dX12_readFirst_20 (by decide +kernel) ?_
    exact ret _ (1, z4, z5, z6, fr7, z8, x7, x8, fy9) _ _ _ _ _ [1, 2, 0] dX12_readFirst_21 (by decide +kernel) ⟨rfl, (show (0 : Int) ≤ 1 from by decide), (show (1 : Int) ≤ 1 from by decide), z4_a, z4_b, z5_a, z5_b, z6_a, z6_b, z8_a, z8_b, x7_a, x7_b, x8_a, x8_b, (show 0 ≤ (z4 - x3) from by omega), (show 0 ≤ ((((z4 - x3) - z6) + 4) - 1) from by omega), (show 1 = 1 → f1 1 ≤ 2 from (fun _ => by omega)), (show ∀ x : Tk × Int × Int, gT x x5 x4 x3 y0 r1 x6 → fsP f0 x1 x2 f1 1 3 x 1 x7 x8 (fun y => gT y z6 z5 z4 fy9 fr7 z8) from (fst_B (by omega) pq12)), (show kpB 1 x7 x7 from (fun hr => by omega))⟩ w (by decide) rfl
  · replace c_3 := (iI_eq (by omega) (by omega) (by decide) (by decide)).mp c_3
    refine lv_aload_n hx hb dX12_readFirst_10 rfl (lv_at hl 0 rfl) ?_
    refine lv_iconst (v := iI 4) hx hb dX12_readFirst_11 (by decide +kernel) ?_
    refine k_I (ce := 0) (sl := 0) (rest := []) (wr := [(a1, .inl (T 0, 940, .inl (cI f0))), (a3, .inl (T 0, 53, .inl (cI f1)))]) (r_V (f := 0) [0] M w V_HookedCityModel_72 G1667 G55 (c45_X12_bad l D T _ a0 4 r0 a1 x0 x1 x2 x3 x4 x5 r1 x6 x7 x8 y0 x9 a2 a3 a4 a5 a6 a7 a8 a9 a10 a11 x10 a12 a13 a14 a15 x11 r2 r3 a16 x12 x13 a17 a18 x14 a19 x15 r4 a20 a21 x16 r5 a22 x17 x18 x19 x20 (by decide) (by decide) x0_a x0_b x1_a x1_b x2_a x2_b x3_a x3_b x4_a x4_b x5_a x5_b x6_a x6_b x7_a x7_b x8_a x8_b x9_a x9_b x10_a x10_b x11_a x11_b x12_a x12_b x13_a x13_b x14_a x14_b x15_a x15_b x16_a x16_b x17_a x17_b x18_a x18_b x19_a x19_b x20_a x20_b) 0 clX12 rfl rfl (by decide) rfl hl.1 rfl (Nat.le_of_ble_eq_true rfl) dX12_readFirst_12 (by decide) (by decide) (by decide) (by decide)) w [0] [1, 2] rfl rfl (by decide) (by decide) rfl rfl (fun v u H locs hp w => ?_)
    obtain ⟨z13, z14, z15⟩ := u
    have hv : iI z13 = v := hp.1
    subst hv
    have z13_a : 0 ≤ z13 := hp.2.1
    have z13_b : z13 ≤ 1 := hp.2.2.1
    have z14_a : (-2147483648) ≤ z14 := hp.2.2.2.1
    have z14_b : z14 ≤ 2147483647 := hp.2.2.2.2.1
    have z15_a : 0 ≤ z15 := hp.2.2.2.2.2.1
    have z15_b : z15 ≤ 940 := hp.2.2.2.2.2.2.1
    have pq16 : baQ x5 4 z14 := hp.2.2.2.2.2.2.2.1
    have pq17 : z15 = x4 := hp.2.2.2.2.2.2.2.2.1
    have w : WD D A s.heap [(a1, .inl (T 0, 940, .inl (cI f0))), (a3, .inl (T 0, 53, .inl (cI f1))), (a0, .inr (11, [.int r0, .ref a1, .int (iI x0), .int (iI x1), .int (iI x2), .int (iI x3), .int (iI x4), .int (iI x5), .int r1, .int (iI x6), .int (iI z14), .int (iI z15), .long y0, .int (iI x9), .ref a2, .ref a3, .ref a4, .ref a5, .ref a6, .ref a7, .ref a8, .ref a9, .ref a10, .ref a11, .int (iI x10), .ref a12, .ref a13, .ref a14, .ref a15, .int (iI x11), .int r2, .int r3, .ref a16, .int (iI x12), .int (iI x13), .ref a17, .ref a18, .int (iI x14), .ref a19, .int (iI x15), .int r4, .ref a20, .ref a21, .int (iI x16), .int r5, .ref a22, .int (iI x17), .int (iI x18), .int (iI x19), .int (iI x20)]))] H locs := w
    rcases hp.2.2.2.2.2.2.2.2.2 with hr
    · subst hr
      exact ret _ (0, x3, x4, x5, r1, x6, z14, z15, y0) _ _ _ _ _ [2, 0, 1] dX12_readFirst_15 (by decide +kernel) ⟨rfl, (show (0 : Int) ≤ 0 from by decide), (show (0 : Int) ≤ 1 from by decide), x3_a, x3_b, x4_a, x4_b, x5_a, x5_b, x6_a, x6_b, z14_a, z14_b, z15_a, z15_b, (show 0 ≤ (x3 - x3) from by omega), (show 0 ≤ ((((x3 - x3) - x5) + 4) - 0) from by omega), (show 0 = 1 → f1 1 ≤ 2 from (fun h => absurd h (by decide))), (show ∀ x : Tk × Int × Int, gT x x5 x4 x3 y0 r1 x6 → fsP f0 x1 x2 f1 1 3 x 0 z14 z15 (fun y => gT y x5 x4 x3 y0 r1 x6) from (fst_A (by omega) pq16 pq17)), (show kpB 0 x7 z14 from (fun e => absurd e (by decide)))⟩ w (by decide) rfl
set_option maxRecDepth 100000 in
set_option maxHeartbeats 4000000 in
theorem c59_X12_readMaid (l : Launch) (D : va_G) (T : Nat → ClassId) (sz : Nat) (a0 : Nat) (r0 : Int32) (a1 : Nat) (x0 : Int) (x1 : Int) (x2 : Int) (x3 : Int) (x4 : Int) (x5 : Int) (r1 : Int32) (x6 : Int) (x7 : Int) (x8 : Int) (y0 : Int64) (x9 : Int) (a2 : Nat) (a3 : Nat) (a4 : Nat) (a5 : Nat) (a6 : Nat) (a7 : Nat) (a8 : Nat) (a9 : Nat) (a10 : Nat) (a11 : Nat) (x10 : Int) (a12 : Nat) (a13 : Nat) (a14 : Nat) (a15 : Nat) (x11 : Int) (r2 : Int32) (r3 : Int32) (a16 : Nat) (x12 : Int) (x13 : Int) (a17 : Nat) (a18 : Nat) (x14 : Int) (a19 : Nat) (x15 : Int) (r4 : Int32) (a20 : Nat) (a21 : Nat) (x16 : Int) (r5 : Int32) (a22 : Nat) (x17 : Int) (x18 : Int) (x19 : Int) (x20 : Int) (f0 : Int → Int) (f1 : Int → Int) (h0 : Nat → Int64) (x0_a : 0 ≤ x0) (x0_b : x0 ≤ 940) (x1_a : 0 ≤ x1) (x1_b : x1 ≤ 940) (x2_a : 0 ≤ x2) (x2_b : x2 ≤ 940) (x3_a : 0 ≤ x3) (x3_b : x3 ≤ 940) (x4_a : 0 ≤ x4) (x4_b : x4 ≤ 940) (x5_a : 0 ≤ x5) (x5_b : x5 ≤ 4) (x6_a : (-2147483648) ≤ x6) (x6_b : x6 ≤ 2147483647) (x7_a : (-2147483648) ≤ x7) (x7_b : x7 ≤ 2147483647) (x8_a : 0 ≤ x8) (x8_b : x8 ≤ 940) (x9_a : (-2147483648) ≤ x9) (x9_b : x9 ≤ 2147483647) (x10_a : 0 ≤ x10) (x10_b : x10 ≤ 8) (x11_a : 0 ≤ x11) (x11_b : x11 ≤ 9) (x12_a : (-1) ≤ x12) (x12_b : x12 ≤ 9) (x13_a : (-1) ≤ x13) (x13_b : x13 ≤ 8) (x14_a : 0 ≤ x14) (x14_b : x14 ≤ 9) (x15_a : 0 ≤ x15) (x15_b : x15 ≤ 64) (x16_a : 0 ≤ x16) (x16_b : x16 ≤ 40) (x17_a : 0 ≤ x17) (x17_b : x17 ≤ 40) (x18_a : 0 ≤ x18) (x18_b : x18 ≤ 20) (x19_a : 0 ≤ x19) (x19_b : x19 ≤ 8) (x20_a : 0 ≤ x20) (x20_b : x20 ≤ 39) (f0_h : rng 0 255 f0) (f1_h : rdI f1) : Met l yX12_readMaid (Cond.code yX12_readMaid cX12_readMaid 2 (some .boolean) :: GW) (Rm 4 0 0) (cPre [.ref a0] D T [(a0, .inr (11, [.int r0, .ref a1, .int (iI x0), .int (iI x1), .int (iI x2), .int (iI x3), .int (iI x4), .int (iI x5), .int r1, .int (iI x6), .int (iI x7), .int (iI x8), .long y0, .int (iI x9), .ref a2, .ref a3, .ref a4, .ref a5, .ref a6, .ref a7, .ref a8, .ref a9, .ref a10, .ref a11, .int (iI x10), .ref a12, .ref a13, .ref a14, .ref a15, .int (iI x11), .int r2, .int r3, .ref a16, .int (iI x12), .int (iI x13), .ref a17, .ref a18, .int (iI x14), .ref a19, .int (iI x15), .int r4, .ref a20, .ref a21, .int (iI x16), .int r5, .ref a22, .int (iI x17), .int (iI x18), .int (iI x19), .int (iI x20)])), (a1, .inl (T 0, 940, .inl (cI f0))), (a3, .inl (T 0, 53, .inl (cI f1))), (a8, .inl (T 1, 12, .inr (.inl h0)))] sz) (qI D [(a0, .inr (11, [.int r0, .ref a1, .int (iI x0), .int (iI x1), .int (iI x2), .int (iI x3), .int (iI x4), .int (iI x5), .int r1, .int (iI x6), .int (iI x7), .int (iI x8), .long y0, .int (iI x9), .ref a2, .ref a3, .ref a4, .ref a5, .ref a6, .ref a7, .ref a8, .ref a9, .ref a10, .ref a11, .int (iI x10), .ref a12, .ref a13, .ref a14, .ref a15, .int (iI x11), .int r2, .int r3, .ref a16, .int (iI x12), .int (iI x13), .ref a17, .ref a18, .int (iI x14), .ref a19, .int (iI x15), .int r4, .ref a20, .ref a21, .int (iI x16), .int r5, .ref a22, .int (iI x17), .int (iI x18), .int (iI x19), .int (iI x20)])), (a1, .inl (T 0, 940, .inl (cI f0))), (a3, .inl (T 0, 53, .inl (cI f1))), (a8, .inl (T 1, 12, .inr (.inl h0)))] sz (fun (v : Int32) (u : Int × Int × Int × Int × Int32 × Int × Int × Int × Int64 × Int × (Int → Int) × (Nat → Int64)) => iI u.1 = v ∧ 0 ≤ u.1 ∧ u.1 ≤ 1 ∧ 0 ≤ u.2.1 ∧ u.2.1 ≤ 940 ∧ 0 ≤ u.2.2.1 ∧ u.2.2.1 ≤ 940 ∧ 0 ≤ u.2.2.2.1 ∧ u.2.2.2.1 ≤ 4 ∧ (-2147483648) ≤ u.2.2.2.2.2.1 ∧ u.2.2.2.2.2.1 ≤ 2147483647 ∧ (-2147483648) ≤ u.2.2.2.2.2.2.1 ∧ u.2.2.2.2.2.2.1 ≤ 2147483647 ∧ 0 ≤ u.2.2.2.2.2.2.2.1 ∧ u.2.2.2.2.2.2.2.1 ≤ 940 ∧ (-2147483648) ≤ u.2.2.2.2.2.2.2.2.2.1 ∧ u.2.2.2.2.2.2.2.2.2.1 ≤ 2147483647 ∧ rdI u.2.2.2.2.2.2.2.2.2.2.1 ∧ 0 ≤ (u.2.1 - x3) ∧ 0 ≤ ((((u.2.1 - x3) - u.2.2.2.1) + 4) - u.1) ∧ (∀ (x : Tk × Int × Int) (o : Int → Int), gT x x5 x4 x3 y0 r1 x6 → ¬ x.1 = tkBad → RP (sMaid f0 x1 x2 x f1 h0 o) u.1 u.2.2.2.2.2.2.1 u.2.2.2.2.2.2.2.1 (fun y => gT y u.2.2.2.1 u.2.2.1 u.2.1 u.2.2.2.2.2.2.2.2.1 u.2.2.2.2.1 u.2.2.2.2.2.1) u.2.2.2.2.2.2.2.2.2.2.1 u.2.2.2.2.2.2.2.2.2.2.2 o) ∧ (kpB u.1 x7 u.2.2.2.2.2.2.1)) (fun u => [(a0, .inr (11, [.int r0, .ref a1, .int (iI x0), .int (iI x1), .int (iI x2), .int (iI u.2.1), .int (iI u.2.2.1), .int (iI u.2.2.2.1), .int u.2.2.2.2.1, .int (iI u.2.2.2.2.2.1), .int (iI u.2.2.2.2.2.2.1), .int (iI u.2.2.2.2.2.2.2.1), .long u.2.2.2.2.2.2.2.2.1, .int (iI u.2.2.2.2.2.2.2.2.2.1), .ref a2, .ref a3, .ref a4, .ref a5, .ref a6, .ref a7, .ref a8, .ref a9, .ref a10, .ref a11, .int (iI x10), .ref a12, .ref a13, .ref a14, .ref a15, .int (iI x11), .int r2, .int r3, .ref a16, .int (iI x12), .int (iI x13), .ref a17, .ref a18, .int (iI x14), .ref a19, .int (iI x15), .int r4, .ref a20, .ref a21, .int (iI x16), .int r5, .ref a22, .int (iI x17), .int (iI x18), .int (iI x19), .int (iI x20)])), (a1, .inl (T 0, 940, .inl (cI f0))), (a3, .inl (T 0, 53, .inl (cI u.2.2.2.2.2.2.2.2.2.2.1))), (a8, .inl (T 1, 12, .inr (.inl u.2.2.2.2.2.2.2.2.2.2.2)))])) 0 0 (va_A [(a0, .inr (11, [.int r0, .ref a1, .int (iI x0), .int (iI x1), .int (iI x2), .int (iI x3), .int (iI x4), .int (iI x5), .int r1, .int (iI x6), .int (iI x7), .int (iI x8), .long y0, .int (iI x9), .ref a2, .ref a3, .ref a4, .ref a5, .ref a6, .ref a7, .ref a8, .ref a9, .ref a10, .ref a11, .int (iI x10), .ref a12, .ref a13, .ref a14, .ref a15, .int (iI x11), .int r2, .int r3, .ref a16, .int (iI x12), .int (iI x13), .ref a17, .ref a18, .int (iI x14), .ref a19, .int (iI x15), .int r4, .ref a20, .ref a21, .int (iI x16), .int r5, .ref a22, .int (iI x17), .int (iI x18), .int (iI x19), .int (iI x20)])), (a1, .inl (T 0, 940, .inl (cI f0))), (a3, .inl (T 0, 53, .inl (cI f1))), (a8, .inl (T 1, 12, .inr (.inl h0)))] sz) := by
  refine e_Z (by decide) (Nat.le_of_ble_eq_true rfl) ?_
  intro p e s m args below meth c A Q ls M hin w ret hl
  have hx := M.1.1
  have hb := M.1.2.1
  have hl : lv_has ls 2 [(0, .ref a0)] := hl
  refine lv_aload_n hx hb dX12_readMaid_0 rfl (lv_at hl 0 rfl) ?_
  refine lv_iconst (v := iI 1) hx hb dX12_readMaid_1 (by decide +kernel) ?_
  refine lv_iconst (v := iI 3) hx hb dX12_readMaid_2 (by decide +kernel) ?_
  refine k_I (ce := 0) (sl := 0) (rest := []) (wr := [(a8, .inl (T 1, 12, .inr (.inl h0)))]) (r_V (f := 2) [0, 1, 2] M w V_HookedCityModel_186 G1663 G54 (c58_X12_readFirst l D T _ a0 r0 a1 x0 x1 x2 x3 x4 x5 r1 x6 x7 x8 y0 x9 a2 a3 a4 a5 a6 a7 a8 a9 a10 a11 x10 a12 a13 a14 a15 x11 r2 r3 a16 x12 x13 a17 a18 x14 a19 x15 r4 a20 a21 x16 r5 a22 x17 x18 x19 x20 f0 f1 x0_a x0_b x1_a x1_b x2_a x2_b x3_a x3_b x4_a x4_b x5_a x5_b x6_a x6_b x7_a x7_b x8_a x8_b x9_a x9_b x10_a x10_b x11_a x11_b x12_a x12_b x13_a x13_b x14_a x14_b x15_a x15_b x16_a x16_b x17_a x17_b x18_a x18_b x19_a x19_b x20_a x20_b f0_h f1_h) 0 clX12 rfl rfl (by decide) rfl hl.1 rfl (Nat.le_of_ble_eq_true rfl) dX12_readMaid_3 (by decide) (by decide) (by decide) (by decide)) w [0, 1, 2] [3] rfl rfl (by decide) (by decide) rfl rfl (fun v u H locs hp w => ?_)
  obtain ⟨z1, z2, z3, z4, fr5, z6, z7, z8, fy9⟩ := u
  have hv : iI z1 = v := hp.1
  subst hv
  have z1_a : 0 ≤ z1 := hp.2.1
  have z1_b : z1 ≤ 1 := hp.2.2.1
  have z2_a : 0 ≤ z2 := hp.2.2.2.1
  have z2_b : z2 ≤ 940 := hp.2.2.2.2.1
  have z3_a : 0 ≤ z3 := hp.2.2.2.2.2.1
  have z3_b : z3 ≤ 940 := hp.2.2.2.2.2.2.1
  have z4_a : 0 ≤ z4 := hp.2.2.2.2.2.2.2.1
  have z4_b : z4 ≤ 4 := hp.2.2.2.2.2.2.2.2.1
  have z6_a : (-2147483648) ≤ z6 := hp.2.2.2.2.2.2.2.2.2.1
  have z6_b : z6 ≤ 2147483647 := hp.2.2.2.2.2.2.2.2.2.2.1
  have z7_a : (-2147483648) ≤ z7 := hp.2.2.2.2.2.2.2.2.2.2.2.1
  have z7_b : z7 ≤ 2147483647 := hp.2.2.2.2.2.2.2.2.2.2.2.2.1
  have z8_a : 0 ≤ z8 := hp.2.2.2.2.2.2.2.2.2.2.2.2.2.1
  have z8_b : z8 ≤ 940 := hp.2.2.2.2.2.2.2.2.2.2.2.2.2.2.1
  have ee10 : 0 ≤ (z2 - x3) := hp.2.2.2.2.2.2.2.2.2.2.2.2.2.2.2.1
  have ee11 : 0 ≤ ((((z2 - x3) - z4) + 4) - z1) := hp.2.2.2.2.2.2.2.2.2.2.2.2.2.2.2.2.1
  have pq12 : z1 = 1 → f1 1 ≤ 2 := hp.2.2.2.2.2.2.2.2.2.2.2.2.2.2.2.2.2.1
  have pq13 : ∀ x : Tk × Int × Int, gT x x5 x4 x3 y0 r1 x6 → fsP f0 x1 x2 f1 1 3 x z1 z7 z8 (fun y => gT y z4 z3 z2 fy9 fr5 z6) := hp.2.2.2.2.2.2.2.2.2.2.2.2.2.2.2.2.2.2.1
  have pq14 : kpB z1 x7 z7 := hp.2.2.2.2.2.2.2.2.2.2.2.2.2.2.2.2.2.2.2
  have w : WD D A s.heap [(a8, .inl (T 1, 12, .inr (.inl h0))), (a0, .inr (11, [.int r0, .ref a1, .int (iI x0), .int (iI x1), .int (iI x2), .int (iI z2), .int (iI z3), .int (iI z4), .int fr5, .int (iI z6), .int (iI z7), .int (iI z8), .long fy9, .int (iI x9), .ref a2, .ref a3, .ref a4, .ref a5, .ref a6, .ref a7, .ref a8, .ref a9, .ref a10, .ref a11, .int (iI x10), .ref a12, .ref a13, .ref a14, .ref a15, .int (iI x11), .int r2, .int r3, .ref a16, .int (iI x12), .int (iI x13), .ref a17, .ref a18, .int (iI x14), .ref a19, .int (iI x15), .int r4, .ref a20, .ref a21, .int (iI x16), .int r5, .ref a22, .int (iI x17), .int (iI x18), .int (iI x19), .int (iI x20)])), (a1, .inl (T 0, 940, .inl (cI f0))), (a3, .inl (T 0, 53, .inl (cI f1)))] H locs := w
  refine lv_if_ne (tgt := 11) hx hb dX12_readMaid_6 (by decide) (fun c_15 => ?_) (fun c_15 => ?_)
  · replace c_15 : ¬ z1 = 0 := fun h => c_15 ((iz_eq (Int.le_trans (by decide) z1_a) (Int.le_trans z1_b (by decide))).mpr h)
    refine lv_aload_n hx hb dX12_readMaid_11 rfl (lv_at hl 0 rfl) ?_
    refine r_get (v := .ref a3) M w 1 15 clX12 rfl (by decide) G1478 rfl rfl dX12_readMaid_12 ?_
    refine lv_iconst (v := iI 1) hx hb dX12_readMaid_15 (by decide +kernel) ?_
    refine r_iald (v := iI (f1 1)) M w 3 rfl (iI_in (by decide) (by decide) (by decide)) (cI_at (by omega) (by omega)) dX12_readMaid_16 ?_
    have hh16 : (-2147483648) ≤ (f1 1) ∧ (f1 1) ≤ 2147483647 := f1_h.1 1
    have hh17 : 0 ≤ (f1 1) ∧ (f1 1) ≤ 3 := (f1_h.2.1 1).2.1 (by omega)
    refine lv_istore_n (lv' := [(1, .int (iI (f1 1))), (0, .ref a0)]) hx hb dX12_readMaid_17 rfl hl (by decide) rfl (fun ls hl => ?_)
    refine lv_aload_n hx hb dX12_readMaid_18 rfl (lv_at hl 1 rfl) ?_
    refine lv_bipush (v := iI 9) hx hb dX12_readMaid_19 (by decide +kernel) ?_
    refine lv_iload_n hx hb dX12_readMaid_21 rfl (lv_at hl 0 rfl) ?_
    refine r_iadd (v := iI (9 + (f1 1))) M (iI_add _ _) dX12_readMaid_22 ?_
    refine k_I (ce := 0) (sl := 0) (rest := []) (wr := []) (r_V (f := 3) [1, 2, 3, 0] M w V_HookedCityModel_190 G1671 G56 (c53_X12_readNew l D T _ a0 (9 + (f1 1)) r0 a1 x0 x1 x2 z2 z3 z4 fr5 z6 z7 z8 fy9 x9 a2 a3 a4 a5 a6 a7 a8 a9 a10 a11 x10 a12 a13 a14 a15 x11 r2 r3 a16 x12 x13 a17 a18 x14 a19 x15 r4 a20 a21 x16 r5 a22 x17 x18 x19 x20 f0 f1 h0 (by omega) (by omega) x0_a x0_b x1_a x1_b x2_a x2_b z2_a z2_b z3_a z3_b z4_a z4_b z6_a z6_b z7_a z7_b z8_a z8_b x9_a x9_b x10_a x10_b x11_a x11_b x12_a x12_b x13_a x13_b x14_a x14_b x15_a x15_b x16_a x16_b x17_a x17_b x18_a x18_b x19_a x19_b x20_a x20_b f0_h f1_h) 1 clX12 rfl rfl (by decide) rfl hl.1 rfl (Nat.le_of_ble_eq_true rfl) dX12_readMaid_23 (by decide) (by decide) (by decide) (by decide)) w [1, 2, 3, 0] [] rfl rfl (by decide) (by decide) rfl rfl (fun v u H locs hp w => ?_)
    obtain ⟨z18, z19, z20, z21, fr22, z23, z24, z25, fy26, fh27⟩ := u
    have hv : iI z18 = v := hp.1
    subst hv
    have z18_a : 0 ≤ z18 := hp.2.1
    have z18_b : z18 ≤ 1 := hp.2.2.1
    have z19_a : 0 ≤ z19 := hp.2.2.2.1
    have z19_b : z19 ≤ 940 := hp.2.2.2.2.1
    have z20_a : 0 ≤ z20 := hp.2.2.2.2.2.1
    have z20_b : z20 ≤ 940 := hp.2.2.2.2.2.2.1
    have z21_a : 0 ≤ z21 := hp.2.2.2.2.2.2.2.1
    have z21_b : z21 ≤ 4 := hp.2.2.2.2.2.2.2.2.1
    have z23_a : (-2147483648) ≤ z23 := hp.2.2.2.2.2.2.2.2.2.1
    have z23_b : z23 ≤ 2147483647 := hp.2.2.2.2.2.2.2.2.2.2.1
    have z24_a : (-2147483648) ≤ z24 := hp.2.2.2.2.2.2.2.2.2.2.2.1
    have z24_b : z24 ≤ 2147483647 := hp.2.2.2.2.2.2.2.2.2.2.2.2.1
    have z25_a : 0 ≤ z25 := hp.2.2.2.2.2.2.2.2.2.2.2.2.2.1
    have z25_b : z25 ≤ 940 := hp.2.2.2.2.2.2.2.2.2.2.2.2.2.2.1
    have ee28 : 0 ≤ (z19 - z2) := hp.2.2.2.2.2.2.2.2.2.2.2.2.2.2.2.1
    have ee29 : 0 ≤ ((((z19 - z2) - z21) + 4) - z18) := hp.2.2.2.2.2.2.2.2.2.2.2.2.2.2.2.2.1
    have pq30 : ∀ x : Tk × Int × Int, gT x z4 z3 z2 fy9 fr5 z6 → RC (sChk f1 h0 x) z18 z24 z25 ∧ (z18 = 1 → gT (nx f0 x1 x2 x) z21 z20 z19 fy26 fr22 z23 ∧ fh27 = vp_updL h0 (ix (9 + (f1 1))) (wdO x.1)) := hp.2.2.2.2.2.2.2.2.2.2.2.2.2.2.2.2.2.1
    have pq31 : kpB z18 z7 z24 := hp.2.2.2.2.2.2.2.2.2.2.2.2.2.2.2.2.2.2
    have w : WD D A s.heap [(a0, .inr (11, [.int r0, .ref a1, .int (iI x0), .int (iI x1), .int (iI x2), .int (iI z19), .int (iI z20), .int (iI z21), .int fr22, .int (iI z23), .int (iI z24), .int (iI z25), .long fy26, .int (iI x9), .ref a2, .ref a3, .ref a4, .ref a5, .ref a6, .ref a7, .ref a8, .ref a9, .ref a10, .ref a11, .int (iI x10), .ref a12, .ref a13, .ref a14, .ref a15, .int (iI x11), .int r2, .int r3, .ref a16, .int (iI x12), .int (iI x13), .ref a17, .ref a18, .int (iI x14), .ref a19, .int (iI x15), .int r4, .ref a20, .ref a21, .int (iI x16), .int r5, .ref a22, .int (iI x17), .int (iI x18), .int (iI x19), .int (iI x20)])), (a1, .inl (T 0, 940, .inl (cI f0))), (a3, .inl (T 0, 53, .inl (cI f1))), (a8, .inl (T 1, 12, .inr (.inl fh27)))] H locs := w
    refine lv_if_eq (tgt := 47) hx hb dX12_readMaid_26 (by decide) (fun c_32 => ?_) (fun c_32 => ?_)
    · replace c_32 := (iz_eq (Int.le_trans (by decide) z18_a) (Int.le_trans z18_b (by decide))).mp c_32
      refine lv_iconst (v := iI 0) hx hb dX12_readMaid_47 (by decide +kernel) ?_
      exact ret _ (0, z19, z20, z21, fr22, z23, z24, z25, fy26, x9, f1, fh27) _ _ _ _ _ [0, 1, 2, 3] dX12_readMaid_48 (by decide +kernel) ⟨rfl, (show (0 : Int) ≤ 0 from by decide), (show (0 : Int) ≤ 1 from by decide), z19_a, z19_b, z20_a, z20_b, z21_a, z21_b, z23_a, z23_b, z24_a, z24_b, z25_a, z25_b, x9_a, x9_b, f1_h, (show 0 ≤ (z19 - x3) from by omega), (show 0 ≤ ((((z19 - x3) - z21) + 4) - 0) from by omega), (show ∀ (x : Tk × Int × Int) (o : Int → Int), gT x x5 x4 x3 y0 r1 x6 → ¬ x.1 = tkBad → RP (sMaid f0 x1 x2 x f1 h0 o) 0 z24 z25 (fun y => gT y z21 z20 z19 fy26 fr22 z23) f1 fh27 o from (by intro x o hx hb; have g1 := fs_1 (pq13 x hx) (by omega); rw [sMaid, if_neg g1.1]; exact bdC_bad (pq30 _ g1.2).1 (by omega) rfl)), (show kpB 0 x7 z24 from (fun e => absurd e (by decide)))⟩ w (by decide) rfl
    · replace c_32 : ¬ z18 = 0 := fun h => c_32 ((iz_eq (Int.le_trans (by decide) z18_a) (Int.le_trans z18_b (by decide))).mpr h)
      refine lv_aload_n hx hb dX12_readMaid_29 rfl (lv_at hl 1 rfl) ?_
      refine lv_bipush (v := iI 41) hx hb dX12_readMaid_30 (by decide +kernel) ?_
      refine lv_iload_n hx hb dX12_readMaid_32 rfl (lv_at hl 0 rfl) ?_
      refine r_iadd (v := iI (41 + (f1 1))) M (iI_add _ _) dX12_readMaid_33 ?_
      refine lv_aload_n hx hb dX12_readMaid_34 rfl (lv_at hl 1 rfl) ?_
      refine lv_iconst (v := iI 1) hx hb dX12_readMaid_35 (by decide +kernel) ?_
      refine lv_bipush (v := iI 9) hx hb dX12_readMaid_36 (by decide +kernel) ?_
      refine k_I (ce := 0) (sl := 0) (rest := [.int (iI (41 + (f1 1))), .ref a0]) (wr := [(a3, .inl (T 0, 53, .inl (cI f1))), (a8, .inl (T 1, 12, .inr (.inl fh27)))]) (r_V (f := 2) [0, 1] M w V_HookedCityModel_200 G1690 G60 (c46_X12_readNumber l D T _ a0 1 9 r0 a1 x0 x1 x2 z19 z20 z21 fr22 z23 z24 z25 fy26 x9 a2 a3 a4 a5 a6 a7 a8 a9 a10 a11 x10 a12 a13 a14 a15 x11 r2 r3 a16 x12 x13 a17 a18 x14 a19 x15 r4 a20 a21 x16 r5 a22 x17 x18 x19 x20 f0 (by decide) (by decide) (by decide) (by decide) x0_a x0_b x1_a x1_b x2_a x2_b z19_a z19_b z20_a z20_b z21_a z21_b z23_a z23_b z24_a z24_b z25_a z25_b x9_a x9_b x10_a x10_b x11_a x11_b x12_a x12_b x13_a x13_b x14_a x14_b x15_a x15_b x16_a x16_b x17_a x17_b x18_a x18_b x19_a x19_b x20_a x20_b f0_h) 0 clX12 rfl rfl (by decide) rfl hl.1 rfl (Nat.le_of_ble_eq_true rfl) dX12_readMaid_38 (by decide) (by decide) (by decide) (by decide)) w [0, 1] [2, 3] rfl rfl (by decide) (by decide) rfl rfl (fun v u H locs hp w => ?_)
      obtain ⟨z33, z34, z35, z36, fr37, z38, z39, z40, fy41, z42⟩ := u
      have hv : iI z33 = v := hp.1
      subst hv
      have z33_a : 0 ≤ z33 := hp.2.1
      have z33_b : z33 ≤ 1 := hp.2.2.1
      have z34_a : 0 ≤ z34 := hp.2.2.2.1
      have z34_b : z34 ≤ 940 := hp.2.2.2.2.1
      have z35_a : 0 ≤ z35 := hp.2.2.2.2.2.1
      have z35_b : z35 ≤ 940 := hp.2.2.2.2.2.2.1
      have z36_a : 0 ≤ z36 := hp.2.2.2.2.2.2.2.1
      have z36_b : z36 ≤ 4 := hp.2.2.2.2.2.2.2.2.1
      have z38_a : (-2147483648) ≤ z38 := hp.2.2.2.2.2.2.2.2.2.1
      have z38_b : z38 ≤ 2147483647 := hp.2.2.2.2.2.2.2.2.2.2.1
      have z39_a : (-2147483648) ≤ z39 := hp.2.2.2.2.2.2.2.2.2.2.2.1
      have z39_b : z39 ≤ 2147483647 := hp.2.2.2.2.2.2.2.2.2.2.2.2.1
      have z40_a : 0 ≤ z40 := hp.2.2.2.2.2.2.2.2.2.2.2.2.2.1
      have z40_b : z40 ≤ 940 := hp.2.2.2.2.2.2.2.2.2.2.2.2.2.2.1
      have z42_a : (-2147483648) ≤ z42 := hp.2.2.2.2.2.2.2.2.2.2.2.2.2.2.2.1
      have z42_b : z42 ≤ 2147483647 := hp.2.2.2.2.2.2.2.2.2.2.2.2.2.2.2.2.1
      have ee43 : 0 ≤ (z34 - z19) := hp.2.2.2.2.2.2.2.2.2.2.2.2.2.2.2.2.2.1
      have ee44 : 0 ≤ ((((z34 - z19) - z36) + 4) - z33) := hp.2.2.2.2.2.2.2.2.2.2.2.2.2.2.2.2.2.2.1
      have ee45 : 0 ≤ (((z42 - 1) + 4294967296) - (z33 * 4294967296)) := hp.2.2.2.2.2.2.2.2.2.2.2.2.2.2.2.2.2.2.2.1
      have ee46 : 0 ≤ (((9 - z42) + 4294967296) - (z33 * 4294967296)) := hp.2.2.2.2.2.2.2.2.2.2.2.2.2.2.2.2.2.2.2.2.1
      have pq47 : ∀ x : Tk × Int × Int, gT x z21 z20 z19 fy26 fr22 z23 → RV (sNu 1 9 x) z33 z39 z40 z42 ∧ (z33 = 1 → gT (nx f0 x1 x2 x) z36 z35 z34 fy41 fr37 z38) := hp.2.2.2.2.2.2.2.2.2.2.2.2.2.2.2.2.2.2.2.2.2.1
      have pq48 : kpB z33 z24 z39 := hp.2.2.2.2.2.2.2.2.2.2.2.2.2.2.2.2.2.2.2.2.2.2
      have w : WD D A s.heap [(a3, .inl (T 0, 53, .inl (cI f1))), (a8, .inl (T 1, 12, .inr (.inl fh27))), (a0, .inr (11, [.int r0, .ref a1, .int (iI x0), .int (iI x1), .int (iI x2), .int (iI z34), .int (iI z35), .int (iI z36), .int fr37, .int (iI z38), .int (iI z39), .int (iI z40), .long fy41, .int (iI z42), .ref a2, .ref a3, .ref a4, .ref a5, .ref a6, .ref a7, .ref a8, .ref a9, .ref a10, .ref a11, .int (iI x10), .ref a12, .ref a13, .ref a14, .ref a15, .int (iI x11), .int r2, .int r3, .ref a16, .int (iI x12), .int (iI x13), .ref a17, .ref a18, .int (iI x14), .ref a19, .int (iI x15), .int r4, .ref a20, .ref a21, .int (iI x16), .int r5, .ref a22, .int (iI x17), .int (iI x18), .int (iI x19), .int (iI x20)])), (a1, .inl (T 0, 940, .inl (cI f0)))] H locs := w
      refine k_I (ce := 0) (sl := 0) (rest := []) (wr := [(a8, .inl (T 1, 12, .inr (.inl fh27))), (a1, .inl (T 0, 940, .inl (cI f0)))]) (r_V (f := 0) [2, 0] M w V_HookedCityModel_196 G1686 G59 (c55_X12_put l D T _ a0 (41 + (f1 1)) z33 r0 a1 x0 x1 x2 z34 z35 z36 fr37 z38 z39 z40 fy41 z42 a2 a3 a4 a5 a6 a7 a8 a9 a10 a11 x10 a12 a13 a14 a15 x11 r2 r3 a16 x12 x13 a17 a18 x14 a19 x15 r4 a20 a21 x16 r5 a22 x17 x18 x19 x20 f1 (by omega) (by omega) z33_a z33_b x0_a x0_b x1_a x1_b x2_a x2_b z34_a z34_b z35_a z35_b z36_a z36_b z38_a z38_b z39_a z39_b z40_a z40_b z42_a z42_b x10_a x10_b x11_a x11_b x12_a x12_b x13_a x13_b x14_a x14_b x15_a x15_b x16_a x16_b x17_a x17_b x18_a x18_b x19_a x19_b x20_a x20_b f1_h (fun h => rd_up f1_h (by omega) (by omega) (by unfold rr; omega) (fun h => absurd h (by omega)) (by omega))) 2 clX12 rfl rfl (by decide) rfl hl.1 rfl (Nat.le_of_ble_eq_true rfl) dX12_readMaid_41 (by decide) (by decide) (by decide) (by decide)) w [2, 0] [1, 3] rfl rfl (by decide) (by decide) rfl rfl (fun v u H locs hp w => ?_)
      obtain ⟨z49, ff50⟩ := u
      have hv : iI z49 = v := hp.1
      subst hv
      have z49_a : 0 ≤ z49 := hp.2.1
      have z49_b : z49 ≤ 1 := hp.2.2.1
      have ff50_h : rdI ff50 := hp.2.2.2.1
      have ee51 : 0 ≤ (z33 - z49) := hp.2.2.2.2.1
      have ee52 : 0 ≤ (z49 - z33) := hp.2.2.2.2.2.1
      have pq53 : ff50 0 = f1 0 := hp.2.2.2.2.2.2.1
      have pq54 : ff50 1 = f1 1 := hp.2.2.2.2.2.2.2.1
      have pq55 : z33 = 1 → ff50 = upz f1 (41 + (f1 1)) z42 := hp.2.2.2.2.2.2.2.2
      have w : WD D A s.heap [(a8, .inl (T 1, 12, .inr (.inl fh27))), (a1, .inl (T 0, 940, .inl (cI f0))), (a0, .inr (11, [.int r0, .ref a1, .int (iI x0), .int (iI x1), .int (iI x2), .int (iI z34), .int (iI z35), .int (iI z36), .int fr37, .int (iI z38), .int (iI z39), .int (iI z40), .long fy41, .int (iI z42), .ref a2, .ref a3, .ref a4, .ref a5, .ref a6, .ref a7, .ref a8, .ref a9, .ref a10, .ref a11, .int (iI x10), .ref a12, .ref a13, .ref a14, .ref a15, .int (iI x11), .int r2, .int r3, .ref a16, .int (iI x12), .int (iI x13), .ref a17, .ref a18, .int (iI x14), .ref a19, .int (iI x15), .int r4, .ref a20, .ref a21, .int (iI x16), .int r5, .ref a22, .int (iI x17), .int (iI x18), .int (iI x19), .int (iI x20)])), (a3, .inl (T 0, 53, .inl (cI ff50)))] H locs := w
      refine lv_if_ne (tgt := 49) hx hb dX12_readMaid_44 (by decide) (fun c_56 => ?_) (fun c_56 => ?_)
      · replace c_56 : ¬ z49 = 0 := fun h => c_56 ((iz_eq (Int.le_trans (by decide) z49_a) (Int.le_trans z49_b (by decide))).mpr h)
        refine lv_aload_n hx hb dX12_readMaid_49 rfl (lv_at hl 1 rfl) ?_
        refine r_get (v := .ref a3) M w 2 15 clX12 rfl (by decide) G1478 rfl rfl dX12_readMaid_50 ?_
        refine lv_iconst (v := iI 1) hx hb dX12_readMaid_53 (by decide +kernel) ?_
        refine lv_dup2_11 hx hb dX12_readMaid_54 rfl rfl ?_
        refine r_iald (v := iI (ff50 1)) M w 3 rfl (iI_in (by decide) (by decide) (by decide)) (cI_at (by omega) (by omega)) dX12_readMaid_55 ?_
        have hh57 : (-2147483648) ≤ (ff50 1) ∧ (ff50 1) ≤ 2147483647 := ff50_h.1 1
        have hh58 : 0 ≤ (ff50 1) ∧ (ff50 1) ≤ 3 := (ff50_h.2.1 1).2.1 (by omega)
        refine lv_iconst (v := iI 1) hx hb dX12_readMaid_56 (by decide +kernel) ?_
        refine r_iadd (v := iI ((ff50 1) + 1)) M (iI_add _ _) dX12_readMaid_57 ?_
        refine r_iast (ws' := [(a8, .inl (T 1, 12, .inr (.inl fh27))), (a1, .inl (T 0, 940, .inl (cI f0))), (a0, .inr (11, [.int r0, .ref a1, .int (iI x0), .int (iI x1), .int (iI x2), .int (iI z34), .int (iI z35), .int (iI z36), .int fr37, .int (iI z38), .int (iI z39), .int (iI z40), .long fy41, .int (iI z42), .ref a2, .ref a3, .ref a4, .ref a5, .ref a6, .ref a7, .ref a8, .ref a9, .ref a10, .ref a11, .int (iI x10), .ref a12, .ref a13, .ref a14, .ref a15, .int (iI x11), .int r2, .int r3, .ref a16, .int (iI x12), .int (iI x13), .ref a17, .ref a18, .int (iI x14), .ref a19, .int (iI x15), .int r4, .ref a20, .ref a21, .int (iI x16), .int r5, .ref a22, .int (iI x17), .int (iI x18), .int (iI x19), .int (iI x20)])), (a3, .inl (T 0, 53, .inl (cI (upz ff50 1 ((ff50 1) + 1)))))]) M w 3 rfl (iI_in (by decide) (by decide) (by decide)) (by rw [cI_up (by omega) (by omega)]; rfl) dX12_readMaid_58 (fun H locs w => ?_)
        refine lv_iconst (v := iI 1) hx hb dX12_readMaid_59 (by decide +kernel) ?_
        exact ret _ (1, z34, z35, z36, fr37, z38, z39, z40, fy41, z42, (upz ff50 1 ((ff50 1) + 1)), fh27) _ _ _ _ _ [2, 1, 3, 0] dX12_readMaid_60 (by decide +kernel) ⟨rfl, (show (0 : Int) ≤ 1 from by decide), (show (1 : Int) ≤ 1 from by decide), z34_a, z34_b, z35_a, z35_b, z36_a, z36_b, z38_a, z38_b, z39_a, z39_b, z40_a, z40_b, z42_a, z42_b, (rd_up ff50_h (by omega) (by omega) (by unfold rr; omega) (fun h => absurd h (by omega)) (by omega)), (show 0 ≤ (z34 - x3) from by omega), (show 0 ≤ ((((z34 - x3) - z36) + 4) - 1) from by omega), (show ∀ (x : Tk × Int × Int) (o : Int → Int), gT x x5 x4 x3 y0 r1 x6 → ¬ x.1 = tkBad → RP (sMaid f0 x1 x2 x f1 h0 o) 1 z39 z40 (fun y => gT y z36 z35 z34 fy41 fr37 z38) (upz ff50 1 ((ff50 1) + 1)) fh27 o from (by intro x o hx hb; have g1 := fs_1 (pq13 x hx) (by omega); rw [sMaid, if_neg g1.1]; refine bdC_ok (pq30 _ g1.2).1 (by omega) (fun _ => ?_); have g2 := (pq30 _ g1.2).2 (by omega); have g2h := g2.2; replace g2 := g2.1; refine bdV_ok (pq47 _ g2).1 (by omega) ?_; have g3 := (pq47 _ g2).2 (by omega); have e0 : ff50 1 = f1 1 := (by omega); refine ⟨rfl, g3, ?_, g2h, rfl⟩; rw [e0, pq55 (by omega)])), (show kpB 1 x7 z39 from (fun hr => by have y0 := pq14 (by omega); have y1 := pq31 (by omega); have y2 := pq48 (by omega); omega))⟩ w (by decide) rfl
      · replace c_56 := (iz_eq (Int.le_trans (by decide) z49_a) (Int.le_trans z49_b (by decide))).mp c_56
        refine lv_iconst (v := iI 0) hx hb dX12_readMaid_47 (by decide +kernel) ?_
        exact ret _ (0, z34, z35, z36, fr37, z38, z39, z40, fy41, z42, ff50, fh27) _ _ _ _ _ [2, 1, 3, 0] dX12_readMaid_48 (by decide +kernel) ⟨rfl, (show (0 : Int) ≤ 0 from by decide), (show (0 : Int) ≤ 1 from by decide), z34_a, z34_b, z35_a, z35_b, z36_a, z36_b, z38_a, z38_b, z39_a, z39_b, z40_a, z40_b, z42_a, z42_b, ff50_h, (show 0 ≤ (z34 - x3) from by omega), (show 0 ≤ ((((z34 - x3) - z36) + 4) - 0) from by omega), (show ∀ (x : Tk × Int × Int) (o : Int → Int), gT x x5 x4 x3 y0 r1 x6 → ¬ x.1 = tkBad → RP (sMaid f0 x1 x2 x f1 h0 o) 0 z39 z40 (fun y => gT y z36 z35 z34 fy41 fr37 z38) ff50 fh27 o from (by intro x o hx hb; have g1 := fs_1 (pq13 x hx) (by omega); rw [sMaid, if_neg g1.1]; refine bdC_ok (pq30 _ g1.2).1 (by omega) (fun _ => ?_); have g2 := (pq30 _ g1.2).2 (by omega); have g2h := g2.2; replace g2 := g2.1; exact bdV_bad (pq47 _ g2).1 (by omega) rfl)), (show kpB 0 x7 z39 from (fun e => absurd e (by decide)))⟩ w (by decide) rfl
  · replace c_15 := (iz_eq (Int.le_trans (by decide) z1_a) (Int.le_trans z1_b (by decide))).mp c_15
    refine lv_iconst (v := iI 0) hx hb dX12_readMaid_9 (by decide +kernel) ?_
    exact ret _ (0, z2, z3, z4, fr5, z6, z7, z8, fy9, x9, f1, h0) _ _ _ _ _ [1, 2, 3, 0] dX12_readMaid_10 (by decide +kernel) ⟨rfl, (show (0 : Int) ≤ 0 from by decide), (show (0 : Int) ≤ 1 from by decide), z2_a, z2_b, z3_a, z3_b, z4_a, z4_b, z6_a, z6_b, z7_a, z7_b, z8_a, z8_b, x9_a, x9_b, f1_h, (show 0 ≤ (z2 - x3) from by omega), (show 0 ≤ ((((z2 - x3) - z4) + 4) - 0) from by omega), (show ∀ (x : Tk × Int × Int) (o : Int → Int), gT x x5 x4 x3 y0 r1 x6 → ¬ x.1 = tkBad → RP (sMaid f0 x1 x2 x f1 h0 o) 0 z7 z8 (fun y => gT y z4 z3 z2 fy9 fr5 z6) f1 h0 o from (by intro x o hx hb; obtain ⟨a1, a2, a3⟩ := fs_0 (pq13 x hx) (by omega) hb; rw [sMaid, if_pos a1]; exact ⟨rfl, a3, a2⟩)), (show kpB 0 x7 z7 from (fun e => absurd e (by decide)))⟩ w (by decide) rfl
set_option maxRecDepth 100000 in
set_option maxHeartbeats 4000000 in
theorem c60_X12_readStreet (l : Launch) (D : va_G) (T : Nat → ClassId) (sz : Nat) (a0 : Nat) (r0 : Int32) (a1 : Nat) (x0 : Int) (x1 : Int) (x2 : Int) (x3 : Int) (x4 : Int) (x5 : Int) (r1 : Int32) (x6 : Int) (x7 : Int) (x8 : Int) (y0 : Int64) (x9 : Int) (a2 : Nat) (a3 : Nat) (a4 : Nat) (a5 : Nat) (a6 : Nat) (a7 : Nat) (a8 : Nat) (a9 : Nat) (a10 : Nat) (a11 : Nat) (x10 : Int) (a12 : Nat) (a13 : Nat) (a14 : Nat) (a15 : Nat) (x11 : Int) (r2 : Int32) (r3 : Int32) (a16 : Nat) (x12 : Int) (x13 : Int) (a17 : Nat) (a18 : Nat) (x14 : Int) (a19 : Nat) (x15 : Int) (r4 : Int32) (a20 : Nat) (a21 : Nat) (x16 : Int) (r5 : Int32) (a22 : Nat) (x17 : Int) (x18 : Int) (x19 : Int) (x20 : Int) (f0 : Int → Int) (f1 : Int → Int) (h0 : Nat → Int64) (x0_a : 0 ≤ x0) (x0_b : x0 ≤ 940) (x1_a : 0 ≤ x1) (x1_b : x1 ≤ 940) (x2_a : 0 ≤ x2) (x2_b : x2 ≤ 940) (x3_a : 0 ≤ x3) (x3_b : x3 ≤ 940) (x4_a : 0 ≤ x4) (x4_b : x4 ≤ 940) (x5_a : 0 ≤ x5) (x5_b : x5 ≤ 4) (x6_a : (-2147483648) ≤ x6) (x6_b : x6 ≤ 2147483647) (x7_a : (-2147483648) ≤ x7) (x7_b : x7 ≤ 2147483647) (x8_a : 0 ≤ x8) (x8_b : x8 ≤ 940) (x9_a : (-2147483648) ≤ x9) (x9_b : x9 ≤ 2147483647) (x10_a : 0 ≤ x10) (x10_b : x10 ≤ 8) (x11_a : 0 ≤ x11) (x11_b : x11 ≤ 9) (x12_a : (-1) ≤ x12) (x12_b : x12 ≤ 9) (x13_a : (-1) ≤ x13) (x13_b : x13 ≤ 8) (x14_a : 0 ≤ x14) (x14_b : x14 ≤ 9) (x15_a : 0 ≤ x15) (x15_b : x15 ≤ 64) (x16_a : 0 ≤ x16) (x16_b : x16 ≤ 40) (x17_a : 0 ≤ x17) (x17_b : x17 ≤ 40) (x18_a : 0 ≤ x18) (x18_b : x18 ≤ 20) (x19_a : 0 ≤ x19) (x19_b : x19 ≤ 8) (x20_a : 0 ≤ x20) (x20_b : x20 ≤ 39) (f0_h : rng 0 255 f0) (f1_h : rdI f1) : Met l yX12_readStreet (Cond.code yX12_readStreet cX12_readStreet 2 (some .boolean) :: GW) (Rm 4 0 0) (cPre [.ref a0] D T [(a0, .inr (11, [.int r0, .ref a1, .int (iI x0), .int (iI x1), .int (iI x2), .int (iI x3), .int (iI x4), .int (iI x5), .int r1, .int (iI x6), .int (iI x7), .int (iI x8), .long y0, .int (iI x9), .ref a2, .ref a3, .ref a4, .ref a5, .ref a6, .ref a7, .ref a8, .ref a9, .ref a10, .ref a11, .int (iI x10), .ref a12, .ref a13, .ref a14, .ref a15, .int (iI x11), .int r2, .int r3, .ref a16, .int (iI x12), .int (iI x13), .ref a17, .ref a18, .int (iI x14), .ref a19, .int (iI x15), .int r4, .ref a20, .ref a21, .int (iI x16), .int r5, .ref a22, .int (iI x17), .int (iI x18), .int (iI x19), .int (iI x20)])), (a1, .inl (T 0, 940, .inl (cI f0))), (a3, .inl (T 0, 53, .inl (cI f1))), (a8, .inl (T 1, 12, .inr (.inl h0)))] sz) (qI D [(a0, .inr (11, [.int r0, .ref a1, .int (iI x0), .int (iI x1), .int (iI x2), .int (iI x3), .int (iI x4), .int (iI x5), .int r1, .int (iI x6), .int (iI x7), .int (iI x8), .long y0, .int (iI x9), .ref a2, .ref a3, .ref a4, .ref a5, .ref a6, .ref a7, .ref a8, .ref a9, .ref a10, .ref a11, .int (iI x10), .ref a12, .ref a13, .ref a14, .ref a15, .int (iI x11), .int r2, .int r3, .ref a16, .int (iI x12), .int (iI x13), .ref a17, .ref a18, .int (iI x14), .ref a19, .int (iI x15), .int r4, .ref a20, .ref a21, .int (iI x16), .int r5, .ref a22, .int (iI x17), .int (iI x18), .int (iI x19), .int (iI x20)])), (a1, .inl (T 0, 940, .inl (cI f0))), (a3, .inl (T 0, 53, .inl (cI f1))), (a8, .inl (T 1, 12, .inr (.inl h0)))] sz (fun (v : Int32) (u : Int × Int × Int × Int × Int32 × Int × Int × Int × Int64 × Int × (Int → Int)) => iI u.1 = v ∧ 0 ≤ u.1 ∧ u.1 ≤ 1 ∧ 0 ≤ u.2.1 ∧ u.2.1 ≤ 940 ∧ 0 ≤ u.2.2.1 ∧ u.2.2.1 ≤ 940 ∧ 0 ≤ u.2.2.2.1 ∧ u.2.2.2.1 ≤ 4 ∧ (-2147483648) ≤ u.2.2.2.2.2.1 ∧ u.2.2.2.2.2.1 ≤ 2147483647 ∧ (-2147483648) ≤ u.2.2.2.2.2.2.1 ∧ u.2.2.2.2.2.2.1 ≤ 2147483647 ∧ 0 ≤ u.2.2.2.2.2.2.2.1 ∧ u.2.2.2.2.2.2.2.1 ≤ 940 ∧ (-2147483648) ≤ u.2.2.2.2.2.2.2.2.2.1 ∧ u.2.2.2.2.2.2.2.2.2.1 ≤ 2147483647 ∧ rdI u.2.2.2.2.2.2.2.2.2.2 ∧ 0 ≤ (u.2.1 - x3) ∧ 0 ≤ ((((u.2.1 - x3) - u.2.2.2.1) + 4) - u.1) ∧ (∀ (x : Tk × Int × Int) (o : Int → Int), gT x x5 x4 x3 y0 r1 x6 → ¬ x.1 = tkBad → RP (sStreet f0 x1 x2 x f1 h0 o) u.1 u.2.2.2.2.2.2.1 u.2.2.2.2.2.2.2.1 (fun y => gT y u.2.2.2.1 u.2.2.1 u.2.1 u.2.2.2.2.2.2.2.2.1 u.2.2.2.2.1 u.2.2.2.2.2.1) u.2.2.2.2.2.2.2.2.2.2 h0 o) ∧ (kpB u.1 x7 u.2.2.2.2.2.2.1)) (fun u => [(a0, .inr (11, [.int r0, .ref a1, .int (iI x0), .int (iI x1), .int (iI x2), .int (iI u.2.1), .int (iI u.2.2.1), .int (iI u.2.2.2.1), .int u.2.2.2.2.1, .int (iI u.2.2.2.2.2.1), .int (iI u.2.2.2.2.2.2.1), .int (iI u.2.2.2.2.2.2.2.1), .long u.2.2.2.2.2.2.2.2.1, .int (iI u.2.2.2.2.2.2.2.2.2.1), .ref a2, .ref a3, .ref a4, .ref a5, .ref a6, .ref a7, .ref a8, .ref a9, .ref a10, .ref a11, .int (iI x10), .ref a12, .ref a13, .ref a14, .ref a15, .int (iI x11), .int r2, .int r3, .ref a16, .int (iI x12), .int (iI x13), .ref a17, .ref a18, .int (iI x14), .ref a19, .int (iI x15), .int r4, .ref a20, .ref a21, .int (iI x16), .int r5, .ref a22, .int (iI x17), .int (iI x18), .int (iI x19), .int (iI x20)])), (a1, .inl (T 0, 940, .inl (cI f0))), (a3, .inl (T 0, 53, .inl (cI u.2.2.2.2.2.2.2.2.2.2))), (a8, .inl (T 1, 12, .inr (.inl h0)))])) 0 0 (va_A [(a0, .inr (11, [.int r0, .ref a1, .int (iI x0), .int (iI x1), .int (iI x2), .int (iI x3), .int (iI x4), .int (iI x5), .int r1, .int (iI x6), .int (iI x7), .int (iI x8), .long y0, .int (iI x9), .ref a2, .ref a3, .ref a4, .ref a5, .ref a6, .ref a7, .ref a8, .ref a9, .ref a10, .ref a11, .int (iI x10), .ref a12, .ref a13, .ref a14, .ref a15, .int (iI x11), .int r2, .int r3, .ref a16, .int (iI x12), .int (iI x13), .ref a17, .ref a18, .int (iI x14), .ref a19, .int (iI x15), .int r4, .ref a20, .ref a21, .int (iI x16), .int r5, .ref a22, .int (iI x17), .int (iI x18), .int (iI x19), .int (iI x20)])), (a1, .inl (T 0, 940, .inl (cI f0))), (a3, .inl (T 0, 53, .inl (cI f1))), (a8, .inl (T 1, 12, .inr (.inl h0)))] sz) := by
  refine e_Z (by decide) (Nat.le_of_ble_eq_true rfl) ?_
  intro p e s m args below meth c A Q ls M hin w ret hl
  have hx := M.1.1
  have hb := M.1.2.1
  have hl : lv_has ls 2 [(0, .ref a0)] := hl
  refine lv_aload_n hx hb dX12_readStreet_0 rfl (lv_at hl 0 rfl) ?_
  refine k_V (ce := 0) (sl := 0) (rest := []) (wr := [(a3, .inl (T 0, 53, .inl (cI f1))), (a8, .inl (T 1, 12, .inr (.inl h0)))]) (r_V (f := 1) [0, 1] M w V_HookedCityModel_82 G1629 G49 (c12_X12_go l D T _ a0 r0 a1 x0 x1 x2 x3 x4 x5 r1 x6 x7 x8 y0 x9 a2 a3 a4 a5 a6 a7 a8 a9 a10 a11 x10 a12 a13 a14 a15 x11 r2 r3 a16 x12 x13 a17 a18 x14 a19 x15 r4 a20 a21 x16 r5 a22 x17 x18 x19 x20 f0 x0_a x0_b x1_a x1_b x2_a x2_b x3_a x3_b x4_a x4_b x5_a x5_b x6_a x6_b x7_a x7_b x8_a x8_b x9_a x9_b x10_a x10_b x11_a x11_b x12_a x12_b x13_a x13_b x14_a x14_b x15_a x15_b x16_a x16_b x17_a x17_b x18_a x18_b x19_a x19_b x20_a x20_b f0_h) 0 clX12 rfl rfl (by decide) rfl hl.1 rfl (Nat.le_of_ble_eq_true rfl) dX12_readStreet_1 (by decide) (by decide) (by decide) (by decide)) w [0, 1] [2, 3] rfl rfl (by decide) (by decide) rfl rfl (fun u H locs hp w => ?_)
  obtain ⟨z1, z2, z3, fr4, z5, fy6⟩ := u
  have z1_a : 0 ≤ z1 := hp.1
  have z1_b : z1 ≤ 940 := hp.2.1
  have z2_a : 0 ≤ z2 := hp.2.2.1
  have z2_b : z2 ≤ 940 := hp.2.2.2.1
  have z3_a : 0 ≤ z3 := hp.2.2.2.2.1
  have z3_b : z3 ≤ 4 := hp.2.2.2.2.2.1
  have z5_a : (-2147483648) ≤ z5 := hp.2.2.2.2.2.2.1
  have z5_b : z5 ≤ 2147483647 := hp.2.2.2.2.2.2.2.1
  have ee7 : 0 ≤ (z1 - x3) := hp.2.2.2.2.2.2.2.2.1
  have ee8 : 0 ≤ (((z1 - x3) - z3) + 3) := hp.2.2.2.2.2.2.2.2.2.1
  have pq9 : gT (tkAt f0 x1 x2 x3) z3 z2 z1 fy6 fr4 z5 := hp.2.2.2.2.2.2.2.2.2.2
  have w : WD D A s.heap [(a3, .inl (T 0, 53, .inl (cI f1))), (a8, .inl (T 1, 12, .inr (.inl h0))), (a0, .inr (11, [.int r0, .ref a1, .int (iI x0), .int (iI x1), .int (iI x2), .int (iI z1), .int (iI z2), .int (iI z3), .int fr4, .int (iI z5), .int (iI x7), .int (iI x8), .long fy6, .int (iI x9), .ref a2, .ref a3, .ref a4, .ref a5, .ref a6, .ref a7, .ref a8, .ref a9, .ref a10, .ref a11, .int (iI x10), .ref a12, .ref a13, .ref a14, .ref a15, .int (iI x11), .int r2, .int r3, .ref a16, .int (iI x12), .int (iI x13), .ref a17, .ref a18, .int (iI x14), .ref a19, .int (iI x15), .int r4, .ref a20, .ref a21, .int (iI x16), .int r5, .ref a22, .int (iI x17), .int (iI x18), .int (iI x19), .int (iI x20)])), (a1, .inl (T 0, 940, .inl (cI f0)))] H locs := w
  refine lv_aload_n hx hb dX12_readStreet_4 rfl (lv_at hl 0 rfl) ?_
  refine k_I (ce := 0) (sl := 0) (rest := []) (wr := [(a1, .inl (T 0, 940, .inl (cI f0)))]) (r_V (f := 3) [2, 0, 1] M w V_HookedCityModel_203 G1705 G63 (c54_X12_isOne l D T _ a0 r0 a1 x0 x1 x2 z1 z2 z3 fr4 z5 x7 x8 fy6 x9 a2 a3 a4 a5 a6 a7 a8 a9 a10 a11 x10 a12 a13 a14 a15 x11 r2 r3 a16 x12 x13 a17 a18 x14 a19 x15 r4 a20 a21 x16 r5 a22 x17 x18 x19 x20 f1 h0 x0_a x0_b x1_a x1_b x2_a x2_b z1_a z1_b z2_a z2_b z3_a z3_b z5_a z5_b x7_a x7_b x8_a x8_b x9_a x9_b x10_a x10_b x11_a x11_b x12_a x12_b x13_a x13_b x14_a x14_b x15_a x15_b x16_a x16_b x17_a x17_b x18_a x18_b x19_a x19_b x20_a x20_b f1_h) 2 clX12 rfl rfl (by decide) rfl hl.1 rfl (Nat.le_of_ble_eq_true rfl) dX12_readStreet_5 (by decide) (by decide) (by decide) (by decide)) w [2, 0, 1] [3] rfl rfl (by decide) (by decide) rfl rfl (fun v u H locs hp w => ?_)
  obtain ⟨z10, z11, z12, z13⟩ := u
  have hv : iI z10 = v := hp.1
  subst hv
  have z10_a : 0 ≤ z10 := hp.2.1
  have z10_b : z10 ≤ 1 := hp.2.2.1
  have z11_a : (-2147483648) ≤ z11 := hp.2.2.2.1
  have z11_b : z11 ≤ 2147483647 := hp.2.2.2.2.1
  have z12_a : 0 ≤ z12 := hp.2.2.2.2.2.1
  have z12_b : z12 ≤ 940 := hp.2.2.2.2.2.2.1
  have z13_a : (-2147483648) ≤ z13 := hp.2.2.2.2.2.2.2.1
  have z13_b : z13 ≤ 2147483647 := hp.2.2.2.2.2.2.2.2.1
  have ee14 : 0 ≤ ((z13 + 4294967296) - (z10 * 4294967296)) := hp.2.2.2.2.2.2.2.2.2.1
  have ee15 : 0 ≤ (((8 - z13) + 4294967296) - (z10 * 4294967296)) := hp.2.2.2.2.2.2.2.2.2.2.1
  have pq16 : z10 = 1 → z13 < f1 0 := hp.2.2.2.2.2.2.2.2.2.2.2.1
  have pq17 : ∀ x : Tk × Int × Int, gT x z3 z2 z1 fy6 fr4 z5 → RV (sOne f1 h0 x) z10 z11 z12 z13 := hp.2.2.2.2.2.2.2.2.2.2.2.2.1
  have pq18 : kpB z10 x7 z11 := hp.2.2.2.2.2.2.2.2.2.2.2.2.2
  have w : WD D A s.heap [(a1, .inl (T 0, 940, .inl (cI f0))), (a0, .inr (11, [.int r0, .ref a1, .int (iI x0), .int (iI x1), .int (iI x2), .int (iI z1), .int (iI z2), .int (iI z3), .int fr4, .int (iI z5), .int (iI z11), .int (iI z12), .long fy6, .int (iI z13), .ref a2, .ref a3, .ref a4, .ref a5, .ref a6, .ref a7, .ref a8, .ref a9, .ref a10, .ref a11, .int (iI x10), .ref a12, .ref a13, .ref a14, .ref a15, .int (iI x11), .int r2, .int r3, .ref a16, .int (iI x12), .int (iI x13), .ref a17, .ref a18, .int (iI x14), .ref a19, .int (iI x15), .int r4, .ref a20, .ref a21, .int (iI x16), .int r5, .ref a22, .int (iI x17), .int (iI x18), .int (iI x19), .int (iI x20)])), (a3, .inl (T 0, 53, .inl (cI f1))), (a8, .inl (T 1, 12, .inr (.inl h0)))] H locs := w
  refine lv_if_ne (tgt := 13) hx hb dX12_readStreet_8 (by decide) (fun c_19 => ?_) (fun c_19 => ?_)
  · replace c_19 : ¬ z10 = 0 := fun h => c_19 ((iz_eq (Int.le_trans (by decide) z10_a) (Int.le_trans z10_b (by decide))).mpr h)
    refine lv_aload_n hx hb dX12_readStreet_13 rfl (lv_at hl 0 rfl) ?_
    refine r_get (v := .int (iI z13)) M w 1 13 clX12 rfl (by decide) G1476 rfl rfl dX12_readStreet_14 ?_
    refine lv_istore_n (lv' := [(1, .int (iI z13)), (0, .ref a0)]) hx hb dX12_readStreet_17 rfl hl (by decide) rfl (fun ls hl => ?_)
    refine lv_aload_n hx hb dX12_readStreet_18 rfl (lv_at hl 1 rfl) ?_
    refine k_V (ce := 0) (sl := 0) (rest := []) (wr := [(a3, .inl (T 0, 53, .inl (cI f1))), (a8, .inl (T 1, 12, .inr (.inl h0)))]) (r_V (f := 1) [1, 0] M w V_HookedCityModel_82 G1629 G49 (c12_X12_go l D T _ a0 r0 a1 x0 x1 x2 z1 z2 z3 fr4 z5 z11 z12 fy6 z13 a2 a3 a4 a5 a6 a7 a8 a9 a10 a11 x10 a12 a13 a14 a15 x11 r2 r3 a16 x12 x13 a17 a18 x14 a19 x15 r4 a20 a21 x16 r5 a22 x17 x18 x19 x20 f0 x0_a x0_b x1_a x1_b x2_a x2_b z1_a z1_b z2_a z2_b z3_a z3_b z5_a z5_b z11_a z11_b z12_a z12_b z13_a z13_b x10_a x10_b x11_a x11_b x12_a x12_b x13_a x13_b x14_a x14_b x15_a x15_b x16_a x16_b x17_a x17_b x18_a x18_b x19_a x19_b x20_a x20_b f0_h) 1 clX12 rfl rfl (by decide) rfl hl.1 rfl (Nat.le_of_ble_eq_true rfl) dX12_readStreet_19 (by decide) (by decide) (by decide) (by decide)) w [1, 0] [2, 3] rfl rfl (by decide) (by decide) rfl rfl (fun u H locs hp w => ?_)
    obtain ⟨z20, z21, z22, fr23, z24, fy25⟩ := u
    have z20_a : 0 ≤ z20 := hp.1
    have z20_b : z20 ≤ 940 := hp.2.1
    have z21_a : 0 ≤ z21 := hp.2.2.1
    have z21_b : z21 ≤ 940 := hp.2.2.2.1
    have z22_a : 0 ≤ z22 := hp.2.2.2.2.1
    have z22_b : z22 ≤ 4 := hp.2.2.2.2.2.1
    have z24_a : (-2147483648) ≤ z24 := hp.2.2.2.2.2.2.1
    have z24_b : z24 ≤ 2147483647 := hp.2.2.2.2.2.2.2.1
    have ee26 : 0 ≤ (z20 - z1) := hp.2.2.2.2.2.2.2.2.1
    have ee27 : 0 ≤ (((z20 - z1) - z22) + 3) := hp.2.2.2.2.2.2.2.2.2.1
    have pq28 : gT (tkAt f0 x1 x2 z1) z22 z21 z20 fy25 fr23 z24 := hp.2.2.2.2.2.2.2.2.2.2
    have w : WD D A s.heap [(a3, .inl (T 0, 53, .inl (cI f1))), (a8, .inl (T 1, 12, .inr (.inl h0))), (a0, .inr (11, [.int r0, .ref a1, .int (iI x0), .int (iI x1), .int (iI x2), .int (iI z20), .int (iI z21), .int (iI z22), .int fr23, .int (iI z24), .int (iI z11), .int (iI z12), .long fy25, .int (iI z13), .ref a2, .ref a3, .ref a4, .ref a5, .ref a6, .ref a7, .ref a8, .ref a9, .ref a10, .ref a11, .int (iI x10), .ref a12, .ref a13, .ref a14, .ref a15, .int (iI x11), .int r2, .int r3, .ref a16, .int (iI x12), .int (iI x13), .ref a17, .ref a18, .int (iI x14), .ref a19, .int (iI x15), .int r4, .ref a20, .ref a21, .int (iI x16), .int r5, .ref a22, .int (iI x17), .int (iI x18), .int (iI x19), .int (iI x20)])), (a1, .inl (T 0, 940, .inl (cI f0)))] H locs := w
    refine lv_aload_n hx hb dX12_readStreet_22 rfl (lv_at hl 1 rfl) ?_
    refine k_I (ce := 0) (sl := 0) (rest := []) (wr := [(a1, .inl (T 0, 940, .inl (cI f0)))]) (r_V (f := 3) [2, 0, 1] M w V_HookedCityModel_203 G1705 G63 (c54_X12_isOne l D T _ a0 r0 a1 x0 x1 x2 z20 z21 z22 fr23 z24 z11 z12 fy25 z13 a2 a3 a4 a5 a6 a7 a8 a9 a10 a11 x10 a12 a13 a14 a15 x11 r2 r3 a16 x12 x13 a17 a18 x14 a19 x15 r4 a20 a21 x16 r5 a22 x17 x18 x19 x20 f1 h0 x0_a x0_b x1_a x1_b x2_a x2_b z20_a z20_b z21_a z21_b z22_a z22_b z24_a z24_b z11_a z11_b z12_a z12_b z13_a z13_b x10_a x10_b x11_a x11_b x12_a x12_b x13_a x13_b x14_a x14_b x15_a x15_b x16_a x16_b x17_a x17_b x18_a x18_b x19_a x19_b x20_a x20_b f1_h) 2 clX12 rfl rfl (by decide) rfl hl.1 rfl (Nat.le_of_ble_eq_true rfl) dX12_readStreet_23 (by decide) (by decide) (by decide) (by decide)) w [2, 0, 1] [3] rfl rfl (by decide) (by decide) rfl rfl (fun v u H locs hp w => ?_)
    obtain ⟨z29, z30, z31, z32⟩ := u
    have hv : iI z29 = v := hp.1
    subst hv
    have z29_a : 0 ≤ z29 := hp.2.1
    have z29_b : z29 ≤ 1 := hp.2.2.1
    have z30_a : (-2147483648) ≤ z30 := hp.2.2.2.1
    have z30_b : z30 ≤ 2147483647 := hp.2.2.2.2.1
    have z31_a : 0 ≤ z31 := hp.2.2.2.2.2.1
    have z31_b : z31 ≤ 940 := hp.2.2.2.2.2.2.1
    have z32_a : (-2147483648) ≤ z32 := hp.2.2.2.2.2.2.2.1
    have z32_b : z32 ≤ 2147483647 := hp.2.2.2.2.2.2.2.2.1
    have ee33 : 0 ≤ ((z32 + 4294967296) - (z29 * 4294967296)) := hp.2.2.2.2.2.2.2.2.2.1
    have ee34 : 0 ≤ (((8 - z32) + 4294967296) - (z29 * 4294967296)) := hp.2.2.2.2.2.2.2.2.2.2.1
    have pq35 : z29 = 1 → z32 < f1 0 := hp.2.2.2.2.2.2.2.2.2.2.2.1
    have pq36 : ∀ x : Tk × Int × Int, gT x z22 z21 z20 fy25 fr23 z24 → RV (sOne f1 h0 x) z29 z30 z31 z32 := hp.2.2.2.2.2.2.2.2.2.2.2.2.1
    have pq37 : kpB z29 z11 z30 := hp.2.2.2.2.2.2.2.2.2.2.2.2.2
    have w : WD D A s.heap [(a1, .inl (T 0, 940, .inl (cI f0))), (a0, .inr (11, [.int r0, .ref a1, .int (iI x0), .int (iI x1), .int (iI x2), .int (iI z20), .int (iI z21), .int (iI z22), .int fr23, .int (iI z24), .int (iI z30), .int (iI z31), .long fy25, .int (iI z32), .ref a2, .ref a3, .ref a4, .ref a5, .ref a6, .ref a7, .ref a8, .ref a9, .ref a10, .ref a11, .int (iI x10), .ref a12, .ref a13, .ref a14, .ref a15, .int (iI x11), .int r2, .int r3, .ref a16, .int (iI x12), .int (iI x13), .ref a17, .ref a18, .int (iI x14), .ref a19, .int (iI x15), .int r4, .ref a20, .ref a21, .int (iI x16), .int r5, .ref a22, .int (iI x17), .int (iI x18), .int (iI x19), .int (iI x20)])), (a3, .inl (T 0, 53, .inl (cI f1))), (a8, .inl (T 1, 12, .inr (.inl h0)))] H locs := w
    refine lv_if_ne (tgt := 31) hx hb dX12_readStreet_26 (by decide) (fun c_38 => ?_) (fun c_38 => ?_)
    · replace c_38 : ¬ z29 = 0 := fun h => c_38 ((iz_eq (Int.le_trans (by decide) z29_a) (Int.le_trans z29_b (by decide))).mpr h)
      refine lv_aload_n hx hb dX12_readStreet_31 rfl (lv_at hl 1 rfl) ?_
      refine r_get (v := .int (iI z32)) M w 1 13 clX12 rfl (by decide) G1476 rfl rfl dX12_readStreet_32 ?_
      refine lv_iload_n hx hb dX12_readStreet_35 rfl (lv_at hl 0 rfl) ?_
      refine lv_icmp_eq (tgt := 58) hx hb dX12_readStreet_36 (by decide) (fun c_39 => ?_) (fun c_39 => ?_)
      · replace c_39 := (iI_eq (Int.le_trans (by decide) z32_a) (Int.le_trans z32_b (by decide)) (Int.le_trans (by decide) z13_a) (Int.le_trans z13_b (by decide))).mp c_39
        refine lv_aload_n hx hb dX12_readStreet_58 rfl (lv_at hl 1 rfl) ?_
        refine lv_iconst (v := iI 3) hx hb dX12_readStreet_59 (by decide +kernel) ?_
        refine k_I (ce := 0) (sl := 0) (rest := []) (wr := [(a1, .inl (T 0, 940, .inl (cI f0))), (a3, .inl (T 0, 53, .inl (cI f1))), (a8, .inl (T 1, 12, .inr (.inl h0)))]) (r_V (f := 0) [1] M w V_HookedCityModel_72 G1667 G55 (c45_X12_bad l D T _ a0 3 r0 a1 x0 x1 x2 z20 z21 z22 fr23 z24 z30 z31 fy25 z32 a2 a3 a4 a5 a6 a7 a8 a9 a10 a11 x10 a12 a13 a14 a15 x11 r2 r3 a16 x12 x13 a17 a18 x14 a19 x15 r4 a20 a21 x16 r5 a22 x17 x18 x19 x20 (by decide) (by decide) x0_a x0_b x1_a x1_b x2_a x2_b z20_a z20_b z21_a z21_b z22_a z22_b z24_a z24_b z30_a z30_b z31_a z31_b z32_a z32_b x10_a x10_b x11_a x11_b x12_a x12_b x13_a x13_b x14_a x14_b x15_a x15_b x16_a x16_b x17_a x17_b x18_a x18_b x19_a x19_b x20_a x20_b) 1 clX12 rfl rfl (by decide) rfl hl.1 rfl (Nat.le_of_ble_eq_true rfl) dX12_readStreet_60 (by decide) (by decide) (by decide) (by decide)) w [1] [0, 2, 3] rfl rfl (by decide) (by decide) rfl rfl (fun v u H locs hp w => ?_)
        obtain ⟨z40, z41, z42⟩ := u
        have hv : iI z40 = v := hp.1
        subst hv
        have z40_a : 0 ≤ z40 := hp.2.1
        have z40_b : z40 ≤ 1 := hp.2.2.1
        have z41_a : (-2147483648) ≤ z41 := hp.2.2.2.1
        have z41_b : z41 ≤ 2147483647 := hp.2.2.2.2.1
        have z42_a : 0 ≤ z42 := hp.2.2.2.2.2.1
        have z42_b : z42 ≤ 940 := hp.2.2.2.2.2.2.1
        have pq43 : baQ z22 3 z41 := hp.2.2.2.2.2.2.2.1
        have pq44 : z42 = z21 := hp.2.2.2.2.2.2.2.2.1
        have w : WD D A s.heap [(a1, .inl (T 0, 940, .inl (cI f0))), (a3, .inl (T 0, 53, .inl (cI f1))), (a8, .inl (T 1, 12, .inr (.inl h0))), (a0, .inr (11, [.int r0, .ref a1, .int (iI x0), .int (iI x1), .int (iI x2), .int (iI z20), .int (iI z21), .int (iI z22), .int fr23, .int (iI z24), .int (iI z41), .int (iI z42), .long fy25, .int (iI z32), .ref a2, .ref a3, .ref a4, .ref a5, .ref a6, .ref a7, .ref a8, .ref a9, .ref a10, .ref a11, .int (iI x10), .ref a12, .ref a13, .ref a14, .ref a15, .int (iI x11), .int r2, .int r3, .ref a16, .int (iI x12), .int (iI x13), .ref a17, .ref a18, .int (iI x14), .ref a19, .int (iI x15), .int r4, .ref a20, .ref a21, .int (iI x16), .int r5, .ref a22, .int (iI x17), .int (iI x18), .int (iI x19), .int (iI x20)]))] H locs := w
        rcases hp.2.2.2.2.2.2.2.2.2 with hr
        · subst hr
          exact ret _ (0, z20, z21, z22, fr23, z24, z41, z42, fy25, z32, f1) _ _ _ _ _ [3, 0, 1, 2] dX12_readStreet_63 (by decide +kernel) ⟨rfl, (show (0 : Int) ≤ 0 from by decide), (show (0 : Int) ≤ 1 from by decide), z20_a, z20_b, z21_a, z21_b, z22_a, z22_b, z24_a, z24_b, z41_a, z41_b, z42_a, z42_b, z32_a, z32_b, f1_h, (show 0 ≤ (z20 - x3) from by omega), (show 0 ≤ ((((z20 - x3) - z22) + 4) - 0) from by omega), (show ∀ (x : Tk × Int × Int) (o : Int → Int), gT x x5 x4 x3 y0 r1 x6 → ¬ x.1 = tkBad → RP (sStreet f0 x1 x2 x f1 h0 o) 0 z41 z42 (fun y => gT y z22 z21 z20 fy25 fr23 z24) f1 h0 o from (by intro x o hx hb; have g1 := gT_nx hx pq9; rw [sStreet]; refine bdV_ok (pq17 _ g1) (by omega) ?_; have g2 := gT_nx g1 pq28; have k2 := one_k2 (pq36 _ g2) (by omega) g2; refine bdV_ok (pq36 _ g2) (by omega) ?_; rw [if_pos (Or.inl (by omega))]; exact ⟨rfl, by have e9 := pq43; unfold baQ at e9; omega, pq44.trans g2.1⟩)), (show kpB 0 x7 z41 from (fun e => absurd e (by decide)))⟩ w (by decide) rfl
      · replace c_39 : ¬ z32 = z13 := fun h => c_39 ((iI_eq (Int.le_trans (by decide) z32_a) (Int.le_trans z32_b (by decide)) (Int.le_trans (by decide) z13_a) (Int.le_trans z13_b (by decide))).mpr h)
        refine lv_aload_n hx hb dX12_readStreet_39 rfl (lv_at hl 1 rfl) ?_
        refine r_get (v := .ref a3) M w 1 15 clX12 rfl (by decide) G1478 rfl rfl dX12_readStreet_40 ?_
        refine lv_bipush (v := iI 44) hx hb dX12_readStreet_43 (by decide +kernel) ?_
        refine lv_iload_n hx hb dX12_readStreet_45 rfl (lv_at hl 0 rfl) ?_
        refine r_iadd (v := iI (44 + z13)) M (iI_add _ _) dX12_readStreet_46 ?_
        refine r_iald (v := iI (f1 (44 + z13))) M w 2 rfl (iI_in (by omega) (by omega) (by decide)) (cI_at (by omega) (by omega)) dX12_readStreet_47 ?_
        have hh45 : (-2147483648) ≤ (f1 (44 + z13)) ∧ (f1 (44 + z13)) ≤ 2147483647 := f1_h.1 (44 + z13)
        refine lv_aload_n hx hb dX12_readStreet_48 rfl (lv_at hl 1 rfl) ?_
        refine r_get (v := .int (iI z32)) M w 1 13 clX12 rfl (by decide) G1476 rfl rfl dX12_readStreet_49 ?_
        refine k_I (ce := 0) (sl := 0) (rest := []) (wr := [(a1, .inl (T 0, 940, .inl (cI f0))), (a0, .inr (11, [.int r0, .ref a1, .int (iI x0), .int (iI x1), .int (iI x2), .int (iI z20), .int (iI z21), .int (iI z22), .int fr23, .int (iI z24), .int (iI z30), .int (iI z31), .long fy25, .int (iI z32), .ref a2, .ref a3, .ref a4, .ref a5, .ref a6, .ref a7, .ref a8, .ref a9, .ref a10, .ref a11, .int (iI x10), .ref a12, .ref a13, .ref a14, .ref a15, .int (iI x11), .int r2, .int r3, .ref a16, .int (iI x12), .int (iI x13), .ref a17, .ref a18, .int (iI x14), .ref a19, .int (iI x15), .int r4, .ref a20, .ref a21, .int (iI x16), .int r5, .ref a22, .int (iI x17), .int (iI x18), .int (iI x19), .int (iI x20)])), (a3, .inl (T 0, 53, .inl (cI f1))), (a8, .inl (T 1, 12, .inr (.inl h0)))]) (r_S (f := 0) [] M w V_HookedCityModel_206 G1708 (c7_X12_has l D T _ (f1 (44 + z13)) z32 (by omega) (by omega) z32_a z32_b) rfl (by decide) rfl hl.1 rfl (Nat.le_of_ble_eq_true rfl) dX12_readStreet_52 (by decide) (by decide) (by decide) (by decide)) w [] [0, 1, 2, 3] rfl rfl (by decide) (by decide) rfl rfl (fun v z46 H locs hp w => ?_)
        have hv : iI z46 = v := hp.1
        subst hv
        have z46_a : 0 ≤ z46 := hp.2.1
        have z46_b : z46 ≤ 1 := hp.2.2.1
        have pq47 : hsQ z46 (f1 (44 + z13)) z32 := hp.2.2.2
        have w : WD D A s.heap [(a1, .inl (T 0, 940, .inl (cI f0))), (a0, .inr (11, [.int r0, .ref a1, .int (iI x0), .int (iI x1), .int (iI x2), .int (iI z20), .int (iI z21), .int (iI z22), .int fr23, .int (iI z24), .int (iI z30), .int (iI z31), .long fy25, .int (iI z32), .ref a2, .ref a3, .ref a4, .ref a5, .ref a6, .ref a7, .ref a8, .ref a9, .ref a10, .ref a11, .int (iI x10), .ref a12, .ref a13, .ref a14, .ref a15, .int (iI x11), .int r2, .int r3, .ref a16, .int (iI x12), .int (iI x13), .ref a17, .ref a18, .int (iI x14), .ref a19, .int (iI x15), .int r4, .ref a20, .ref a21, .int (iI x16), .int r5, .ref a22, .int (iI x17), .int (iI x18), .int (iI x19), .int (iI x20)])), (a3, .inl (T 0, 53, .inl (cI f1))), (a8, .inl (T 1, 12, .inr (.inl h0)))] H locs := w
        refine lv_if_eq (tgt := 64) hx hb dX12_readStreet_55 (by decide) (fun c_48 => ?_) (fun c_48 => ?_)
        · replace c_48 := (iz_eq (Int.le_trans (by decide) z46_a) (Int.le_trans z46_b (by decide))).mp c_48
          refine lv_aload_n hx hb dX12_readStreet_64 rfl (lv_at hl 1 rfl) ?_
          refine r_get (v := .ref a3) M w 1 15 clX12 rfl (by decide) G1478 rfl rfl dX12_readStreet_65 ?_
          refine lv_bipush (v := iI 44) hx hb dX12_readStreet_68 (by decide +kernel) ?_
          refine lv_iload_n hx hb dX12_readStreet_70 rfl (lv_at hl 0 rfl) ?_
          refine r_iadd (v := iI (44 + z13)) M (iI_add _ _) dX12_readStreet_71 ?_
          refine lv_dup2_11 hx hb dX12_readStreet_72 rfl rfl ?_
          refine r_iald (v := iI (f1 (44 + z13))) M w 2 rfl (iI_in (by omega) (by omega) (by decide)) (cI_at (by omega) (by omega)) dX12_readStreet_73 ?_
          have hh49 : (-2147483648) ≤ (f1 (44 + z13)) ∧ (f1 (44 + z13)) ≤ 2147483647 := f1_h.1 (44 + z13)
          refine lv_iconst (v := iI 1) hx hb dX12_readStreet_74 (by decide +kernel) ?_
          refine lv_aload_n hx hb dX12_readStreet_75 rfl (lv_at hl 1 rfl) ?_
          refine r_get (v := .int (iI z32)) M w 1 13 clX12 rfl (by decide) G1476 rfl rfl dX12_readStreet_76 ?_
          refine r_ishl (v := ((iI 1) <<< ((iI z32) &&& 31))) M rfl dX12_readStreet_79 ?_
          refine r_ior (v := ((iI (f1 (44 + z13))) ||| ((iI 1) <<< ((iI z32) &&& 31)))) M rfl dX12_readStreet_80 ?_
          refine b_anyx (fun z50 z50_a z50_b hz51 => ?_)
          refine r_iast (ws' := [(a1, .inl (T 0, 940, .inl (cI f0))), (a0, .inr (11, [.int r0, .ref a1, .int (iI x0), .int (iI x1), .int (iI x2), .int (iI z20), .int (iI z21), .int (iI z22), .int fr23, .int (iI z24), .int (iI z30), .int (iI z31), .long fy25, .int (iI z32), .ref a2, .ref a3, .ref a4, .ref a5, .ref a6, .ref a7, .ref a8, .ref a9, .ref a10, .ref a11, .int (iI x10), .ref a12, .ref a13, .ref a14, .ref a15, .int (iI x11), .int r2, .int r3, .ref a16, .int (iI x12), .int (iI x13), .ref a17, .ref a18, .int (iI x14), .ref a19, .int (iI x15), .int r4, .ref a20, .ref a21, .int (iI x16), .int r5, .ref a22, .int (iI x17), .int (iI x18), .int (iI x19), .int (iI x20)])), (a3, .inl (T 0, 53, .inl (cI (upz f1 (44 + z13) z50)))), (a8, .inl (T 1, 12, .inr (.inl h0)))]) M w 2 rfl (iI_in (by omega) (by omega) (by decide)) (by rw [cI_up (by omega) (by omega)]; rfl) dX12_readStreet_81 (fun H locs w => ?_)
          refine lv_aload_n hx hb dX12_readStreet_82 rfl (lv_at hl 1 rfl) ?_
          refine r_get (v := .ref a3) M w 1 15 clX12 rfl (by decide) G1478 rfl rfl dX12_readStreet_83 ?_
          refine lv_bipush (v := iI 44) hx hb dX12_readStreet_86 (by decide +kernel) ?_
          refine lv_aload_n hx hb dX12_readStreet_88 rfl (lv_at hl 1 rfl) ?_
          refine r_get (v := .int (iI z32)) M w 1 13 clX12 rfl (by decide) G1476 rfl rfl dX12_readStreet_89 ?_
          refine r_iadd (v := iI (44 + z32)) M (iI_add _ _) dX12_readStreet_92 ?_
          refine lv_dup2_11 hx hb dX12_readStreet_93 rfl rfl ?_
          refine r_iald (v := iI ((upz f1 (44 + z13) z50) (44 + z32))) M w 2 rfl (iI_in (by omega) (by omega) (by decide)) (cI_at (by omega) (by omega)) dX12_readStreet_94 ?_
          have hh52 : (-2147483648) ≤ ((upz f1 (44 + z13) z50) (44 + z32)) ∧ ((upz f1 (44 + z13) z50) (44 + z32)) ≤ 2147483647 := (rd_up f1_h (by omega) (by omega) (by unfold rr; omega) (fun h => absurd h (by omega)) (by omega)).1 (44 + z32)
          refine lv_iconst (v := iI 1) hx hb dX12_readStreet_95 (by decide +kernel) ?_
          refine lv_iload_n hx hb dX12_readStreet_96 rfl (lv_at hl 0 rfl) ?_
          refine r_ishl (v := ((iI 1) <<< ((iI z13) &&& 31))) M rfl dX12_readStreet_97 ?_
          refine r_ior (v := ((iI ((upz f1 (44 + z13) z50) (44 + z32))) ||| ((iI 1) <<< ((iI z13) &&& 31)))) M rfl dX12_readStreet_98 ?_
          refine b_anyx (fun z53 z53_a z53_b hz54 => ?_)
          refine r_iast (ws' := [(a1, .inl (T 0, 940, .inl (cI f0))), (a0, .inr (11, [.int r0, .ref a1, .int (iI x0), .int (iI x1), .int (iI x2), .int (iI z20), .int (iI z21), .int (iI z22), .int fr23, .int (iI z24), .int (iI z30), .int (iI z31), .long fy25, .int (iI z32), .ref a2, .ref a3, .ref a4, .ref a5, .ref a6, .ref a7, .ref a8, .ref a9, .ref a10, .ref a11, .int (iI x10), .ref a12, .ref a13, .ref a14, .ref a15, .int (iI x11), .int r2, .int r3, .ref a16, .int (iI x12), .int (iI x13), .ref a17, .ref a18, .int (iI x14), .ref a19, .int (iI x15), .int r4, .ref a20, .ref a21, .int (iI x16), .int r5, .ref a22, .int (iI x17), .int (iI x18), .int (iI x19), .int (iI x20)])), (a3, .inl (T 0, 53, .inl (cI (upz (upz f1 (44 + z13) z50) (44 + z32) z53)))), (a8, .inl (T 1, 12, .inr (.inl h0)))]) M w 2 rfl (iI_in (by omega) (by omega) (by decide)) (by rw [cI_up (by omega) (by omega)]; rfl) dX12_readStreet_99 (fun H locs w => ?_)
          refine lv_aload_n hx hb dX12_readStreet_100 rfl (lv_at hl 1 rfl) ?_
          refine k_V (ce := 0) (sl := 0) (rest := []) (wr := [(a3, .inl (T 0, 53, .inl (cI (upz (upz f1 (44 + z13) z50) (44 + z32) z53)))), (a8, .inl (T 1, 12, .inr (.inl h0)))]) (r_V (f := 1) [1, 0] M w V_HookedCityModel_82 G1629 G49 (c12_X12_go l D T _ a0 r0 a1 x0 x1 x2 z20 z21 z22 fr23 z24 z30 z31 fy25 z32 a2 a3 a4 a5 a6 a7 a8 a9 a10 a11 x10 a12 a13 a14 a15 x11 r2 r3 a16 x12 x13 a17 a18 x14 a19 x15 r4 a20 a21 x16 r5 a22 x17 x18 x19 x20 f0 x0_a x0_b x1_a x1_b x2_a x2_b z20_a z20_b z21_a z21_b z22_a z22_b z24_a z24_b z30_a z30_b z31_a z31_b z32_a z32_b x10_a x10_b x11_a x11_b x12_a x12_b x13_a x13_b x14_a x14_b x15_a x15_b x16_a x16_b x17_a x17_b x18_a x18_b x19_a x19_b x20_a x20_b f0_h) 1 clX12 rfl rfl (by decide) rfl hl.1 rfl (Nat.le_of_ble_eq_true rfl) dX12_readStreet_101 (by decide) (by decide) (by decide) (by decide)) w [1, 0] [2, 3] rfl rfl (by decide) (by decide) rfl rfl (fun u H locs hp w => ?_)
          obtain ⟨z55, z56, z57, fr58, z59, fy60⟩ := u
          have z55_a : 0 ≤ z55 := hp.1
          have z55_b : z55 ≤ 940 := hp.2.1
          have z56_a : 0 ≤ z56 := hp.2.2.1
          have z56_b : z56 ≤ 940 := hp.2.2.2.1
          have z57_a : 0 ≤ z57 := hp.2.2.2.2.1
          have z57_b : z57 ≤ 4 := hp.2.2.2.2.2.1
          have z59_a : (-2147483648) ≤ z59 := hp.2.2.2.2.2.2.1
          have z59_b : z59 ≤ 2147483647 := hp.2.2.2.2.2.2.2.1
          have ee61 : 0 ≤ (z55 - z20) := hp.2.2.2.2.2.2.2.2.1
          have ee62 : 0 ≤ (((z55 - z20) - z57) + 3) := hp.2.2.2.2.2.2.2.2.2.1
          have pq63 : gT (tkAt f0 x1 x2 z20) z57 z56 z55 fy60 fr58 z59 := hp.2.2.2.2.2.2.2.2.2.2
          have w : WD D A s.heap [(a3, .inl (T 0, 53, .inl (cI (upz (upz f1 (44 + z13) z50) (44 + z32) z53)))), (a8, .inl (T 1, 12, .inr (.inl h0))), (a0, .inr (11, [.int r0, .ref a1, .int (iI x0), .int (iI x1), .int (iI x2), .int (iI z55), .int (iI z56), .int (iI z57), .int fr58, .int (iI z59), .int (iI z30), .int (iI z31), .long fy60, .int (iI z32), .ref a2, .ref a3, .ref a4, .ref a5, .ref a6, .ref a7, .ref a8, .ref a9, .ref a10, .ref a11, .int (iI x10), .ref a12, .ref a13, .ref a14, .ref a15, .int (iI x11), .int r2, .int r3, .ref a16, .int (iI x12), .int (iI x13), .ref a17, .ref a18, .int (iI x14), .ref a19, .int (iI x15), .int r4, .ref a20, .ref a21, .int (iI x16), .int r5, .ref a22, .int (iI x17), .int (iI x18), .int (iI x19), .int (iI x20)])), (a1, .inl (T 0, 940, .inl (cI f0)))] H locs := w
          refine lv_iconst (v := iI 1) hx hb dX12_readStreet_104 (by decide +kernel) ?_
          exact ret _ (1, z55, z56, z57, fr58, z59, z30, z31, fy60, z32, (upz (upz f1 (44 + z13) z50) (44 + z32) z53)) _ _ _ _ _ [2, 3, 0, 1] dX12_readStreet_105 (by decide +kernel) ⟨rfl, (show (0 : Int) ≤ 1 from by decide), (show (1 : Int) ≤ 1 from by decide), z55_a, z55_b, z56_a, z56_b, z57_a, z57_b, z59_a, z59_b, z30_a, z30_b, z31_a, z31_b, z32_a, z32_b, (rd_up (rd_up f1_h (by omega) (by omega) (by unfold rr; omega) (fun h => absurd h (by omega)) (by omega)) (by omega) (by omega) (by unfold rr; omega) (fun h => absurd h (by omega)) (by omega)), (show 0 ≤ (z55 - x3) from by omega), (show 0 ≤ ((((z55 - x3) - z57) + 4) - 1) from by omega), (show ∀ (x : Tk × Int × Int) (o : Int → Int), gT x x5 x4 x3 y0 r1 x6 → ¬ x.1 = tkBad → RP (sStreet f0 x1 x2 x f1 h0 o) 1 z30 z31 (fun y => gT y z57 z56 z55 fy60 fr58 z59) (upz (upz f1 (44 + z13) z50) (44 + z32) z53) h0 o from (by intro x o hx hb; have g1 := gT_nx hx pq9; rw [sStreet]; refine bdV_ok (pq17 _ g1) (by omega) ?_; have g2 := gT_nx g1 pq28; have k2 := one_k2 (pq36 _ g2) (by omega) g2; refine bdV_ok (pq36 _ g2) (by omega) ?_; rw [if_neg (by have e9 := pq47; unfold hsQ at e9; omega)]; refine ⟨rfl, gT_nx g2 pq63, ?_, rfl, rfl⟩; rw [orb_z hz54 z53_a z53_b, orb_z hz51 z50_a z50_b, upz_n (by omega)]; rfl)), (show kpB 1 x7 z30 from (fun hr => by have y1 := pq18 (by omega); have y3 := pq37 (by omega); omega))⟩ w (by decide) rfl
        · replace c_48 : ¬ z46 = 0 := fun h => c_48 ((iz_eq (Int.le_trans (by decide) z46_a) (Int.le_trans z46_b (by decide))).mpr h)
          refine lv_aload_n hx hb dX12_readStreet_58 rfl (lv_at hl 1 rfl) ?_
          refine lv_iconst (v := iI 3) hx hb dX12_readStreet_59 (by decide +kernel) ?_
          refine k_I (ce := 0) (sl := 0) (rest := []) (wr := [(a1, .inl (T 0, 940, .inl (cI f0))), (a3, .inl (T 0, 53, .inl (cI f1))), (a8, .inl (T 1, 12, .inr (.inl h0)))]) (r_V (f := 0) [1] M w V_HookedCityModel_72 G1667 G55 (c45_X12_bad l D T _ a0 3 r0 a1 x0 x1 x2 z20 z21 z22 fr23 z24 z30 z31 fy25 z32 a2 a3 a4 a5 a6 a7 a8 a9 a10 a11 x10 a12 a13 a14 a15 x11 r2 r3 a16 x12 x13 a17 a18 x14 a19 x15 r4 a20 a21 x16 r5 a22 x17 x18 x19 x20 (by decide) (by decide) x0_a x0_b x1_a x1_b x2_a x2_b z20_a z20_b z21_a z21_b z22_a z22_b z24_a z24_b z30_a z30_b z31_a z31_b z32_a z32_b x10_a x10_b x11_a x11_b x12_a x12_b x13_a x13_b x14_a x14_b x15_a x15_b x16_a x16_b x17_a x17_b x18_a x18_b x19_a x19_b x20_a x20_b) 1 clX12 rfl rfl (by decide) rfl hl.1 rfl (Nat.le_of_ble_eq_true rfl) dX12_readStreet_60 (by decide) (by decide) (by decide) (by decide)) w [1] [0, 2, 3] rfl rfl (by decide) (by decide) rfl rfl (fun v u H locs hp w => ?_)
          obtain ⟨z64, z65, z66⟩ := u
          have hv : iI z64 = v := hp.1
          subst hv
          have z64_a : 0 ≤ z64 := hp.2.1
          have z64_b : z64 ≤ 1 := hp.2.2.1
          have z65_a : (-2147483648) ≤ z65 := hp.2.2.2.1
          have z65_b : z65 ≤ 2147483647 := hp.2.2.2.2.1
          have z66_a : 0 ≤ z66 := hp.2.2.2.2.2.1
          have z66_b : z66 ≤ 940 := hp.2.2.2.2.2.2.1
          have pq67 : baQ z22 3 z65 := hp.2.2.2.2.2.2.2.1
          have pq68 : z66 = z21 := hp.2.2.2.2.2.2.2.2.1
          have w : WD D A s.heap [(a1, .inl (T 0, 940, .inl (cI f0))), (a3, .inl (T 0, 53, .inl (cI f1))), (a8, .inl (T 1, 12, .inr (.inl h0))), (a0, .inr (11, [.int r0, .ref a1, .int (iI x0), .int (iI x1), .int (iI x2), .int (iI z20), .int (iI z21), .int (iI z22), .int fr23, .int (iI z24), .int (iI z65), .int (iI z66), .long fy25, .int (iI z32), .ref a2, .ref a3, .ref a4, .ref a5, .ref a6, .ref a7, .ref a8, .ref a9, .ref a10, .ref a11, .int (iI x10), .ref a12, .ref a13, .ref a14, .ref a15, .int (iI x11), .int r2, .int r3, .ref a16, .int (iI x12), .int (iI x13), .ref a17, .ref a18, .int (iI x14), .ref a19, .int (iI x15), .int r4, .ref a20, .ref a21, .int (iI x16), .int r5, .ref a22, .int (iI x17), .int (iI x18), .int (iI x19), .int (iI x20)]))] H locs := w
          rcases hp.2.2.2.2.2.2.2.2.2 with hr
          · subst hr
            exact ret _ (0, z20, z21, z22, fr23, z24, z65, z66, fy25, z32, f1) _ _ _ _ _ [3, 0, 1, 2] dX12_readStreet_63 (by decide +kernel) ⟨rfl, (show (0 : Int) ≤ 0 from by decide), (show (0 : Int) ≤ 1 from by decide), z20_a, z20_b, z21_a, z21_b, z22_a, z22_b, z24_a, z24_b, z65_a, z65_b, z66_a, z66_b, z32_a, z32_b, f1_h, (show 0 ≤ (z20 - x3) from by omega), (show 0 ≤ ((((z20 - x3) - z22) + 4) - 0) from by omega), (show ∀ (x : Tk × Int × Int) (o : Int → Int), gT x x5 x4 x3 y0 r1 x6 → ¬ x.1 = tkBad → RP (sStreet f0 x1 x2 x f1 h0 o) 0 z65 z66 (fun y => gT y z22 z21 z20 fy25 fr23 z24) f1 h0 o from (by intro x o hx hb; have g1 := gT_nx hx pq9; rw [sStreet]; refine bdV_ok (pq17 _ g1) (by omega) ?_; have g2 := gT_nx g1 pq28; have k2 := one_k2 (pq36 _ g2) (by omega) g2; refine bdV_ok (pq36 _ g2) (by omega) ?_; rw [if_pos (Or.inr (by have e9 := pq47; unfold hsQ at e9; omega))]; exact ⟨rfl, by have e9 := pq67; unfold baQ at e9; omega, pq68.trans g2.1⟩)), (show kpB 0 x7 z65 from (fun e => absurd e (by decide)))⟩ w (by decide) rfl
    · replace c_38 := (iz_eq (Int.le_trans (by decide) z29_a) (Int.le_trans z29_b (by decide))).mp c_38
      refine lv_iconst (v := iI 0) hx hb dX12_readStreet_29 (by decide +kernel) ?_
      exact ret _ (0, z20, z21, z22, fr23, z24, z30, z31, fy25, z32, f1) _ _ _ _ _ [1, 0, 2, 3] dX12_readStreet_30 (by decide +kernel) ⟨rfl, (show (0 : Int) ≤ 0 from by decide), (show (0 : Int) ≤ 1 from by decide), z20_a, z20_b, z21_a, z21_b, z22_a, z22_b, z24_a, z24_b, z30_a, z30_b, z31_a, z31_b, z32_a, z32_b, f1_h, (show 0 ≤ (z20 - x3) from by omega), (show 0 ≤ ((((z20 - x3) - z22) + 4) - 0) from by omega), (show ∀ (x : Tk × Int × Int) (o : Int → Int), gT x x5 x4 x3 y0 r1 x6 → ¬ x.1 = tkBad → RP (sStreet f0 x1 x2 x f1 h0 o) 0 z30 z31 (fun y => gT y z22 z21 z20 fy25 fr23 z24) f1 h0 o from (by intro x o hx hb; have g1 := gT_nx hx pq9; rw [sStreet]; refine bdV_ok (pq17 _ g1) (by omega) ?_; have g2 := gT_nx g1 pq28; exact bdV_bad (pq36 _ g2) (by omega) rfl)), (show kpB 0 x7 z30 from (fun e => absurd e (by decide)))⟩ w (by decide) rfl
  · replace c_19 := (iz_eq (Int.le_trans (by decide) z10_a) (Int.le_trans z10_b (by decide))).mp c_19
    refine lv_iconst (v := iI 0) hx hb dX12_readStreet_11 (by decide +kernel) ?_
    exact ret _ (0, z1, z2, z3, fr4, z5, z11, z12, fy6, z13, f1) _ _ _ _ _ [1, 0, 2, 3] dX12_readStreet_12 (by decide +kernel) ⟨rfl, (show (0 : Int) ≤ 0 from by decide), (show (0 : Int) ≤ 1 from by decide), z1_a, z1_b, z2_a, z2_b, z3_a, z3_b, z5_a, z5_b, z11_a, z11_b, z12_a, z12_b, z13_a, z13_b, f1_h, (show 0 ≤ (z1 - x3) from by omega), (show 0 ≤ ((((z1 - x3) - z3) + 4) - 0) from by omega), (show ∀ (x : Tk × Int × Int) (o : Int → Int), gT x x5 x4 x3 y0 r1 x6 → ¬ x.1 = tkBad → RP (sStreet f0 x1 x2 x f1 h0 o) 0 z11 z12 (fun y => gT y z3 z2 z1 fy6 fr4 z5) f1 h0 o from (by intro x o hx hb; have g1 := gT_nx hx pq9; rw [sStreet]; exact bdV_bad (pq17 _ g1) (by omega) rfl)), (show kpB 0 x7 z11 from (fun e => absurd e (by decide)))⟩ w (by decide) rfl
set_option maxRecDepth 100000 in
set_option maxHeartbeats 4000000 in
theorem c61_X12_readDone (l : Launch) (D : va_G) (T : Nat → ClassId) (sz : Nat) (a0 : Nat) (r0 : Int32) (a1 : Nat) (x0 : Int) (x1 : Int) (x2 : Int) (x3 : Int) (x4 : Int) (x5 : Int) (r1 : Int32) (x6 : Int) (x7 : Int) (x8 : Int) (y0 : Int64) (x9 : Int) (a2 : Nat) (a3 : Nat) (a4 : Nat) (a5 : Nat) (a6 : Nat) (a7 : Nat) (a8 : Nat) (a9 : Nat) (a10 : Nat) (a11 : Nat) (x10 : Int) (a12 : Nat) (a13 : Nat) (a14 : Nat) (a15 : Nat) (x11 : Int) (r2 : Int32) (r3 : Int32) (a16 : Nat) (x12 : Int) (x13 : Int) (a17 : Nat) (a18 : Nat) (x14 : Int) (a19 : Nat) (x15 : Int) (r4 : Int32) (a20 : Nat) (a21 : Nat) (x16 : Int) (r5 : Int32) (a22 : Nat) (x17 : Int) (x18 : Int) (x19 : Int) (x20 : Int) (f0 : Int → Int) (f1 : Int → Int) (h0 : Nat → Int64) (x0_a : 0 ≤ x0) (x0_b : x0 ≤ 940) (x1_a : 0 ≤ x1) (x1_b : x1 ≤ 940) (x2_a : 0 ≤ x2) (x2_b : x2 ≤ 940) (x3_a : 0 ≤ x3) (x3_b : x3 ≤ 940) (x4_a : 0 ≤ x4) (x4_b : x4 ≤ 940) (x5_a : 0 ≤ x5) (x5_b : x5 ≤ 4) (x6_a : (-2147483648) ≤ x6) (x6_b : x6 ≤ 2147483647) (x7_a : (-2147483648) ≤ x7) (x7_b : x7 ≤ 2147483647) (x8_a : 0 ≤ x8) (x8_b : x8 ≤ 940) (x9_a : (-2147483648) ≤ x9) (x9_b : x9 ≤ 2147483647) (x10_a : 0 ≤ x10) (x10_b : x10 ≤ 8) (x11_a : 0 ≤ x11) (x11_b : x11 ≤ 9) (x12_a : (-1) ≤ x12) (x12_b : x12 ≤ 9) (x13_a : (-1) ≤ x13) (x13_b : x13 ≤ 8) (x14_a : 0 ≤ x14) (x14_b : x14 ≤ 9) (x15_a : 0 ≤ x15) (x15_b : x15 ≤ 64) (x16_a : 0 ≤ x16) (x16_b : x16 ≤ 40) (x17_a : 0 ≤ x17) (x17_b : x17 ≤ 40) (x18_a : 0 ≤ x18) (x18_b : x18 ≤ 20) (x19_a : 0 ≤ x19) (x19_b : x19 ≤ 8) (x20_a : 0 ≤ x20) (x20_b : x20 ≤ 39) (f0_h : rng 0 255 f0) (f1_h : rdI f1) : Met l yX12_readDone (Cond.code yX12_readDone cX12_readDone 3 (some .boolean) :: GW) (Rm 4 0 0) (cPre [.ref a0] D T [(a0, .inr (11, [.int r0, .ref a1, .int (iI x0), .int (iI x1), .int (iI x2), .int (iI x3), .int (iI x4), .int (iI x5), .int r1, .int (iI x6), .int (iI x7), .int (iI x8), .long y0, .int (iI x9), .ref a2, .ref a3, .ref a4, .ref a5, .ref a6, .ref a7, .ref a8, .ref a9, .ref a10, .ref a11, .int (iI x10), .ref a12, .ref a13, .ref a14, .ref a15, .int (iI x11), .int r2, .int r3, .ref a16, .int (iI x12), .int (iI x13), .ref a17, .ref a18, .int (iI x14), .ref a19, .int (iI x15), .int r4, .ref a20, .ref a21, .int (iI x16), .int r5, .ref a22, .int (iI x17), .int (iI x18), .int (iI x19), .int (iI x20)])), (a1, .inl (T 0, 940, .inl (cI f0))), (a3, .inl (T 0, 53, .inl (cI f1))), (a8, .inl (T 1, 12, .inr (.inl h0)))] sz) (qI D [(a0, .inr (11, [.int r0, .ref a1, .int (iI x0), .int (iI x1), .int (iI x2), .int (iI x3), .int (iI x4), .int (iI x5), .int r1, .int (iI x6), .int (iI x7), .int (iI x8), .long y0, .int (iI x9), .ref a2, .ref a3, .ref a4, .ref a5, .ref a6, .ref a7, .ref a8, .ref a9, .ref a10, .ref a11, .int (iI x10), .ref a12, .ref a13, .ref a14, .ref a15, .int (iI x11), .int r2, .int r3, .ref a16, .int (iI x12), .int (iI x13), .ref a17, .ref a18, .int (iI x14), .ref a19, .int (iI x15), .int r4, .ref a20, .ref a21, .int (iI x16), .int r5, .ref a22, .int (iI x17), .int (iI x18), .int (iI x19), .int (iI x20)])), (a1, .inl (T 0, 940, .inl (cI f0))), (a3, .inl (T 0, 53, .inl (cI f1))), (a8, .inl (T 1, 12, .inr (.inl h0)))] sz (fun (v : Int32) (u : Int × Int × Int × Int × Int32 × Int × Int × Int × Int64 × Int × (Int → Int)) => iI u.1 = v ∧ 0 ≤ u.1 ∧ u.1 ≤ 1 ∧ 0 ≤ u.2.1 ∧ u.2.1 ≤ 940 ∧ 0 ≤ u.2.2.1 ∧ u.2.2.1 ≤ 940 ∧ 0 ≤ u.2.2.2.1 ∧ u.2.2.2.1 ≤ 4 ∧ (-2147483648) ≤ u.2.2.2.2.2.1 ∧ u.2.2.2.2.2.1 ≤ 2147483647 ∧ (-2147483648) ≤ u.2.2.2.2.2.2.1 ∧ u.2.2.2.2.2.2.1 ≤ 2147483647 ∧ 0 ≤ u.2.2.2.2.2.2.2.1 ∧ u.2.2.2.2.2.2.2.1 ≤ 940 ∧ (-2147483648) ≤ u.2.2.2.2.2.2.2.2.2.1 ∧ u.2.2.2.2.2.2.2.2.2.1 ≤ 2147483647 ∧ rdI u.2.2.2.2.2.2.2.2.2.2 ∧ 0 ≤ (u.2.1 - x3) ∧ 0 ≤ ((((u.2.1 - x3) - u.2.2.2.1) + 4) - u.1) ∧ (∀ (x : Tk × Int × Int) (o : Int → Int), gT x x5 x4 x3 y0 r1 x6 → ¬ x.1 = tkBad → RP (sDone f0 x1 x2 x f1 h0 o) u.1 u.2.2.2.2.2.2.1 u.2.2.2.2.2.2.2.1 (fun y => gT y u.2.2.2.1 u.2.2.1 u.2.1 u.2.2.2.2.2.2.2.2.1 u.2.2.2.2.1 u.2.2.2.2.2.1) u.2.2.2.2.2.2.2.2.2.2 h0 o) ∧ (kpB u.1 x7 u.2.2.2.2.2.2.1)) (fun u => [(a0, .inr (11, [.int r0, .ref a1, .int (iI x0), .int (iI x1), .int (iI x2), .int (iI u.2.1), .int (iI u.2.2.1), .int (iI u.2.2.2.1), .int u.2.2.2.2.1, .int (iI u.2.2.2.2.2.1), .int (iI u.2.2.2.2.2.2.1), .int (iI u.2.2.2.2.2.2.2.1), .long u.2.2.2.2.2.2.2.2.1, .int (iI u.2.2.2.2.2.2.2.2.2.1), .ref a2, .ref a3, .ref a4, .ref a5, .ref a6, .ref a7, .ref a8, .ref a9, .ref a10, .ref a11, .int (iI x10), .ref a12, .ref a13, .ref a14, .ref a15, .int (iI x11), .int r2, .int r3, .ref a16, .int (iI x12), .int (iI x13), .ref a17, .ref a18, .int (iI x14), .ref a19, .int (iI x15), .int r4, .ref a20, .ref a21, .int (iI x16), .int r5, .ref a22, .int (iI x17), .int (iI x18), .int (iI x19), .int (iI x20)])), (a1, .inl (T 0, 940, .inl (cI f0))), (a3, .inl (T 0, 53, .inl (cI u.2.2.2.2.2.2.2.2.2.2))), (a8, .inl (T 1, 12, .inr (.inl h0)))])) 0 0 (va_A [(a0, .inr (11, [.int r0, .ref a1, .int (iI x0), .int (iI x1), .int (iI x2), .int (iI x3), .int (iI x4), .int (iI x5), .int r1, .int (iI x6), .int (iI x7), .int (iI x8), .long y0, .int (iI x9), .ref a2, .ref a3, .ref a4, .ref a5, .ref a6, .ref a7, .ref a8, .ref a9, .ref a10, .ref a11, .int (iI x10), .ref a12, .ref a13, .ref a14, .ref a15, .int (iI x11), .int r2, .int r3, .ref a16, .int (iI x12), .int (iI x13), .ref a17, .ref a18, .int (iI x14), .ref a19, .int (iI x15), .int r4, .ref a20, .ref a21, .int (iI x16), .int r5, .ref a22, .int (iI x17), .int (iI x18), .int (iI x19), .int (iI x20)])), (a1, .inl (T 0, 940, .inl (cI f0))), (a3, .inl (T 0, 53, .inl (cI f1))), (a8, .inl (T 1, 12, .inr (.inl h0)))] sz) := by
  refine e_Z (by decide) (Nat.le_of_ble_eq_true rfl) ?_
  intro p e s m args below meth c A Q ls M hin w ret hl
  have hx := M.1.1
  have hb := M.1.2.1
  have hl : lv_has ls 3 [(0, .ref a0)] := hl
  refine lv_aload_n hx hb dX12_readDone_0 rfl (lv_at hl 0 rfl) ?_
  refine k_V (ce := 0) (sl := 0) (rest := []) (wr := [(a3, .inl (T 0, 53, .inl (cI f1))), (a8, .inl (T 1, 12, .inr (.inl h0)))]) (r_V (f := 1) [0, 1] M w V_HookedCityModel_82 G1629 G49 (c12_X12_go l D T _ a0 r0 a1 x0 x1 x2 x3 x4 x5 r1 x6 x7 x8 y0 x9 a2 a3 a4 a5 a6 a7 a8 a9 a10 a11 x10 a12 a13 a14 a15 x11 r2 r3 a16 x12 x13 a17 a18 x14 a19 x15 r4 a20 a21 x16 r5 a22 x17 x18 x19 x20 f0 x0_a x0_b x1_a x1_b x2_a x2_b x3_a x3_b x4_a x4_b x5_a x5_b x6_a x6_b x7_a x7_b x8_a x8_b x9_a x9_b x10_a x10_b x11_a x11_b x12_a x12_b x13_a x13_b x14_a x14_b x15_a x15_b x16_a x16_b x17_a x17_b x18_a x18_b x19_a x19_b x20_a x20_b f0_h) 0 clX12 rfl rfl (by decide) rfl hl.1 rfl (Nat.le_of_ble_eq_true rfl) dX12_readDone_1 (by decide) (by decide) (by decide) (by decide)) w [0, 1] [2, 3] rfl rfl (by decide) (by decide) rfl rfl (fun u H locs hp w => ?_)
  obtain ⟨z1, z2, z3, fr4, z5, fy6⟩ := u
  have z1_a : 0 ≤ z1 := hp.1
  have z1_b : z1 ≤ 940 := hp.2.1
  have z2_a : 0 ≤ z2 := hp.2.2.1
  have z2_b : z2 ≤ 940 := hp.2.2.2.1
  have z3_a : 0 ≤ z3 := hp.2.2.2.2.1
  have z3_b : z3 ≤ 4 := hp.2.2.2.2.2.1
  have z5_a : (-2147483648) ≤ z5 := hp.2.2.2.2.2.2.1
  have z5_b : z5 ≤ 2147483647 := hp.2.2.2.2.2.2.2.1
  have ee7 : 0 ≤ (z1 - x3) := hp.2.2.2.2.2.2.2.2.1
  have ee8 : 0 ≤ (((z1 - x3) - z3) + 3) := hp.2.2.2.2.2.2.2.2.2.1
  have pq9 : gT (tkAt f0 x1 x2 x3) z3 z2 z1 fy6 fr4 z5 := hp.2.2.2.2.2.2.2.2.2.2
  have w : WD D A s.heap [(a3, .inl (T 0, 53, .inl (cI f1))), (a8, .inl (T 1, 12, .inr (.inl h0))), (a0, .inr (11, [.int r0, .ref a1, .int (iI x0), .int (iI x1), .int (iI x2), .int (iI z1), .int (iI z2), .int (iI z3), .int fr4, .int (iI z5), .int (iI x7), .int (iI x8), .long fy6, .int (iI x9), .ref a2, .ref a3, .ref a4, .ref a5, .ref a6, .ref a7, .ref a8, .ref a9, .ref a10, .ref a11, .int (iI x10), .ref a12, .ref a13, .ref a14, .ref a15, .int (iI x11), .int r2, .int r3, .ref a16, .int (iI x12), .int (iI x13), .ref a17, .ref a18, .int (iI x14), .ref a19, .int (iI x15), .int r4, .ref a20, .ref a21, .int (iI x16), .int r5, .ref a22, .int (iI x17), .int (iI x18), .int (iI x19), .int (iI x20)])), (a1, .inl (T 0, 940, .inl (cI f0)))] H locs := w
  refine lv_aload_n hx hb dX12_readDone_4 rfl (lv_at hl 0 rfl) ?_
  refine k_I (ce := 0) (sl := 0) (rest := []) (wr := [(a1, .inl (T 0, 940, .inl (cI f0)))]) (r_V (f := 3) [2, 0, 1] M w V_HookedCityModel_203 G1705 G63 (c54_X12_isOne l D T _ a0 r0 a1 x0 x1 x2 z1 z2 z3 fr4 z5 x7 x8 fy6 x9 a2 a3 a4 a5 a6 a7 a8 a9 a10 a11 x10 a12 a13 a14 a15 x11 r2 r3 a16 x12 x13 a17 a18 x14 a19 x15 r4 a20 a21 x16 r5 a22 x17 x18 x19 x20 f1 h0 x0_a x0_b x1_a x1_b x2_a x2_b z1_a z1_b z2_a z2_b z3_a z3_b z5_a z5_b x7_a x7_b x8_a x8_b x9_a x9_b x10_a x10_b x11_a x11_b x12_a x12_b x13_a x13_b x14_a x14_b x15_a x15_b x16_a x16_b x17_a x17_b x18_a x18_b x19_a x19_b x20_a x20_b f1_h) 2 clX12 rfl rfl (by decide) rfl hl.1 rfl (Nat.le_of_ble_eq_true rfl) dX12_readDone_5 (by decide) (by decide) (by decide) (by decide)) w [2, 0, 1] [3] rfl rfl (by decide) (by decide) rfl rfl (fun v u H locs hp w => ?_)
  obtain ⟨z10, z11, z12, z13⟩ := u
  have hv : iI z10 = v := hp.1
  subst hv
  have z10_a : 0 ≤ z10 := hp.2.1
  have z10_b : z10 ≤ 1 := hp.2.2.1
  have z11_a : (-2147483648) ≤ z11 := hp.2.2.2.1
  have z11_b : z11 ≤ 2147483647 := hp.2.2.2.2.1
  have z12_a : 0 ≤ z12 := hp.2.2.2.2.2.1
  have z12_b : z12 ≤ 940 := hp.2.2.2.2.2.2.1
  have z13_a : (-2147483648) ≤ z13 := hp.2.2.2.2.2.2.2.1
  have z13_b : z13 ≤ 2147483647 := hp.2.2.2.2.2.2.2.2.1
  have ee14 : 0 ≤ ((z13 + 4294967296) - (z10 * 4294967296)) := hp.2.2.2.2.2.2.2.2.2.1
  have ee15 : 0 ≤ (((8 - z13) + 4294967296) - (z10 * 4294967296)) := hp.2.2.2.2.2.2.2.2.2.2.1
  have pq16 : z10 = 1 → z13 < f1 0 := hp.2.2.2.2.2.2.2.2.2.2.2.1
  have pq17 : ∀ x : Tk × Int × Int, gT x z3 z2 z1 fy6 fr4 z5 → RV (sOne f1 h0 x) z10 z11 z12 z13 := hp.2.2.2.2.2.2.2.2.2.2.2.2.1
  have pq18 : kpB z10 x7 z11 := hp.2.2.2.2.2.2.2.2.2.2.2.2.2
  have w : WD D A s.heap [(a1, .inl (T 0, 940, .inl (cI f0))), (a0, .inr (11, [.int r0, .ref a1, .int (iI x0), .int (iI x1), .int (iI x2), .int (iI z1), .int (iI z2), .int (iI z3), .int fr4, .int (iI z5), .int (iI z11), .int (iI z12), .long fy6, .int (iI z13), .ref a2, .ref a3, .ref a4, .ref a5, .ref a6, .ref a7, .ref a8, .ref a9, .ref a10, .ref a11, .int (iI x10), .ref a12, .ref a13, .ref a14, .ref a15, .int (iI x11), .int r2, .int r3, .ref a16, .int (iI x12), .int (iI x13), .ref a17, .ref a18, .int (iI x14), .ref a19, .int (iI x15), .int r4, .ref a20, .ref a21, .int (iI x16), .int r5, .ref a22, .int (iI x17), .int (iI x18), .int (iI x19), .int (iI x20)])), (a3, .inl (T 0, 53, .inl (cI f1))), (a8, .inl (T 1, 12, .inr (.inl h0)))] H locs := w
  refine lv_if_ne (tgt := 13) hx hb dX12_readDone_8 (by decide) (fun c_19 => ?_) (fun c_19 => ?_)
  · replace c_19 : ¬ z10 = 0 := fun h => c_19 ((iz_eq (Int.le_trans (by decide) z10_a) (Int.le_trans z10_b (by decide))).mpr h)
    refine lv_aload_n hx hb dX12_readDone_13 rfl (lv_at hl 0 rfl) ?_
    refine r_get (v := .int (iI z13)) M w 1 13 clX12 rfl (by decide) G1476 rfl rfl dX12_readDone_14 ?_
    refine lv_istore_n (lv' := [(1, .int (iI z13)), (0, .ref a0)]) hx hb dX12_readDone_17 rfl hl (by decide) rfl (fun ls hl => ?_)
    refine lv_aload_n hx hb dX12_readDone_18 rfl (lv_at hl 1 rfl) ?_
    refine r_get (v := .ref a3) M w 1 15 clX12 rfl (by decide) G1478 rfl rfl dX12_readDone_19 ?_
    refine lv_bipush (v := iI 32) hx hb dX12_readDone_22 (by decide +kernel) ?_
    refine lv_iload_n hx hb dX12_readDone_24 rfl (lv_at hl 0 rfl) ?_
    refine r_iadd (v := iI (32 + z13)) M (iI_add _ _) dX12_readDone_25 ?_
    refine r_iald (v := iI (f1 (32 + z13))) M w 2 rfl (iI_in (by omega) (by omega) (by decide)) (cI_at (by omega) (by omega)) dX12_readDone_26 ?_
    have hh20 : (-2147483648) ≤ (f1 (32 + z13)) ∧ (f1 (32 + z13)) ≤ 2147483647 := f1_h.1 (32 + z13)
    have hh21 : (-1) ≤ (f1 (32 + z13)) ∧ (f1 (32 + z13)) ≤ 8 := (f1_h.2.1 (32 + z13)).2.2.2 (by omega) (by omega)
    refine lv_iconst (v := iI (-1)) hx hb dX12_readDone_27 (by decide +kernel) ?_
    refine lv_icmp_eq (tgt := 37) hx hb dX12_readDone_28 (by decide) (fun c_22 => ?_) (fun c_22 => ?_)
    · replace c_22 := (iI_eq (by omega) (by omega) (by decide) (by decide)).mp c_22
      refine lv_aload_n hx hb dX12_readDone_37 rfl (lv_at hl 1 rfl) ?_
      refine k_V (ce := 0) (sl := 0) (rest := []) (wr := [(a3, .inl (T 0, 53, .inl (cI f1))), (a8, .inl (T 1, 12, .inr (.inl h0)))]) (r_V (f := 1) [1, 0] M w V_HookedCityModel_82 G1629 G49 (c12_X12_go l D T _ a0 r0 a1 x0 x1 x2 z1 z2 z3 fr4 z5 z11 z12 fy6 z13 a2 a3 a4 a5 a6 a7 a8 a9 a10 a11 x10 a12 a13 a14 a15 x11 r2 r3 a16 x12 x13 a17 a18 x14 a19 x15 r4 a20 a21 x16 r5 a22 x17 x18 x19 x20 f0 x0_a x0_b x1_a x1_b x2_a x2_b z1_a z1_b z2_a z2_b z3_a z3_b z5_a z5_b z11_a z11_b z12_a z12_b z13_a z13_b x10_a x10_b x11_a x11_b x12_a x12_b x13_a x13_b x14_a x14_b x15_a x15_b x16_a x16_b x17_a x17_b x18_a x18_b x19_a x19_b x20_a x20_b f0_h) 1 clX12 rfl rfl (by decide) rfl hl.1 rfl (Nat.le_of_ble_eq_true rfl) dX12_readDone_38 (by decide) (by decide) (by decide) (by decide)) w [1, 0] [2, 3] rfl rfl (by decide) (by decide) rfl rfl (fun u H locs hp w => ?_)
      obtain ⟨z23, z24, z25, fr26, z27, fy28⟩ := u
      have z23_a : 0 ≤ z23 := hp.1
      have z23_b : z23 ≤ 940 := hp.2.1
      have z24_a : 0 ≤ z24 := hp.2.2.1
      have z24_b : z24 ≤ 940 := hp.2.2.2.1
      have z25_a : 0 ≤ z25 := hp.2.2.2.2.1
      have z25_b : z25 ≤ 4 := hp.2.2.2.2.2.1
      have z27_a : (-2147483648) ≤ z27 := hp.2.2.2.2.2.2.1
      have z27_b : z27 ≤ 2147483647 := hp.2.2.2.2.2.2.2.1
      have ee29 : 0 ≤ (z23 - z1) := hp.2.2.2.2.2.2.2.2.1
      have ee30 : 0 ≤ (((z23 - z1) - z25) + 3) := hp.2.2.2.2.2.2.2.2.2.1
      have pq31 : gT (tkAt f0 x1 x2 z1) z25 z24 z23 fy28 fr26 z27 := hp.2.2.2.2.2.2.2.2.2.2
      have w : WD D A s.heap [(a3, .inl (T 0, 53, .inl (cI f1))), (a8, .inl (T 1, 12, .inr (.inl h0))), (a0, .inr (11, [.int r0, .ref a1, .int (iI x0), .int (iI x1), .int (iI x2), .int (iI z23), .int (iI z24), .int (iI z25), .int fr26, .int (iI z27), .int (iI z11), .int (iI z12), .long fy28, .int (iI z13), .ref a2, .ref a3, .ref a4, .ref a5, .ref a6, .ref a7, .ref a8, .ref a9, .ref a10, .ref a11, .int (iI x10), .ref a12, .ref a13, .ref a14, .ref a15, .int (iI x11), .int r2, .int r3, .ref a16, .int (iI x12), .int (iI x13), .ref a17, .ref a18, .int (iI x14), .ref a19, .int (iI x15), .int r4, .ref a20, .ref a21, .int (iI x16), .int r5, .ref a22, .int (iI x17), .int (iI x18), .int (iI x19), .int (iI x20)])), (a1, .inl (T 0, 940, .inl (cI f0)))] H locs := w
      refine lv_aload_n hx hb dX12_readDone_41 rfl (lv_at hl 1 rfl) ?_
      refine k_I (ce := 0) (sl := 0) (rest := []) (wr := [(a1, .inl (T 0, 940, .inl (cI f0)))]) (r_V (f := 3) [2, 0, 1] M w V_HookedCityModel_203 G1705 G63 (c54_X12_isOne l D T _ a0 r0 a1 x0 x1 x2 z23 z24 z25 fr26 z27 z11 z12 fy28 z13 a2 a3 a4 a5 a6 a7 a8 a9 a10 a11 x10 a12 a13 a14 a15 x11 r2 r3 a16 x12 x13 a17 a18 x14 a19 x15 r4 a20 a21 x16 r5 a22 x17 x18 x19 x20 f1 h0 x0_a x0_b x1_a x1_b x2_a x2_b z23_a z23_b z24_a z24_b z25_a z25_b z27_a z27_b z11_a z11_b z12_a z12_b z13_a z13_b x10_a x10_b x11_a x11_b x12_a x12_b x13_a x13_b x14_a x14_b x15_a x15_b x16_a x16_b x17_a x17_b x18_a x18_b x19_a x19_b x20_a x20_b f1_h) 2 clX12 rfl rfl (by decide) rfl hl.1 rfl (Nat.le_of_ble_eq_true rfl) dX12_readDone_42 (by decide) (by decide) (by decide) (by decide)) w [2, 0, 1] [3] rfl rfl (by decide) (by decide) rfl rfl (fun v u H locs hp w => ?_)
      obtain ⟨z32, z33, z34, z35⟩ := u
      have hv : iI z32 = v := hp.1
      subst hv
      have z32_a : 0 ≤ z32 := hp.2.1
      have z32_b : z32 ≤ 1 := hp.2.2.1
      have z33_a : (-2147483648) ≤ z33 := hp.2.2.2.1
      have z33_b : z33 ≤ 2147483647 := hp.2.2.2.2.1
      have z34_a : 0 ≤ z34 := hp.2.2.2.2.2.1
      have z34_b : z34 ≤ 940 := hp.2.2.2.2.2.2.1
      have z35_a : (-2147483648) ≤ z35 := hp.2.2.2.2.2.2.2.1
      have z35_b : z35 ≤ 2147483647 := hp.2.2.2.2.2.2.2.2.1
      have ee36 : 0 ≤ ((z35 + 4294967296) - (z32 * 4294967296)) := hp.2.2.2.2.2.2.2.2.2.1
      have ee37 : 0 ≤ (((8 - z35) + 4294967296) - (z32 * 4294967296)) := hp.2.2.2.2.2.2.2.2.2.2.1
      have pq38 : z32 = 1 → z35 < f1 0 := hp.2.2.2.2.2.2.2.2.2.2.2.1
      have pq39 : ∀ x : Tk × Int × Int, gT x z25 z24 z23 fy28 fr26 z27 → RV (sOne f1 h0 x) z32 z33 z34 z35 := hp.2.2.2.2.2.2.2.2.2.2.2.2.1
      have pq40 : kpB z32 z11 z33 := hp.2.2.2.2.2.2.2.2.2.2.2.2.2
      have w : WD D A s.heap [(a1, .inl (T 0, 940, .inl (cI f0))), (a0, .inr (11, [.int r0, .ref a1, .int (iI x0), .int (iI x1), .int (iI x2), .int (iI z23), .int (iI z24), .int (iI z25), .int fr26, .int (iI z27), .int (iI z33), .int (iI z34), .long fy28, .int (iI z35), .ref a2, .ref a3, .ref a4, .ref a5, .ref a6, .ref a7, .ref a8, .ref a9, .ref a10, .ref a11, .int (iI x10), .ref a12, .ref a13, .ref a14, .ref a15, .int (iI x11), .int r2, .int r3, .ref a16, .int (iI x12), .int (iI x13), .ref a17, .ref a18, .int (iI x14), .ref a19, .int (iI x15), .int r4, .ref a20, .ref a21, .int (iI x16), .int r5, .ref a22, .int (iI x17), .int (iI x18), .int (iI x19), .int (iI x20)])), (a3, .inl (T 0, 53, .inl (cI f1))), (a8, .inl (T 1, 12, .inr (.inl h0)))] H locs := w
      refine lv_if_ne (tgt := 50) hx hb dX12_readDone_45 (by decide) (fun c_41 => ?_) (fun c_41 => ?_)
      · replace c_41 : ¬ z32 = 0 := fun h => c_41 ((iz_eq (Int.le_trans (by decide) z32_a) (Int.le_trans z32_b (by decide))).mpr h)
        refine lv_aload_n hx hb dX12_readDone_50 rfl (lv_at hl 1 rfl) ?_
        refine r_get (v := .int (iI z35)) M w 1 13 clX12 rfl (by decide) G1476 rfl rfl dX12_readDone_51 ?_
        refine lv_iload_n hx hb dX12_readDone_54 rfl (lv_at hl 0 rfl) ?_
        refine lv_icmp_eq (tgt := 81) hx hb dX12_readDone_55 (by decide) (fun c_42 => ?_) (fun c_42 => ?_)
        · replace c_42 := (iI_eq (Int.le_trans (by decide) z35_a) (Int.le_trans z35_b (by decide)) (Int.le_trans (by decide) z13_a) (Int.le_trans z13_b (by decide))).mp c_42
          refine lv_aload_n hx hb dX12_readDone_81 rfl (lv_at hl 1 rfl) ?_
          refine lv_iconst (v := iI 3) hx hb dX12_readDone_82 (by decide +kernel) ?_
          refine k_I (ce := 0) (sl := 0) (rest := []) (wr := [(a1, .inl (T 0, 940, .inl (cI f0))), (a3, .inl (T 0, 53, .inl (cI f1))), (a8, .inl (T 1, 12, .inr (.inl h0)))]) (r_V (f := 0) [1] M w V_HookedCityModel_72 G1667 G55 (c45_X12_bad l D T _ a0 3 r0 a1 x0 x1 x2 z23 z24 z25 fr26 z27 z33 z34 fy28 z35 a2 a3 a4 a5 a6 a7 a8 a9 a10 a11 x10 a12 a13 a14 a15 x11 r2 r3 a16 x12 x13 a17 a18 x14 a19 x15 r4 a20 a21 x16 r5 a22 x17 x18 x19 x20 (by decide) (by decide) x0_a x0_b x1_a x1_b x2_a x2_b z23_a z23_b z24_a z24_b z25_a z25_b z27_a z27_b z33_a z33_b z34_a z34_b z35_a z35_b x10_a x10_b x11_a x11_b x12_a x12_b x13_a x13_b x14_a x14_b x15_a x15_b x16_a x16_b x17_a x17_b x18_a x18_b x19_a x19_b x20_a x20_b) 1 clX12 rfl rfl (by decide) rfl hl.1 rfl (Nat.le_of_ble_eq_true rfl) dX12_readDone_83 (by decide) (by decide) (by decide) (by decide)) w [1] [0, 2, 3] rfl rfl (by decide) (by decide) rfl rfl (fun v u H locs hp w => ?_)
          obtain ⟨z43, z44, z45⟩ := u
          have hv : iI z43 = v := hp.1
          subst hv
          have z43_a : 0 ≤ z43 := hp.2.1
          have z43_b : z43 ≤ 1 := hp.2.2.1
          have z44_a : (-2147483648) ≤ z44 := hp.2.2.2.1
          have z44_b : z44 ≤ 2147483647 := hp.2.2.2.2.1
          have z45_a : 0 ≤ z45 := hp.2.2.2.2.2.1
          have z45_b : z45 ≤ 940 := hp.2.2.2.2.2.2.1
          have pq46 : baQ z25 3 z44 := hp.2.2.2.2.2.2.2.1
          have pq47 : z45 = z24 := hp.2.2.2.2.2.2.2.2.1
          have w : WD D A s.heap [(a1, .inl (T 0, 940, .inl (cI f0))), (a3, .inl (T 0, 53, .inl (cI f1))), (a8, .inl (T 1, 12, .inr (.inl h0))), (a0, .inr (11, [.int r0, .ref a1, .int (iI x0), .int (iI x1), .int (iI x2), .int (iI z23), .int (iI z24), .int (iI z25), .int fr26, .int (iI z27), .int (iI z44), .int (iI z45), .long fy28, .int (iI z35), .ref a2, .ref a3, .ref a4, .ref a5, .ref a6, .ref a7, .ref a8, .ref a9, .ref a10, .ref a11, .int (iI x10), .ref a12, .ref a13, .ref a14, .ref a15, .int (iI x11), .int r2, .int r3, .ref a16, .int (iI x12), .int (iI x13), .ref a17, .ref a18, .int (iI x14), .ref a19, .int (iI x15), .int r4, .ref a20, .ref a21, .int (iI x16), .int r5, .ref a22, .int (iI x17), .int (iI x18), .int (iI x19), .int (iI x20)]))] H locs := w
          rcases hp.2.2.2.2.2.2.2.2.2 with hr
          · subst hr
            exact ret _ (0, z23, z24, z25, fr26, z27, z44, z45, fy28, z35, f1) _ _ _ _ _ [3, 0, 1, 2] dX12_readDone_86 (by decide +kernel) ⟨rfl, (show (0 : Int) ≤ 0 from by decide), (show (0 : Int) ≤ 1 from by decide), z23_a, z23_b, z24_a, z24_b, z25_a, z25_b, z27_a, z27_b, z44_a, z44_b, z45_a, z45_b, z35_a, z35_b, f1_h, (show 0 ≤ (z23 - x3) from by omega), (show 0 ≤ ((((z23 - x3) - z25) + 4) - 0) from by omega), (show ∀ (x : Tk × Int × Int) (o : Int → Int), gT x x5 x4 x3 y0 r1 x6 → ¬ x.1 = tkBad → RP (sDone f0 x1 x2 x f1 h0 o) 0 z44 z45 (fun y => gT y z25 z24 z23 fy28 fr26 z27) f1 h0 o from (by intro x o hx hb; have g1 := gT_nx hx pq9; rw [sDone]; have k1 := one_k2 (pq17 _ g1) (by omega) g1; refine bdV_ok (pq17 _ g1) (by omega) ?_; rw [if_neg (by omega)]; have g2 := gT_nx g1 pq31; have k2 := one_k2 (pq39 _ g2) (by omega) g2; refine bdV_ok (pq39 _ g2) (by omega) ?_; rw [if_pos (by first | exact Or.inl (by omega) | exact Or.inr (Or.inl (by omega)))]; exact ⟨rfl, by have e9 := pq46; unfold baQ at e9; omega, pq47.trans g2.1⟩)), (show kpB 0 x7 z44 from (fun e => absurd e (by decide)))⟩ w (by decide) rfl
        · replace c_42 : ¬ z35 = z13 := fun h => c_42 ((iI_eq (Int.le_trans (by decide) z35_a) (Int.le_trans z35_b (by decide)) (Int.le_trans (by decide) z13_a) (Int.le_trans z13_b (by decide))).mpr h)
          refine lv_aload_n hx hb dX12_readDone_58 rfl (lv_at hl 1 rfl) ?_
          refine r_get (v := .ref a3) M w 1 15 clX12 rfl (by decide) G1478 rfl rfl dX12_readDone_59 ?_
          refine lv_iconst (v := iI 5) hx hb dX12_readDone_62 (by decide +kernel) ?_
          refine lv_aload_n hx hb dX12_readDone_63 rfl (lv_at hl 1 rfl) ?_
          refine r_get (v := .int (iI z35)) M w 1 13 clX12 rfl (by decide) G1476 rfl rfl dX12_readDone_64 ?_
          refine r_iadd (v := iI (5 + z35)) M (iI_add _ _) dX12_readDone_67 ?_
          refine r_iald (v := iI (f1 (5 + z35))) M w 2 rfl (iI_in (by omega) (by omega) (by decide)) (cI_at (by omega) (by omega)) dX12_readDone_68 ?_
          have hh48 : (-2147483648) ≤ (f1 (5 + z35)) ∧ (f1 (5 + z35)) ≤ 2147483647 := f1_h.1 (5 + z35)
          refine lv_aload_n hx hb dX12_readDone_69 rfl (lv_at hl 1 rfl) ?_
          refine r_get (v := .ref a3) M w 1 15 clX12 rfl (by decide) G1478 rfl rfl dX12_readDone_70 ?_
          refine lv_bipush (v := iI 14) hx hb dX12_readDone_73 (by decide +kernel) ?_
          refine lv_iload_n hx hb dX12_readDone_75 rfl (lv_at hl 0 rfl) ?_
          refine r_iadd (v := iI (14 + z13)) M (iI_add _ _) dX12_readDone_76 ?_
          refine r_iald (v := iI (f1 (14 + z13))) M w 2 rfl (iI_in (by omega) (by omega) (by decide)) (cI_at (by omega) (by omega)) dX12_readDone_77 ?_
          have hh49 : (-2147483648) ≤ (f1 (14 + z13)) ∧ (f1 (14 + z13)) ≤ 2147483647 := f1_h.1 (14 + z13)
          refine lv_icmp_eq (tgt := 87) hx hb dX12_readDone_78 (by decide) (fun c_50 => ?_) (fun c_50 => ?_)
          · replace c_50 := (iI_eq (by omega) (by omega) (by omega) (by omega)).mp c_50
            refine lv_iconst (v := iI 0) hx hb dX12_readDone_87 (by decide +kernel) ?_
            refine lv_istore_n (lv' := [(2, .int (iI 0)), (1, .int (iI z13)), (0, .ref a0)]) hx hb dX12_readDone_88 rfl hl (by decide) rfl (fun ls hl => ?_)
            have loop1 : ∀ (k1 : Nat) (z51 : Int) (H : Heap) (locs : List Loc) (ls : Array Slot), 0 ≤ z51 → z51 ≤ 9 → (∀ p : Int, 0 ≤ p → p < z51 → f1 (32 + p) ≠ z35) → ((9 - z51) : Int).toNat < k1 → WD D A s.heap [(a1, .inl (T 0, 940, .inl (cI f0))), (a0, .inr (11, [.int r0, .ref a1, .int (iI x0), .int (iI x1), .int (iI x2), .int (iI z23), .int (iI z24), .int (iI z25), .int fr26, .int (iI z27), .int (iI z33), .int (iI z34), .long fy28, .int (iI z35), .ref a2, .ref a3, .ref a4, .ref a5, .ref a6, .ref a7, .ref a8, .ref a9, .ref a10, .ref a11, .int (iI x10), .ref a12, .ref a13, .ref a14, .ref a15, .int (iI x11), .int r2, .int r3, .ref a16, .int (iI x12), .int (iI x13), .ref a17, .ref a18, .int (iI x14), .ref a19, .int (iI x15), .int r4, .ref a20, .ref a21, .int (iI x16), .int r5, .ref a22, .int (iI x17), .int (iI x18), .int (iI x19), .int (iI x20)])), (a3, .inl (T 0, 53, .inl (cI f1))), (a8, .inl (T 1, 12, .inr (.inl h0)))] H locs → lv_has ls 3 [(2, .int (iI z51)), (1, .int (iI z13)), (0, .ref a0)] → W p l e (Rm 4 0 0) s m args below meth c H locs 0 0 Q (F0 m 89 ls []) := by
              intro k1
              induction k1 with
              | zero => intro z51 H locs ls z51_a z51_b lq1_n hm; exact absurd hm (Nat.not_lt_zero _)
              | succ k1 ih1 =>
                intro z51 H locs ls z51_a z51_b lq1_n hm1 w hl
                refine lv_iload_n hx hb dX12_readDone_89 rfl (lv_at hl 0 rfl) ?_
                refine lv_aload_n hx hb dX12_readDone_90 rfl (lv_at hl 2 rfl) ?_
                refine r_get (v := .ref a3) M w 1 15 clX12 rfl (by decide) G1478 rfl rfl dX12_readDone_91 ?_
                refine lv_iconst (v := iI 0) hx hb dX12_readDone_94 (by decide +kernel) ?_
                refine r_iald (v := iI (f1 0)) M w 2 rfl (iI_in (by decide) (by decide) (by decide)) (cI_at (by omega) (by omega)) dX12_readDone_95 ?_
                have hh52 : (-2147483648) ≤ (f1 0) ∧ (f1 0) ≤ 2147483647 := f1_h.1 0
                have hh53 : 0 ≤ (f1 0) ∧ (f1 0) ≤ 9 := (f1_h.2.1 0).1 (by omega)
                refine lv_icmp_ge (tgt := 127) hx hb dX12_readDone_96 (by decide) (fun c_54 => ?_) (fun c_54 => ?_)
                · replace c_54 := (iI_le (by omega) (by omega) (Int.le_trans (by decide) z51_a) (Int.le_trans z51_b (by decide))).mp c_54
                  refine lv_aload_n hx hb dX12_readDone_127 rfl (lv_at hl 2 rfl) ?_
                  refine r_get (v := .ref a3) M w 1 15 clX12 rfl (by decide) G1478 rfl rfl dX12_readDone_128 ?_
                  refine lv_bipush (v := iI 32) hx hb dX12_readDone_131 (by decide +kernel) ?_
                  refine lv_iload_n hx hb dX12_readDone_133 rfl (lv_at hl 1 rfl) ?_
                  refine r_iadd (v := iI (32 + z13)) M (iI_add _ _) dX12_readDone_134 ?_
                  refine lv_aload_n hx hb dX12_readDone_135 rfl (lv_at hl 2 rfl) ?_
                  refine r_get (v := .int (iI z35)) M w 1 13 clX12 rfl (by decide) G1476 rfl rfl dX12_readDone_136 ?_
                  refine r_iast (ws' := [(a1, .inl (T 0, 940, .inl (cI f0))), (a0, .inr (11, [.int r0, .ref a1, .int (iI x0), .int (iI x1), .int (iI x2), .int (iI z23), .int (iI z24), .int (iI z25), .int fr26, .int (iI z27), .int (iI z33), .int (iI z34), .long fy28, .int (iI z35), .ref a2, .ref a3, .ref a4, .ref a5, .ref a6, .ref a7, .ref a8, .ref a9, .ref a10, .ref a11, .int (iI x10), .ref a12, .ref a13, .ref a14, .ref a15, .int (iI x11), .int r2, .int r3, .ref a16, .int (iI x12), .int (iI x13), .ref a17, .ref a18, .int (iI x14), .ref a19, .int (iI x15), .int r4, .ref a20, .ref a21, .int (iI x16), .int r5, .ref a22, .int (iI x17), .int (iI x18), .int (iI x19), .int (iI x20)])), (a3, .inl (T 0, 53, .inl (cI (upz f1 (32 + z13) z35)))), (a8, .inl (T 1, 12, .inr (.inl h0)))]) M w 2 rfl (iI_in (by omega) (by omega) (by decide)) (by rw [cI_up (by omega) (by omega)]; rfl) dX12_readDone_139 (fun H locs w => ?_)
                  refine lv_aload_n hx hb dX12_readDone_140 rfl (lv_at hl 2 rfl) ?_
                  refine k_V (ce := 0) (sl := 0) (rest := []) (wr := [(a3, .inl (T 0, 53, .inl (cI (upz f1 (32 + z13) z35)))), (a8, .inl (T 1, 12, .inr (.inl h0)))]) (r_V (f := 1) [1, 0] M w V_HookedCityModel_82 G1629 G49 (c12_X12_go l D T _ a0 r0 a1 x0 x1 x2 z23 z24 z25 fr26 z27 z33 z34 fy28 z35 a2 a3 a4 a5 a6 a7 a8 a9 a10 a11 x10 a12 a13 a14 a15 x11 r2 r3 a16 x12 x13 a17 a18 x14 a19 x15 r4 a20 a21 x16 r5 a22 x17 x18 x19 x20 f0 x0_a x0_b x1_a x1_b x2_a x2_b z23_a z23_b z24_a z24_b z25_a z25_b z27_a z27_b z33_a z33_b z34_a z34_b z35_a z35_b x10_a x10_b x11_a x11_b x12_a x12_b x13_a x13_b x14_a x14_b x15_a x15_b x16_a x16_b x17_a x17_b x18_a x18_b x19_a x19_b x20_a x20_b f0_h) 1 clX12 rfl rfl (by decide) rfl hl.1 rfl (Nat.le_of_ble_eq_true rfl) dX12_readDone_141 (by decide) (by decide) (by decide) (by decide)) w [1, 0] [2, 3] rfl rfl (by decide) (by decide) rfl rfl (fun u H locs hp w => ?_)
                  obtain ⟨z55, z56, z57, fr58, z59, fy60⟩ := u
                  have z55_a : 0 ≤ z55 := hp.1
                  have z55_b : z55 ≤ 940 := hp.2.1
                  have z56_a : 0 ≤ z56 := hp.2.2.1
                  have z56_b : z56 ≤ 940 := hp.2.2.2.1
                  have z57_a : 0 ≤ z57 := hp.2.2.2.2.1
                  have z57_b : z57 ≤ 4 := hp.2.2.2.2.2.1
                  have z59_a : (-2147483648) ≤ z59 := hp.2.2.2.2.2.2.1
                  have z59_b : z59 ≤ 2147483647 := hp.2.2.2.2.2.2.2.1
                  have ee61 : 0 ≤ (z55 - z23) := hp.2.2.2.2.2.2.2.2.1
                  have ee62 : 0 ≤ (((z55 - z23) - z57) + 3) := hp.2.2.2.2.2.2.2.2.2.1
                  have pq63 : gT (tkAt f0 x1 x2 z23) z57 z56 z55 fy60 fr58 z59 := hp.2.2.2.2.2.2.2.2.2.2
                  have w : WD D A s.heap [(a3, .inl (T 0, 53, .inl (cI (upz f1 (32 + z13) z35)))), (a8, .inl (T 1, 12, .inr (.inl h0))), (a0, .inr (11, [.int r0, .ref a1, .int (iI x0), .int (iI x1), .int (iI x2), .int (iI z55), .int (iI z56), .int (iI z57), .int fr58, .int (iI z59), .int (iI z33), .int (iI z34), .long fy60, .int (iI z35), .ref a2, .ref a3, .ref a4, .ref a5, .ref a6, .ref a7, .ref a8, .ref a9, .ref a10, .ref a11, .int (iI x10), .ref a12, .ref a13, .ref a14, .ref a15, .int (iI x11), .int r2, .int r3, .ref a16, .int (iI x12), .int (iI x13), .ref a17, .ref a18, .int (iI x14), .ref a19, .int (iI x15), .int r4, .ref a20, .ref a21, .int (iI x16), .int r5, .ref a22, .int (iI x17), .int (iI x18), .int (iI x19), .int (iI x20)])), (a1, .inl (T 0, 940, .inl (cI f0)))] H locs := w
                  refine lv_iconst (v := iI 1) hx hb dX12_readDone_144 (by decide +kernel) ?_
                  exact ret _ (1, z55, z56, z57, fr58, z59, z33, z34, fy60, z35, (upz f1 (32 + z13) z35)) _ _ _ _ _ [2, 3, 0, 1] dX12_readDone_145 (by decide +kernel) ⟨rfl, (show (0 : Int) ≤ 1 from by decide), (show (1 : Int) ≤ 1 from by decide), z55_a, z55_b, z56_a, z56_b, z57_a, z57_b, z59_a, z59_b, z33_a, z33_b, z34_a, z34_b, z35_a, z35_b, (rd_in f1_h (by omega) (by omega) (by omega) (by omega) (fun p p0 p1 => lq1_n p p0 (by omega))), (show 0 ≤ (z55 - x3) from by omega), (show 0 ≤ ((((z55 - x3) - z57) + 4) - 1) from by omega), (show ∀ (x : Tk × Int × Int) (o : Int → Int), gT x x5 x4 x3 y0 r1 x6 → ¬ x.1 = tkBad → RP (sDone f0 x1 x2 x f1 h0 o) 1 z33 z34 (fun y => gT y z57 z56 z55 fy60 fr58 z59) (upz f1 (32 + z13) z35) h0 o from (by intro x o hx hb; have g1 := gT_nx hx pq9; rw [sDone]; have k1 := one_k2 (pq17 _ g1) (by omega) g1; refine bdV_ok (pq17 _ g1) (by omega) ?_; rw [if_neg (by omega)]; have g2 := gT_nx g1 pq31; have k2 := one_k2 (pq39 _ g2) (by omega) g2; refine bdV_ok (pq39 _ g2) (by omega) ?_; rw [if_neg (by rintro (e | e | e); omega; omega; obtain ⟨p, p0, p1, e⟩ := exB_i.mp e; exact lq1_n p p0 (by omega) e)]; exact ⟨rfl, gT_nx g2 pq63, rfl, rfl, rfl⟩)), (show kpB 1 x7 z33 from (fun hr => by have y1 := pq18 (by omega); have y3 := pq40 (by omega); omega))⟩ w (by decide) rfl
                · replace c_54 : z51 < (f1 0) := Int.not_le.mp (fun h => c_54 ((iI_le (by omega) (by omega) (Int.le_trans (by decide) z51_a) (Int.le_trans z51_b (by decide))).mpr h))
                  refine lv_aload_n hx hb dX12_readDone_99 rfl (lv_at hl 2 rfl) ?_
                  refine r_get (v := .ref a3) M w 1 15 clX12 rfl (by decide) G1478 rfl rfl dX12_readDone_100 ?_
                  refine lv_bipush (v := iI 32) hx hb dX12_readDone_103 (by decide +kernel) ?_
                  refine lv_iload_n hx hb dX12_readDone_105 rfl (lv_at hl 0 rfl) ?_
                  refine r_iadd (v := iI (32 + z51)) M (iI_add _ _) dX12_readDone_106 ?_
                  refine r_iald (v := iI (f1 (32 + z51))) M w 2 rfl (iI_in (by omega) (by omega) (by decide)) (cI_at (by omega) (by omega)) dX12_readDone_107 ?_
                  have hh64 : (-2147483648) ≤ (f1 (32 + z51)) ∧ (f1 (32 + z51)) ≤ 2147483647 := f1_h.1 (32 + z51)
                  have hh65 : (-1) ≤ (f1 (32 + z51)) ∧ (f1 (32 + z51)) ≤ 8 := (f1_h.2.1 (32 + z51)).2.2.2 (by omega) (by omega)
                  refine lv_aload_n hx hb dX12_readDone_108 rfl (lv_at hl 2 rfl) ?_
                  refine r_get (v := .int (iI z35)) M w 1 13 clX12 rfl (by decide) G1476 rfl rfl dX12_readDone_109 ?_
                  refine lv_icmp_ne (tgt := 121) hx hb dX12_readDone_112 (by decide) (fun c_66 => ?_) (fun c_66 => ?_)
                  · replace c_66 : ¬ (f1 (32 + z51)) = z35 := fun h => c_66 ((iI_eq (by omega) (by omega) (Int.le_trans (by decide) z35_a) (Int.le_trans z35_b (by decide))).mpr h)
                    refine lv_iinc (v := iI (z51 + 1)) (lv' := [(2, .int (iI (z51 + 1))), (1, .int (iI z13)), (0, .ref a0)]) hx hb dX12_readDone_121 hl (k := 0) rfl (ii_inc (by decide +kernel)) (by decide) rfl (fun ls hl => ?_)
                    refine lv_goto (tgt := 89) hx hb dX12_readDone_124 (by decide) ?_
                    exact ih1 (z51 + 1) _ _ _ (by omega) (by omega) (fun p p0 p1 => (Decidable.em (p < z51)).elim (fun h => lq1_n p p0 h) (fun h => by rw [show p = z51 by omega]; omega)) (by omega) w (lv_sub hl [0, 1, 2] rfl)
                  · replace c_66 := (iI_eq (by omega) (by omega) (Int.le_trans (by decide) z35_a) (Int.le_trans z35_b (by decide))).mp c_66
                    refine lv_aload_n hx hb dX12_readDone_115 rfl (lv_at hl 2 rfl) ?_
                    refine lv_iconst (v := iI 3) hx hb dX12_readDone_116 (by decide +kernel) ?_
                    refine k_I (ce := 0) (sl := 0) (rest := []) (wr := [(a1, .inl (T 0, 940, .inl (cI f0))), (a3, .inl (T 0, 53, .inl (cI f1))), (a8, .inl (T 1, 12, .inr (.inl h0)))]) (r_V (f := 0) [1] M w V_HookedCityModel_72 G1667 G55 (c45_X12_bad l D T _ a0 3 r0 a1 x0 x1 x2 z23 z24 z25 fr26 z27 z33 z34 fy28 z35 a2 a3 a4 a5 a6 a7 a8 a9 a10 a11 x10 a12 a13 a14 a15 x11 r2 r3 a16 x12 x13 a17 a18 x14 a19 x15 r4 a20 a21 x16 r5 a22 x17 x18 x19 x20 (by decide) (by decide) x0_a x0_b x1_a x1_b x2_a x2_b z23_a z23_b z24_a z24_b z25_a z25_b z27_a z27_b z33_a z33_b z34_a z34_b z35_a z35_b x10_a x10_b x11_a x11_b x12_a x12_b x13_a x13_b x14_a x14_b x15_a x15_b x16_a x16_b x17_a x17_b x18_a x18_b x19_a x19_b x20_a x20_b) 1 clX12 rfl rfl (by decide) rfl hl.1 rfl (Nat.le_of_ble_eq_true rfl) dX12_readDone_117 (by decide) (by decide) (by decide) (by decide)) w [1] [0, 2, 3] rfl rfl (by decide) (by decide) rfl rfl (fun v u H locs hp w => ?_)
                    obtain ⟨z67, z68, z69⟩ := u
                    have hv : iI z67 = v := hp.1
                    subst hv
                    have z67_a : 0 ≤ z67 := hp.2.1
                    have z67_b : z67 ≤ 1 := hp.2.2.1
                    have z68_a : (-2147483648) ≤ z68 := hp.2.2.2.1
                    have z68_b : z68 ≤ 2147483647 := hp.2.2.2.2.1
                    have z69_a : 0 ≤ z69 := hp.2.2.2.2.2.1
                    have z69_b : z69 ≤ 940 := hp.2.2.2.2.2.2.1
                    have pq70 : baQ z25 3 z68 := hp.2.2.2.2.2.2.2.1
                    have pq71 : z69 = z24 := hp.2.2.2.2.2.2.2.2.1
                    have w : WD D A s.heap [(a1, .inl (T 0, 940, .inl (cI f0))), (a3, .inl (T 0, 53, .inl (cI f1))), (a8, .inl (T 1, 12, .inr (.inl h0))), (a0, .inr (11, [.int r0, .ref a1, .int (iI x0), .int (iI x1), .int (iI x2), .int (iI z23), .int (iI z24), .int (iI z25), .int fr26, .int (iI z27), .int (iI z68), .int (iI z69), .long fy28, .int (iI z35), .ref a2, .ref a3, .ref a4, .ref a5, .ref a6, .ref a7, .ref a8, .ref a9, .ref a10, .ref a11, .int (iI x10), .ref a12, .ref a13, .ref a14, .ref a15, .int (iI x11), .int r2, .int r3, .ref a16, .int (iI x12), .int (iI x13), .ref a17, .ref a18, .int (iI x14), .ref a19, .int (iI x15), .int r4, .ref a20, .ref a21, .int (iI x16), .int r5, .ref a22, .int (iI x17), .int (iI x18), .int (iI x19), .int (iI x20)]))] H locs := w
                    rcases hp.2.2.2.2.2.2.2.2.2 with hr
                    · subst hr
                      exact ret _ (0, z23, z24, z25, fr26, z27, z68, z69, fy28, z35, f1) _ _ _ _ _ [3, 0, 1, 2] dX12_readDone_120 (by decide +kernel) ⟨rfl, (show (0 : Int) ≤ 0 from by decide), (show (0 : Int) ≤ 1 from by decide), z23_a, z23_b, z24_a, z24_b, z25_a, z25_b, z27_a, z27_b, z68_a, z68_b, z69_a, z69_b, z35_a, z35_b, f1_h, (show 0 ≤ (z23 - x3) from by omega), (show 0 ≤ ((((z23 - x3) - z25) + 4) - 0) from by omega), (show ∀ (x : Tk × Int × Int) (o : Int → Int), gT x x5 x4 x3 y0 r1 x6 → ¬ x.1 = tkBad → RP (sDone f0 x1 x2 x f1 h0 o) 0 z68 z69 (fun y => gT y z25 z24 z23 fy28 fr26 z27) f1 h0 o from (by intro x o hx hb; have g1 := gT_nx hx pq9; rw [sDone]; have k1 := one_k2 (pq17 _ g1) (by omega) g1; refine bdV_ok (pq17 _ g1) (by omega) ?_; rw [if_neg (by omega)]; have g2 := gT_nx g1 pq31; have k2 := one_k2 (pq39 _ g2) (by omega) g2; refine bdV_ok (pq39 _ g2) (by omega) ?_; rw [if_pos (Or.inr (Or.inr (exB_i.mpr ⟨z51, by omega, by omega, by omega⟩)))]; exact ⟨rfl, by have e9 := pq70; unfold baQ at e9; omega, pq71.trans g2.1⟩)), (show kpB 0 x7 z68 from (fun e => absurd e (by decide)))⟩ w (by decide) rfl
            exact loop1 ((9 : Int).toNat + 1) 0 _ _ _ (by decide) (by decide) (fun p p0 p1 => absurd p1 (by omega)) (Nat.lt_succ_self _) w (lv_sub hl [0, 1, 2] rfl)
          · replace c_50 : ¬ (f1 (5 + z35)) = (f1 (14 + z13)) := fun h => c_50 ((iI_eq (by omega) (by omega) (by omega) (by omega)).mpr h)
            refine lv_aload_n hx hb dX12_readDone_81 rfl (lv_at hl 1 rfl) ?_
            refine lv_iconst (v := iI 3) hx hb dX12_readDone_82 (by decide +kernel) ?_
            refine k_I (ce := 0) (sl := 0) (rest := []) (wr := [(a1, .inl (T 0, 940, .inl (cI f0))), (a3, .inl (T 0, 53, .inl (cI f1))), (a8, .inl (T 1, 12, .inr (.inl h0)))]) (r_V (f := 0) [1] M w V_HookedCityModel_72 G1667 G55 (c45_X12_bad l D T _ a0 3 r0 a1 x0 x1 x2 z23 z24 z25 fr26 z27 z33 z34 fy28 z35 a2 a3 a4 a5 a6 a7 a8 a9 a10 a11 x10 a12 a13 a14 a15 x11 r2 r3 a16 x12 x13 a17 a18 x14 a19 x15 r4 a20 a21 x16 r5 a22 x17 x18 x19 x20 (by decide) (by decide) x0_a x0_b x1_a x1_b x2_a x2_b z23_a z23_b z24_a z24_b z25_a z25_b z27_a z27_b z33_a z33_b z34_a z34_b z35_a z35_b x10_a x10_b x11_a x11_b x12_a x12_b x13_a x13_b x14_a x14_b x15_a x15_b x16_a x16_b x17_a x17_b x18_a x18_b x19_a x19_b x20_a x20_b) 1 clX12 rfl rfl (by decide) rfl hl.1 rfl (Nat.le_of_ble_eq_true rfl) dX12_readDone_83 (by decide) (by decide) (by decide) (by decide)) w [1] [0, 2, 3] rfl rfl (by decide) (by decide) rfl rfl (fun v u H locs hp w => ?_)
            obtain ⟨z72, z73, z74⟩ := u
            have hv : iI z72 = v := hp.1
            subst hv
            have z72_a : 0 ≤ z72 := hp.2.1
            have z72_b : z72 ≤ 1 := hp.2.2.1
            have z73_a : (-2147483648) ≤ z73 := hp.2.2.2.1
            have z73_b : z73 ≤ 2147483647 := hp.2.2.2.2.1
            have z74_a : 0 ≤ z74 := hp.2.2.2.2.2.1
            have z74_b : z74 ≤ 940 := hp.2.2.2.2.2.2.1
            have pq75 : baQ z25 3 z73 := hp.2.2.2.2.2.2.2.1
            have pq76 : z74 = z24 := hp.2.2.2.2.2.2.2.2.1
            have w : WD D A s.heap [(a1, .inl (T 0, 940, .inl (cI f0))), (a3, .inl (T 0, 53, .inl (cI f1))), (a8, .inl (T 1, 12, .inr (.inl h0))), (a0, .inr (11, [.int r0, .ref a1, .int (iI x0), .int (iI x1), .int (iI x2), .int (iI z23), .int (iI z24), .int (iI z25), .int fr26, .int (iI z27), .int (iI z73), .int (iI z74), .long fy28, .int (iI z35), .ref a2, .ref a3, .ref a4, .ref a5, .ref a6, .ref a7, .ref a8, .ref a9, .ref a10, .ref a11, .int (iI x10), .ref a12, .ref a13, .ref a14, .ref a15, .int (iI x11), .int r2, .int r3, .ref a16, .int (iI x12), .int (iI x13), .ref a17, .ref a18, .int (iI x14), .ref a19, .int (iI x15), .int r4, .ref a20, .ref a21, .int (iI x16), .int r5, .ref a22, .int (iI x17), .int (iI x18), .int (iI x19), .int (iI x20)]))] H locs := w
            rcases hp.2.2.2.2.2.2.2.2.2 with hr
            · subst hr
              exact ret _ (0, z23, z24, z25, fr26, z27, z73, z74, fy28, z35, f1) _ _ _ _ _ [3, 0, 1, 2] dX12_readDone_86 (by decide +kernel) ⟨rfl, (show (0 : Int) ≤ 0 from by decide), (show (0 : Int) ≤ 1 from by decide), z23_a, z23_b, z24_a, z24_b, z25_a, z25_b, z27_a, z27_b, z73_a, z73_b, z74_a, z74_b, z35_a, z35_b, f1_h, (show 0 ≤ (z23 - x3) from by omega), (show 0 ≤ ((((z23 - x3) - z25) + 4) - 0) from by omega), (show ∀ (x : Tk × Int × Int) (o : Int → Int), gT x x5 x4 x3 y0 r1 x6 → ¬ x.1 = tkBad → RP (sDone f0 x1 x2 x f1 h0 o) 0 z73 z74 (fun y => gT y z25 z24 z23 fy28 fr26 z27) f1 h0 o from (by intro x o hx hb; have g1 := gT_nx hx pq9; rw [sDone]; have k1 := one_k2 (pq17 _ g1) (by omega) g1; refine bdV_ok (pq17 _ g1) (by omega) ?_; rw [if_neg (by omega)]; have g2 := gT_nx g1 pq31; have k2 := one_k2 (pq39 _ g2) (by omega) g2; refine bdV_ok (pq39 _ g2) (by omega) ?_; rw [if_pos (by first | exact Or.inl (by omega) | exact Or.inr (Or.inl (by omega)))]; exact ⟨rfl, by have e9 := pq75; unfold baQ at e9; omega, pq76.trans g2.1⟩)), (show kpB 0 x7 z73 from (fun e => absurd e (by decide)))⟩ w (by decide) rfl
      · replace c_41 := (iz_eq (Int.le_trans (by decide) z32_a) (Int.le_trans z32_b (by decide))).mp c_41
        refine lv_iconst (v := iI 0) hx hb dX12_readDone_48 (by decide +kernel) ?_
        exact ret _ (0, z23, z24, z25, fr26, z27, z33, z34, fy28, z35, f1) _ _ _ _ _ [1, 0, 2, 3] dX12_readDone_49 (by decide +kernel) ⟨rfl, (show (0 : Int) ≤ 0 from by decide), (show (0 : Int) ≤ 1 from by decide), z23_a, z23_b, z24_a, z24_b, z25_a, z25_b, z27_a, z27_b, z33_a, z33_b, z34_a, z34_b, z35_a, z35_b, f1_h, (show 0 ≤ (z23 - x3) from by omega), (show 0 ≤ ((((z23 - x3) - z25) + 4) - 0) from by omega), (show ∀ (x : Tk × Int × Int) (o : Int → Int), gT x x5 x4 x3 y0 r1 x6 → ¬ x.1 = tkBad → RP (sDone f0 x1 x2 x f1 h0 o) 0 z33 z34 (fun y => gT y z25 z24 z23 fy28 fr26 z27) f1 h0 o from (by intro x o hx hb; have g1 := gT_nx hx pq9; rw [sDone]; have k1 := one_k2 (pq17 _ g1) (by omega) g1; refine bdV_ok (pq17 _ g1) (by omega) ?_; rw [if_neg (by omega)]; have g2 := gT_nx g1 pq31; exact bdV_bad (pq39 _ g2) (by omega) rfl)), (show kpB 0 x7 z33 from (fun e => absurd e (by decide)))⟩ w (by decide) rfl
    · replace c_22 : ¬ (f1 (32 + z13)) = (-1) := fun h => c_22 ((iI_eq (by omega) (by omega) (by decide) (by decide)).mpr h)
      refine lv_aload_n hx hb dX12_readDone_31 rfl (lv_at hl 1 rfl) ?_
      refine lv_iconst (v := iI 3) hx hb dX12_readDone_32 (by decide +kernel) ?_
      refine k_I (ce := 0) (sl := 0) (rest := []) (wr := [(a1, .inl (T 0, 940, .inl (cI f0))), (a3, .inl (T 0, 53, .inl (cI f1))), (a8, .inl (T 1, 12, .inr (.inl h0)))]) (r_V (f := 0) [1] M w V_HookedCityModel_72 G1667 G55 (c45_X12_bad l D T _ a0 3 r0 a1 x0 x1 x2 z1 z2 z3 fr4 z5 z11 z12 fy6 z13 a2 a3 a4 a5 a6 a7 a8 a9 a10 a11 x10 a12 a13 a14 a15 x11 r2 r3 a16 x12 x13 a17 a18 x14 a19 x15 r4 a20 a21 x16 r5 a22 x17 x18 x19 x20 (by decide) (by decide) x0_a x0_b x1_a x1_b x2_a x2_b z1_a z1_b z2_a z2_b z3_a z3_b z5_a z5_b z11_a z11_b z12_a z12_b z13_a z13_b x10_a x10_b x11_a x11_b x12_a x12_b x13_a x13_b x14_a x14_b x15_a x15_b x16_a x16_b x17_a x17_b x18_a x18_b x19_a x19_b x20_a x20_b) 1 clX12 rfl rfl (by decide) rfl hl.1 rfl (Nat.le_of_ble_eq_true rfl) dX12_readDone_33 (by decide) (by decide) (by decide) (by decide)) w [1] [0, 2, 3] rfl rfl (by decide) (by decide) rfl rfl (fun v u H locs hp w => ?_)
      obtain ⟨z77, z78, z79⟩ := u
      have hv : iI z77 = v := hp.1
      subst hv
      have z77_a : 0 ≤ z77 := hp.2.1
      have z77_b : z77 ≤ 1 := hp.2.2.1
      have z78_a : (-2147483648) ≤ z78 := hp.2.2.2.1
      have z78_b : z78 ≤ 2147483647 := hp.2.2.2.2.1
      have z79_a : 0 ≤ z79 := hp.2.2.2.2.2.1
      have z79_b : z79 ≤ 940 := hp.2.2.2.2.2.2.1
      have pq80 : baQ z3 3 z78 := hp.2.2.2.2.2.2.2.1
      have pq81 : z79 = z2 := hp.2.2.2.2.2.2.2.2.1
      have w : WD D A s.heap [(a1, .inl (T 0, 940, .inl (cI f0))), (a3, .inl (T 0, 53, .inl (cI f1))), (a8, .inl (T 1, 12, .inr (.inl h0))), (a0, .inr (11, [.int r0, .ref a1, .int (iI x0), .int (iI x1), .int (iI x2), .int (iI z1), .int (iI z2), .int (iI z3), .int fr4, .int (iI z5), .int (iI z78), .int (iI z79), .long fy6, .int (iI z13), .ref a2, .ref a3, .ref a4, .ref a5, .ref a6, .ref a7, .ref a8, .ref a9, .ref a10, .ref a11, .int (iI x10), .ref a12, .ref a13, .ref a14, .ref a15, .int (iI x11), .int r2, .int r3, .ref a16, .int (iI x12), .int (iI x13), .ref a17, .ref a18, .int (iI x14), .ref a19, .int (iI x15), .int r4, .ref a20, .ref a21, .int (iI x16), .int r5, .ref a22, .int (iI x17), .int (iI x18), .int (iI x19), .int (iI x20)]))] H locs := w
      rcases hp.2.2.2.2.2.2.2.2.2 with hr
      · subst hr
        exact ret _ (0, z1, z2, z3, fr4, z5, z78, z79, fy6, z13, f1) _ _ _ _ _ [3, 0, 1, 2] dX12_readDone_36 (by decide +kernel) ⟨rfl, (show (0 : Int) ≤ 0 from by decide), (show (0 : Int) ≤ 1 from by decide), z1_a, z1_b, z2_a, z2_b, z3_a, z3_b, z5_a, z5_b, z78_a, z78_b, z79_a, z79_b, z13_a, z13_b, f1_h, (show 0 ≤ (z1 - x3) from by omega), (show 0 ≤ ((((z1 - x3) - z3) + 4) - 0) from by omega), (show ∀ (x : Tk × Int × Int) (o : Int → Int), gT x x5 x4 x3 y0 r1 x6 → ¬ x.1 = tkBad → RP (sDone f0 x1 x2 x f1 h0 o) 0 z78 z79 (fun y => gT y z3 z2 z1 fy6 fr4 z5) f1 h0 o from (by intro x o hx hb; have g1 := gT_nx hx pq9; rw [sDone]; have k1 := one_k2 (pq17 _ g1) (by omega) g1; refine bdV_ok (pq17 _ g1) (by omega) ?_; rw [if_pos (by omega)]; exact ⟨rfl, by have e9 := pq80; unfold baQ at e9; omega, pq81.trans g1.1⟩)), (show kpB 0 x7 z78 from (fun e => absurd e (by decide)))⟩ w (by decide) rfl
  · replace c_19 := (iz_eq (Int.le_trans (by decide) z10_a) (Int.le_trans z10_b (by decide))).mp c_19
    refine lv_iconst (v := iI 0) hx hb dX12_readDone_11 (by decide +kernel) ?_
    exact ret _ (0, z1, z2, z3, fr4, z5, z11, z12, fy6, z13, f1) _ _ _ _ _ [1, 0, 2, 3] dX12_readDone_12 (by decide +kernel) ⟨rfl, (show (0 : Int) ≤ 0 from by decide), (show (0 : Int) ≤ 1 from by decide), z1_a, z1_b, z2_a, z2_b, z3_a, z3_b, z5_a, z5_b, z11_a, z11_b, z12_a, z12_b, z13_a, z13_b, f1_h, (show 0 ≤ (z1 - x3) from by omega), (show 0 ≤ ((((z1 - x3) - z3) + 4) - 0) from by omega), (show ∀ (x : Tk × Int × Int) (o : Int → Int), gT x x5 x4 x3 y0 r1 x6 → ¬ x.1 = tkBad → RP (sDone f0 x1 x2 x f1 h0 o) 0 z11 z12 (fun y => gT y z3 z2 z1 fy6 fr4 z5) f1 h0 o from (by intro x o hx hb; have g1 := gT_nx hx pq9; rw [sDone]; exact bdV_bad (pq17 _ g1) (by omega) rfl)), (show kpB 0 x7 z11 from (fun e => absurd e (by decide)))⟩ w (by decide) rfl
set_option maxRecDepth 100000 in
set_option maxHeartbeats 4000000 in
theorem c62_X12_readOnce (l : Launch) (D : va_G) (T : Nat → ClassId) (sz : Nat) (a0 : Nat) (r0 : Int32) (a1 : Nat) (x0 : Int) (x1 : Int) (x2 : Int) (x3 : Int) (x4 : Int) (x5 : Int) (r1 : Int32) (x6 : Int) (x7 : Int) (x8 : Int) (y0 : Int64) (x9 : Int) (a2 : Nat) (a3 : Nat) (a4 : Nat) (a5 : Nat) (a6 : Nat) (a7 : Nat) (a8 : Nat) (a9 : Nat) (a10 : Nat) (a11 : Nat) (x10 : Int) (a12 : Nat) (a13 : Nat) (a14 : Nat) (a15 : Nat) (x11 : Int) (r2 : Int32) (r3 : Int32) (a16 : Nat) (x12 : Int) (x13 : Int) (a17 : Nat) (a18 : Nat) (x14 : Int) (a19 : Nat) (x15 : Int) (r4 : Int32) (a20 : Nat) (a21 : Nat) (x16 : Int) (r5 : Int32) (a22 : Nat) (x17 : Int) (x18 : Int) (x19 : Int) (x20 : Int) (f0 : Int → Int) (f1 : Int → Int) (f2 : Int → Int) (x0_a : 0 ≤ x0) (x0_b : x0 ≤ 940) (x1_a : 0 ≤ x1) (x1_b : x1 ≤ 940) (x2_a : 0 ≤ x2) (x2_b : x2 ≤ 940) (x3_a : 0 ≤ x3) (x3_b : x3 ≤ 940) (x4_a : 0 ≤ x4) (x4_b : x4 ≤ 940) (x5_a : 0 ≤ x5) (x5_b : x5 ≤ 4) (x6_a : (-2147483648) ≤ x6) (x6_b : x6 ≤ 2147483647) (x7_a : (-2147483648) ≤ x7) (x7_b : x7 ≤ 2147483647) (x8_a : 0 ≤ x8) (x8_b : x8 ≤ 940) (x9_a : (-2147483648) ≤ x9) (x9_b : x9 ≤ 2147483647) (x10_a : 0 ≤ x10) (x10_b : x10 ≤ 8) (x11_a : 0 ≤ x11) (x11_b : x11 ≤ 9) (x12_a : (-1) ≤ x12) (x12_b : x12 ≤ 9) (x13_a : (-1) ≤ x13) (x13_b : x13 ≤ 8) (x14_a : 0 ≤ x14) (x14_b : x14 ≤ 9) (x15_a : 0 ≤ x15) (x15_b : x15 ≤ 64) (x16_a : 0 ≤ x16) (x16_b : x16 ≤ 40) (x17_a : 0 ≤ x17) (x17_b : x17 ≤ 40) (x18_a : 0 ≤ x18) (x18_b : x18 ≤ 20) (x19_a : 0 ≤ x19) (x19_b : x19 ≤ 8) (x20_a : 0 ≤ x20) (x20_b : x20 ≤ 39) (f0_h : rng 0 255 f0) (f1_h : rdI f1) (f2_h : rng 0 1 f2) : Met l yX12_readOnce (Cond.code yX12_readOnce cX12_readOnce 4 (some .boolean) :: GW) (Rm 3 0 0) (cPre [.ref a0, .int (iI 2), .int (iI 0), .int (iI 60)] D T [(a0, .inr (11, [.int r0, .ref a1, .int (iI x0), .int (iI x1), .int (iI x2), .int (iI x3), .int (iI x4), .int (iI x5), .int r1, .int (iI x6), .int (iI x7), .int (iI x8), .long y0, .int (iI x9), .ref a2, .ref a3, .ref a4, .ref a5, .ref a6, .ref a7, .ref a8, .ref a9, .ref a10, .ref a11, .int (iI x10), .ref a12, .ref a13, .ref a14, .ref a15, .int (iI x11), .int r2, .int r3, .ref a16, .int (iI x12), .int (iI x13), .ref a17, .ref a18, .int (iI x14), .ref a19, .int (iI x15), .int r4, .ref a20, .ref a21, .int (iI x16), .int r5, .ref a22, .int (iI x17), .int (iI x18), .int (iI x19), .int (iI x20)])), (a1, .inl (T 0, 940, .inl (cI f0))), (a3, .inl (T 0, 53, .inl (cI f1))), (a11, .inl (T 2, 3, .inl (cI f2)))] sz) (qI D [(a0, .inr (11, [.int r0, .ref a1, .int (iI x0), .int (iI x1), .int (iI x2), .int (iI x3), .int (iI x4), .int (iI x5), .int r1, .int (iI x6), .int (iI x7), .int (iI x8), .long y0, .int (iI x9), .ref a2, .ref a3, .ref a4, .ref a5, .ref a6, .ref a7, .ref a8, .ref a9, .ref a10, .ref a11, .int (iI x10), .ref a12, .ref a13, .ref a14, .ref a15, .int (iI x11), .int r2, .int r3, .ref a16, .int (iI x12), .int (iI x13), .ref a17, .ref a18, .int (iI x14), .ref a19, .int (iI x15), .int r4, .ref a20, .ref a21, .int (iI x16), .int r5, .ref a22, .int (iI x17), .int (iI x18), .int (iI x19), .int (iI x20)])), (a1, .inl (T 0, 940, .inl (cI f0))), (a3, .inl (T 0, 53, .inl (cI f1))), (a11, .inl (T 2, 3, .inl (cI f2)))] sz (fun (v : Int32) (u : Int × Int × Int × Int × Int32 × Int × Int × Int × Int64 × Int × (Int → Int) × (Int → Int)) => iI u.1 = v ∧ 0 ≤ u.1 ∧ u.1 ≤ 1 ∧ 0 ≤ u.2.1 ∧ u.2.1 ≤ 940 ∧ 0 ≤ u.2.2.1 ∧ u.2.2.1 ≤ 940 ∧ 0 ≤ u.2.2.2.1 ∧ u.2.2.2.1 ≤ 4 ∧ (-2147483648) ≤ u.2.2.2.2.2.1 ∧ u.2.2.2.2.2.1 ≤ 2147483647 ∧ (-2147483648) ≤ u.2.2.2.2.2.2.1 ∧ u.2.2.2.2.2.2.1 ≤ 2147483647 ∧ 0 ≤ u.2.2.2.2.2.2.2.1 ∧ u.2.2.2.2.2.2.2.1 ≤ 940 ∧ (-2147483648) ≤ u.2.2.2.2.2.2.2.2.2.1 ∧ u.2.2.2.2.2.2.2.2.2.1 ≤ 2147483647 ∧ rdI u.2.2.2.2.2.2.2.2.2.2.1 ∧ rng 0 1 u.2.2.2.2.2.2.2.2.2.2.2 ∧ 0 ≤ (u.2.1 - x3) ∧ 0 ≤ ((((u.2.1 - x3) - u.2.2.2.1) + 4) - u.1) ∧ (∀ (x : Tk × Int × Int) (h : Nat → Int64), gT x x5 x4 x3 y0 r1 x6 → ¬ x.1 = tkBad → RP (sOnce f0 x1 x2 x f1 h f2 2 0 60) u.1 u.2.2.2.2.2.2.1 u.2.2.2.2.2.2.2.1 (fun y => gT y u.2.2.2.1 u.2.2.1 u.2.1 u.2.2.2.2.2.2.2.2.1 u.2.2.2.2.1 u.2.2.2.2.2.1) u.2.2.2.2.2.2.2.2.2.2.1 h u.2.2.2.2.2.2.2.2.2.2.2) ∧ (kpB u.1 x7 u.2.2.2.2.2.2.1)) (fun u => [(a0, .inr (11, [.int r0, .ref a1, .int (iI x0), .int (iI x1), .int (iI x2), .int (iI u.2.1), .int (iI u.2.2.1), .int (iI u.2.2.2.1), .int u.2.2.2.2.1, .int (iI u.2.2.2.2.2.1), .int (iI u.2.2.2.2.2.2.1), .int (iI u.2.2.2.2.2.2.2.1), .long u.2.2.2.2.2.2.2.2.1, .int (iI u.2.2.2.2.2.2.2.2.2.1), .ref a2, .ref a3, .ref a4, .ref a5, .ref a6, .ref a7, .ref a8, .ref a9, .ref a10, .ref a11, .int (iI x10), .ref a12, .ref a13, .ref a14, .ref a15, .int (iI x11), .int r2, .int r3, .ref a16, .int (iI x12), .int (iI x13), .ref a17, .ref a18, .int (iI x14), .ref a19, .int (iI x15), .int r4, .ref a20, .ref a21, .int (iI x16), .int r5, .ref a22, .int (iI x17), .int (iI x18), .int (iI x19), .int (iI x20)])), (a1, .inl (T 0, 940, .inl (cI f0))), (a3, .inl (T 0, 53, .inl (cI u.2.2.2.2.2.2.2.2.2.2.1))), (a11, .inl (T 2, 3, .inl (cI u.2.2.2.2.2.2.2.2.2.2.2)))])) 0 0 (va_A [(a0, .inr (11, [.int r0, .ref a1, .int (iI x0), .int (iI x1), .int (iI x2), .int (iI x3), .int (iI x4), .int (iI x5), .int r1, .int (iI x6), .int (iI x7), .int (iI x8), .long y0, .int (iI x9), .ref a2, .ref a3, .ref a4, .ref a5, .ref a6, .ref a7, .ref a8, .ref a9, .ref a10, .ref a11, .int (iI x10), .ref a12, .ref a13, .ref a14, .ref a15, .int (iI x11), .int r2, .int r3, .ref a16, .int (iI x12), .int (iI x13), .ref a17, .ref a18, .int (iI x14), .ref a19, .int (iI x15), .int r4, .ref a20, .ref a21, .int (iI x16), .int r5, .ref a22, .int (iI x17), .int (iI x18), .int (iI x19), .int (iI x20)])), (a1, .inl (T 0, 940, .inl (cI f0))), (a3, .inl (T 0, 53, .inl (cI f1))), (a11, .inl (T 2, 3, .inl (cI f2)))] sz) := by
  refine e_Z (by decide) (Nat.le_of_ble_eq_true rfl) ?_
  intro p e s m args below meth c A Q ls M hin w ret hl
  have hx := M.1.1
  have hb := M.1.2.1
  have hl : lv_has ls 4 [(0, .ref a0), (1, .int (iI 2)), (2, .int (iI 0)), (3, .int (iI 60))] := hl
  refine lv_aload_n hx hb dX12_readOnce_0 rfl (lv_at hl 0 rfl) ?_
  refine r_get (v := .ref a11) M w 0 23 clX12 rfl (by decide) G1486 rfl rfl dX12_readOnce_1 ?_
  refine lv_iload_n hx hb dX12_readOnce_4 rfl (lv_at hl 1 rfl) ?_
  refine r_zald (v := iI (f2 2)) M w 3 rfl (iI_in (by decide) (by decide) (by decide)) (cI_at (by omega) (by omega)) dX12_readOnce_5 ?_
  have hh1 : 0 ≤ (f2 2) ∧ (f2 2) ≤ 1 := f2_h 2
  refine lv_if_eq (tgt := 15) hx hb dX12_readOnce_6 (by decide) (fun c_2 => ?_) (fun c_2 => ?_)
  · replace c_2 := (iz_eq (by omega) (by omega)).mp c_2
    refine lv_aload_n hx hb dX12_readOnce_15 rfl (lv_at hl 0 rfl) ?_
    refine r_get (v := .ref a11) M w 0 23 clX12 rfl (by decide) G1486 rfl rfl dX12_readOnce_16 ?_
    refine lv_iload_n hx hb dX12_readOnce_19 rfl (lv_at hl 1 rfl) ?_
    refine lv_iconst (v := iI 1) hx hb dX12_readOnce_20 (by decide +kernel) ?_
    refine r_zast (x2 := iI 1) (ws' := [(a0, .inr (11, [.int r0, .ref a1, .int (iI x0), .int (iI x1), .int (iI x2), .int (iI x3), .int (iI x4), .int (iI x5), .int r1, .int (iI x6), .int (iI x7), .int (iI x8), .long y0, .int (iI x9), .ref a2, .ref a3, .ref a4, .ref a5, .ref a6, .ref a7, .ref a8, .ref a9, .ref a10, .ref a11, .int (iI x10), .ref a12, .ref a13, .ref a14, .ref a15, .int (iI x11), .int r2, .int r3, .ref a16, .int (iI x12), .int (iI x13), .ref a17, .ref a18, .int (iI x14), .ref a19, .int (iI x15), .int r4, .ref a20, .ref a21, .int (iI x16), .int r5, .ref a22, .int (iI x17), .int (iI x18), .int (iI x19), .int (iI x20)])), (a1, .inl (T 0, 940, .inl (cI f0))), (a3, .inl (T 0, 53, .inl (cI f1))), (a11, .inl (T 2, 3, .inl (cI (upz f2 2 1))))]) M w 3 rfl (iI_in (by decide) (by decide) (by decide)) (nb_z (by omega) (by omega)) (by rw [cI_up (by omega) (by omega)]; rfl) dX12_readOnce_21 (fun H locs w => ?_)
    refine lv_aload_n hx hb dX12_readOnce_22 rfl (lv_at hl 0 rfl) ?_
    refine k_V (ce := 0) (sl := 0) (rest := []) (wr := [(a3, .inl (T 0, 53, .inl (cI f1))), (a11, .inl (T 2, 3, .inl (cI (upz f2 2 1))))]) (r_V (f := 1) [0, 1] M w V_HookedCityModel_82 G1629 G49 (c12_X12_go l D T _ a0 r0 a1 x0 x1 x2 x3 x4 x5 r1 x6 x7 x8 y0 x9 a2 a3 a4 a5 a6 a7 a8 a9 a10 a11 x10 a12 a13 a14 a15 x11 r2 r3 a16 x12 x13 a17 a18 x14 a19 x15 r4 a20 a21 x16 r5 a22 x17 x18 x19 x20 f0 x0_a x0_b x1_a x1_b x2_a x2_b x3_a x3_b x4_a x4_b x5_a x5_b x6_a x6_b x7_a x7_b x8_a x8_b x9_a x9_b x10_a x10_b x11_a x11_b x12_a x12_b x13_a x13_b x14_a x14_b x15_a x15_b x16_a x16_b x17_a x17_b x18_a x18_b x19_a x19_b x20_a x20_b f0_h) 0 clX12 rfl rfl (by decide) rfl hl.1 rfl (Nat.le_of_ble_eq_true rfl) dX12_readOnce_23 (by decide) (by decide) (by decide) (by decide)) w [0, 1] [2, 3] rfl rfl (by decide) (by decide) rfl rfl (fun u H locs hp w => ?_)
    obtain ⟨z3, z4, z5, fr6, z7, fy8⟩ := u
    have z3_a : 0 ≤ z3 := hp.1
    have z3_b : z3 ≤ 940 := hp.2.1
    have z4_a : 0 ≤ z4 := hp.2.2.1
    have z4_b : z4 ≤ 940 := hp.2.2.2.1
    have z5_a : 0 ≤ z5 := hp.2.2.2.2.1
    have z5_b : z5 ≤ 4 := hp.2.2.2.2.2.1
    have z7_a : (-2147483648) ≤ z7 := hp.2.2.2.2.2.2.1
    have z7_b : z7 ≤ 2147483647 := hp.2.2.2.2.2.2.2.1
    have ee9 : 0 ≤ (z3 - x3) := hp.2.2.2.2.2.2.2.2.1
    have ee10 : 0 ≤ (((z3 - x3) - z5) + 3) := hp.2.2.2.2.2.2.2.2.2.1
    have pq11 : gT (tkAt f0 x1 x2 x3) z5 z4 z3 fy8 fr6 z7 := hp.2.2.2.2.2.2.2.2.2.2
    have w : WD D A s.heap [(a3, .inl (T 0, 53, .inl (cI f1))), (a11, .inl (T 2, 3, .inl (cI (upz f2 2 1)))), (a0, .inr (11, [.int r0, .ref a1, .int (iI x0), .int (iI x1), .int (iI x2), .int (iI z3), .int (iI z4), .int (iI z5), .int fr6, .int (iI z7), .int (iI x7), .int (iI x8), .long fy8, .int (iI x9), .ref a2, .ref a3, .ref a4, .ref a5, .ref a6, .ref a7, .ref a8, .ref a9, .ref a10, .ref a11, .int (iI x10), .ref a12, .ref a13, .ref a14, .ref a15, .int (iI x11), .int r2, .int r3, .ref a16, .int (iI x12), .int (iI x13), .ref a17, .ref a18, .int (iI x14), .ref a19, .int (iI x15), .int r4, .ref a20, .ref a21, .int (iI x16), .int r5, .ref a22, .int (iI x17), .int (iI x18), .int (iI x19), .int (iI x20)])), (a1, .inl (T 0, 940, .inl (cI f0)))] H locs := w
    refine lv_aload_n hx hb dX12_readOnce_26 rfl (lv_at hl 0 rfl) ?_
    refine lv_iconst (v := iI 2) hx hb dX12_readOnce_27 (by decide +kernel) ?_
    refine lv_iload_n hx hb dX12_readOnce_28 rfl (lv_at hl 1 rfl) ?_
    refine r_iadd (v := iI 4) M (by decide +kernel) dX12_readOnce_29 ?_
    refine lv_aload_n hx hb dX12_readOnce_30 rfl (lv_at hl 0 rfl) ?_
    refine lv_iload_n hx hb dX12_readOnce_31 rfl (lv_at hl 2 rfl) ?_
    refine lv_iload_n hx hb dX12_readOnce_32 rfl (lv_at hl 3 rfl) ?_
    refine k_I (ce := 0) (sl := 0) (rest := [.int (iI 4), .ref a0]) (wr := [(a3, .inl (T 0, 53, .inl (cI f1))), (a11, .inl (T 2, 3, .inl (cI (upz f2 2 1))))]) (r_V (f := 2) [2, 3] M w V_HookedCityModel_200 G1690 G60 (c46_X12_readNumber l D T _ a0 0 60 r0 a1 x0 x1 x2 z3 z4 z5 fr6 z7 x7 x8 fy8 x9 a2 a3 a4 a5 a6 a7 a8 a9 a10 a11 x10 a12 a13 a14 a15 x11 r2 r3 a16 x12 x13 a17 a18 x14 a19 x15 r4 a20 a21 x16 r5 a22 x17 x18 x19 x20 f0 (by decide) (by decide) (by decide) (by decide) x0_a x0_b x1_a x1_b x2_a x2_b z3_a z3_b z4_a z4_b z5_a z5_b z7_a z7_b x7_a x7_b x8_a x8_b x9_a x9_b x10_a x10_b x11_a x11_b x12_a x12_b x13_a x13_b x14_a x14_b x15_a x15_b x16_a x16_b x17_a x17_b x18_a x18_b x19_a x19_b x20_a x20_b f0_h) 2 clX12 rfl rfl (by decide) rfl hl.1 rfl (Nat.le_of_ble_eq_true rfl) dX12_readOnce_33 (by decide) (by decide) (by decide) (by decide)) w [2, 3] [0, 1] rfl rfl (by decide) (by decide) rfl rfl (fun v u H locs hp w => ?_)
    obtain ⟨z12, z13, z14, z15, fr16, z17, z18, z19, fy20, z21⟩ := u
    have hv : iI z12 = v := hp.1
    subst hv
    have z12_a : 0 ≤ z12 := hp.2.1
    have z12_b : z12 ≤ 1 := hp.2.2.1
    have z13_a : 0 ≤ z13 := hp.2.2.2.1
    have z13_b : z13 ≤ 940 := hp.2.2.2.2.1
    have z14_a : 0 ≤ z14 := hp.2.2.2.2.2.1
    have z14_b : z14 ≤ 940 := hp.2.2.2.2.2.2.1
    have z15_a : 0 ≤ z15 := hp.2.2.2.2.2.2.2.1
    have z15_b : z15 ≤ 4 := hp.2.2.2.2.2.2.2.2.1
    have z17_a : (-2147483648) ≤ z17 := hp.2.2.2.2.2.2.2.2.2.1
    have z17_b : z17 ≤ 2147483647 := hp.2.2.2.2.2.2.2.2.2.2.1
    have z18_a : (-2147483648) ≤ z18 := hp.2.2.2.2.2.2.2.2.2.2.2.1
    have z18_b : z18 ≤ 2147483647 := hp.2.2.2.2.2.2.2.2.2.2.2.2.1
    have z19_a : 0 ≤ z19 := hp.2.2.2.2.2.2.2.2.2.2.2.2.2.1
    have z19_b : z19 ≤ 940 := hp.2.2.2.2.2.2.2.2.2.2.2.2.2.2.1
    have z21_a : (-2147483648) ≤ z21 := hp.2.2.2.2.2.2.2.2.2.2.2.2.2.2.2.1
    have z21_b : z21 ≤ 2147483647 := hp.2.2.2.2.2.2.2.2.2.2.2.2.2.2.2.2.1
    have ee22 : 0 ≤ (z13 - z3) := hp.2.2.2.2.2.2.2.2.2.2.2.2.2.2.2.2.2.1
    have ee23 : 0 ≤ ((((z13 - z3) - z15) + 4) - z12) := hp.2.2.2.2.2.2.2.2.2.2.2.2.2.2.2.2.2.2.1
    have ee24 : 0 ≤ (((z21 - 0) + 4294967296) - (z12 * 4294967296)) := hp.2.2.2.2.2.2.2.2.2.2.2.2.2.2.2.2.2.2.2.1
    have ee25 : 0 ≤ (((60 - z21) + 4294967296) - (z12 * 4294967296)) := hp.2.2.2.2.2.2.2.2.2.2.2.2.2.2.2.2.2.2.2.2.1
    have pq26 : ∀ x : Tk × Int × Int, gT x z5 z4 z3 fy8 fr6 z7 → RV (sNu 0 60 x) z12 z18 z19 z21 ∧ (z12 = 1 → gT (nx f0 x1 x2 x) z15 z14 z13 fy20 fr16 z17) := hp.2.2.2.2.2.2.2.2.2.2.2.2.2.2.2.2.2.2.2.2.2.1
    have pq27 : kpB z12 x7 z18 := hp.2.2.2.2.2.2.2.2.2.2.2.2.2.2.2.2.2.2.2.2.2.2
    have w : WD D A s.heap [(a3, .inl (T 0, 53, .inl (cI f1))), (a11, .inl (T 2, 3, .inl (cI (upz f2 2 1)))), (a0, .inr (11, [.int r0, .ref a1, .int (iI x0), .int (iI x1), .int (iI x2), .int (iI z13), .int (iI z14), .int (iI z15), .int fr16, .int (iI z17), .int (iI z18), .int (iI z19), .long fy20, .int (iI z21), .ref a2, .ref a3, .ref a4, .ref a5, .ref a6, .ref a7, .ref a8, .ref a9, .ref a10, .ref a11, .int (iI x10), .ref a12, .ref a13, .ref a14, .ref a15, .int (iI x11), .int r2, .int r3, .ref a16, .int (iI x12), .int (iI x13), .ref a17, .ref a18, .int (iI x14), .ref a19, .int (iI x15), .int r4, .ref a20, .ref a21, .int (iI x16), .int r5, .ref a22, .int (iI x17), .int (iI x18), .int (iI x19), .int (iI x20)])), (a1, .inl (T 0, 940, .inl (cI f0)))] H locs := w
    refine k_I (ce := 0) (sl := 0) (rest := []) (wr := [(a11, .inl (T 2, 3, .inl (cI (upz f2 2 1)))), (a1, .inl (T 0, 940, .inl (cI f0)))]) (r_V (f := 0) [2, 0] M w V_HookedCityModel_196 G1686 G59 (c55_X12_put l D T _ a0 4 z12 r0 a1 x0 x1 x2 z13 z14 z15 fr16 z17 z18 z19 fy20 z21 a2 a3 a4 a5 a6 a7 a8 a9 a10 a11 x10 a12 a13 a14 a15 x11 r2 r3 a16 x12 x13 a17 a18 x14 a19 x15 r4 a20 a21 x16 r5 a22 x17 x18 x19 x20 f1 (by decide) (by decide) z12_a z12_b x0_a x0_b x1_a x1_b x2_a x2_b z13_a z13_b z14_a z14_b z15_a z15_b z17_a z17_b z18_a z18_b z19_a z19_b z21_a z21_b x10_a x10_b x11_a x11_b x12_a x12_b x13_a x13_b x14_a x14_b x15_a x15_b x16_a x16_b x17_a x17_b x18_a x18_b x19_a x19_b x20_a x20_b f1_h (fun h => rd_up f1_h (by omega) (by omega) (by unfold rr; omega) (fun h => absurd h (by omega)) (by omega))) 2 clX12 rfl rfl (by decide) rfl hl.1 rfl (Nat.le_of_ble_eq_true rfl) dX12_readOnce_36 (by decide) (by decide) (by decide) (by decide)) w [2, 0] [1, 3] rfl rfl (by decide) (by decide) rfl rfl (fun v u H locs hp w => ?_)
    obtain ⟨z28, ff29⟩ := u
    have hv : iI z28 = v := hp.1
    subst hv
    have z28_a : 0 ≤ z28 := hp.2.1
    have z28_b : z28 ≤ 1 := hp.2.2.1
    have ff29_h : rdI ff29 := hp.2.2.2.1
    have ee30 : 0 ≤ (z12 - z28) := hp.2.2.2.2.1
    have ee31 : 0 ≤ (z28 - z12) := hp.2.2.2.2.2.1
    have pq32 : ff29 0 = f1 0 := hp.2.2.2.2.2.2.1
    have pq33 : ff29 1 = f1 1 := hp.2.2.2.2.2.2.2.1
    have pq34 : z12 = 1 → ff29 = upz f1 4 z21 := hp.2.2.2.2.2.2.2.2
    have w : WD D A s.heap [(a11, .inl (T 2, 3, .inl (cI (upz f2 2 1)))), (a1, .inl (T 0, 940, .inl (cI f0))), (a0, .inr (11, [.int r0, .ref a1, .int (iI x0), .int (iI x1), .int (iI x2), .int (iI z13), .int (iI z14), .int (iI z15), .int fr16, .int (iI z17), .int (iI z18), .int (iI z19), .long fy20, .int (iI z21), .ref a2, .ref a3, .ref a4, .ref a5, .ref a6, .ref a7, .ref a8, .ref a9, .ref a10, .ref a11, .int (iI x10), .ref a12, .ref a13, .ref a14, .ref a15, .int (iI x11), .int r2, .int r3, .ref a16, .int (iI x12), .int (iI x13), .ref a17, .ref a18, .int (iI x14), .ref a19, .int (iI x15), .int r4, .ref a20, .ref a21, .int (iI x16), .int r5, .ref a22, .int (iI x17), .int (iI x18), .int (iI x19), .int (iI x20)])), (a3, .inl (T 0, 53, .inl (cI ff29)))] H locs := w
    exact ret _ (z28, z13, z14, z15, fr16, z17, z18, z19, fy20, z21, ff29, (upz f2 2 1)) _ _ _ _ _ [2, 1, 3, 0] dX12_readOnce_39 (nb_n (by omega) (by omega)) ⟨rfl, z28_a, z28_b, z13_a, z13_b, z14_a, z14_b, z15_a, z15_b, z17_a, z17_b, z18_a, z18_b, z19_a, z19_b, z21_a, z21_b, ff29_h, (rng_up f2_h (by omega) (by omega)), (show 0 ≤ (z13 - x3) from by omega), (show 0 ≤ ((((z13 - x3) - z15) + 4) - z28) from by omega), (show ∀ (x : Tk × Int × Int) (h : Nat → Int64), gT x x5 x4 x3 y0 r1 x6 → ¬ x.1 = tkBad → RP (sOnce f0 x1 x2 x f1 h f2 2 0 60) z28 z18 z19 (fun y => gT y z15 z14 z13 fy20 fr16 z17) ff29 h (upz f2 2 1) from (by intro x h hx hb; have k1 := gT_bad hx; rw [sOnce]; rw [if_neg (by omega)]; have g1 := gT_nx hx pq11; have g2 := pq26 _ g1; by_cases hr : z12 = 1; (refine bdV_ok g2.1 hr ?_; refine ⟨by omega, g2.2 hr, pq34 hr, rfl, rfl⟩); (exact bdV_bad g2.1 (by omega) (by omega)))), (show kpB z28 x7 z18 from (fun hr => by have y1 := pq27 (by omega); omega))⟩ w (by decide) rfl
  · replace c_2 : ¬ (f2 2) = 0 := fun h => c_2 ((iz_eq (by omega) (by omega)).mpr h)
    refine lv_aload_n hx hb dX12_readOnce_9 rfl (lv_at hl 0 rfl) ?_
    refine lv_iconst (v := iI 3) hx hb dX12_readOnce_10 (by decide +kernel) ?_
    refine k_I (ce := 0) (sl := 0) (rest := []) (wr := [(a1, .inl (T 0, 940, .inl (cI f0))), (a3, .inl (T 0, 53, .inl (cI f1))), (a11, .inl (T 2, 3, .inl (cI f2)))]) (r_V (f := 0) [0] M w V_HookedCityModel_72 G1667 G55 (c45_X12_bad l D T _ a0 3 r0 a1 x0 x1 x2 x3 x4 x5 r1 x6 x7 x8 y0 x9 a2 a3 a4 a5 a6 a7 a8 a9 a10 a11 x10 a12 a13 a14 a15 x11 r2 r3 a16 x12 x13 a17 a18 x14 a19 x15 r4 a20 a21 x16 r5 a22 x17 x18 x19 x20 (by decide) (by decide) x0_a x0_b x1_a x1_b x2_a x2_b x3_a x3_b x4_a x4_b x5_a x5_b x6_a x6_b x7_a x7_b x8_a x8_b x9_a x9_b x10_a x10_b x11_a x11_b x12_a x12_b x13_a x13_b x14_a x14_b x15_a x15_b x16_a x16_b x17_a x17_b x18_a x18_b x19_a x19_b x20_a x20_b) 0 clX12 rfl rfl (by decide) rfl hl.1 rfl (Nat.le_of_ble_eq_true rfl) dX12_readOnce_11 (by decide) (by decide) (by decide) (by decide)) w [0] [1, 2, 3] rfl rfl (by decide) (by decide) rfl rfl (fun v u H locs hp w => ?_)
    obtain ⟨z35, z36, z37⟩ := u
    have hv : iI z35 = v := hp.1
    subst hv
    have z35_a : 0 ≤ z35 := hp.2.1
    have z35_b : z35 ≤ 1 := hp.2.2.1
    have z36_a : (-2147483648) ≤ z36 := hp.2.2.2.1
    have z36_b : z36 ≤ 2147483647 := hp.2.2.2.2.1
    have z37_a : 0 ≤ z37 := hp.2.2.2.2.2.1
    have z37_b : z37 ≤ 940 := hp.2.2.2.2.2.2.1
    have pq38 : baQ x5 3 z36 := hp.2.2.2.2.2.2.2.1
    have pq39 : z37 = x4 := hp.2.2.2.2.2.2.2.2.1
    have w : WD D A s.heap [(a1, .inl (T 0, 940, .inl (cI f0))), (a3, .inl (T 0, 53, .inl (cI f1))), (a11, .inl (T 2, 3, .inl (cI f2))), (a0, .inr (11, [.int r0, .ref a1, .int (iI x0), .int (iI x1), .int (iI x2), .int (iI x3), .int (iI x4), .int (iI x5), .int r1, .int (iI x6), .int (iI z36), .int (iI z37), .long y0, .int (iI x9), .ref a2, .ref a3, .ref a4, .ref a5, .ref a6, .ref a7, .ref a8, .ref a9, .ref a10, .ref a11, .int (iI x10), .ref a12, .ref a13, .ref a14, .ref a15, .int (iI x11), .int r2, .int r3, .ref a16, .int (iI x12), .int (iI x13), .ref a17, .ref a18, .int (iI x14), .ref a19, .int (iI x15), .int r4, .ref a20, .ref a21, .int (iI x16), .int r5, .ref a22, .int (iI x17), .int (iI x18), .int (iI x19), .int (iI x20)]))] H locs := w
    rcases hp.2.2.2.2.2.2.2.2.2 with hr
    · subst hr
      exact ret _ (0, x3, x4, x5, r1, x6, z36, z37, y0, x9, f1, f2) _ _ _ _ _ [3, 0, 1, 2] dX12_readOnce_14 (by decide +kernel) ⟨rfl, (show (0 : Int) ≤ 0 from by decide), (show (0 : Int) ≤ 1 from by decide), x3_a, x3_b, x4_a, x4_b, x5_a, x5_b, x6_a, x6_b, z36_a, z36_b, z37_a, z37_b, x9_a, x9_b, f1_h, f2_h, (show 0 ≤ (x3 - x3) from by omega), (show 0 ≤ ((((x3 - x3) - x5) + 4) - 0) from by omega), (show ∀ (x : Tk × Int × Int) (h : Nat → Int64), gT x x5 x4 x3 y0 r1 x6 → ¬ x.1 = tkBad → RP (sOnce f0 x1 x2 x f1 h f2 2 0 60) 0 z36 z37 (fun y => gT y x5 x4 x3 y0 r1 x6) f1 h f2 from (by intro x h hx hb; have k1 := gT_bad hx; rw [sOnce]; rw [if_pos (by omega)]; exact ⟨rfl, by have e9 := pq38; unfold baQ at e9; rcases e9 with e9 | e9; exact absurd (k1.mp e9.1) hb; exact e9.2, pq39.trans hx.1⟩)), (show kpB 0 x7 z36 from (fun e => absurd e (by decide)))⟩ w (by decide) rfl
set_option maxRecDepth 100000 in
set_option maxHeartbeats 4000000 in
theorem c63_X12_readOnce (l : Launch) (D : va_G) (T : Nat → ClassId) (sz : Nat) (a0 : Nat) (r0 : Int32) (a1 : Nat) (x0 : Int) (x1 : Int) (x2 : Int) (x3 : Int) (x4 : Int) (x5 : Int) (r1 : Int32) (x6 : Int) (x7 : Int) (x8 : Int) (y0 : Int64) (x9 : Int) (a2 : Nat) (a3 : Nat) (a4 : Nat) (a5 : Nat) (a6 : Nat) (a7 : Nat) (a8 : Nat) (a9 : Nat) (a10 : Nat) (a11 : Nat) (x10 : Int) (a12 : Nat) (a13 : Nat) (a14 : Nat) (a15 : Nat) (x11 : Int) (r2 : Int32) (r3 : Int32) (a16 : Nat) (x12 : Int) (x13 : Int) (a17 : Nat) (a18 : Nat) (x14 : Int) (a19 : Nat) (x15 : Int) (r4 : Int32) (a20 : Nat) (a21 : Nat) (x16 : Int) (r5 : Int32) (a22 : Nat) (x17 : Int) (x18 : Int) (x19 : Int) (x20 : Int) (f0 : Int → Int) (f1 : Int → Int) (f2 : Int → Int) (x0_a : 0 ≤ x0) (x0_b : x0 ≤ 940) (x1_a : 0 ≤ x1) (x1_b : x1 ≤ 940) (x2_a : 0 ≤ x2) (x2_b : x2 ≤ 940) (x3_a : 0 ≤ x3) (x3_b : x3 ≤ 940) (x4_a : 0 ≤ x4) (x4_b : x4 ≤ 940) (x5_a : 0 ≤ x5) (x5_b : x5 ≤ 4) (x6_a : (-2147483648) ≤ x6) (x6_b : x6 ≤ 2147483647) (x7_a : (-2147483648) ≤ x7) (x7_b : x7 ≤ 2147483647) (x8_a : 0 ≤ x8) (x8_b : x8 ≤ 940) (x9_a : (-2147483648) ≤ x9) (x9_b : x9 ≤ 2147483647) (x10_a : 0 ≤ x10) (x10_b : x10 ≤ 8) (x11_a : 0 ≤ x11) (x11_b : x11 ≤ 9) (x12_a : (-1) ≤ x12) (x12_b : x12 ≤ 9) (x13_a : (-1) ≤ x13) (x13_b : x13 ≤ 8) (x14_a : 0 ≤ x14) (x14_b : x14 ≤ 9) (x15_a : 0 ≤ x15) (x15_b : x15 ≤ 64) (x16_a : 0 ≤ x16) (x16_b : x16 ≤ 40) (x17_a : 0 ≤ x17) (x17_b : x17 ≤ 40) (x18_a : 0 ≤ x18) (x18_b : x18 ≤ 20) (x19_a : 0 ≤ x19) (x19_b : x19 ≤ 8) (x20_a : 0 ≤ x20) (x20_b : x20 ≤ 39) (f0_h : rng 0 255 f0) (f1_h : rdI f1) (f2_h : rng 0 1 f2) : Met l yX12_readOnce (Cond.code yX12_readOnce cX12_readOnce 4 (some .boolean) :: GW) (Rm 3 0 0) (cPre [.ref a0, .int (iI 1), .int (iI 2), .int (iI 60)] D T [(a0, .inr (11, [.int r0, .ref a1, .int (iI x0), .int (iI x1), .int (iI x2), .int (iI x3), .int (iI x4), .int (iI x5), .int r1, .int (iI x6), .int (iI x7), .int (iI x8), .long y0, .int (iI x9), .ref a2, .ref a3, .ref a4, .ref a5, .ref a6, .ref a7, .ref a8, .ref a9, .ref a10, .ref a11, .int (iI x10), .ref a12, .ref a13, .ref a14, .ref a15, .int (iI x11), .int r2, .int r3, .ref a16, .int (iI x12), .int (iI x13), .ref a17, .ref a18, .int (iI x14), .ref a19, .int (iI x15), .int r4, .ref a20, .ref a21, .int (iI x16), .int r5, .ref a22, .int (iI x17), .int (iI x18), .int (iI x19), .int (iI x20)])), (a1, .inl (T 0, 940, .inl (cI f0))), (a3, .inl (T 0, 53, .inl (cI f1))), (a11, .inl (T 2, 3, .inl (cI f2)))] sz) (qI D [(a0, .inr (11, [.int r0, .ref a1, .int (iI x0), .int (iI x1), .int (iI x2), .int (iI x3), .int (iI x4), .int (iI x5), .int r1, .int (iI x6), .int (iI x7), .int (iI x8), .long y0, .int (iI x9), .ref a2, .ref a3, .ref a4, .ref a5, .ref a6, .ref a7, .ref a8, .ref a9, .ref a10, .ref a11, .int (iI x10), .ref a12, .ref a13, .ref a14, .ref a15, .int (iI x11), .int r2, .int r3, .ref a16, .int (iI x12), .int (iI x13), .ref a17, .ref a18, .int (iI x14), .ref a19, .int (iI x15), .int r4, .ref a20, .ref a21, .int (iI x16), .int r5, .ref a22, .int (iI x17), .int (iI x18), .int (iI x19), .int (iI x20)])), (a1, .inl (T 0, 940, .inl (cI f0))), (a3, .inl (T 0, 53, .inl (cI f1))), (a11, .inl (T 2, 3, .inl (cI f2)))] sz (fun (v : Int32) (u : Int × Int × Int × Int × Int32 × Int × Int × Int × Int64 × Int × (Int → Int) × (Int → Int)) => iI u.1 = v ∧ 0 ≤ u.1 ∧ u.1 ≤ 1 ∧ 0 ≤ u.2.1 ∧ u.2.1 ≤ 940 ∧ 0 ≤ u.2.2.1 ∧ u.2.2.1 ≤ 940 ∧ 0 ≤ u.2.2.2.1 ∧ u.2.2.2.1 ≤ 4 ∧ (-2147483648) ≤ u.2.2.2.2.2.1 ∧ u.2.2.2.2.2.1 ≤ 2147483647 ∧ (-2147483648) ≤ u.2.2.2.2.2.2.1 ∧ u.2.2.2.2.2.2.1 ≤ 2147483647 ∧ 0 ≤ u.2.2.2.2.2.2.2.1 ∧ u.2.2.2.2.2.2.2.1 ≤ 940 ∧ (-2147483648) ≤ u.2.2.2.2.2.2.2.2.2.1 ∧ u.2.2.2.2.2.2.2.2.2.1 ≤ 2147483647 ∧ rdI u.2.2.2.2.2.2.2.2.2.2.1 ∧ rng 0 1 u.2.2.2.2.2.2.2.2.2.2.2 ∧ 0 ≤ (u.2.1 - x3) ∧ 0 ≤ ((((u.2.1 - x3) - u.2.2.2.1) + 4) - u.1) ∧ (∀ (x : Tk × Int × Int) (h : Nat → Int64), gT x x5 x4 x3 y0 r1 x6 → ¬ x.1 = tkBad → RP (sOnce f0 x1 x2 x f1 h f2 1 2 60) u.1 u.2.2.2.2.2.2.1 u.2.2.2.2.2.2.2.1 (fun y => gT y u.2.2.2.1 u.2.2.1 u.2.1 u.2.2.2.2.2.2.2.2.1 u.2.2.2.2.1 u.2.2.2.2.2.1) u.2.2.2.2.2.2.2.2.2.2.1 h u.2.2.2.2.2.2.2.2.2.2.2) ∧ (kpB u.1 x7 u.2.2.2.2.2.2.1)) (fun u => [(a0, .inr (11, [.int r0, .ref a1, .int (iI x0), .int (iI x1), .int (iI x2), .int (iI u.2.1), .int (iI u.2.2.1), .int (iI u.2.2.2.1), .int u.2.2.2.2.1, .int (iI u.2.2.2.2.2.1), .int (iI u.2.2.2.2.2.2.1), .int (iI u.2.2.2.2.2.2.2.1), .long u.2.2.2.2.2.2.2.2.1, .int (iI u.2.2.2.2.2.2.2.2.2.1), .ref a2, .ref a3, .ref a4, .ref a5, .ref a6, .ref a7, .ref a8, .ref a9, .ref a10, .ref a11, .int (iI x10), .ref a12, .ref a13, .ref a14, .ref a15, .int (iI x11), .int r2, .int r3, .ref a16, .int (iI x12), .int (iI x13), .ref a17, .ref a18, .int (iI x14), .ref a19, .int (iI x15), .int r4, .ref a20, .ref a21, .int (iI x16), .int r5, .ref a22, .int (iI x17), .int (iI x18), .int (iI x19), .int (iI x20)])), (a1, .inl (T 0, 940, .inl (cI f0))), (a3, .inl (T 0, 53, .inl (cI u.2.2.2.2.2.2.2.2.2.2.1))), (a11, .inl (T 2, 3, .inl (cI u.2.2.2.2.2.2.2.2.2.2.2)))])) 0 0 (va_A [(a0, .inr (11, [.int r0, .ref a1, .int (iI x0), .int (iI x1), .int (iI x2), .int (iI x3), .int (iI x4), .int (iI x5), .int r1, .int (iI x6), .int (iI x7), .int (iI x8), .long y0, .int (iI x9), .ref a2, .ref a3, .ref a4, .ref a5, .ref a6, .ref a7, .ref a8, .ref a9, .ref a10, .ref a11, .int (iI x10), .ref a12, .ref a13, .ref a14, .ref a15, .int (iI x11), .int r2, .int r3, .ref a16, .int (iI x12), .int (iI x13), .ref a17, .ref a18, .int (iI x14), .ref a19, .int (iI x15), .int r4, .ref a20, .ref a21, .int (iI x16), .int r5, .ref a22, .int (iI x17), .int (iI x18), .int (iI x19), .int (iI x20)])), (a1, .inl (T 0, 940, .inl (cI f0))), (a3, .inl (T 0, 53, .inl (cI f1))), (a11, .inl (T 2, 3, .inl (cI f2)))] sz) := by
  refine e_Z (by decide) (Nat.le_of_ble_eq_true rfl) ?_
  intro p e s m args below meth c A Q ls M hin w ret hl
  have hx := M.1.1
  have hb := M.1.2.1
  have hl : lv_has ls 4 [(0, .ref a0), (1, .int (iI 1)), (2, .int (iI 2)), (3, .int (iI 60))] := hl
  refine lv_aload_n hx hb dX12_readOnce_0 rfl (lv_at hl 0 rfl) ?_
  refine r_get (v := .ref a11) M w 0 23 clX12 rfl (by decide) G1486 rfl rfl dX12_readOnce_1 ?_
  refine lv_iload_n hx hb dX12_readOnce_4 rfl (lv_at hl 1 rfl) ?_
  refine r_zald (v := iI (f2 1)) M w 3 rfl (iI_in (by decide) (by decide) (by decide)) (cI_at (by omega) (by omega)) dX12_readOnce_5 ?_
  have hh1 : 0 ≤ (f2 1) ∧ (f2 1) ≤ 1 := f2_h 1
  refine lv_if_eq (tgt := 15) hx hb dX12_readOnce_6 (by decide) (fun c_2 => ?_) (fun c_2 => ?_)
  · replace c_2 := (iz_eq (by omega) (by omega)).mp c_2
    refine lv_aload_n hx hb dX12_readOnce_15 rfl (lv_at hl 0 rfl) ?_
    refine r_get (v := .ref a11) M w 0 23 clX12 rfl (by decide) G1486 rfl rfl dX12_readOnce_16 ?_
    refine lv_iload_n hx hb dX12_readOnce_19 rfl (lv_at hl 1 rfl) ?_
    refine lv_iconst (v := iI 1) hx hb dX12_readOnce_20 (by decide +kernel) ?_
    refine r_zast (x2 := iI 1) (ws' := [(a0, .inr (11, [.int r0, .ref a1, .int (iI x0), .int (iI x1), .int (iI x2), .int (iI x3), .int (iI x4), .int (iI x5), .int r1, .int (iI x6), .int (iI x7), .int (iI x8), .long y0, .int (iI x9), .ref a2, .ref a3, .ref a4, .ref a5, .ref a6, .ref a7, .ref a8, .ref a9, .ref a10, .ref a11, .int (iI x10), .ref a12, .ref a13, .ref a14, .ref a15, .int (iI x11), .int r2, .int r3, .ref a16, .int (iI x12), .int (iI x13), .ref a17, .ref a18, .int (iI x14), .ref a19, .int (iI x15), .int r4, .ref a20, .ref a21, .int (iI x16), .int r5, .ref a22, .int (iI x17), .int (iI x18), .int (iI x19), .int (iI x20)])), (a1, .inl (T 0, 940, .inl (cI f0))), (a3, .inl (T 0, 53, .inl (cI f1))), (a11, .inl (T 2, 3, .inl (cI (upz f2 1 1))))]) M w 3 rfl (iI_in (by decide) (by decide) (by decide)) (nb_z (by omega) (by omega)) (by rw [cI_up (by omega) (by omega)]; rfl) dX12_readOnce_21 (fun H locs w => ?_)
    refine lv_aload_n hx hb dX12_readOnce_22 rfl (lv_at hl 0 rfl) ?_
    refine k_V (ce := 0) (sl := 0) (rest := []) (wr := [(a3, .inl (T 0, 53, .inl (cI f1))), (a11, .inl (T 2, 3, .inl (cI (upz f2 1 1))))]) (r_V (f := 1) [0, 1] M w V_HookedCityModel_82 G1629 G49 (c12_X12_go l D T _ a0 r0 a1 x0 x1 x2 x3 x4 x5 r1 x6 x7 x8 y0 x9 a2 a3 a4 a5 a6 a7 a8 a9 a10 a11 x10 a12 a13 a14 a15 x11 r2 r3 a16 x12 x13 a17 a18 x14 a19 x15 r4 a20 a21 x16 r5 a22 x17 x18 x19 x20 f0 x0_a x0_b x1_a x1_b x2_a x2_b x3_a x3_b x4_a x4_b x5_a x5_b x6_a x6_b x7_a x7_b x8_a x8_b x9_a x9_b x10_a x10_b x11_a x11_b x12_a x12_b x13_a x13_b x14_a x14_b x15_a x15_b x16_a x16_b x17_a x17_b x18_a x18_b x19_a x19_b x20_a x20_b f0_h) 0 clX12 rfl rfl (by decide) rfl hl.1 rfl (Nat.le_of_ble_eq_true rfl) dX12_readOnce_23 (by decide) (by decide) (by decide) (by decide)) w [0, 1] [2, 3] rfl rfl (by decide) (by decide) rfl rfl (fun u H locs hp w => ?_)
    obtain ⟨z3, z4, z5, fr6, z7, fy8⟩ := u
    have z3_a : 0 ≤ z3 := hp.1
    have z3_b : z3 ≤ 940 := hp.2.1
    have z4_a : 0 ≤ z4 := hp.2.2.1
    have z4_b : z4 ≤ 940 := hp.2.2.2.1
    have z5_a : 0 ≤ z5 := hp.2.2.2.2.1
    have z5_b : z5 ≤ 4 := hp.2.2.2.2.2.1
    have z7_a : (-2147483648) ≤ z7 := hp.2.2.2.2.2.2.1
    have z7_b : z7 ≤ 2147483647 := hp.2.2.2.2.2.2.2.1
    have ee9 : 0 ≤ (z3 - x3) := hp.2.2.2.2.2.2.2.2.1
    have ee10 : 0 ≤ (((z3 - x3) - z5) + 3) := hp.2.2.2.2.2.2.2.2.2.1
    have pq11 : gT (tkAt f0 x1 x2 x3) z5 z4 z3 fy8 fr6 z7 := hp.2.2.2.2.2.2.2.2.2.2
    have w : WD D A s.heap [(a3, .inl (T 0, 53, .inl (cI f1))), (a11, .inl (T 2, 3, .inl (cI (upz f2 1 1)))), (a0, .inr (11, [.int r0, .ref a1, .int (iI x0), .int (iI x1), .int (iI x2), .int (iI z3), .int (iI z4), .int (iI z5), .int fr6, .int (iI z7), .int (iI x7), .int (iI x8), .long fy8, .int (iI x9), .ref a2, .ref a3, .ref a4, .ref a5, .ref a6, .ref a7, .ref a8, .ref a9, .ref a10, .ref a11, .int (iI x10), .ref a12, .ref a13, .ref a14, .ref a15, .int (iI x11), .int r2, .int r3, .ref a16, .int (iI x12), .int (iI x13), .ref a17, .ref a18, .int (iI x14), .ref a19, .int (iI x15), .int r4, .ref a20, .ref a21, .int (iI x16), .int r5, .ref a22, .int (iI x17), .int (iI x18), .int (iI x19), .int (iI x20)])), (a1, .inl (T 0, 940, .inl (cI f0)))] H locs := w
    refine lv_aload_n hx hb dX12_readOnce_26 rfl (lv_at hl 0 rfl) ?_
    refine lv_iconst (v := iI 2) hx hb dX12_readOnce_27 (by decide +kernel) ?_
    refine lv_iload_n hx hb dX12_readOnce_28 rfl (lv_at hl 1 rfl) ?_
    refine r_iadd (v := iI 3) M (by decide +kernel) dX12_readOnce_29 ?_
    refine lv_aload_n hx hb dX12_readOnce_30 rfl (lv_at hl 0 rfl) ?_
    refine lv_iload_n hx hb dX12_readOnce_31 rfl (lv_at hl 2 rfl) ?_
    refine lv_iload_n hx hb dX12_readOnce_32 rfl (lv_at hl 3 rfl) ?_
    refine k_I (ce := 0) (sl := 0) (rest := [.int (iI 3), .ref a0]) (wr := [(a3, .inl (T 0, 53, .inl (cI f1))), (a11, .inl (T 2, 3, .inl (cI (upz f2 1 1))))]) (r_V (f := 2) [2, 3] M w V_HookedCityModel_200 G1690 G60 (c46_X12_readNumber l D T _ a0 2 60 r0 a1 x0 x1 x2 z3 z4 z5 fr6 z7 x7 x8 fy8 x9 a2 a3 a4 a5 a6 a7 a8 a9 a10 a11 x10 a12 a13 a14 a15 x11 r2 r3 a16 x12 x13 a17 a18 x14 a19 x15 r4 a20 a21 x16 r5 a22 x17 x18 x19 x20 f0 (by decide) (by decide) (by decide) (by decide) x0_a x0_b x1_a x1_b x2_a x2_b z3_a z3_b z4_a z4_b z5_a z5_b z7_a z7_b x7_a x7_b x8_a x8_b x9_a x9_b x10_a x10_b x11_a x11_b x12_a x12_b x13_a x13_b x14_a x14_b x15_a x15_b x16_a x16_b x17_a x17_b x18_a x18_b x19_a x19_b x20_a x20_b f0_h) 2 clX12 rfl rfl (by decide) rfl hl.1 rfl (Nat.le_of_ble_eq_true rfl) dX12_readOnce_33 (by decide) (by decide) (by decide) (by decide)) w [2, 3] [0, 1] rfl rfl (by decide) (by decide) rfl rfl (fun v u H locs hp w => ?_)
    obtain ⟨z12, z13, z14, z15, fr16, z17, z18, z19, fy20, z21⟩ := u
    have hv : iI z12 = v := hp.1
    subst hv
    have z12_a : 0 ≤ z12 := hp.2.1
    have z12_b : z12 ≤ 1 := hp.2.2.1
    have z13_a : 0 ≤ z13 := hp.2.2.2.1
    have z13_b : z13 ≤ 940 := hp.2.2.2.2.1
    have z14_a : 0 ≤ z14 := hp.2.2.2.2.2.1
    have z14_b : z14 ≤ 940 := hp.2.2.2.2.2.2.1
    have z15_a : 0 ≤ z15 := hp.2.2.2.2.2.2.2.1
    have z15_b : z15 ≤ 4 := hp.2.2.2.2.2.2.2.2.1
    have z17_a : (-2147483648) ≤ z17 := hp.2.2.2.2.2.2.2.2.2.1
    have z17_b : z17 ≤ 2147483647 := hp.2.2.2.2.2.2.2.2.2.2.1
    have z18_a : (-2147483648) ≤ z18 := hp.2.2.2.2.2.2.2.2.2.2.2.1
    have z18_b : z18 ≤ 2147483647 := hp.2.2.2.2.2.2.2.2.2.2.2.2.1
    have z19_a : 0 ≤ z19 := hp.2.2.2.2.2.2.2.2.2.2.2.2.2.1
    have z19_b : z19 ≤ 940 := hp.2.2.2.2.2.2.2.2.2.2.2.2.2.2.1
    have z21_a : (-2147483648) ≤ z21 := hp.2.2.2.2.2.2.2.2.2.2.2.2.2.2.2.1
    have z21_b : z21 ≤ 2147483647 := hp.2.2.2.2.2.2.2.2.2.2.2.2.2.2.2.2.1
    have ee22 : 0 ≤ (z13 - z3) := hp.2.2.2.2.2.2.2.2.2.2.2.2.2.2.2.2.2.1
    have ee23 : 0 ≤ ((((z13 - z3) - z15) + 4) - z12) := hp.2.2.2.2.2.2.2.2.2.2.2.2.2.2.2.2.2.2.1
    have ee24 : 0 ≤ (((z21 - 2) + 4294967296) - (z12 * 4294967296)) := hp.2.2.2.2.2.2.2.2.2.2.2.2.2.2.2.2.2.2.2.1
    have ee25 : 0 ≤ (((60 - z21) + 4294967296) - (z12 * 4294967296)) := hp.2.2.2.2.2.2.2.2.2.2.2.2.2.2.2.2.2.2.2.2.1
    have pq26 : ∀ x : Tk × Int × Int, gT x z5 z4 z3 fy8 fr6 z7 → RV (sNu 2 60 x) z12 z18 z19 z21 ∧ (z12 = 1 → gT (nx f0 x1 x2 x) z15 z14 z13 fy20 fr16 z17) := hp.2.2.2.2.2.2.2.2.2.2.2.2.2.2.2.2.2.2.2.2.2.1
    have pq27 : kpB z12 x7 z18 := hp.2.2.2.2.2.2.2.2.2.2.2.2.2.2.2.2.2.2.2.2.2.2
    have w : WD D A s.heap [(a3, .inl (T 0, 53, .inl (cI f1))), (a11, .inl (T 2, 3, .inl (cI (upz f2 1 1)))), (a0, .inr (11, [.int r0, .ref a1, .int (iI x0), .int (iI x1), .int (iI x2), .int (iI z13), .int (iI z14), .int (iI z15), .int fr16, .int (iI z17), .int (iI z18), .int (iI z19), .long fy20, .int (iI z21), .ref a2, .ref a3, .ref a4, .ref a5, .ref a6, .ref a7, .ref a8, .ref a9, .ref a10, .ref a11, .int (iI x10), .ref a12, .ref a13, .ref a14, .ref a15, .int (iI x11), .int r2, .int r3, .ref a16, .int (iI x12), .int (iI x13), .ref a17, .ref a18, .int (iI x14), .ref a19, .int (iI x15), .int r4, .ref a20, .ref a21, .int (iI x16), .int r5, .ref a22, .int (iI x17), .int (iI x18), .int (iI x19), .int (iI x20)])), (a1, .inl (T 0, 940, .inl (cI f0)))] H locs := w
    refine k_I (ce := 0) (sl := 0) (rest := []) (wr := [(a11, .inl (T 2, 3, .inl (cI (upz f2 1 1)))), (a1, .inl (T 0, 940, .inl (cI f0)))]) (r_V (f := 0) [2, 0] M w V_HookedCityModel_196 G1686 G59 (c55_X12_put l D T _ a0 3 z12 r0 a1 x0 x1 x2 z13 z14 z15 fr16 z17 z18 z19 fy20 z21 a2 a3 a4 a5 a6 a7 a8 a9 a10 a11 x10 a12 a13 a14 a15 x11 r2 r3 a16 x12 x13 a17 a18 x14 a19 x15 r4 a20 a21 x16 r5 a22 x17 x18 x19 x20 f1 (by decide) (by decide) z12_a z12_b x0_a x0_b x1_a x1_b x2_a x2_b z13_a z13_b z14_a z14_b z15_a z15_b z17_a z17_b z18_a z18_b z19_a z19_b z21_a z21_b x10_a x10_b x11_a x11_b x12_a x12_b x13_a x13_b x14_a x14_b x15_a x15_b x16_a x16_b x17_a x17_b x18_a x18_b x19_a x19_b x20_a x20_b f1_h (fun h => rd_up f1_h (by omega) (by omega) (by unfold rr; omega) (fun h => absurd h (by omega)) (by omega))) 2 clX12 rfl rfl (by decide) rfl hl.1 rfl (Nat.le_of_ble_eq_true rfl) dX12_readOnce_36 (by decide) (by decide) (by decide) (by decide)) w [2, 0] [1, 3] rfl rfl (by decide) (by decide) rfl rfl (fun v u H locs hp w => ?_)
    obtain ⟨z28, ff29⟩ := u
    have hv : iI z28 = v := hp.1
    subst hv
    have z28_a : 0 ≤ z28 := hp.2.1
    have z28_b : z28 ≤ 1 := hp.2.2.1
    have ff29_h : rdI ff29 := hp.2.2.2.1
    have ee30 : 0 ≤ (z12 - z28) := hp.2.2.2.2.1
    have ee31 : 0 ≤ (z28 - z12) := hp.2.2.2.2.2.1
    have pq32 : ff29 0 = f1 0 := hp.2.2.2.2.2.2.1
    have pq33 : ff29 1 = f1 1 := hp.2.2.2.2.2.2.2.1
    have pq34 : z12 = 1 → ff29 = upz f1 3 z21 := hp.2.2.2.2.2.2.2.2
    have w : WD D A s.heap [(a11, .inl (T 2, 3, .inl (cI (upz f2 1 1)))), (a1, .inl (T 0, 940, .inl (cI f0))), (a0, .inr (11, [.int r0, .ref a1, .int (iI x0), .int (iI x1), .int (iI x2), .int (iI z13), .int (iI z14), .int (iI z15), .int fr16, .int (iI z17), .int (iI z18), .int (iI z19), .long fy20, .int (iI z21), .ref a2, .ref a3, .ref a4, .ref a5, .ref a6, .ref a7, .ref a8, .ref a9, .ref a10, .ref a11, .int (iI x10), .ref a12, .ref a13, .ref a14, .ref a15, .int (iI x11), .int r2, .int r3, .ref a16, .int (iI x12), .int (iI x13), .ref a17, .ref a18, .int (iI x14), .ref a19, .int (iI x15), .int r4, .ref a20, .ref a21, .int (iI x16), .int r5, .ref a22, .int (iI x17), .int (iI x18), .int (iI x19), .int (iI x20)])), (a3, .inl (T 0, 53, .inl (cI ff29)))] H locs := w
    exact ret _ (z28, z13, z14, z15, fr16, z17, z18, z19, fy20, z21, ff29, (upz f2 1 1)) _ _ _ _ _ [2, 1, 3, 0] dX12_readOnce_39 (nb_n (by omega) (by omega)) ⟨rfl, z28_a, z28_b, z13_a, z13_b, z14_a, z14_b, z15_a, z15_b, z17_a, z17_b, z18_a, z18_b, z19_a, z19_b, z21_a, z21_b, ff29_h, (rng_up f2_h (by omega) (by omega)), (show 0 ≤ (z13 - x3) from by omega), (show 0 ≤ ((((z13 - x3) - z15) + 4) - z28) from by omega), (show ∀ (x : Tk × Int × Int) (h : Nat → Int64), gT x x5 x4 x3 y0 r1 x6 → ¬ x.1 = tkBad → RP (sOnce f0 x1 x2 x f1 h f2 1 2 60) z28 z18 z19 (fun y => gT y z15 z14 z13 fy20 fr16 z17) ff29 h (upz f2 1 1) from (by intro x h hx hb; have k1 := gT_bad hx; rw [sOnce]; rw [if_neg (by omega)]; have g1 := gT_nx hx pq11; have g2 := pq26 _ g1; by_cases hr : z12 = 1; (refine bdV_ok g2.1 hr ?_; refine ⟨by omega, g2.2 hr, pq34 hr, rfl, rfl⟩); (exact bdV_bad g2.1 (by omega) (by omega)))), (show kpB z28 x7 z18 from (fun hr => by have y1 := pq27 (by omega); omega))⟩ w (by decide) rfl
  · replace c_2 : ¬ (f2 1) = 0 := fun h => c_2 ((iz_eq (by omega) (by omega)).mpr h)
    refine lv_aload_n hx hb dX12_readOnce_9 rfl (lv_at hl 0 rfl) ?_
    refine lv_iconst (v := iI 3) hx hb dX12_readOnce_10 (by decide +kernel) ?_
    refine k_I (ce := 0) (sl := 0) (rest := []) (wr := [(a1, .inl (T 0, 940, .inl (cI f0))), (a3, .inl (T 0, 53, .inl (cI f1))), (a11, .inl (T 2, 3, .inl (cI f2)))]) (r_V (f := 0) [0] M w V_HookedCityModel_72 G1667 G55 (c45_X12_bad l D T _ a0 3 r0 a1 x0 x1 x2 x3 x4 x5 r1 x6 x7 x8 y0 x9 a2 a3 a4 a5 a6 a7 a8 a9 a10 a11 x10 a12 a13 a14 a15 x11 r2 r3 a16 x12 x13 a17 a18 x14 a19 x15 r4 a20 a21 x16 r5 a22 x17 x18 x19 x20 (by decide) (by decide) x0_a x0_b x1_a x1_b x2_a x2_b x3_a x3_b x4_a x4_b x5_a x5_b x6_a x6_b x7_a x7_b x8_a x8_b x9_a x9_b x10_a x10_b x11_a x11_b x12_a x12_b x13_a x13_b x14_a x14_b x15_a x15_b x16_a x16_b x17_a x17_b x18_a x18_b x19_a x19_b x20_a x20_b) 0 clX12 rfl rfl (by decide) rfl hl.1 rfl (Nat.le_of_ble_eq_true rfl) dX12_readOnce_11 (by decide) (by decide) (by decide) (by decide)) w [0] [1, 2, 3] rfl rfl (by decide) (by decide) rfl rfl (fun v u H locs hp w => ?_)
    obtain ⟨z35, z36, z37⟩ := u
    have hv : iI z35 = v := hp.1
    subst hv
    have z35_a : 0 ≤ z35 := hp.2.1
    have z35_b : z35 ≤ 1 := hp.2.2.1
    have z36_a : (-2147483648) ≤ z36 := hp.2.2.2.1
    have z36_b : z36 ≤ 2147483647 := hp.2.2.2.2.1
    have z37_a : 0 ≤ z37 := hp.2.2.2.2.2.1
    have z37_b : z37 ≤ 940 := hp.2.2.2.2.2.2.1
    have pq38 : baQ x5 3 z36 := hp.2.2.2.2.2.2.2.1
    have pq39 : z37 = x4 := hp.2.2.2.2.2.2.2.2.1
    have w : WD D A s.heap [(a1, .inl (T 0, 940, .inl (cI f0))), (a3, .inl (T 0, 53, .inl (cI f1))), (a11, .inl (T 2, 3, .inl (cI f2))), (a0, .inr (11, [.int r0, .ref a1, .int (iI x0), .int (iI x1), .int (iI x2), .int (iI x3), .int (iI x4), .int (iI x5), .int r1, .int (iI x6), .int (iI z36), .int (iI z37), .long y0, .int (iI x9), .ref a2, .ref a3, .ref a4, .ref a5, .ref a6, .ref a7, .ref a8, .ref a9, .ref a10, .ref a11, .int (iI x10), .ref a12, .ref a13, .ref a14, .ref a15, .int (iI x11), .int r2, .int r3, .ref a16, .int (iI x12), .int (iI x13), .ref a17, .ref a18, .int (iI x14), .ref a19, .int (iI x15), .int r4, .ref a20, .ref a21, .int (iI x16), .int r5, .ref a22, .int (iI x17), .int (iI x18), .int (iI x19), .int (iI x20)]))] H locs := w
    rcases hp.2.2.2.2.2.2.2.2.2 with hr
    · subst hr
      exact ret _ (0, x3, x4, x5, r1, x6, z36, z37, y0, x9, f1, f2) _ _ _ _ _ [3, 0, 1, 2] dX12_readOnce_14 (by decide +kernel) ⟨rfl, (show (0 : Int) ≤ 0 from by decide), (show (0 : Int) ≤ 1 from by decide), x3_a, x3_b, x4_a, x4_b, x5_a, x5_b, x6_a, x6_b, z36_a, z36_b, z37_a, z37_b, x9_a, x9_b, f1_h, f2_h, (show 0 ≤ (x3 - x3) from by omega), (show 0 ≤ ((((x3 - x3) - x5) + 4) - 0) from by omega), (show ∀ (x : Tk × Int × Int) (h : Nat → Int64), gT x x5 x4 x3 y0 r1 x6 → ¬ x.1 = tkBad → RP (sOnce f0 x1 x2 x f1 h f2 1 2 60) 0 z36 z37 (fun y => gT y x5 x4 x3 y0 r1 x6) f1 h f2 from (by intro x h hx hb; have k1 := gT_bad hx; rw [sOnce]; rw [if_pos (by omega)]; exact ⟨rfl, by have e9 := pq38; unfold baQ at e9; rcases e9 with e9 | e9; exact absurd (k1.mp e9.1) hb; exact e9.2, pq39.trans hx.1⟩)), (show kpB 0 x7 z36 from (fun e => absurd e (by decide)))⟩ w (by decide) rfl
set_option maxRecDepth 100000 in
set_option maxHeartbeats 4000000 in
theorem c64_X12_readOnce (l : Launch) (D : va_G) (T : Nat → ClassId) (sz : Nat) (a0 : Nat) (r0 : Int32) (a1 : Nat) (x0 : Int) (x1 : Int) (x2 : Int) (x3 : Int) (x4 : Int) (x5 : Int) (r1 : Int32) (x6 : Int) (x7 : Int) (x8 : Int) (y0 : Int64) (x9 : Int) (a2 : Nat) (a3 : Nat) (a4 : Nat) (a5 : Nat) (a6 : Nat) (a7 : Nat) (a8 : Nat) (a9 : Nat) (a10 : Nat) (a11 : Nat) (x10 : Int) (a12 : Nat) (a13 : Nat) (a14 : Nat) (a15 : Nat) (x11 : Int) (r2 : Int32) (r3 : Int32) (a16 : Nat) (x12 : Int) (x13 : Int) (a17 : Nat) (a18 : Nat) (x14 : Int) (a19 : Nat) (x15 : Int) (r4 : Int32) (a20 : Nat) (a21 : Nat) (x16 : Int) (r5 : Int32) (a22 : Nat) (x17 : Int) (x18 : Int) (x19 : Int) (x20 : Int) (f0 : Int → Int) (f1 : Int → Int) (f2 : Int → Int) (x0_a : 0 ≤ x0) (x0_b : x0 ≤ 940) (x1_a : 0 ≤ x1) (x1_b : x1 ≤ 940) (x2_a : 0 ≤ x2) (x2_b : x2 ≤ 940) (x3_a : 0 ≤ x3) (x3_b : x3 ≤ 940) (x4_a : 0 ≤ x4) (x4_b : x4 ≤ 940) (x5_a : 0 ≤ x5) (x5_b : x5 ≤ 4) (x6_a : (-2147483648) ≤ x6) (x6_b : x6 ≤ 2147483647) (x7_a : (-2147483648) ≤ x7) (x7_b : x7 ≤ 2147483647) (x8_a : 0 ≤ x8) (x8_b : x8 ≤ 940) (x9_a : (-2147483648) ≤ x9) (x9_b : x9 ≤ 2147483647) (x10_a : 0 ≤ x10) (x10_b : x10 ≤ 8) (x11_a : 0 ≤ x11) (x11_b : x11 ≤ 9) (x12_a : (-1) ≤ x12) (x12_b : x12 ≤ 9) (x13_a : (-1) ≤ x13) (x13_b : x13 ≤ 8) (x14_a : 0 ≤ x14) (x14_b : x14 ≤ 9) (x15_a : 0 ≤ x15) (x15_b : x15 ≤ 64) (x16_a : 0 ≤ x16) (x16_b : x16 ≤ 40) (x17_a : 0 ≤ x17) (x17_b : x17 ≤ 40) (x18_a : 0 ≤ x18) (x18_b : x18 ≤ 20) (x19_a : 0 ≤ x19) (x19_b : x19 ≤ 8) (x20_a : 0 ≤ x20) (x20_b : x20 ≤ 39) (f0_h : rng 0 255 f0) (f1_h : rdI f1) (f2_h : rng 0 1 f2) : Met l yX12_readOnce (Cond.code yX12_readOnce cX12_readOnce 4 (some .boolean) :: GW) (Rm 3 0 0) (cPre [.ref a0, .int (iI 0), .int (iI 0), .int (iI 20)] D T [(a0, .inr (11, [.int r0, .ref a1, .int (iI x0), .int (iI x1), .int (iI x2), .int (iI x3), .int (iI x4), .int (iI x5), .int r1, .int (iI x6), .int (iI x7), .int (iI x8), .long y0, .int (iI x9), .ref a2, .ref a3, .ref a4, .ref a5, .ref a6, .ref a7, .ref a8, .ref a9, .ref a10, .ref a11, .int (iI x10), .ref a12, .ref a13, .ref a14, .ref a15, .int (iI x11), .int r2, .int r3, .ref a16, .int (iI x12), .int (iI x13), .ref a17, .ref a18, .int (iI x14), .ref a19, .int (iI x15), .int r4, .ref a20, .ref a21, .int (iI x16), .int r5, .ref a22, .int (iI x17), .int (iI x18), .int (iI x19), .int (iI x20)])), (a1, .inl (T 0, 940, .inl (cI f0))), (a3, .inl (T 0, 53, .inl (cI f1))), (a11, .inl (T 2, 3, .inl (cI f2)))] sz) (qI D [(a0, .inr (11, [.int r0, .ref a1, .int (iI x0), .int (iI x1), .int (iI x2), .int (iI x3), .int (iI x4), .int (iI x5), .int r1, .int (iI x6), .int (iI x7), .int (iI x8), .long y0, .int (iI x9), .ref a2, .ref a3, .ref a4, .ref a5, .ref a6, .ref a7, .ref a8, .ref a9, .ref a10, .ref a11, .int (iI x10), .ref a12, .ref a13, .ref a14, .ref a15, .int (iI x11), .int r2, .int r3, .ref a16, .int (iI x12), .int (iI x13), .ref a17, .ref a18, .int (iI x14), .ref a19, .int (iI x15), .int r4, .ref a20, .ref a21, .int (iI x16), .int r5, .ref a22, .int (iI x17), .int (iI x18), .int (iI x19), .int (iI x20)])), (a1, .inl (T 0, 940, .inl (cI f0))), (a3, .inl (T 0, 53, .inl (cI f1))), (a11, .inl (T 2, 3, .inl (cI f2)))] sz (fun (v : Int32) (u : Int × Int × Int × Int × Int32 × Int × Int × Int × Int64 × Int × (Int → Int) × (Int → Int)) => iI u.1 = v ∧ 0 ≤ u.1 ∧ u.1 ≤ 1 ∧ 0 ≤ u.2.1 ∧ u.2.1 ≤ 940 ∧ 0 ≤ u.2.2.1 ∧ u.2.2.1 ≤ 940 ∧ 0 ≤ u.2.2.2.1 ∧ u.2.2.2.1 ≤ 4 ∧ (-2147483648) ≤ u.2.2.2.2.2.1 ∧ u.2.2.2.2.2.1 ≤ 2147483647 ∧ (-2147483648) ≤ u.2.2.2.2.2.2.1 ∧ u.2.2.2.2.2.2.1 ≤ 2147483647 ∧ 0 ≤ u.2.2.2.2.2.2.2.1 ∧ u.2.2.2.2.2.2.2.1 ≤ 940 ∧ (-2147483648) ≤ u.2.2.2.2.2.2.2.2.2.1 ∧ u.2.2.2.2.2.2.2.2.2.1 ≤ 2147483647 ∧ rdI u.2.2.2.2.2.2.2.2.2.2.1 ∧ rng 0 1 u.2.2.2.2.2.2.2.2.2.2.2 ∧ 0 ≤ (u.2.1 - x3) ∧ 0 ≤ ((((u.2.1 - x3) - u.2.2.2.1) + 4) - u.1) ∧ (∀ (x : Tk × Int × Int) (h : Nat → Int64), gT x x5 x4 x3 y0 r1 x6 → ¬ x.1 = tkBad → RP (sOnce f0 x1 x2 x f1 h f2 0 0 20) u.1 u.2.2.2.2.2.2.1 u.2.2.2.2.2.2.2.1 (fun y => gT y u.2.2.2.1 u.2.2.1 u.2.1 u.2.2.2.2.2.2.2.2.1 u.2.2.2.2.1 u.2.2.2.2.2.1) u.2.2.2.2.2.2.2.2.2.2.1 h u.2.2.2.2.2.2.2.2.2.2.2) ∧ (kpB u.1 x7 u.2.2.2.2.2.2.1)) (fun u => [(a0, .inr (11, [.int r0, .ref a1, .int (iI x0), .int (iI x1), .int (iI x2), .int (iI u.2.1), .int (iI u.2.2.1), .int (iI u.2.2.2.1), .int u.2.2.2.2.1, .int (iI u.2.2.2.2.2.1), .int (iI u.2.2.2.2.2.2.1), .int (iI u.2.2.2.2.2.2.2.1), .long u.2.2.2.2.2.2.2.2.1, .int (iI u.2.2.2.2.2.2.2.2.2.1), .ref a2, .ref a3, .ref a4, .ref a5, .ref a6, .ref a7, .ref a8, .ref a9, .ref a10, .ref a11, .int (iI x10), .ref a12, .ref a13, .ref a14, .ref a15, .int (iI x11), .int r2, .int r3, .ref a16, .int (iI x12), .int (iI x13), .ref a17, .ref a18, .int (iI x14), .ref a19, .int (iI x15), .int r4, .ref a20, .ref a21, .int (iI x16), .int r5, .ref a22, .int (iI x17), .int (iI x18), .int (iI x19), .int (iI x20)])), (a1, .inl (T 0, 940, .inl (cI f0))), (a3, .inl (T 0, 53, .inl (cI u.2.2.2.2.2.2.2.2.2.2.1))), (a11, .inl (T 2, 3, .inl (cI u.2.2.2.2.2.2.2.2.2.2.2)))])) 0 0 (va_A [(a0, .inr (11, [.int r0, .ref a1, .int (iI x0), .int (iI x1), .int (iI x2), .int (iI x3), .int (iI x4), .int (iI x5), .int r1, .int (iI x6), .int (iI x7), .int (iI x8), .long y0, .int (iI x9), .ref a2, .ref a3, .ref a4, .ref a5, .ref a6, .ref a7, .ref a8, .ref a9, .ref a10, .ref a11, .int (iI x10), .ref a12, .ref a13, .ref a14, .ref a15, .int (iI x11), .int r2, .int r3, .ref a16, .int (iI x12), .int (iI x13), .ref a17, .ref a18, .int (iI x14), .ref a19, .int (iI x15), .int r4, .ref a20, .ref a21, .int (iI x16), .int r5, .ref a22, .int (iI x17), .int (iI x18), .int (iI x19), .int (iI x20)])), (a1, .inl (T 0, 940, .inl (cI f0))), (a3, .inl (T 0, 53, .inl (cI f1))), (a11, .inl (T 2, 3, .inl (cI f2)))] sz) := by
  refine e_Z (by decide) (Nat.le_of_ble_eq_true rfl) ?_
  intro p e s m args below meth c A Q ls M hin w ret hl
  have hx := M.1.1
  have hb := M.1.2.1
  have hl : lv_has ls 4 [(0, .ref a0), (1, .int (iI 0)), (2, .int (iI 0)), (3, .int (iI 20))] := hl
  refine lv_aload_n hx hb dX12_readOnce_0 rfl (lv_at hl 0 rfl) ?_
  refine r_get (v := .ref a11) M w 0 23 clX12 rfl (by decide) G1486 rfl rfl dX12_readOnce_1 ?_
  refine lv_iload_n hx hb dX12_readOnce_4 rfl (lv_at hl 1 rfl) ?_
  refine r_zald (v := iI (f2 0)) M w 3 rfl (iI_in (by decide) (by decide) (by decide)) (cI_at (by omega) (by omega)) dX12_readOnce_5 ?_
  have hh1 : 0 ≤ (f2 0) ∧ (f2 0) ≤ 1 := f2_h 0
  refine lv_if_eq (tgt := 15) hx hb dX12_readOnce_6 (by decide) (fun c_2 => ?_) (fun c_2 => ?_)
  · replace c_2 := (iz_eq (by omega) (by omega)).mp c_2
    refine lv_aload_n hx hb dX12_readOnce_15 rfl (lv_at hl 0 rfl) ?_
    refine r_get (v := .ref a11) M w 0 23 clX12 rfl (by decide) G1486 rfl rfl dX12_readOnce_16 ?_
    refine lv_iload_n hx hb dX12_readOnce_19 rfl (lv_at hl 1 rfl) ?_
    refine lv_iconst (v := iI 1) hx hb dX12_readOnce_20 (by decide +kernel) ?_
    refine r_zast (x2 := iI 1) (ws' := [(a0, .inr (11, [.int r0, .ref a1, .int (iI x0), .int (iI x1), .int (iI x2), .int (iI x3), .int (iI x4), .int (iI x5), .int r1, .int (iI x6), .int (iI x7), .int (iI x8), .long y0, .int (iI x9), .ref a2, .ref a3, .ref a4, .ref a5, .ref a6, .ref a7, .ref a8, .ref a9, .ref a10, .ref a11, .int (iI x10), .ref a12, .ref a13, .ref a14, .ref a15, .int (iI x11), .int r2, .int r3, .ref a16, .int (iI x12), .int (iI x13), .ref a17, .ref a18, .int (iI x14), .ref a19, .int (iI x15), .int r4, .ref a20, .ref a21, .int (iI x16), .int r5, .ref a22, .int (iI x17), .int (iI x18), .int (iI x19), .int (iI x20)])), (a1, .inl (T 0, 940, .inl (cI f0))), (a3, .inl (T 0, 53, .inl (cI f1))), (a11, .inl (T 2, 3, .inl (cI (upz f2 0 1))))]) M w 3 rfl (iI_in (by decide) (by decide) (by decide)) (nb_z (by omega) (by omega)) (by rw [cI_up (by omega) (by omega)]; rfl) dX12_readOnce_21 (fun H locs w => ?_)
    refine lv_aload_n hx hb dX12_readOnce_22 rfl (lv_at hl 0 rfl) ?_
    refine k_V (ce := 0) (sl := 0) (rest := []) (wr := [(a3, .inl (T 0, 53, .inl (cI f1))), (a11, .inl (T 2, 3, .inl (cI (upz f2 0 1))))]) (r_V (f := 1) [0, 1] M w V_HookedCityModel_82 G1629 G49 (c12_X12_go l D T _ a0 r0 a1 x0 x1 x2 x3 x4 x5 r1 x6 x7 x8 y0 x9 a2 a3 a4 a5 a6 a7 a8 a9 a10 a11 x10 a12 a13 a14 a15 x11 r2 r3 a16 x12 x13 a17 a18 x14 a19 x15 r4 a20 a21 x16 r5 a22 x17 x18 x19 x20 f0 x0_a x0_b x1_a x1_b x2_a x2_b x3_a x3_b x4_a x4_b x5_a x5_b x6_a x6_b x7_a x7_b x8_a x8_b x9_a x9_b x10_a x10_b x11_a x11_b x12_a x12_b x13_a x13_b x14_a x14_b x15_a x15_b x16_a x16_b x17_a x17_b x18_a x18_b x19_a x19_b x20_a x20_b f0_h) 0 clX12 rfl rfl (by decide) rfl hl.1 rfl (Nat.le_of_ble_eq_true rfl) dX12_readOnce_23 (by decide) (by decide) (by decide) (by decide)) w [0, 1] [2, 3] rfl rfl (by decide) (by decide) rfl rfl (fun u H locs hp w => ?_)
    obtain ⟨z3, z4, z5, fr6, z7, fy8⟩ := u
    have z3_a : 0 ≤ z3 := hp.1
    have z3_b : z3 ≤ 940 := hp.2.1
    have z4_a : 0 ≤ z4 := hp.2.2.1
    have z4_b : z4 ≤ 940 := hp.2.2.2.1
    have z5_a : 0 ≤ z5 := hp.2.2.2.2.1
    have z5_b : z5 ≤ 4 := hp.2.2.2.2.2.1
    have z7_a : (-2147483648) ≤ z7 := hp.2.2.2.2.2.2.1
    have z7_b : z7 ≤ 2147483647 := hp.2.2.2.2.2.2.2.1
    have ee9 : 0 ≤ (z3 - x3) := hp.2.2.2.2.2.2.2.2.1
    have ee10 : 0 ≤ (((z3 - x3) - z5) + 3) := hp.2.2.2.2.2.2.2.2.2.1
    have pq11 : gT (tkAt f0 x1 x2 x3) z5 z4 z3 fy8 fr6 z7 := hp.2.2.2.2.2.2.2.2.2.2
    have w : WD D A s.heap [(a3, .inl (T 0, 53, .inl (cI f1))), (a11, .inl (T 2, 3, .inl (cI (upz f2 0 1)))), (a0, .inr (11, [.int r0, .ref a1, .int (iI x0), .int (iI x1), .int (iI x2), .int (iI z3), .int (iI z4), .int (iI z5), .int fr6, .int (iI z7), .int (iI x7), .int (iI x8), .long fy8, .int (iI x9), .ref a2, .ref a3, .ref a4, .ref a5, .ref a6, .ref a7, .ref a8, .ref a9, .ref a10, .ref a11, .int (iI x10), .ref a12, .ref a13, .ref a14, .ref a15, .int (iI x11), .int r2, .int r3, .ref a16, .int (iI x12), .int (iI x13), .ref a17, .ref a18, .int (iI x14), .ref a19, .int (iI x15), .int r4, .ref a20, .ref a21, .int (iI x16), .int r5, .ref a22, .int (iI x17), .int (iI x18), .int (iI x19), .int (iI x20)])), (a1, .inl (T 0, 940, .inl (cI f0)))] H locs := w
    refine lv_aload_n hx hb dX12_readOnce_26 rfl (lv_at hl 0 rfl) ?_
    refine lv_iconst (v := iI 2) hx hb dX12_readOnce_27 (by decide +kernel) ?_
    refine lv_iload_n hx hb dX12_readOnce_28 rfl (lv_at hl 1 rfl) ?_
    refine r_iadd (v := iI 2) M (by decide +kernel) dX12_readOnce_29 ?_
    refine lv_aload_n hx hb dX12_readOnce_30 rfl (lv_at hl 0 rfl) ?_
    refine lv_iload_n hx hb dX12_readOnce_31 rfl (lv_at hl 2 rfl) ?_
    refine lv_iload_n hx hb dX12_readOnce_32 rfl (lv_at hl 3 rfl) ?_
    refine k_I (ce := 0) (sl := 0) (rest := [.int (iI 2), .ref a0]) (wr := [(a3, .inl (T 0, 53, .inl (cI f1))), (a11, .inl (T 2, 3, .inl (cI (upz f2 0 1))))]) (r_V (f := 2) [2, 3] M w V_HookedCityModel_200 G1690 G60 (c46_X12_readNumber l D T _ a0 0 20 r0 a1 x0 x1 x2 z3 z4 z5 fr6 z7 x7 x8 fy8 x9 a2 a3 a4 a5 a6 a7 a8 a9 a10 a11 x10 a12 a13 a14 a15 x11 r2 r3 a16 x12 x13 a17 a18 x14 a19 x15 r4 a20 a21 x16 r5 a22 x17 x18 x19 x20 f0 (by decide) (by decide) (by decide) (by decide) x0_a x0_b x1_a x1_b x2_a x2_b z3_a z3_b z4_a z4_b z5_a z5_b z7_a z7_b x7_a x7_b x8_a x8_b x9_a x9_b x10_a x10_b x11_a x11_b x12_a x12_b x13_a x13_b x14_a x14_b x15_a x15_b x16_a x16_b x17_a x17_b x18_a x18_b x19_a x19_b x20_a x20_b f0_h) 2 clX12 rfl rfl (by decide) rfl hl.1 rfl (Nat.le_of_ble_eq_true rfl) dX12_readOnce_33 (by decide) (by decide) (by decide) (by decide)) w [2, 3] [0, 1] rfl rfl (by decide) (by decide) rfl rfl (fun v u H locs hp w => ?_)
    obtain ⟨z12, z13, z14, z15, fr16, z17, z18, z19, fy20, z21⟩ := u
    have hv : iI z12 = v := hp.1
    subst hv
    have z12_a : 0 ≤ z12 := hp.2.1
    have z12_b : z12 ≤ 1 := hp.2.2.1
    have z13_a : 0 ≤ z13 := hp.2.2.2.1
    have z13_b : z13 ≤ 940 := hp.2.2.2.2.1
    have z14_a : 0 ≤ z14 := hp.2.2.2.2.2.1
    have z14_b : z14 ≤ 940 := hp.2.2.2.2.2.2.1
    have z15_a : 0 ≤ z15 := hp.2.2.2.2.2.2.2.1
    have z15_b : z15 ≤ 4 := hp.2.2.2.2.2.2.2.2.1
    have z17_a : (-2147483648) ≤ z17 := hp.2.2.2.2.2.2.2.2.2.1
    have z17_b : z17 ≤ 2147483647 := hp.2.2.2.2.2.2.2.2.2.2.1
    have z18_a : (-2147483648) ≤ z18 := hp.2.2.2.2.2.2.2.2.2.2.2.1
    have z18_b : z18 ≤ 2147483647 := hp.2.2.2.2.2.2.2.2.2.2.2.2.1
    have z19_a : 0 ≤ z19 := hp.2.2.2.2.2.2.2.2.2.2.2.2.2.1
    have z19_b : z19 ≤ 940 := hp.2.2.2.2.2.2.2.2.2.2.2.2.2.2.1
    have z21_a : (-2147483648) ≤ z21 := hp.2.2.2.2.2.2.2.2.2.2.2.2.2.2.2.1
    have z21_b : z21 ≤ 2147483647 := hp.2.2.2.2.2.2.2.2.2.2.2.2.2.2.2.2.1
    have ee22 : 0 ≤ (z13 - z3) := hp.2.2.2.2.2.2.2.2.2.2.2.2.2.2.2.2.2.1
    have ee23 : 0 ≤ ((((z13 - z3) - z15) + 4) - z12) := hp.2.2.2.2.2.2.2.2.2.2.2.2.2.2.2.2.2.2.1
    have ee24 : 0 ≤ (((z21 - 0) + 4294967296) - (z12 * 4294967296)) := hp.2.2.2.2.2.2.2.2.2.2.2.2.2.2.2.2.2.2.2.1
    have ee25 : 0 ≤ (((20 - z21) + 4294967296) - (z12 * 4294967296)) := hp.2.2.2.2.2.2.2.2.2.2.2.2.2.2.2.2.2.2.2.2.1
    have pq26 : ∀ x : Tk × Int × Int, gT x z5 z4 z3 fy8 fr6 z7 → RV (sNu 0 20 x) z12 z18 z19 z21 ∧ (z12 = 1 → gT (nx f0 x1 x2 x) z15 z14 z13 fy20 fr16 z17) := hp.2.2.2.2.2.2.2.2.2.2.2.2.2.2.2.2.2.2.2.2.2.1
    have pq27 : kpB z12 x7 z18 := hp.2.2.2.2.2.2.2.2.2.2.2.2.2.2.2.2.2.2.2.2.2.2
    have w : WD D A s.heap [(a3, .inl (T 0, 53, .inl (cI f1))), (a11, .inl (T 2, 3, .inl (cI (upz f2 0 1)))), (a0, .inr (11, [.int r0, .ref a1, .int (iI x0), .int (iI x1), .int (iI x2), .int (iI z13), .int (iI z14), .int (iI z15), .int fr16, .int (iI z17), .int (iI z18), .int (iI z19), .long fy20, .int (iI z21), .ref a2, .ref a3, .ref a4, .ref a5, .ref a6, .ref a7, .ref a8, .ref a9, .ref a10, .ref a11, .int (iI x10), .ref a12, .ref a13, .ref a14, .ref a15, .int (iI x11), .int r2, .int r3, .ref a16, .int (iI x12), .int (iI x13), .ref a17, .ref a18, .int (iI x14), .ref a19, .int (iI x15), .int r4, .ref a20, .ref a21, .int (iI x16), .int r5, .ref a22, .int (iI x17), .int (iI x18), .int (iI x19), .int (iI x20)])), (a1, .inl (T 0, 940, .inl (cI f0)))] H locs := w
    refine k_I (ce := 0) (sl := 0) (rest := []) (wr := [(a11, .inl (T 2, 3, .inl (cI (upz f2 0 1)))), (a1, .inl (T 0, 940, .inl (cI f0)))]) (r_V (f := 0) [2, 0] M w V_HookedCityModel_196 G1686 G59 (c55_X12_put l D T _ a0 2 z12 r0 a1 x0 x1 x2 z13 z14 z15 fr16 z17 z18 z19 fy20 z21 a2 a3 a4 a5 a6 a7 a8 a9 a10 a11 x10 a12 a13 a14 a15 x11 r2 r3 a16 x12 x13 a17 a18 x14 a19 x15 r4 a20 a21 x16 r5 a22 x17 x18 x19 x20 f1 (by decide) (by decide) z12_a z12_b x0_a x0_b x1_a x1_b x2_a x2_b z13_a z13_b z14_a z14_b z15_a z15_b z17_a z17_b z18_a z18_b z19_a z19_b z21_a z21_b x10_a x10_b x11_a x11_b x12_a x12_b x13_a x13_b x14_a x14_b x15_a x15_b x16_a x16_b x17_a x17_b x18_a x18_b x19_a x19_b x20_a x20_b f1_h (fun h => rd_up f1_h (by omega) (by omega) (by unfold rr; omega) (fun h => absurd h (by omega)) (by omega))) 2 clX12 rfl rfl (by decide) rfl hl.1 rfl (Nat.le_of_ble_eq_true rfl) dX12_readOnce_36 (by decide) (by decide) (by decide) (by decide)) w [2, 0] [1, 3] rfl rfl (by decide) (by decide) rfl rfl (fun v u H locs hp w => ?_)
    obtain ⟨z28, ff29⟩ := u
    have hv : iI z28 = v := hp.1
    subst hv
    have z28_a : 0 ≤ z28 := hp.2.1
    have z28_b : z28 ≤ 1 := hp.2.2.1
    have ff29_h : rdI ff29 := hp.2.2.2.1
    have ee30 : 0 ≤ (z12 - z28) := hp.2.2.2.2.1
    have ee31 : 0 ≤ (z28 - z12) := hp.2.2.2.2.2.1
    have pq32 : ff29 0 = f1 0 := hp.2.2.2.2.2.2.1
    have pq33 : ff29 1 = f1 1 := hp.2.2.2.2.2.2.2.1
    have pq34 : z12 = 1 → ff29 = upz f1 2 z21 := hp.2.2.2.2.2.2.2.2
    have w : WD D A s.heap [(a11, .inl (T 2, 3, .inl (cI (upz f2 0 1)))), (a1, .inl (T 0, 940, .inl (cI f0))), (a0, .inr (11, [.int r0, .ref a1, .int (iI x0), .int (iI x1), .int (iI x2), .int (iI z13), .int (iI z14), .int (iI z15), .int fr16, .int (iI z17), .int (iI z18), .int (iI z19), .long fy20, .int (iI z21), .ref a2, .ref a3, .ref a4, .ref a5, .ref a6, .ref a7, .ref a8, .ref a9, .ref a10, .ref a11, .int (iI x10), .ref a12, .ref a13, .ref a14, .ref a15, .int (iI x11), .int r2, .int r3, .ref a16, .int (iI x12), .int (iI x13), .ref a17, .ref a18, .int (iI x14), .ref a19, .int (iI x15), .int r4, .ref a20, .ref a21, .int (iI x16), .int r5, .ref a22, .int (iI x17), .int (iI x18), .int (iI x19), .int (iI x20)])), (a3, .inl (T 0, 53, .inl (cI ff29)))] H locs := w
    exact ret _ (z28, z13, z14, z15, fr16, z17, z18, z19, fy20, z21, ff29, (upz f2 0 1)) _ _ _ _ _ [2, 1, 3, 0] dX12_readOnce_39 (nb_n (by omega) (by omega)) ⟨rfl, z28_a, z28_b, z13_a, z13_b, z14_a, z14_b, z15_a, z15_b, z17_a, z17_b, z18_a, z18_b, z19_a, z19_b, z21_a, z21_b, ff29_h, (rng_up f2_h (by omega) (by omega)), (show 0 ≤ (z13 - x3) from by omega), (show 0 ≤ ((((z13 - x3) - z15) + 4) - z28) from by omega), (show ∀ (x : Tk × Int × Int) (h : Nat → Int64), gT x x5 x4 x3 y0 r1 x6 → ¬ x.1 = tkBad → RP (sOnce f0 x1 x2 x f1 h f2 0 0 20) z28 z18 z19 (fun y => gT y z15 z14 z13 fy20 fr16 z17) ff29 h (upz f2 0 1) from (by intro x h hx hb; have k1 := gT_bad hx; rw [sOnce]; rw [if_neg (by omega)]; have g1 := gT_nx hx pq11; have g2 := pq26 _ g1; by_cases hr : z12 = 1; (refine bdV_ok g2.1 hr ?_; refine ⟨by omega, g2.2 hr, pq34 hr, rfl, rfl⟩); (exact bdV_bad g2.1 (by omega) (by omega)))), (show kpB z28 x7 z18 from (fun hr => by have y1 := pq27 (by omega); omega))⟩ w (by decide) rfl
  · replace c_2 : ¬ (f2 0) = 0 := fun h => c_2 ((iz_eq (by omega) (by omega)).mpr h)
    refine lv_aload_n hx hb dX12_readOnce_9 rfl (lv_at hl 0 rfl) ?_
    refine lv_iconst (v := iI 3) hx hb dX12_readOnce_10 (by decide +kernel) ?_
    refine k_I (ce := 0) (sl := 0) (rest := []) (wr := [(a1, .inl (T 0, 940, .inl (cI f0))), (a3, .inl (T 0, 53, .inl (cI f1))), (a11, .inl (T 2, 3, .inl (cI f2)))]) (r_V (f := 0) [0] M w V_HookedCityModel_72 G1667 G55 (c45_X12_bad l D T _ a0 3 r0 a1 x0 x1 x2 x3 x4 x5 r1 x6 x7 x8 y0 x9 a2 a3 a4 a5 a6 a7 a8 a9 a10 a11 x10 a12 a13 a14 a15 x11 r2 r3 a16 x12 x13 a17 a18 x14 a19 x15 r4 a20 a21 x16 r5 a22 x17 x18 x19 x20 (by decide) (by decide) x0_a x0_b x1_a x1_b x2_a x2_b x3_a x3_b x4_a x4_b x5_a x5_b x6_a x6_b x7_a x7_b x8_a x8_b x9_a x9_b x10_a x10_b x11_a x11_b x12_a x12_b x13_a x13_b x14_a x14_b x15_a x15_b x16_a x16_b x17_a x17_b x18_a x18_b x19_a x19_b x20_a x20_b) 0 clX12 rfl rfl (by decide) rfl hl.1 rfl (Nat.le_of_ble_eq_true rfl) dX12_readOnce_11 (by decide) (by decide) (by decide) (by decide)) w [0] [1, 2, 3] rfl rfl (by decide) (by decide) rfl rfl (fun v u H locs hp w => ?_)
    obtain ⟨z35, z36, z37⟩ := u
    have hv : iI z35 = v := hp.1
    subst hv
    have z35_a : 0 ≤ z35 := hp.2.1
    have z35_b : z35 ≤ 1 := hp.2.2.1
    have z36_a : (-2147483648) ≤ z36 := hp.2.2.2.1
    have z36_b : z36 ≤ 2147483647 := hp.2.2.2.2.1
    have z37_a : 0 ≤ z37 := hp.2.2.2.2.2.1
    have z37_b : z37 ≤ 940 := hp.2.2.2.2.2.2.1
    have pq38 : baQ x5 3 z36 := hp.2.2.2.2.2.2.2.1
    have pq39 : z37 = x4 := hp.2.2.2.2.2.2.2.2.1
    have w : WD D A s.heap [(a1, .inl (T 0, 940, .inl (cI f0))), (a3, .inl (T 0, 53, .inl (cI f1))), (a11, .inl (T 2, 3, .inl (cI f2))), (a0, .inr (11, [.int r0, .ref a1, .int (iI x0), .int (iI x1), .int (iI x2), .int (iI x3), .int (iI x4), .int (iI x5), .int r1, .int (iI x6), .int (iI z36), .int (iI z37), .long y0, .int (iI x9), .ref a2, .ref a3, .ref a4, .ref a5, .ref a6, .ref a7, .ref a8, .ref a9, .ref a10, .ref a11, .int (iI x10), .ref a12, .ref a13, .ref a14, .ref a15, .int (iI x11), .int r2, .int r3, .ref a16, .int (iI x12), .int (iI x13), .ref a17, .ref a18, .int (iI x14), .ref a19, .int (iI x15), .int r4, .ref a20, .ref a21, .int (iI x16), .int r5, .ref a22, .int (iI x17), .int (iI x18), .int (iI x19), .int (iI x20)]))] H locs := w
    rcases hp.2.2.2.2.2.2.2.2.2 with hr
    · subst hr
      exact ret _ (0, x3, x4, x5, r1, x6, z36, z37, y0, x9, f1, f2) _ _ _ _ _ [3, 0, 1, 2] dX12_readOnce_14 (by decide +kernel) ⟨rfl, (show (0 : Int) ≤ 0 from by decide), (show (0 : Int) ≤ 1 from by decide), x3_a, x3_b, x4_a, x4_b, x5_a, x5_b, x6_a, x6_b, z36_a, z36_b, z37_a, z37_b, x9_a, x9_b, f1_h, f2_h, (show 0 ≤ (x3 - x3) from by omega), (show 0 ≤ ((((x3 - x3) - x5) + 4) - 0) from by omega), (show ∀ (x : Tk × Int × Int) (h : Nat → Int64), gT x x5 x4 x3 y0 r1 x6 → ¬ x.1 = tkBad → RP (sOnce f0 x1 x2 x f1 h f2 0 0 20) 0 z36 z37 (fun y => gT y x5 x4 x3 y0 r1 x6) f1 h f2 from (by intro x h hx hb; have k1 := gT_bad hx; rw [sOnce]; rw [if_pos (by omega)]; exact ⟨rfl, by have e9 := pq38; unfold baQ at e9; rcases e9 with e9 | e9; exact absurd (k1.mp e9.1) hb; exact e9.2, pq39.trans hx.1⟩)), (show kpB 0 x7 z36 from (fun e => absurd e (by decide)))⟩ w (by decide) rfl
set_option maxRecDepth 100000 in
set_option maxHeartbeats 4000000 in
theorem c65_X12_readLine (l : Launch) (D : va_G) (T : Nat → ClassId) (sz : Nat) (a0 : Nat) (r0 : Int32) (a1 : Nat) (x0 : Int) (x1 : Int) (x2 : Int) (x3 : Int) (x4 : Int) (x5 : Int) (r1 : Int32) (x6 : Int) (x7 : Int) (x8 : Int) (y0 : Int64) (x9 : Int) (a2 : Nat) (a3 : Nat) (a4 : Nat) (a5 : Nat) (a6 : Nat) (a7 : Nat) (a8 : Nat) (a9 : Nat) (a10 : Nat) (a11 : Nat) (x10 : Int) (a12 : Nat) (a13 : Nat) (a14 : Nat) (a15 : Nat) (x11 : Int) (r2 : Int32) (r3 : Int32) (a16 : Nat) (x12 : Int) (x13 : Int) (a17 : Nat) (a18 : Nat) (x14 : Int) (a19 : Nat) (x15 : Int) (r4 : Int32) (a20 : Nat) (a21 : Nat) (x16 : Int) (r5 : Int32) (a22 : Nat) (x17 : Int) (x18 : Int) (x19 : Int) (x20 : Int) (f0 : Int → Int) (f1 : Int → Int) (h0 : Nat → Int64) (f2 : Int → Int) (x0_a : 0 ≤ x0) (x0_b : x0 ≤ 940) (x1_a : 0 ≤ x1) (x1_b : x1 ≤ 940) (x2_a : 0 ≤ x2) (x2_b : x2 ≤ 940) (x3_a : 0 ≤ x3) (x3_b : x3 ≤ 940) (x4_a : 0 ≤ x4) (x4_b : x4 ≤ 940) (x5_a : 0 ≤ x5) (x5_b : x5 ≤ 4) (x6_a : (-2147483648) ≤ x6) (x6_b : x6 ≤ 2147483647) (x7_a : (-2147483648) ≤ x7) (x7_b : x7 ≤ 2147483647) (x8_a : 0 ≤ x8) (x8_b : x8 ≤ 940) (x9_a : (-2147483648) ≤ x9) (x9_b : x9 ≤ 2147483647) (x10_a : 0 ≤ x10) (x10_b : x10 ≤ 8) (x11_a : 0 ≤ x11) (x11_b : x11 ≤ 9) (x12_a : (-1) ≤ x12) (x12_b : x12 ≤ 9) (x13_a : (-1) ≤ x13) (x13_b : x13 ≤ 8) (x14_a : 0 ≤ x14) (x14_b : x14 ≤ 9) (x15_a : 0 ≤ x15) (x15_b : x15 ≤ 64) (x16_a : 0 ≤ x16) (x16_b : x16 ≤ 40) (x17_a : 0 ≤ x17) (x17_b : x17 ≤ 40) (x18_a : 0 ≤ x18) (x18_b : x18 ≤ 20) (x19_a : 0 ≤ x19) (x19_b : x19 ≤ 8) (x20_a : 0 ≤ x20) (x20_b : x20 ≤ 39) (f0_h : rng 0 255 f0) (f1_h : rdI f1) (f2_h : rng 0 1 f2) : Met l yX12_readLine (Cond.code yX12_readLine cX12_readLine 1 (some .boolean) :: GW) (Rm 5 0 0) (cPre [.ref a0] D T [(a0, .inr (11, [.int r0, .ref a1, .int (iI x0), .int (iI x1), .int (iI x2), .int (iI x3), .int (iI x4), .int (iI x5), .int r1, .int (iI x6), .int (iI x7), .int (iI x8), .long y0, .int (iI x9), .ref a2, .ref a3, .ref a4, .ref a5, .ref a6, .ref a7, .ref a8, .ref a9, .ref a10, .ref a11, .int (iI x10), .ref a12, .ref a13, .ref a14, .ref a15, .int (iI x11), .int r2, .int r3, .ref a16, .int (iI x12), .int (iI x13), .ref a17, .ref a18, .int (iI x14), .ref a19, .int (iI x15), .int r4, .ref a20, .ref a21, .int (iI x16), .int r5, .ref a22, .int (iI x17), .int (iI x18), .int (iI x19), .int (iI x20)])), (a1, .inl (T 0, 940, .inl (cI f0))), (a3, .inl (T 0, 53, .inl (cI f1))), (a8, .inl (T 1, 12, .inr (.inl h0))), (a11, .inl (T 2, 3, .inl (cI f2)))] sz) (qI D [(a0, .inr (11, [.int r0, .ref a1, .int (iI x0), .int (iI x1), .int (iI x2), .int (iI x3), .int (iI x4), .int (iI x5), .int r1, .int (iI x6), .int (iI x7), .int (iI x8), .long y0, .int (iI x9), .ref a2, .ref a3, .ref a4, .ref a5, .ref a6, .ref a7, .ref a8, .ref a9, .ref a10, .ref a11, .int (iI x10), .ref a12, .ref a13, .ref a14, .ref a15, .int (iI x11), .int r2, .int r3, .ref a16, .int (iI x12), .int (iI x13), .ref a17, .ref a18, .int (iI x14), .ref a19, .int (iI x15), .int r4, .ref a20, .ref a21, .int (iI x16), .int r5, .ref a22, .int (iI x17), .int (iI x18), .int (iI x19), .int (iI x20)])), (a1, .inl (T 0, 940, .inl (cI f0))), (a3, .inl (T 0, 53, .inl (cI f1))), (a8, .inl (T 1, 12, .inr (.inl h0))), (a11, .inl (T 2, 3, .inl (cI f2)))] sz (fun (v : Int32) (u : Int × Int × Int × Int × Int32 × Int × Int × Int × Int64 × Int × (Int → Int) × (Nat → Int64) × (Int → Int)) => iI u.1 = v ∧ 0 ≤ u.1 ∧ u.1 ≤ 1 ∧ 0 ≤ u.2.1 ∧ u.2.1 ≤ 940 ∧ 0 ≤ u.2.2.1 ∧ u.2.2.1 ≤ 940 ∧ 0 ≤ u.2.2.2.1 ∧ u.2.2.2.1 ≤ 4 ∧ (-2147483648) ≤ u.2.2.2.2.2.1 ∧ u.2.2.2.2.2.1 ≤ 2147483647 ∧ (-2147483648) ≤ u.2.2.2.2.2.2.1 ∧ u.2.2.2.2.2.2.1 ≤ 2147483647 ∧ 0 ≤ u.2.2.2.2.2.2.2.1 ∧ u.2.2.2.2.2.2.2.1 ≤ 940 ∧ (-2147483648) ≤ u.2.2.2.2.2.2.2.2.2.1 ∧ u.2.2.2.2.2.2.2.2.2.1 ≤ 2147483647 ∧ rdI u.2.2.2.2.2.2.2.2.2.2.1 ∧ rng 0 1 u.2.2.2.2.2.2.2.2.2.2.2.2 ∧ 0 ≤ (u.2.1 - x3) ∧ 0 ≤ ((((u.2.1 - x3) - u.2.2.2.1) + 4) - u.1) ∧ (∀ x : Tk × Int × Int, gT x x5 x4 x3 y0 r1 x6 → RP (sLine f0 x1 x2 x f1 h0 f2) u.1 u.2.2.2.2.2.2.1 u.2.2.2.2.2.2.2.1 (fun y => gT y u.2.2.2.1 u.2.2.1 u.2.1 u.2.2.2.2.2.2.2.2.1 u.2.2.2.2.1 u.2.2.2.2.2.1) u.2.2.2.2.2.2.2.2.2.2.1 u.2.2.2.2.2.2.2.2.2.2.2.1 u.2.2.2.2.2.2.2.2.2.2.2.2) ∧ (kpB u.1 x7 u.2.2.2.2.2.2.1)) (fun u => [(a0, .inr (11, [.int r0, .ref a1, .int (iI x0), .int (iI x1), .int (iI x2), .int (iI u.2.1), .int (iI u.2.2.1), .int (iI u.2.2.2.1), .int u.2.2.2.2.1, .int (iI u.2.2.2.2.2.1), .int (iI u.2.2.2.2.2.2.1), .int (iI u.2.2.2.2.2.2.2.1), .long u.2.2.2.2.2.2.2.2.1, .int (iI u.2.2.2.2.2.2.2.2.2.1), .ref a2, .ref a3, .ref a4, .ref a5, .ref a6, .ref a7, .ref a8, .ref a9, .ref a10, .ref a11, .int (iI x10), .ref a12, .ref a13, .ref a14, .ref a15, .int (iI x11), .int r2, .int r3, .ref a16, .int (iI x12), .int (iI x13), .ref a17, .ref a18, .int (iI x14), .ref a19, .int (iI x15), .int r4, .ref a20, .ref a21, .int (iI x16), .int r5, .ref a22, .int (iI x17), .int (iI x18), .int (iI x19), .int (iI x20)])), (a1, .inl (T 0, 940, .inl (cI f0))), (a3, .inl (T 0, 53, .inl (cI u.2.2.2.2.2.2.2.2.2.2.1))), (a8, .inl (T 1, 12, .inr (.inl u.2.2.2.2.2.2.2.2.2.2.2.1))), (a11, .inl (T 2, 3, .inl (cI u.2.2.2.2.2.2.2.2.2.2.2.2)))])) 0 0 (va_A [(a0, .inr (11, [.int r0, .ref a1, .int (iI x0), .int (iI x1), .int (iI x2), .int (iI x3), .int (iI x4), .int (iI x5), .int r1, .int (iI x6), .int (iI x7), .int (iI x8), .long y0, .int (iI x9), .ref a2, .ref a3, .ref a4, .ref a5, .ref a6, .ref a7, .ref a8, .ref a9, .ref a10, .ref a11, .int (iI x10), .ref a12, .ref a13, .ref a14, .ref a15, .int (iI x11), .int r2, .int r3, .ref a16, .int (iI x12), .int (iI x13), .ref a17, .ref a18, .int (iI x14), .ref a19, .int (iI x15), .int r4, .ref a20, .ref a21, .int (iI x16), .int r5, .ref a22, .int (iI x17), .int (iI x18), .int (iI x19), .int (iI x20)])), (a1, .inl (T 0, 940, .inl (cI f0))), (a3, .inl (T 0, 53, .inl (cI f1))), (a8, .inl (T 1, 12, .inr (.inl h0))), (a11, .inl (T 2, 3, .inl (cI f2)))] sz) := by
  refine e_Z (by decide) (Nat.le_of_ble_eq_true rfl) ?_
  intro p e s m args below meth c A Q ls M hin w ret hl
  have hx := M.1.1
  have hb := M.1.2.1
  have hl : lv_has ls 1 [(0, .ref a0)] := hl
  refine lv_aload_n hx hb dX12_readLine_0 rfl (lv_at hl 0 rfl) ?_
  refine lv_iconst (v := iI 0) hx hb dX12_readLine_1 (by decide +kernel) ?_
  refine k_I (ce := 0) (sl := 0) (rest := []) (wr := [(a1, .inl (T 0, 940, .inl (cI f0))), (a3, .inl (T 0, 53, .inl (cI f1))), (a8, .inl (T 1, 12, .inr (.inl h0))), (a11, .inl (T 2, 3, .inl (cI f2)))]) (r_V (f := 2) [0] M w V_HookedCityModel_183 G1649 G52 (c42_X12_isWord l D T _ a0 0 r0 a1 x0 x1 x2 x3 x4 x5 r1 x6 x7 x8 y0 x9 a2 a3 a4 a5 a6 a7 a8 a9 a10 a11 x10 a12 a13 a14 a15 x11 r2 r3 a16 x12 x13 a17 a18 x14 a19 x15 r4 a20 a21 x16 r5 a22 x17 x18 x19 x20 (by decide) (by decide) x0_a x0_b x1_a x1_b x2_a x2_b x3_a x3_b x4_a x4_b x5_a x5_b x6_a x6_b x7_a x7_b x8_a x8_b x9_a x9_b x10_a x10_b x11_a x11_b x12_a x12_b x13_a x13_b x14_a x14_b x15_a x15_b x16_a x16_b x17_a x17_b x18_a x18_b x19_a x19_b x20_a x20_b) 0 clX12 rfl rfl (by decide) rfl hl.1 rfl (Nat.le_of_ble_eq_true rfl) dX12_readLine_2 (by decide) (by decide) (by decide) (by decide)) w [0] [1, 2, 3, 4] rfl rfl (by decide) (by decide) rfl rfl (fun v z1 H locs hp w => ?_)
  have hv : iI z1 = v := hp.1
  subst hv
  have z1_a : 0 ≤ z1 := hp.2.1
  have z1_b : z1 ≤ 1 := hp.2.2.1
  have pq2 : wdQ z1 x5 y0 (wrdZ 0) := hp.2.2.2
  have w : WD D A s.heap [(a1, .inl (T 0, 940, .inl (cI f0))), (a3, .inl (T 0, 53, .inl (cI f1))), (a8, .inl (T 1, 12, .inr (.inl h0))), (a11, .inl (T 2, 3, .inl (cI f2))), (a0, .inr (11, [.int r0, .ref a1, .int (iI x0), .int (iI x1), .int (iI x2), .int (iI x3), .int (iI x4), .int (iI x5), .int r1, .int (iI x6), .int (iI x7), .int (iI x8), .long y0, .int (iI x9), .ref a2, .ref a3, .ref a4, .ref a5, .ref a6, .ref a7, .ref a8, .ref a9, .ref a10, .ref a11, .int (iI x10), .ref a12, .ref a13, .ref a14, .ref a15, .int (iI x11), .int r2, .int r3, .ref a16, .int (iI x12), .int (iI x13), .ref a17, .ref a18, .int (iI x14), .ref a19, .int (iI x15), .int r4, .ref a20, .ref a21, .int (iI x16), .int r5, .ref a22, .int (iI x17), .int (iI x18), .int (iI x19), .int (iI x20)]))] H locs := w
  refine lv_if_eq (tgt := 13) hx hb dX12_readLine_5 (by decide) (fun c_3 => ?_) (fun c_3 => ?_)
  · replace c_3 := (iz_eq (Int.le_trans (by decide) z1_a) (Int.le_trans z1_b (by decide))).mp c_3
    refine lv_aload_n hx hb dX12_readLine_13 rfl (lv_at hl 0 rfl) ?_
    refine lv_iconst (v := iI 1) hx hb dX12_readLine_14 (by decide +kernel) ?_
    refine k_I (ce := 0) (sl := 0) (rest := []) (wr := [(a1, .inl (T 0, 940, .inl (cI f0))), (a3, .inl (T 0, 53, .inl (cI f1))), (a8, .inl (T 1, 12, .inr (.inl h0))), (a11, .inl (T 2, 3, .inl (cI f2)))]) (r_V (f := 2) [4] M w V_HookedCityModel_183 G1649 G52 (c42_X12_isWord l D T _ a0 1 r0 a1 x0 x1 x2 x3 x4 x5 r1 x6 x7 x8 y0 x9 a2 a3 a4 a5 a6 a7 a8 a9 a10 a11 x10 a12 a13 a14 a15 x11 r2 r3 a16 x12 x13 a17 a18 x14 a19 x15 r4 a20 a21 x16 r5 a22 x17 x18 x19 x20 (by decide) (by decide) x0_a x0_b x1_a x1_b x2_a x2_b x3_a x3_b x4_a x4_b x5_a x5_b x6_a x6_b x7_a x7_b x8_a x8_b x9_a x9_b x10_a x10_b x11_a x11_b x12_a x12_b x13_a x13_b x14_a x14_b x15_a x15_b x16_a x16_b x17_a x17_b x18_a x18_b x19_a x19_b x20_a x20_b) 4 clX12 rfl rfl (by decide) rfl hl.1 rfl (Nat.le_of_ble_eq_true rfl) dX12_readLine_15 (by decide) (by decide) (by decide) (by decide)) w [4] [0, 1, 2, 3] rfl rfl (by decide) (by decide) rfl rfl (fun v z4 H locs hp w => ?_)
    have hv : iI z4 = v := hp.1
    subst hv
    have z4_a : 0 ≤ z4 := hp.2.1
    have z4_b : z4 ≤ 1 := hp.2.2.1
    have pq5 : wdQ z4 x5 y0 (wrdZ 1) := hp.2.2.2
    have w : WD D A s.heap [(a1, .inl (T 0, 940, .inl (cI f0))), (a3, .inl (T 0, 53, .inl (cI f1))), (a8, .inl (T 1, 12, .inr (.inl h0))), (a11, .inl (T 2, 3, .inl (cI f2))), (a0, .inr (11, [.int r0, .ref a1, .int (iI x0), .int (iI x1), .int (iI x2), .int (iI x3), .int (iI x4), .int (iI x5), .int r1, .int (iI x6), .int (iI x7), .int (iI x8), .long y0, .int (iI x9), .ref a2, .ref a3, .ref a4, .ref a5, .ref a6, .ref a7, .ref a8, .ref a9, .ref a10, .ref a11, .int (iI x10), .ref a12, .ref a13, .ref a14, .ref a15, .int (iI x11), .int r2, .int r3, .ref a16, .int (iI x12), .int (iI x13), .ref a17, .ref a18, .int (iI x14), .ref a19, .int (iI x15), .int r4, .ref a20, .ref a21, .int (iI x16), .int r5, .ref a22, .int (iI x17), .int (iI x18), .int (iI x19), .int (iI x20)]))] H locs := w
    refine lv_if_eq (tgt := 26) hx hb dX12_readLine_18 (by decide) (fun c_6 => ?_) (fun c_6 => ?_)
    · replace c_6 := (iz_eq (Int.le_trans (by decide) z4_a) (Int.le_trans z4_b (by decide))).mp c_6
      refine lv_aload_n hx hb dX12_readLine_26 rfl (lv_at hl 0 rfl) ?_
      refine lv_iconst (v := iI 2) hx hb dX12_readLine_27 (by decide +kernel) ?_
      refine k_I (ce := 0) (sl := 0) (rest := []) (wr := [(a1, .inl (T 0, 940, .inl (cI f0))), (a3, .inl (T 0, 53, .inl (cI f1))), (a8, .inl (T 1, 12, .inr (.inl h0))), (a11, .inl (T 2, 3, .inl (cI f2)))]) (r_V (f := 2) [4] M w V_HookedCityModel_183 G1649 G52 (c42_X12_isWord l D T _ a0 2 r0 a1 x0 x1 x2 x3 x4 x5 r1 x6 x7 x8 y0 x9 a2 a3 a4 a5 a6 a7 a8 a9 a10 a11 x10 a12 a13 a14 a15 x11 r2 r3 a16 x12 x13 a17 a18 x14 a19 x15 r4 a20 a21 x16 r5 a22 x17 x18 x19 x20 (by decide) (by decide) x0_a x0_b x1_a x1_b x2_a x2_b x3_a x3_b x4_a x4_b x5_a x5_b x6_a x6_b x7_a x7_b x8_a x8_b x9_a x9_b x10_a x10_b x11_a x11_b x12_a x12_b x13_a x13_b x14_a x14_b x15_a x15_b x16_a x16_b x17_a x17_b x18_a x18_b x19_a x19_b x20_a x20_b) 4 clX12 rfl rfl (by decide) rfl hl.1 rfl (Nat.le_of_ble_eq_true rfl) dX12_readLine_28 (by decide) (by decide) (by decide) (by decide)) w [4] [0, 1, 2, 3] rfl rfl (by decide) (by decide) rfl rfl (fun v z7 H locs hp w => ?_)
      have hv : iI z7 = v := hp.1
      subst hv
      have z7_a : 0 ≤ z7 := hp.2.1
      have z7_b : z7 ≤ 1 := hp.2.2.1
      have pq8 : wdQ z7 x5 y0 (wrdZ 2) := hp.2.2.2
      have w : WD D A s.heap [(a1, .inl (T 0, 940, .inl (cI f0))), (a3, .inl (T 0, 53, .inl (cI f1))), (a8, .inl (T 1, 12, .inr (.inl h0))), (a11, .inl (T 2, 3, .inl (cI f2))), (a0, .inr (11, [.int r0, .ref a1, .int (iI x0), .int (iI x1), .int (iI x2), .int (iI x3), .int (iI x4), .int (iI x5), .int r1, .int (iI x6), .int (iI x7), .int (iI x8), .long y0, .int (iI x9), .ref a2, .ref a3, .ref a4, .ref a5, .ref a6, .ref a7, .ref a8, .ref a9, .ref a10, .ref a11, .int (iI x10), .ref a12, .ref a13, .ref a14, .ref a15, .int (iI x11), .int r2, .int r3, .ref a16, .int (iI x12), .int (iI x13), .ref a17, .ref a18, .int (iI x14), .ref a19, .int (iI x15), .int r4, .ref a20, .ref a21, .int (iI x16), .int r5, .ref a22, .int (iI x17), .int (iI x18), .int (iI x19), .int (iI x20)]))] H locs := w
      refine lv_if_eq (tgt := 39) hx hb dX12_readLine_31 (by decide) (fun c_9 => ?_) (fun c_9 => ?_)
      · replace c_9 := (iz_eq (Int.le_trans (by decide) z7_a) (Int.le_trans z7_b (by decide))).mp c_9
        refine lv_aload_n hx hb dX12_readLine_39 rfl (lv_at hl 0 rfl) ?_
        refine lv_iconst (v := iI 3) hx hb dX12_readLine_40 (by decide +kernel) ?_
        refine k_I (ce := 0) (sl := 0) (rest := []) (wr := [(a1, .inl (T 0, 940, .inl (cI f0))), (a3, .inl (T 0, 53, .inl (cI f1))), (a8, .inl (T 1, 12, .inr (.inl h0))), (a11, .inl (T 2, 3, .inl (cI f2)))]) (r_V (f := 2) [4] M w V_HookedCityModel_183 G1649 G52 (c42_X12_isWord l D T _ a0 3 r0 a1 x0 x1 x2 x3 x4 x5 r1 x6 x7 x8 y0 x9 a2 a3 a4 a5 a6 a7 a8 a9 a10 a11 x10 a12 a13 a14 a15 x11 r2 r3 a16 x12 x13 a17 a18 x14 a19 x15 r4 a20 a21 x16 r5 a22 x17 x18 x19 x20 (by decide) (by decide) x0_a x0_b x1_a x1_b x2_a x2_b x3_a x3_b x4_a x4_b x5_a x5_b x6_a x6_b x7_a x7_b x8_a x8_b x9_a x9_b x10_a x10_b x11_a x11_b x12_a x12_b x13_a x13_b x14_a x14_b x15_a x15_b x16_a x16_b x17_a x17_b x18_a x18_b x19_a x19_b x20_a x20_b) 4 clX12 rfl rfl (by decide) rfl hl.1 rfl (Nat.le_of_ble_eq_true rfl) dX12_readLine_41 (by decide) (by decide) (by decide) (by decide)) w [4] [0, 1, 2, 3] rfl rfl (by decide) (by decide) rfl rfl (fun v z10 H locs hp w => ?_)
        have hv : iI z10 = v := hp.1
        subst hv
        have z10_a : 0 ≤ z10 := hp.2.1
        have z10_b : z10 ≤ 1 := hp.2.2.1
        have pq11 : wdQ z10 x5 y0 (wrdZ 3) := hp.2.2.2
        have w : WD D A s.heap [(a1, .inl (T 0, 940, .inl (cI f0))), (a3, .inl (T 0, 53, .inl (cI f1))), (a8, .inl (T 1, 12, .inr (.inl h0))), (a11, .inl (T 2, 3, .inl (cI f2))), (a0, .inr (11, [.int r0, .ref a1, .int (iI x0), .int (iI x1), .int (iI x2), .int (iI x3), .int (iI x4), .int (iI x5), .int r1, .int (iI x6), .int (iI x7), .int (iI x8), .long y0, .int (iI x9), .ref a2, .ref a3, .ref a4, .ref a5, .ref a6, .ref a7, .ref a8, .ref a9, .ref a10, .ref a11, .int (iI x10), .ref a12, .ref a13, .ref a14, .ref a15, .int (iI x11), .int r2, .int r3, .ref a16, .int (iI x12), .int (iI x13), .ref a17, .ref a18, .int (iI x14), .ref a19, .int (iI x15), .int r4, .ref a20, .ref a21, .int (iI x16), .int r5, .ref a22, .int (iI x17), .int (iI x18), .int (iI x19), .int (iI x20)]))] H locs := w
        refine lv_if_eq (tgt := 52) hx hb dX12_readLine_44 (by decide) (fun c_12 => ?_) (fun c_12 => ?_)
        · replace c_12 := (iz_eq (Int.le_trans (by decide) z10_a) (Int.le_trans z10_b (by decide))).mp c_12
          refine lv_aload_n hx hb dX12_readLine_52 rfl (lv_at hl 0 rfl) ?_
          refine lv_iconst (v := iI 4) hx hb dX12_readLine_53 (by decide +kernel) ?_
          refine k_I (ce := 0) (sl := 0) (rest := []) (wr := [(a1, .inl (T 0, 940, .inl (cI f0))), (a3, .inl (T 0, 53, .inl (cI f1))), (a8, .inl (T 1, 12, .inr (.inl h0))), (a11, .inl (T 2, 3, .inl (cI f2)))]) (r_V (f := 2) [4] M w V_HookedCityModel_183 G1649 G52 (c42_X12_isWord l D T _ a0 4 r0 a1 x0 x1 x2 x3 x4 x5 r1 x6 x7 x8 y0 x9 a2 a3 a4 a5 a6 a7 a8 a9 a10 a11 x10 a12 a13 a14 a15 x11 r2 r3 a16 x12 x13 a17 a18 x14 a19 x15 r4 a20 a21 x16 r5 a22 x17 x18 x19 x20 (by decide) (by decide) x0_a x0_b x1_a x1_b x2_a x2_b x3_a x3_b x4_a x4_b x5_a x5_b x6_a x6_b x7_a x7_b x8_a x8_b x9_a x9_b x10_a x10_b x11_a x11_b x12_a x12_b x13_a x13_b x14_a x14_b x15_a x15_b x16_a x16_b x17_a x17_b x18_a x18_b x19_a x19_b x20_a x20_b) 4 clX12 rfl rfl (by decide) rfl hl.1 rfl (Nat.le_of_ble_eq_true rfl) dX12_readLine_54 (by decide) (by decide) (by decide) (by decide)) w [4] [0, 1, 2, 3] rfl rfl (by decide) (by decide) rfl rfl (fun v z13 H locs hp w => ?_)
          have hv : iI z13 = v := hp.1
          subst hv
          have z13_a : 0 ≤ z13 := hp.2.1
          have z13_b : z13 ≤ 1 := hp.2.2.1
          have pq14 : wdQ z13 x5 y0 (wrdZ 4) := hp.2.2.2
          have w : WD D A s.heap [(a1, .inl (T 0, 940, .inl (cI f0))), (a3, .inl (T 0, 53, .inl (cI f1))), (a8, .inl (T 1, 12, .inr (.inl h0))), (a11, .inl (T 2, 3, .inl (cI f2))), (a0, .inr (11, [.int r0, .ref a1, .int (iI x0), .int (iI x1), .int (iI x2), .int (iI x3), .int (iI x4), .int (iI x5), .int r1, .int (iI x6), .int (iI x7), .int (iI x8), .long y0, .int (iI x9), .ref a2, .ref a3, .ref a4, .ref a5, .ref a6, .ref a7, .ref a8, .ref a9, .ref a10, .ref a11, .int (iI x10), .ref a12, .ref a13, .ref a14, .ref a15, .int (iI x11), .int r2, .int r3, .ref a16, .int (iI x12), .int (iI x13), .ref a17, .ref a18, .int (iI x14), .ref a19, .int (iI x15), .int r4, .ref a20, .ref a21, .int (iI x16), .int r5, .ref a22, .int (iI x17), .int (iI x18), .int (iI x19), .int (iI x20)]))] H locs := w
          refine lv_if_eq (tgt := 69) hx hb dX12_readLine_57 (by decide) (fun c_15 => ?_) (fun c_15 => ?_)
          · replace c_15 := (iz_eq (Int.le_trans (by decide) z13_a) (Int.le_trans z13_b (by decide))).mp c_15
            refine lv_aload_n hx hb dX12_readLine_69 rfl (lv_at hl 0 rfl) ?_
            refine lv_iconst (v := iI 5) hx hb dX12_readLine_70 (by decide +kernel) ?_
            refine k_I (ce := 0) (sl := 0) (rest := []) (wr := [(a1, .inl (T 0, 940, .inl (cI f0))), (a3, .inl (T 0, 53, .inl (cI f1))), (a8, .inl (T 1, 12, .inr (.inl h0))), (a11, .inl (T 2, 3, .inl (cI f2)))]) (r_V (f := 2) [4] M w V_HookedCityModel_183 G1649 G52 (c42_X12_isWord l D T _ a0 5 r0 a1 x0 x1 x2 x3 x4 x5 r1 x6 x7 x8 y0 x9 a2 a3 a4 a5 a6 a7 a8 a9 a10 a11 x10 a12 a13 a14 a15 x11 r2 r3 a16 x12 x13 a17 a18 x14 a19 x15 r4 a20 a21 x16 r5 a22 x17 x18 x19 x20 (by decide) (by decide) x0_a x0_b x1_a x1_b x2_a x2_b x3_a x3_b x4_a x4_b x5_a x5_b x6_a x6_b x7_a x7_b x8_a x8_b x9_a x9_b x10_a x10_b x11_a x11_b x12_a x12_b x13_a x13_b x14_a x14_b x15_a x15_b x16_a x16_b x17_a x17_b x18_a x18_b x19_a x19_b x20_a x20_b) 4 clX12 rfl rfl (by decide) rfl hl.1 rfl (Nat.le_of_ble_eq_true rfl) dX12_readLine_71 (by decide) (by decide) (by decide) (by decide)) w [4] [0, 1, 2, 3] rfl rfl (by decide) (by decide) rfl rfl (fun v z16 H locs hp w => ?_)
            have hv : iI z16 = v := hp.1
            subst hv
            have z16_a : 0 ≤ z16 := hp.2.1
            have z16_b : z16 ≤ 1 := hp.2.2.1
            have pq17 : wdQ z16 x5 y0 (wrdZ 5) := hp.2.2.2
            have w : WD D A s.heap [(a1, .inl (T 0, 940, .inl (cI f0))), (a3, .inl (T 0, 53, .inl (cI f1))), (a8, .inl (T 1, 12, .inr (.inl h0))), (a11, .inl (T 2, 3, .inl (cI f2))), (a0, .inr (11, [.int r0, .ref a1, .int (iI x0), .int (iI x1), .int (iI x2), .int (iI x3), .int (iI x4), .int (iI x5), .int r1, .int (iI x6), .int (iI x7), .int (iI x8), .long y0, .int (iI x9), .ref a2, .ref a3, .ref a4, .ref a5, .ref a6, .ref a7, .ref a8, .ref a9, .ref a10, .ref a11, .int (iI x10), .ref a12, .ref a13, .ref a14, .ref a15, .int (iI x11), .int r2, .int r3, .ref a16, .int (iI x12), .int (iI x13), .ref a17, .ref a18, .int (iI x14), .ref a19, .int (iI x15), .int r4, .ref a20, .ref a21, .int (iI x16), .int r5, .ref a22, .int (iI x17), .int (iI x18), .int (iI x19), .int (iI x20)]))] H locs := w
            refine lv_if_eq (tgt := 86) hx hb dX12_readLine_74 (by decide) (fun c_18 => ?_) (fun c_18 => ?_)
            · replace c_18 := (iz_eq (Int.le_trans (by decide) z16_a) (Int.le_trans z16_b (by decide))).mp c_18
              refine lv_aload_n hx hb dX12_readLine_86 rfl (lv_at hl 0 rfl) ?_
              refine lv_bipush (v := iI 6) hx hb dX12_readLine_87 (by decide +kernel) ?_
              refine k_I (ce := 0) (sl := 0) (rest := []) (wr := [(a1, .inl (T 0, 940, .inl (cI f0))), (a3, .inl (T 0, 53, .inl (cI f1))), (a8, .inl (T 1, 12, .inr (.inl h0))), (a11, .inl (T 2, 3, .inl (cI f2)))]) (r_V (f := 2) [4] M w V_HookedCityModel_183 G1649 G52 (c42_X12_isWord l D T _ a0 6 r0 a1 x0 x1 x2 x3 x4 x5 r1 x6 x7 x8 y0 x9 a2 a3 a4 a5 a6 a7 a8 a9 a10 a11 x10 a12 a13 a14 a15 x11 r2 r3 a16 x12 x13 a17 a18 x14 a19 x15 r4 a20 a21 x16 r5 a22 x17 x18 x19 x20 (by decide) (by decide) x0_a x0_b x1_a x1_b x2_a x2_b x3_a x3_b x4_a x4_b x5_a x5_b x6_a x6_b x7_a x7_b x8_a x8_b x9_a x9_b x10_a x10_b x11_a x11_b x12_a x12_b x13_a x13_b x14_a x14_b x15_a x15_b x16_a x16_b x17_a x17_b x18_a x18_b x19_a x19_b x20_a x20_b) 4 clX12 rfl rfl (by decide) rfl hl.1 rfl (Nat.le_of_ble_eq_true rfl) dX12_readLine_89 (by decide) (by decide) (by decide) (by decide)) w [4] [0, 1, 2, 3] rfl rfl (by decide) (by decide) rfl rfl (fun v z19 H locs hp w => ?_)
              have hv : iI z19 = v := hp.1
              subst hv
              have z19_a : 0 ≤ z19 := hp.2.1
              have z19_b : z19 ≤ 1 := hp.2.2.1
              have pq20 : wdQ z19 x5 y0 (wrdZ 6) := hp.2.2.2
              have w : WD D A s.heap [(a1, .inl (T 0, 940, .inl (cI f0))), (a3, .inl (T 0, 53, .inl (cI f1))), (a8, .inl (T 1, 12, .inr (.inl h0))), (a11, .inl (T 2, 3, .inl (cI f2))), (a0, .inr (11, [.int r0, .ref a1, .int (iI x0), .int (iI x1), .int (iI x2), .int (iI x3), .int (iI x4), .int (iI x5), .int r1, .int (iI x6), .int (iI x7), .int (iI x8), .long y0, .int (iI x9), .ref a2, .ref a3, .ref a4, .ref a5, .ref a6, .ref a7, .ref a8, .ref a9, .ref a10, .ref a11, .int (iI x10), .ref a12, .ref a13, .ref a14, .ref a15, .int (iI x11), .int r2, .int r3, .ref a16, .int (iI x12), .int (iI x13), .ref a17, .ref a18, .int (iI x14), .ref a19, .int (iI x15), .int r4, .ref a20, .ref a21, .int (iI x16), .int r5, .ref a22, .int (iI x17), .int (iI x18), .int (iI x19), .int (iI x20)]))] H locs := w
              refine lv_if_eq (tgt := 106) hx hb dX12_readLine_92 (by decide) (fun c_21 => ?_) (fun c_21 => ?_)
              · replace c_21 := (iz_eq (Int.le_trans (by decide) z19_a) (Int.le_trans z19_b (by decide))).mp c_21
                refine lv_aload_n hx hb dX12_readLine_106 rfl (lv_at hl 0 rfl) ?_
                refine lv_iconst (v := iI 1) hx hb dX12_readLine_107 (by decide +kernel) ?_
                refine k_I (ce := 0) (sl := 0) (rest := []) (wr := [(a1, .inl (T 0, 940, .inl (cI f0))), (a3, .inl (T 0, 53, .inl (cI f1))), (a8, .inl (T 1, 12, .inr (.inl h0))), (a11, .inl (T 2, 3, .inl (cI f2)))]) (r_V (f := 0) [4] M w V_HookedCityModel_72 G1667 G55 (c45_X12_bad l D T _ a0 1 r0 a1 x0 x1 x2 x3 x4 x5 r1 x6 x7 x8 y0 x9 a2 a3 a4 a5 a6 a7 a8 a9 a10 a11 x10 a12 a13 a14 a15 x11 r2 r3 a16 x12 x13 a17 a18 x14 a19 x15 r4 a20 a21 x16 r5 a22 x17 x18 x19 x20 (by decide) (by decide) x0_a x0_b x1_a x1_b x2_a x2_b x3_a x3_b x4_a x4_b x5_a x5_b x6_a x6_b x7_a x7_b x8_a x8_b x9_a x9_b x10_a x10_b x11_a x11_b x12_a x12_b x13_a x13_b x14_a x14_b x15_a x15_b x16_a x16_b x17_a x17_b x18_a x18_b x19_a x19_b x20_a x20_b) 4 clX12 rfl rfl (by decide) rfl hl.1 rfl (Nat.le_of_ble_eq_true rfl) dX12_readLine_108 (by decide) (by decide) (by decide) (by decide)) w [4] [0, 1, 2, 3] rfl rfl (by decide) (by decide) rfl rfl (fun v u H locs hp w => ?_)
                obtain ⟨z22, z23, z24⟩ := u
                have hv : iI z22 = v := hp.1
                subst hv
                have z22_a : 0 ≤ z22 := hp.2.1
                have z22_b : z22 ≤ 1 := hp.2.2.1
                have z23_a : (-2147483648) ≤ z23 := hp.2.2.2.1
                have z23_b : z23 ≤ 2147483647 := hp.2.2.2.2.1
                have z24_a : 0 ≤ z24 := hp.2.2.2.2.2.1
                have z24_b : z24 ≤ 940 := hp.2.2.2.2.2.2.1
                have pq25 : baQ x5 1 z23 := hp.2.2.2.2.2.2.2.1
                have pq26 : z24 = x4 := hp.2.2.2.2.2.2.2.2.1
                have w : WD D A s.heap [(a1, .inl (T 0, 940, .inl (cI f0))), (a3, .inl (T 0, 53, .inl (cI f1))), (a8, .inl (T 1, 12, .inr (.inl h0))), (a11, .inl (T 2, 3, .inl (cI f2))), (a0, .inr (11, [.int r0, .ref a1, .int (iI x0), .int (iI x1), .int (iI x2), .int (iI x3), .int (iI x4), .int (iI x5), .int r1, .int (iI x6), .int (iI z23), .int (iI z24), .long y0, .int (iI x9), .ref a2, .ref a3, .ref a4, .ref a5, .ref a6, .ref a7, .ref a8, .ref a9, .ref a10, .ref a11, .int (iI x10), .ref a12, .ref a13, .ref a14, .ref a15, .int (iI x11), .int r2, .int r3, .ref a16, .int (iI x12), .int (iI x13), .ref a17, .ref a18, .int (iI x14), .ref a19, .int (iI x15), .int r4, .ref a20, .ref a21, .int (iI x16), .int r5, .ref a22, .int (iI x17), .int (iI x18), .int (iI x19), .int (iI x20)]))] H locs := w
                rcases hp.2.2.2.2.2.2.2.2.2 with hr
                · subst hr
                  exact ret _ (0, x3, x4, x5, r1, x6, z23, z24, y0, x9, f1, h0, f2) _ _ _ _ _ [4, 0, 1, 2, 3] dX12_readLine_111 (by decide +kernel) ⟨rfl, (show (0 : Int) ≤ 0 from by decide), (show (0 : Int) ≤ 1 from by decide), x3_a, x3_b, x4_a, x4_b, x5_a, x5_b, x6_a, x6_b, z23_a, z23_b, z24_a, z24_b, x9_a, x9_b, f1_h, f2_h, (show 0 ≤ (x3 - x3) from by omega), (show 0 ≤ ((((x3 - x3) - x5) + 4) - 0) from by omega), (show ∀ x : Tk × Int × Int, gT x x5 x4 x3 y0 r1 x6 → RP (sLine f0 x1 x2 x f1 h0 f2) 0 z23 z24 (fun y => gT y x5 x4 x3 y0 r1 x6) f1 h0 f2 from (by intro x hx; have b9 : ∀ k : Nat, True := fun _ => trivial; rw [sLine, if_neg (wd_0 hx (k := 0) pq2 (by omega)), if_neg (wd_0 hx (k := 1) pq5 (by omega)), if_neg (wd_0 hx (k := 2) pq8 (by omega)), if_neg (wd_0 hx (k := 3) pq11 (by omega)), if_neg (wd_0 hx (k := 4) pq14 (by omega)), if_neg (wd_0 hx (k := 5) pq17 (by omega)), if_neg (wd_0 hx (k := 6) pq20 (by omega))]; exact ⟨rfl, by have e9 := pq25; unfold baQ at e9; omega, pq26.trans hx.1⟩)), (show kpB 0 x7 z23 from (fun e => absurd e (by decide)))⟩ w (by decide) rfl
              · replace c_21 : ¬ z19 = 0 := fun h => c_21 ((iz_eq (Int.le_trans (by decide) z19_a) (Int.le_trans z19_b (by decide))).mpr h)
                refine lv_aload_n hx hb dX12_readLine_95 rfl (lv_at hl 0 rfl) ?_
                refine lv_iconst (v := iI 2) hx hb dX12_readLine_96 (by decide +kernel) ?_
                refine lv_iconst (v := iI 0) hx hb dX12_readLine_97 (by decide +kernel) ?_
                refine lv_bipush (v := iI 60) hx hb dX12_readLine_98 (by decide +kernel) ?_
                refine k_I (ce := 0) (sl := 0) (rest := []) (wr := [(a8, .inl (T 1, 12, .inr (.inl h0)))]) (r_V (f := 3) [4, 0, 1, 3] M w V_HookedCityModel_221 G1716 G65 (c62_X12_readOnce l D T _ a0 r0 a1 x0 x1 x2 x3 x4 x5 r1 x6 x7 x8 y0 x9 a2 a3 a4 a5 a6 a7 a8 a9 a10 a11 x10 a12 a13 a14 a15 x11 r2 r3 a16 x12 x13 a17 a18 x14 a19 x15 r4 a20 a21 x16 r5 a22 x17 x18 x19 x20 f0 f1 f2 x0_a x0_b x1_a x1_b x2_a x2_b x3_a x3_b x4_a x4_b x5_a x5_b x6_a x6_b x7_a x7_b x8_a x8_b x9_a x9_b x10_a x10_b x11_a x11_b x12_a x12_b x13_a x13_b x14_a x14_b x15_a x15_b x16_a x16_b x17_a x17_b x18_a x18_b x19_a x19_b x20_a x20_b f0_h f1_h f2_h) 4 clX12 rfl rfl (by decide) rfl hl.1 rfl (Nat.le_of_ble_eq_true rfl) dX12_readLine_100 (by decide) (by decide) (by decide) (by decide)) w [4, 0, 1, 3] [2] rfl rfl (by decide) (by decide) rfl rfl (fun v u H locs hp w => ?_)
                obtain ⟨z27, z28, z29, z30, fr31, z32, z33, z34, fy35, z36, ff37, ff38⟩ := u
                have hv : iI z27 = v := hp.1
                subst hv
                have z27_a : 0 ≤ z27 := hp.2.1
                have z27_b : z27 ≤ 1 := hp.2.2.1
                have z28_a : 0 ≤ z28 := hp.2.2.2.1
                have z28_b : z28 ≤ 940 := hp.2.2.2.2.1
                have z29_a : 0 ≤ z29 := hp.2.2.2.2.2.1
                have z29_b : z29 ≤ 940 := hp.2.2.2.2.2.2.1
                have z30_a : 0 ≤ z30 := hp.2.2.2.2.2.2.2.1
                have z30_b : z30 ≤ 4 := hp.2.2.2.2.2.2.2.2.1
                have z32_a : (-2147483648) ≤ z32 := hp.2.2.2.2.2.2.2.2.2.1
                have z32_b : z32 ≤ 2147483647 := hp.2.2.2.2.2.2.2.2.2.2.1
                have z33_a : (-2147483648) ≤ z33 := hp.2.2.2.2.2.2.2.2.2.2.2.1
                have z33_b : z33 ≤ 2147483647 := hp.2.2.2.2.2.2.2.2.2.2.2.2.1
                have z34_a : 0 ≤ z34 := hp.2.2.2.2.2.2.2.2.2.2.2.2.2.1
                have z34_b : z34 ≤ 940 := hp.2.2.2.2.2.2.2.2.2.2.2.2.2.2.1
                have z36_a : (-2147483648) ≤ z36 := hp.2.2.2.2.2.2.2.2.2.2.2.2.2.2.2.1
                have z36_b : z36 ≤ 2147483647 := hp.2.2.2.2.2.2.2.2.2.2.2.2.2.2.2.2.1
                have ff37_h : rdI ff37 := hp.2.2.2.2.2.2.2.2.2.2.2.2.2.2.2.2.2.1
                have ff38_h : rng 0 1 ff38 := hp.2.2.2.2.2.2.2.2.2.2.2.2.2.2.2.2.2.2.1
                have ee39 : 0 ≤ (z28 - x3) := hp.2.2.2.2.2.2.2.2.2.2.2.2.2.2.2.2.2.2.2.1
                have ee40 : 0 ≤ ((((z28 - x3) - z30) + 4) - z27) := hp.2.2.2.2.2.2.2.2.2.2.2.2.2.2.2.2.2.2.2.2.1
                have pq41 : ∀ (x : Tk × Int × Int) (h : Nat → Int64), gT x x5 x4 x3 y0 r1 x6 → ¬ x.1 = tkBad → RP (sOnce f0 x1 x2 x f1 h f2 2 0 60) z27 z33 z34 (fun y => gT y z30 z29 z28 fy35 fr31 z32) ff37 h ff38 := hp.2.2.2.2.2.2.2.2.2.2.2.2.2.2.2.2.2.2.2.2.2.1
                have pq42 : kpB z27 x7 z33 := hp.2.2.2.2.2.2.2.2.2.2.2.2.2.2.2.2.2.2.2.2.2.2
                have w : WD D A s.heap [(a8, .inl (T 1, 12, .inr (.inl h0))), (a0, .inr (11, [.int r0, .ref a1, .int (iI x0), .int (iI x1), .int (iI x2), .int (iI z28), .int (iI z29), .int (iI z30), .int fr31, .int (iI z32), .int (iI z33), .int (iI z34), .long fy35, .int (iI z36), .ref a2, .ref a3, .ref a4, .ref a5, .ref a6, .ref a7, .ref a8, .ref a9, .ref a10, .ref a11, .int (iI x10), .ref a12, .ref a13, .ref a14, .ref a15, .int (iI x11), .int r2, .int r3, .ref a16, .int (iI x12), .int (iI x13), .ref a17, .ref a18, .int (iI x14), .ref a19, .int (iI x15), .int r4, .ref a20, .ref a21, .int (iI x16), .int r5, .ref a22, .int (iI x17), .int (iI x18), .int (iI x19), .int (iI x20)])), (a1, .inl (T 0, 940, .inl (cI f0))), (a3, .inl (T 0, 53, .inl (cI ff37))), (a11, .inl (T 2, 3, .inl (cI ff38)))] H locs := w
                refine lv_goto (tgt := 111) hx hb dX12_readLine_103 (by decide) ?_
                exact ret _ (z27, z28, z29, z30, fr31, z32, z33, z34, fy35, z36, ff37, h0, ff38) _ _ _ _ _ [1, 2, 3, 0, 4] dX12_readLine_111 (nb_n (by omega) (by omega)) ⟨rfl, z27_a, z27_b, z28_a, z28_b, z29_a, z29_b, z30_a, z30_b, z32_a, z32_b, z33_a, z33_b, z34_a, z34_b, z36_a, z36_b, ff37_h, ff38_h, (show 0 ≤ (z28 - x3) from by omega), (show 0 ≤ ((((z28 - x3) - z30) + 4) - z27) from by omega), (show ∀ x : Tk × Int × Int, gT x x5 x4 x3 y0 r1 x6 → RP (sLine f0 x1 x2 x f1 h0 f2) z27 z33 z34 (fun y => gT y z30 z29 z28 fy35 fr31 z32) ff37 h0 ff38 from (by intro x hx; have hw := wd_1 hx (k := 6) pq20 (by omega); rw [sLine, if_neg (wd_0 hx (k := 0) pq2 (by omega)), if_neg (wd_0 hx (k := 1) pq5 (by omega)), if_neg (wd_0 hx (k := 2) pq8 (by omega)), if_neg (wd_0 hx (k := 3) pq11 (by omega)), if_neg (wd_0 hx (k := 4) pq14 (by omega)), if_neg (wd_0 hx (k := 5) pq17 (by omega)), if_pos hw]; exact pq41 x _ hx (wd_nb hw))), (show kpB z27 x7 z33 from pq42)⟩ w (by decide) rfl
            · replace c_18 : ¬ z16 = 0 := fun h => c_18 ((iz_eq (Int.le_trans (by decide) z16_a) (Int.le_trans z16_b (by decide))).mpr h)
              refine lv_aload_n hx hb dX12_readLine_77 rfl (lv_at hl 0 rfl) ?_
              refine lv_iconst (v := iI 1) hx hb dX12_readLine_78 (by decide +kernel) ?_
              refine lv_iconst (v := iI 2) hx hb dX12_readLine_79 (by decide +kernel) ?_
              refine lv_bipush (v := iI 60) hx hb dX12_readLine_80 (by decide +kernel) ?_
              refine k_I (ce := 0) (sl := 0) (rest := []) (wr := [(a8, .inl (T 1, 12, .inr (.inl h0)))]) (r_V (f := 3) [4, 0, 1, 3] M w V_HookedCityModel_221 G1716 G65 (c63_X12_readOnce l D T _ a0 r0 a1 x0 x1 x2 x3 x4 x5 r1 x6 x7 x8 y0 x9 a2 a3 a4 a5 a6 a7 a8 a9 a10 a11 x10 a12 a13 a14 a15 x11 r2 r3 a16 x12 x13 a17 a18 x14 a19 x15 r4 a20 a21 x16 r5 a22 x17 x18 x19 x20 f0 f1 f2 x0_a x0_b x1_a x1_b x2_a x2_b x3_a x3_b x4_a x4_b x5_a x5_b x6_a x6_b x7_a x7_b x8_a x8_b x9_a x9_b x10_a x10_b x11_a x11_b x12_a x12_b x13_a x13_b x14_a x14_b x15_a x15_b x16_a x16_b x17_a x17_b x18_a x18_b x19_a x19_b x20_a x20_b f0_h f1_h f2_h) 4 clX12 rfl rfl (by decide) rfl hl.1 rfl (Nat.le_of_ble_eq_true rfl) dX12_readLine_82 (by decide) (by decide) (by decide) (by decide)) w [4, 0, 1, 3] [2] rfl rfl (by decide) (by decide) rfl rfl (fun v u H locs hp w => ?_)
              obtain ⟨z43, z44, z45, z46, fr47, z48, z49, z50, fy51, z52, ff53, ff54⟩ := u
              have hv : iI z43 = v := hp.1
              subst hv
              have z43_a : 0 ≤ z43 := hp.2.1
              have z43_b : z43 ≤ 1 := hp.2.2.1
              have z44_a : 0 ≤ z44 := hp.2.2.2.1
              have z44_b : z44 ≤ 940 := hp.2.2.2.2.1
              have z45_a : 0 ≤ z45 := hp.2.2.2.2.2.1
              have z45_b : z45 ≤ 940 := hp.2.2.2.2.2.2.1
              have z46_a : 0 ≤ z46 := hp.2.2.2.2.2.2.2.1
              have z46_b : z46 ≤ 4 := hp.2.2.2.2.2.2.2.2.1
              have z48_a : (-2147483648) ≤ z48 := hp.2.2.2.2.2.2.2.2.2.1
              have z48_b : z48 ≤ 2147483647 := hp.2.2.2.2.2.2.2.2.2.2.1
              have z49_a : (-2147483648) ≤ z49 := hp.2.2.2.2.2.2.2.2.2.2.2.1
              have z49_b : z49 ≤ 2147483647 := hp.2.2.2.2.2.2.2.2.2.2.2.2.1
              have z50_a : 0 ≤ z50 := hp.2.2.2.2.2.2.2.2.2.2.2.2.2.1
              have z50_b : z50 ≤ 940 := hp.2.2.2.2.2.2.2.2.2.2.2.2.2.2.1
              have z52_a : (-2147483648) ≤ z52 := hp.2.2.2.2.2.2.2.2.2.2.2.2.2.2.2.1
              have z52_b : z52 ≤ 2147483647 := hp.2.2.2.2.2.2.2.2.2.2.2.2.2.2.2.2.1
              have ff53_h : rdI ff53 := hp.2.2.2.2.2.2.2.2.2.2.2.2.2.2.2.2.2.1
              have ff54_h : rng 0 1 ff54 := hp.2.2.2.2.2.2.2.2.2.2.2.2.2.2.2.2.2.2.1
              have ee55 : 0 ≤ (z44 - x3) := hp.2.2.2.2.2.2.2.2.2.2.2.2.2.2.2.2.2.2.2.1
              have ee56 : 0 ≤ ((((z44 - x3) - z46) + 4) - z43) := hp.2.2.2.2.2.2.2.2.2.2.2.2.2.2.2.2.2.2.2.2.1
              have pq57 : ∀ (x : Tk × Int × Int) (h : Nat → Int64), gT x x5 x4 x3 y0 r1 x6 → ¬ x.1 = tkBad → RP (sOnce f0 x1 x2 x f1 h f2 1 2 60) z43 z49 z50 (fun y => gT y z46 z45 z44 fy51 fr47 z48) ff53 h ff54 := hp.2.2.2.2.2.2.2.2.2.2.2.2.2.2.2.2.2.2.2.2.2.1
              have pq58 : kpB z43 x7 z49 := hp.2.2.2.2.2.2.2.2.2.2.2.2.2.2.2.2.2.2.2.2.2.2
              have w : WD D A s.heap [(a8, .inl (T 1, 12, .inr (.inl h0))), (a0, .inr (11, [.int r0, .ref a1, .int (iI x0), .int (iI x1), .int (iI x2), .int (iI z44), .int (iI z45), .int (iI z46), .int fr47, .int (iI z48), .int (iI z49), .int (iI z50), .long fy51, .int (iI z52), .ref a2, .ref a3, .ref a4, .ref a5, .ref a6, .ref a7, .ref a8, .ref a9, .ref a10, .ref a11, .int (iI x10), .ref a12, .ref a13, .ref a14, .ref a15, .int (iI x11), .int r2, .int r3, .ref a16, .int (iI x12), .int (iI x13), .ref a17, .ref a18, .int (iI x14), .ref a19, .int (iI x15), .int r4, .ref a20, .ref a21, .int (iI x16), .int r5, .ref a22, .int (iI x17), .int (iI x18), .int (iI x19), .int (iI x20)])), (a1, .inl (T 0, 940, .inl (cI f0))), (a3, .inl (T 0, 53, .inl (cI ff53))), (a11, .inl (T 2, 3, .inl (cI ff54)))] H locs := w
              exact ret _ (z43, z44, z45, z46, fr47, z48, z49, z50, fy51, z52, ff53, h0, ff54) _ _ _ _ _ [1, 2, 3, 0, 4] dX12_readLine_85 (nb_n (by omega) (by omega)) ⟨rfl, z43_a, z43_b, z44_a, z44_b, z45_a, z45_b, z46_a, z46_b, z48_a, z48_b, z49_a, z49_b, z50_a, z50_b, z52_a, z52_b, ff53_h, ff54_h, (show 0 ≤ (z44 - x3) from by omega), (show 0 ≤ ((((z44 - x3) - z46) + 4) - z43) from by omega), (show ∀ x : Tk × Int × Int, gT x x5 x4 x3 y0 r1 x6 → RP (sLine f0 x1 x2 x f1 h0 f2) z43 z49 z50 (fun y => gT y z46 z45 z44 fy51 fr47 z48) ff53 h0 ff54 from (by intro x hx; have hw := wd_1 hx (k := 5) pq17 (by omega); rw [sLine, if_neg (wd_0 hx (k := 0) pq2 (by omega)), if_neg (wd_0 hx (k := 1) pq5 (by omega)), if_neg (wd_0 hx (k := 2) pq8 (by omega)), if_neg (wd_0 hx (k := 3) pq11 (by omega)), if_neg (wd_0 hx (k := 4) pq14 (by omega)), if_pos hw]; exact pq57 x _ hx (wd_nb hw))), (show kpB z43 x7 z49 from pq58)⟩ w (by decide) rfl
          · replace c_15 : ¬ z13 = 0 := fun h => c_15 ((iz_eq (Int.le_trans (by decide) z13_a) (Int.le_trans z13_b (by decide))).mpr h)
            refine lv_aload_n hx hb dX12_readLine_60 rfl (lv_at hl 0 rfl) ?_
            refine lv_iconst (v := iI 0) hx hb dX12_readLine_61 (by decide +kernel) ?_
            refine lv_iconst (v := iI 0) hx hb dX12_readLine_62 (by decide +kernel) ?_
            refine lv_bipush (v := iI 20) hx hb dX12_readLine_63 (by decide +kernel) ?_
            refine k_I (ce := 0) (sl := 0) (rest := []) (wr := [(a8, .inl (T 1, 12, .inr (.inl h0)))]) (r_V (f := 3) [4, 0, 1, 3] M w V_HookedCityModel_221 G1716 G65 (c64_X12_readOnce l D T _ a0 r0 a1 x0 x1 x2 x3 x4 x5 r1 x6 x7 x8 y0 x9 a2 a3 a4 a5 a6 a7 a8 a9 a10 a11 x10 a12 a13 a14 a15 x11 r2 r3 a16 x12 x13 a17 a18 x14 a19 x15 r4 a20 a21 x16 r5 a22 x17 x18 x19 x20 f0 f1 f2 x0_a x0_b x1_a x1_b x2_a x2_b x3_a x3_b x4_a x4_b x5_a x5_b x6_a x6_b x7_a x7_b x8_a x8_b x9_a x9_b x10_a x10_b x11_a x11_b x12_a x12_b x13_a x13_b x14_a x14_b x15_a x15_b x16_a x16_b x17_a x17_b x18_a x18_b x19_a x19_b x20_a x20_b f0_h f1_h f2_h) 4 clX12 rfl rfl (by decide) rfl hl.1 rfl (Nat.le_of_ble_eq_true rfl) dX12_readLine_65 (by decide) (by decide) (by decide) (by decide)) w [4, 0, 1, 3] [2] rfl rfl (by decide) (by decide) rfl rfl (fun v u H locs hp w => ?_)
            obtain ⟨z59, z60, z61, z62, fr63, z64, z65, z66, fy67, z68, ff69, ff70⟩ := u
            have hv : iI z59 = v := hp.1
            subst hv
            have z59_a : 0 ≤ z59 := hp.2.1
            have z59_b : z59 ≤ 1 := hp.2.2.1
            have z60_a : 0 ≤ z60 := hp.2.2.2.1
            have z60_b : z60 ≤ 940 := hp.2.2.2.2.1
            have z61_a : 0 ≤ z61 := hp.2.2.2.2.2.1
            have z61_b : z61 ≤ 940 := hp.2.2.2.2.2.2.1
            have z62_a : 0 ≤ z62 := hp.2.2.2.2.2.2.2.1
            have z62_b : z62 ≤ 4 := hp.2.2.2.2.2.2.2.2.1
            have z64_a : (-2147483648) ≤ z64 := hp.2.2.2.2.2.2.2.2.2.1
            have z64_b : z64 ≤ 2147483647 := hp.2.2.2.2.2.2.2.2.2.2.1
            have z65_a : (-2147483648) ≤ z65 := hp.2.2.2.2.2.2.2.2.2.2.2.1
            have z65_b : z65 ≤ 2147483647 := hp.2.2.2.2.2.2.2.2.2.2.2.2.1
            have z66_a : 0 ≤ z66 := hp.2.2.2.2.2.2.2.2.2.2.2.2.2.1
            have z66_b : z66 ≤ 940 := hp.2.2.2.2.2.2.2.2.2.2.2.2.2.2.1
            have z68_a : (-2147483648) ≤ z68 := hp.2.2.2.2.2.2.2.2.2.2.2.2.2.2.2.1
            have z68_b : z68 ≤ 2147483647 := hp.2.2.2.2.2.2.2.2.2.2.2.2.2.2.2.2.1
            have ff69_h : rdI ff69 := hp.2.2.2.2.2.2.2.2.2.2.2.2.2.2.2.2.2.1
            have ff70_h : rng 0 1 ff70 := hp.2.2.2.2.2.2.2.2.2.2.2.2.2.2.2.2.2.2.1
            have ee71 : 0 ≤ (z60 - x3) := hp.2.2.2.2.2.2.2.2.2.2.2.2.2.2.2.2.2.2.2.1
            have ee72 : 0 ≤ ((((z60 - x3) - z62) + 4) - z59) := hp.2.2.2.2.2.2.2.2.2.2.2.2.2.2.2.2.2.2.2.2.1
            have pq73 : ∀ (x : Tk × Int × Int) (h : Nat → Int64), gT x x5 x4 x3 y0 r1 x6 → ¬ x.1 = tkBad → RP (sOnce f0 x1 x2 x f1 h f2 0 0 20) z59 z65 z66 (fun y => gT y z62 z61 z60 fy67 fr63 z64) ff69 h ff70 := hp.2.2.2.2.2.2.2.2.2.2.2.2.2.2.2.2.2.2.2.2.2.1
            have pq74 : kpB z59 x7 z65 := hp.2.2.2.2.2.2.2.2.2.2.2.2.2.2.2.2.2.2.2.2.2.2
            have w : WD D A s.heap [(a8, .inl (T 1, 12, .inr (.inl h0))), (a0, .inr (11, [.int r0, .ref a1, .int (iI x0), .int (iI x1), .int (iI x2), .int (iI z60), .int (iI z61), .int (iI z62), .int fr63, .int (iI z64), .int (iI z65), .int (iI z66), .long fy67, .int (iI z68), .ref a2, .ref a3, .ref a4, .ref a5, .ref a6, .ref a7, .ref a8, .ref a9, .ref a10, .ref a11, .int (iI x10), .ref a12, .ref a13, .ref a14, .ref a15, .int (iI x11), .int r2, .int r3, .ref a16, .int (iI x12), .int (iI x13), .ref a17, .ref a18, .int (iI x14), .ref a19, .int (iI x15), .int r4, .ref a20, .ref a21, .int (iI x16), .int r5, .ref a22, .int (iI x17), .int (iI x18), .int (iI x19), .int (iI x20)])), (a1, .inl (T 0, 940, .inl (cI f0))), (a3, .inl (T 0, 53, .inl (cI ff69))), (a11, .inl (T 2, 3, .inl (cI ff70)))] H locs := w
            exact ret _ (z59, z60, z61, z62, fr63, z64, z65, z66, fy67, z68, ff69, h0, ff70) _ _ _ _ _ [1, 2, 3, 0, 4] dX12_readLine_68 (nb_n (by omega) (by omega)) ⟨rfl, z59_a, z59_b, z60_a, z60_b, z61_a, z61_b, z62_a, z62_b, z64_a, z64_b, z65_a, z65_b, z66_a, z66_b, z68_a, z68_b, ff69_h, ff70_h, (show 0 ≤ (z60 - x3) from by omega), (show 0 ≤ ((((z60 - x3) - z62) + 4) - z59) from by omega), (show ∀ x : Tk × Int × Int, gT x x5 x4 x3 y0 r1 x6 → RP (sLine f0 x1 x2 x f1 h0 f2) z59 z65 z66 (fun y => gT y z62 z61 z60 fy67 fr63 z64) ff69 h0 ff70 from (by intro x hx; have hw := wd_1 hx (k := 4) pq14 (by omega); rw [sLine, if_neg (wd_0 hx (k := 0) pq2 (by omega)), if_neg (wd_0 hx (k := 1) pq5 (by omega)), if_neg (wd_0 hx (k := 2) pq8 (by omega)), if_neg (wd_0 hx (k := 3) pq11 (by omega)), if_pos hw]; exact pq73 x _ hx (wd_nb hw))), (show kpB z59 x7 z65 from pq74)⟩ w (by decide) rfl
        · replace c_12 : ¬ z10 = 0 := fun h => c_12 ((iz_eq (Int.le_trans (by decide) z10_a) (Int.le_trans z10_b (by decide))).mpr h)
          refine lv_aload_n hx hb dX12_readLine_47 rfl (lv_at hl 0 rfl) ?_
          refine k_I (ce := 0) (sl := 0) (rest := []) (wr := [(a11, .inl (T 2, 3, .inl (cI f2)))]) (r_V (f := 4) [4, 0, 1, 2] M w V_HookedCityModel_218 G1712 G64 (c61_X12_readDone l D T _ a0 r0 a1 x0 x1 x2 x3 x4 x5 r1 x6 x7 x8 y0 x9 a2 a3 a4 a5 a6 a7 a8 a9 a10 a11 x10 a12 a13 a14 a15 x11 r2 r3 a16 x12 x13 a17 a18 x14 a19 x15 r4 a20 a21 x16 r5 a22 x17 x18 x19 x20 f0 f1 h0 x0_a x0_b x1_a x1_b x2_a x2_b x3_a x3_b x4_a x4_b x5_a x5_b x6_a x6_b x7_a x7_b x8_a x8_b x9_a x9_b x10_a x10_b x11_a x11_b x12_a x12_b x13_a x13_b x14_a x14_b x15_a x15_b x16_a x16_b x17_a x17_b x18_a x18_b x19_a x19_b x20_a x20_b f0_h f1_h) 4 clX12 rfl rfl (by decide) rfl hl.1 rfl (Nat.le_of_ble_eq_true rfl) dX12_readLine_48 (by decide) (by decide) (by decide) (by decide)) w [4, 0, 1, 2] [3] rfl rfl (by decide) (by decide) rfl rfl (fun v u H locs hp w => ?_)
          obtain ⟨z75, z76, z77, z78, fr79, z80, z81, z82, fy83, z84, ff85⟩ := u
          have hv : iI z75 = v := hp.1
          subst hv
          have z75_a : 0 ≤ z75 := hp.2.1
          have z75_b : z75 ≤ 1 := hp.2.2.1
          have z76_a : 0 ≤ z76 := hp.2.2.2.1
          have z76_b : z76 ≤ 940 := hp.2.2.2.2.1
          have z77_a : 0 ≤ z77 := hp.2.2.2.2.2.1
          have z77_b : z77 ≤ 940 := hp.2.2.2.2.2.2.1
          have z78_a : 0 ≤ z78 := hp.2.2.2.2.2.2.2.1
          have z78_b : z78 ≤ 4 := hp.2.2.2.2.2.2.2.2.1
          have z80_a : (-2147483648) ≤ z80 := hp.2.2.2.2.2.2.2.2.2.1
          have z80_b : z80 ≤ 2147483647 := hp.2.2.2.2.2.2.2.2.2.2.1
          have z81_a : (-2147483648) ≤ z81 := hp.2.2.2.2.2.2.2.2.2.2.2.1
          have z81_b : z81 ≤ 2147483647 := hp.2.2.2.2.2.2.2.2.2.2.2.2.1
          have z82_a : 0 ≤ z82 := hp.2.2.2.2.2.2.2.2.2.2.2.2.2.1
          have z82_b : z82 ≤ 940 := hp.2.2.2.2.2.2.2.2.2.2.2.2.2.2.1
          have z84_a : (-2147483648) ≤ z84 := hp.2.2.2.2.2.2.2.2.2.2.2.2.2.2.2.1
          have z84_b : z84 ≤ 2147483647 := hp.2.2.2.2.2.2.2.2.2.2.2.2.2.2.2.2.1
          have ff85_h : rdI ff85 := hp.2.2.2.2.2.2.2.2.2.2.2.2.2.2.2.2.2.1
          have ee86 : 0 ≤ (z76 - x3) := hp.2.2.2.2.2.2.2.2.2.2.2.2.2.2.2.2.2.2.1
          have ee87 : 0 ≤ ((((z76 - x3) - z78) + 4) - z75) := hp.2.2.2.2.2.2.2.2.2.2.2.2.2.2.2.2.2.2.2.1
          have pq88 : ∀ (x : Tk × Int × Int) (o : Int → Int), gT x x5 x4 x3 y0 r1 x6 → ¬ x.1 = tkBad → RP (sDone f0 x1 x2 x f1 h0 o) z75 z81 z82 (fun y => gT y z78 z77 z76 fy83 fr79 z80) ff85 h0 o := hp.2.2.2.2.2.2.2.2.2.2.2.2.2.2.2.2.2.2.2.2.1
          have pq89 : kpB z75 x7 z81 := hp.2.2.2.2.2.2.2.2.2.2.2.2.2.2.2.2.2.2.2.2.2
          have w : WD D A s.heap [(a11, .inl (T 2, 3, .inl (cI f2))), (a0, .inr (11, [.int r0, .ref a1, .int (iI x0), .int (iI x1), .int (iI x2), .int (iI z76), .int (iI z77), .int (iI z78), .int fr79, .int (iI z80), .int (iI z81), .int (iI z82), .long fy83, .int (iI z84), .ref a2, .ref a3, .ref a4, .ref a5, .ref a6, .ref a7, .ref a8, .ref a9, .ref a10, .ref a11, .int (iI x10), .ref a12, .ref a13, .ref a14, .ref a15, .int (iI x11), .int r2, .int r3, .ref a16, .int (iI x12), .int (iI x13), .ref a17, .ref a18, .int (iI x14), .ref a19, .int (iI x15), .int r4, .ref a20, .ref a21, .int (iI x16), .int r5, .ref a22, .int (iI x17), .int (iI x18), .int (iI x19), .int (iI x20)])), (a1, .inl (T 0, 940, .inl (cI f0))), (a3, .inl (T 0, 53, .inl (cI ff85))), (a8, .inl (T 1, 12, .inr (.inl h0)))] H locs := w
          exact ret _ (z75, z76, z77, z78, fr79, z80, z81, z82, fy83, z84, ff85, h0, f2) _ _ _ _ _ [1, 2, 3, 4, 0] dX12_readLine_51 (nb_n (by omega) (by omega)) ⟨rfl, z75_a, z75_b, z76_a, z76_b, z77_a, z77_b, z78_a, z78_b, z80_a, z80_b, z81_a, z81_b, z82_a, z82_b, z84_a, z84_b, ff85_h, f2_h, (show 0 ≤ (z76 - x3) from by omega), (show 0 ≤ ((((z76 - x3) - z78) + 4) - z75) from by omega), (show ∀ x : Tk × Int × Int, gT x x5 x4 x3 y0 r1 x6 → RP (sLine f0 x1 x2 x f1 h0 f2) z75 z81 z82 (fun y => gT y z78 z77 z76 fy83 fr79 z80) ff85 h0 f2 from (by intro x hx; have hw := wd_1 hx (k := 3) pq11 (by omega); rw [sLine, if_neg (wd_0 hx (k := 0) pq2 (by omega)), if_neg (wd_0 hx (k := 1) pq5 (by omega)), if_neg (wd_0 hx (k := 2) pq8 (by omega)), if_pos hw]; exact pq88 x _ hx (wd_nb hw))), (show kpB z75 x7 z81 from pq89)⟩ w (by decide) rfl
      · replace c_9 : ¬ z7 = 0 := fun h => c_9 ((iz_eq (Int.le_trans (by decide) z7_a) (Int.le_trans z7_b (by decide))).mpr h)
        refine lv_aload_n hx hb dX12_readLine_34 rfl (lv_at hl 0 rfl) ?_
        refine k_I (ce := 0) (sl := 0) (rest := []) (wr := [(a11, .inl (T 2, 3, .inl (cI f2)))]) (r_V (f := 4) [4, 0, 1, 2] M w V_HookedCityModel_215 G1701 G62 (c60_X12_readStreet l D T _ a0 r0 a1 x0 x1 x2 x3 x4 x5 r1 x6 x7 x8 y0 x9 a2 a3 a4 a5 a6 a7 a8 a9 a10 a11 x10 a12 a13 a14 a15 x11 r2 r3 a16 x12 x13 a17 a18 x14 a19 x15 r4 a20 a21 x16 r5 a22 x17 x18 x19 x20 f0 f1 h0 x0_a x0_b x1_a x1_b x2_a x2_b x3_a x3_b x4_a x4_b x5_a x5_b x6_a x6_b x7_a x7_b x8_a x8_b x9_a x9_b x10_a x10_b x11_a x11_b x12_a x12_b x13_a x13_b x14_a x14_b x15_a x15_b x16_a x16_b x17_a x17_b x18_a x18_b x19_a x19_b x20_a x20_b f0_h f1_h) 4 clX12 rfl rfl (by decide) rfl hl.1 rfl (Nat.le_of_ble_eq_true rfl) dX12_readLine_35 (by decide) (by decide) (by decide) (by decide)) w [4, 0, 1, 2] [3] rfl rfl (by decide) (by decide) rfl rfl (fun v u H locs hp w => ?_)
        obtain ⟨z90, z91, z92, z93, fr94, z95, z96, z97, fy98, z99, ff100⟩ := u
        have hv : iI z90 = v := hp.1
        subst hv
        have z90_a : 0 ≤ z90 := hp.2.1
        have z90_b : z90 ≤ 1 := hp.2.2.1
        have z91_a : 0 ≤ z91 := hp.2.2.2.1
        have z91_b : z91 ≤ 940 := hp.2.2.2.2.1
        have z92_a : 0 ≤ z92 := hp.2.2.2.2.2.1
        have z92_b : z92 ≤ 940 := hp.2.2.2.2.2.2.1
        have z93_a : 0 ≤ z93 := hp.2.2.2.2.2.2.2.1
        have z93_b : z93 ≤ 4 := hp.2.2.2.2.2.2.2.2.1
        have z95_a : (-2147483648) ≤ z95 := hp.2.2.2.2.2.2.2.2.2.1
        have z95_b : z95 ≤ 2147483647 := hp.2.2.2.2.2.2.2.2.2.2.1
        have z96_a : (-2147483648) ≤ z96 := hp.2.2.2.2.2.2.2.2.2.2.2.1
        have z96_b : z96 ≤ 2147483647 := hp.2.2.2.2.2.2.2.2.2.2.2.2.1
        have z97_a : 0 ≤ z97 := hp.2.2.2.2.2.2.2.2.2.2.2.2.2.1
        have z97_b : z97 ≤ 940 := hp.2.2.2.2.2.2.2.2.2.2.2.2.2.2.1
        have z99_a : (-2147483648) ≤ z99 := hp.2.2.2.2.2.2.2.2.2.2.2.2.2.2.2.1
        have z99_b : z99 ≤ 2147483647 := hp.2.2.2.2.2.2.2.2.2.2.2.2.2.2.2.2.1
        have ff100_h : rdI ff100 := hp.2.2.2.2.2.2.2.2.2.2.2.2.2.2.2.2.2.1
        have ee101 : 0 ≤ (z91 - x3) := hp.2.2.2.2.2.2.2.2.2.2.2.2.2.2.2.2.2.2.1
        have ee102 : 0 ≤ ((((z91 - x3) - z93) + 4) - z90) := hp.2.2.2.2.2.2.2.2.2.2.2.2.2.2.2.2.2.2.2.1
        have pq103 : ∀ (x : Tk × Int × Int) (o : Int → Int), gT x x5 x4 x3 y0 r1 x6 → ¬ x.1 = tkBad → RP (sStreet f0 x1 x2 x f1 h0 o) z90 z96 z97 (fun y => gT y z93 z92 z91 fy98 fr94 z95) ff100 h0 o := hp.2.2.2.2.2.2.2.2.2.2.2.2.2.2.2.2.2.2.2.2.1
        have pq104 : kpB z90 x7 z96 := hp.2.2.2.2.2.2.2.2.2.2.2.2.2.2.2.2.2.2.2.2.2
        have w : WD D A s.heap [(a11, .inl (T 2, 3, .inl (cI f2))), (a0, .inr (11, [.int r0, .ref a1, .int (iI x0), .int (iI x1), .int (iI x2), .int (iI z91), .int (iI z92), .int (iI z93), .int fr94, .int (iI z95), .int (iI z96), .int (iI z97), .long fy98, .int (iI z99), .ref a2, .ref a3, .ref a4, .ref a5, .ref a6, .ref a7, .ref a8, .ref a9, .ref a10, .ref a11, .int (iI x10), .ref a12, .ref a13, .ref a14, .ref a15, .int (iI x11), .int r2, .int r3, .ref a16, .int (iI x12), .int (iI x13), .ref a17, .ref a18, .int (iI x14), .ref a19, .int (iI x15), .int r4, .ref a20, .ref a21, .int (iI x16), .int r5, .ref a22, .int (iI x17), .int (iI x18), .int (iI x19), .int (iI x20)])), (a1, .inl (T 0, 940, .inl (cI f0))), (a3, .inl (T 0, 53, .inl (cI ff100))), (a8, .inl (T 1, 12, .inr (.inl h0)))] H locs := w
        exact ret _ (z90, z91, z92, z93, fr94, z95, z96, z97, fy98, z99, ff100, h0, f2) _ _ _ _ _ [1, 2, 3, 4, 0] dX12_readLine_38 (nb_n (by omega) (by omega)) ⟨rfl, z90_a, z90_b, z91_a, z91_b, z92_a, z92_b, z93_a, z93_b, z95_a, z95_b, z96_a, z96_b, z97_a, z97_b, z99_a, z99_b, ff100_h, f2_h, (show 0 ≤ (z91 - x3) from by omega), (show 0 ≤ ((((z91 - x3) - z93) + 4) - z90) from by omega), (show ∀ x : Tk × Int × Int, gT x x5 x4 x3 y0 r1 x6 → RP (sLine f0 x1 x2 x f1 h0 f2) z90 z96 z97 (fun y => gT y z93 z92 z91 fy98 fr94 z95) ff100 h0 f2 from (by intro x hx; have hw := wd_1 hx (k := 2) pq8 (by omega); rw [sLine, if_neg (wd_0 hx (k := 0) pq2 (by omega)), if_neg (wd_0 hx (k := 1) pq5 (by omega)), if_pos hw]; exact pq103 x _ hx (wd_nb hw))), (show kpB z90 x7 z96 from pq104)⟩ w (by decide) rfl
    · replace c_6 : ¬ z4 = 0 := fun h => c_6 ((iz_eq (Int.le_trans (by decide) z4_a) (Int.le_trans z4_b (by decide))).mpr h)
      refine lv_aload_n hx hb dX12_readLine_21 rfl (lv_at hl 0 rfl) ?_
      refine k_I (ce := 0) (sl := 0) (rest := []) (wr := [(a11, .inl (T 2, 3, .inl (cI f2)))]) (r_V (f := 4) [4, 0, 1, 2] M w V_HookedCityModel_212 G1697 G61 (c59_X12_readMaid l D T _ a0 r0 a1 x0 x1 x2 x3 x4 x5 r1 x6 x7 x8 y0 x9 a2 a3 a4 a5 a6 a7 a8 a9 a10 a11 x10 a12 a13 a14 a15 x11 r2 r3 a16 x12 x13 a17 a18 x14 a19 x15 r4 a20 a21 x16 r5 a22 x17 x18 x19 x20 f0 f1 h0 x0_a x0_b x1_a x1_b x2_a x2_b x3_a x3_b x4_a x4_b x5_a x5_b x6_a x6_b x7_a x7_b x8_a x8_b x9_a x9_b x10_a x10_b x11_a x11_b x12_a x12_b x13_a x13_b x14_a x14_b x15_a x15_b x16_a x16_b x17_a x17_b x18_a x18_b x19_a x19_b x20_a x20_b f0_h f1_h) 4 clX12 rfl rfl (by decide) rfl hl.1 rfl (Nat.le_of_ble_eq_true rfl) dX12_readLine_22 (by decide) (by decide) (by decide) (by decide)) w [4, 0, 1, 2] [3] rfl rfl (by decide) (by decide) rfl rfl (fun v u H locs hp w => ?_)
      obtain ⟨z105, z106, z107, z108, fr109, z110, z111, z112, fy113, z114, ff115, fh116⟩ := u
      have hv : iI z105 = v := hp.1
      subst hv
      have z105_a : 0 ≤ z105 := hp.2.1
      have z105_b : z105 ≤ 1 := hp.2.2.1
      have z106_a : 0 ≤ z106 := hp.2.2.2.1
      have z106_b : z106 ≤ 940 := hp.2.2.2.2.1
      have z107_a : 0 ≤ z107 := hp.2.2.2.2.2.1
      have z107_b : z107 ≤ 940 := hp.2.2.2.2.2.2.1
      have z108_a : 0 ≤ z108 := hp.2.2.2.2.2.2.2.1
      have z108_b : z108 ≤ 4 := hp.2.2.2.2.2.2.2.2.1
      have z110_a : (-2147483648) ≤ z110 := hp.2.2.2.2.2.2.2.2.2.1
      have z110_b : z110 ≤ 2147483647 := hp.2.2.2.2.2.2.2.2.2.2.1
      have z111_a : (-2147483648) ≤ z111 := hp.2.2.2.2.2.2.2.2.2.2.2.1
      have z111_b : z111 ≤ 2147483647 := hp.2.2.2.2.2.2.2.2.2.2.2.2.1
      have z112_a : 0 ≤ z112 := hp.2.2.2.2.2.2.2.2.2.2.2.2.2.1
      have z112_b : z112 ≤ 940 := hp.2.2.2.2.2.2.2.2.2.2.2.2.2.2.1
      have z114_a : (-2147483648) ≤ z114 := hp.2.2.2.2.2.2.2.2.2.2.2.2.2.2.2.1
      have z114_b : z114 ≤ 2147483647 := hp.2.2.2.2.2.2.2.2.2.2.2.2.2.2.2.2.1
      have ff115_h : rdI ff115 := hp.2.2.2.2.2.2.2.2.2.2.2.2.2.2.2.2.2.1
      have ee117 : 0 ≤ (z106 - x3) := hp.2.2.2.2.2.2.2.2.2.2.2.2.2.2.2.2.2.2.1
      have ee118 : 0 ≤ ((((z106 - x3) - z108) + 4) - z105) := hp.2.2.2.2.2.2.2.2.2.2.2.2.2.2.2.2.2.2.2.1
      have pq119 : ∀ (x : Tk × Int × Int) (o : Int → Int), gT x x5 x4 x3 y0 r1 x6 → ¬ x.1 = tkBad → RP (sMaid f0 x1 x2 x f1 h0 o) z105 z111 z112 (fun y => gT y z108 z107 z106 fy113 fr109 z110) ff115 fh116 o := hp.2.2.2.2.2.2.2.2.2.2.2.2.2.2.2.2.2.2.2.2.1
      have pq120 : kpB z105 x7 z111 := hp.2.2.2.2.2.2.2.2.2.2.2.2.2.2.2.2.2.2.2.2.2
      have w : WD D A s.heap [(a11, .inl (T 2, 3, .inl (cI f2))), (a0, .inr (11, [.int r0, .ref a1, .int (iI x0), .int (iI x1), .int (iI x2), .int (iI z106), .int (iI z107), .int (iI z108), .int fr109, .int (iI z110), .int (iI z111), .int (iI z112), .long fy113, .int (iI z114), .ref a2, .ref a3, .ref a4, .ref a5, .ref a6, .ref a7, .ref a8, .ref a9, .ref a10, .ref a11, .int (iI x10), .ref a12, .ref a13, .ref a14, .ref a15, .int (iI x11), .int r2, .int r3, .ref a16, .int (iI x12), .int (iI x13), .ref a17, .ref a18, .int (iI x14), .ref a19, .int (iI x15), .int r4, .ref a20, .ref a21, .int (iI x16), .int r5, .ref a22, .int (iI x17), .int (iI x18), .int (iI x19), .int (iI x20)])), (a1, .inl (T 0, 940, .inl (cI f0))), (a3, .inl (T 0, 53, .inl (cI ff115))), (a8, .inl (T 1, 12, .inr (.inl fh116)))] H locs := w
      exact ret _ (z105, z106, z107, z108, fr109, z110, z111, z112, fy113, z114, ff115, fh116, f2) _ _ _ _ _ [1, 2, 3, 4, 0] dX12_readLine_25 (nb_n (by omega) (by omega)) ⟨rfl, z105_a, z105_b, z106_a, z106_b, z107_a, z107_b, z108_a, z108_b, z110_a, z110_b, z111_a, z111_b, z112_a, z112_b, z114_a, z114_b, ff115_h, f2_h, (show 0 ≤ (z106 - x3) from by omega), (show 0 ≤ ((((z106 - x3) - z108) + 4) - z105) from by omega), (show ∀ x : Tk × Int × Int, gT x x5 x4 x3 y0 r1 x6 → RP (sLine f0 x1 x2 x f1 h0 f2) z105 z111 z112 (fun y => gT y z108 z107 z106 fy113 fr109 z110) ff115 fh116 f2 from (by intro x hx; have hw := wd_1 hx (k := 1) pq5 (by omega); rw [sLine, if_neg (wd_0 hx (k := 0) pq2 (by omega)), if_pos hw]; exact pq119 x _ hx (wd_nb hw))), (show kpB z105 x7 z111 from pq120)⟩ w (by decide) rfl
  · replace c_3 : ¬ z1 = 0 := fun h => c_3 ((iz_eq (Int.le_trans (by decide) z1_a) (Int.le_trans z1_b (by decide))).mpr h)
    refine lv_aload_n hx hb dX12_readLine_8 rfl (lv_at hl 0 rfl) ?_
    refine k_I (ce := 0) (sl := 0) (rest := []) (wr := [(a11, .inl (T 2, 3, .inl (cI f2)))]) (r_V (f := 4) [4, 0, 1, 2] M w V_HookedCityModel_209 G1659 G53 (c57_X12_readPerson l D T _ a0 r0 a1 x0 x1 x2 x3 x4 x5 r1 x6 x7 x8 y0 x9 a2 a3 a4 a5 a6 a7 a8 a9 a10 a11 x10 a12 a13 a14 a15 x11 r2 r3 a16 x12 x13 a17 a18 x14 a19 x15 r4 a20 a21 x16 r5 a22 x17 x18 x19 x20 f0 f1 h0 x0_a x0_b x1_a x1_b x2_a x2_b x3_a x3_b x4_a x4_b x5_a x5_b x6_a x6_b x7_a x7_b x8_a x8_b x9_a x9_b x10_a x10_b x11_a x11_b x12_a x12_b x13_a x13_b x14_a x14_b x15_a x15_b x16_a x16_b x17_a x17_b x18_a x18_b x19_a x19_b x20_a x20_b f0_h f1_h) 4 clX12 rfl rfl (by decide) rfl hl.1 rfl (Nat.le_of_ble_eq_true rfl) dX12_readLine_9 (by decide) (by decide) (by decide) (by decide)) w [4, 0, 1, 2] [3] rfl rfl (by decide) (by decide) rfl rfl (fun v u H locs hp w => ?_)
    obtain ⟨z121, z122, z123, z124, fr125, z126, z127, z128, fy129, z130, ff131, fh132⟩ := u
    have hv : iI z121 = v := hp.1
    subst hv
    have z121_a : 0 ≤ z121 := hp.2.1
    have z121_b : z121 ≤ 1 := hp.2.2.1
    have z122_a : 0 ≤ z122 := hp.2.2.2.1
    have z122_b : z122 ≤ 940 := hp.2.2.2.2.1
    have z123_a : 0 ≤ z123 := hp.2.2.2.2.2.1
    have z123_b : z123 ≤ 940 := hp.2.2.2.2.2.2.1
    have z124_a : 0 ≤ z124 := hp.2.2.2.2.2.2.2.1
    have z124_b : z124 ≤ 4 := hp.2.2.2.2.2.2.2.2.1
    have z126_a : (-2147483648) ≤ z126 := hp.2.2.2.2.2.2.2.2.2.1
    have z126_b : z126 ≤ 2147483647 := hp.2.2.2.2.2.2.2.2.2.2.1
    have z127_a : (-2147483648) ≤ z127 := hp.2.2.2.2.2.2.2.2.2.2.2.1
    have z127_b : z127 ≤ 2147483647 := hp.2.2.2.2.2.2.2.2.2.2.2.2.1
    have z128_a : 0 ≤ z128 := hp.2.2.2.2.2.2.2.2.2.2.2.2.2.1
    have z128_b : z128 ≤ 940 := hp.2.2.2.2.2.2.2.2.2.2.2.2.2.2.1
    have z130_a : (-2147483648) ≤ z130 := hp.2.2.2.2.2.2.2.2.2.2.2.2.2.2.2.1
    have z130_b : z130 ≤ 2147483647 := hp.2.2.2.2.2.2.2.2.2.2.2.2.2.2.2.2.1
    have ff131_h : rdI ff131 := hp.2.2.2.2.2.2.2.2.2.2.2.2.2.2.2.2.2.1
    have ee133 : 0 ≤ (z122 - x3) := hp.2.2.2.2.2.2.2.2.2.2.2.2.2.2.2.2.2.2.1
    have ee134 : 0 ≤ ((((z122 - x3) - z124) + 4) - z121) := hp.2.2.2.2.2.2.2.2.2.2.2.2.2.2.2.2.2.2.2.1
    have pq135 : ∀ (x : Tk × Int × Int) (o : Int → Int), gT x x5 x4 x3 y0 r1 x6 → ¬ x.1 = tkBad → RP (sPerson f0 x1 x2 x f1 h0 o) z121 z127 z128 (fun y => gT y z124 z123 z122 fy129 fr125 z126) ff131 fh132 o := hp.2.2.2.2.2.2.2.2.2.2.2.2.2.2.2.2.2.2.2.2.1
    have pq136 : kpB z121 x7 z127 := hp.2.2.2.2.2.2.2.2.2.2.2.2.2.2.2.2.2.2.2.2.2
    have w : WD D A s.heap [(a11, .inl (T 2, 3, .inl (cI f2))), (a0, .inr (11, [.int r0, .ref a1, .int (iI x0), .int (iI x1), .int (iI x2), .int (iI z122), .int (iI z123), .int (iI z124), .int fr125, .int (iI z126), .int (iI z127), .int (iI z128), .long fy129, .int (iI z130), .ref a2, .ref a3, .ref a4, .ref a5, .ref a6, .ref a7, .ref a8, .ref a9, .ref a10, .ref a11, .int (iI x10), .ref a12, .ref a13, .ref a14, .ref a15, .int (iI x11), .int r2, .int r3, .ref a16, .int (iI x12), .int (iI x13), .ref a17, .ref a18, .int (iI x14), .ref a19, .int (iI x15), .int r4, .ref a20, .ref a21, .int (iI x16), .int r5, .ref a22, .int (iI x17), .int (iI x18), .int (iI x19), .int (iI x20)])), (a1, .inl (T 0, 940, .inl (cI f0))), (a3, .inl (T 0, 53, .inl (cI ff131))), (a8, .inl (T 1, 12, .inr (.inl fh132)))] H locs := w
    exact ret _ (z121, z122, z123, z124, fr125, z126, z127, z128, fy129, z130, ff131, fh132, f2) _ _ _ _ _ [1, 2, 3, 4, 0] dX12_readLine_12 (nb_n (by omega) (by omega)) ⟨rfl, z121_a, z121_b, z122_a, z122_b, z123_a, z123_b, z124_a, z124_b, z126_a, z126_b, z127_a, z127_b, z128_a, z128_b, z130_a, z130_b, ff131_h, f2_h, (show 0 ≤ (z122 - x3) from by omega), (show 0 ≤ ((((z122 - x3) - z124) + 4) - z121) from by omega), (show ∀ x : Tk × Int × Int, gT x x5 x4 x3 y0 r1 x6 → RP (sLine f0 x1 x2 x f1 h0 f2) z121 z127 z128 (fun y => gT y z124 z123 z122 fy129 fr125 z126) ff131 fh132 f2 from (by intro x hx; have hw := wd_1 hx (k := 0) pq2 (by omega); rw [sLine, if_pos hw]; exact pq135 x _ hx (wd_nb hw))), (show kpB z121 x7 z127 from pq136)⟩ w (by decide) rfl
