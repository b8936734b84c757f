theorem dX11_button_0 : decode cX11_button 0 = .ok (.aload_n 0, 1) := by decide +kernel
theorem dX11_button_1 : decode cX11_button 1 = .ok (.iload_n 1, 1) := by decide +kernel
theorem dX11_button_2 : decode cX11_button 2 = .ok (.invokevirtual 166, 3) := by decide +kernel
theorem dX11_button_5 : decode cX11_button 5 = .ok (.ifCond .eq 19, 3) := by decide +kernel
theorem dX11_button_24 : decode cX11_button 24 = .ok (.iconst (-1), 1) := by decide +kernel
theorem dX11_button_25 : decode cX11_button 25 = .ok (.ireturn, 1) := by decide +kernel
theorem dX12_act_0 : decode cX12_act 0 = .ok (.iload 5, 2) := by decide +kernel
theorem dX12_act_2 : decode cX12_act 2 = .ok (.ifCond .ne 5, 3) := by decide +kernel
theorem dX12_act_5 : decode cX12_act 5 = .ok (.iconst (-1), 1) := by decide +kernel
theorem dX12_act_6 : decode cX12_act 6 = .ok (.ireturn, 1) := by decide +kernel
theorem dX12_button_0 : decode cX12_button 0 = .ok (.aload_n 0, 1) := by decide +kernel
theorem dX12_button_1 : decode cX12_button 1 = .ok (.iconst 0, 1) := by decide +kernel
theorem dX12_button_2 : decode cX12_button 2 = .ok (.putfield 1, 3) := by decide +kernel
theorem dX12_button_5 : decode cX12_button 5 = .ok (.aload_n 0, 1) := by decide +kernel
theorem dX12_button_6 : decode cX12_button 6 = .ok (.iconst 0, 1) := by decide +kernel
theorem dX12_button_7 : decode cX12_button 7 = .ok (.iload_n 1, 1) := by decide +kernel
theorem dX12_button_8 : decode cX12_button 8 = .ok (.iload_n 2, 1) := by decide +kernel
theorem dX12_button_9 : decode cX12_button 9 = .ok (.iload_n 3, 1) := by decide +kernel
theorem dX12_button_10 : decode cX12_button 10 = .ok (.aload_n 0, 1) := by decide +kernel
theorem dX12_button_11 : decode cX12_button 11 = .ok (.iload_n 1, 1) := by decide +kernel
theorem dX12_button_12 : decode cX12_button 12 = .ok (.invokevirtual 252, 3) := by decide +kernel
theorem dX12_button_15 : decode cX12_button 15 = .ok (.ifCond .eq 23, 3) := by decide +kernel
theorem dX12_button_38 : decode cX12_button 38 = .ok (.iconst 0, 1) := by decide +kernel
theorem dX12_button_39 : decode cX12_button 39 = .ok (.invokevirtual 291, 3) := by decide +kernel
theorem G1793 : Cond.code ⟨"HookedCityModel", "act", "(IIIIZ)I"⟩ prog_14_method_62_code 7 (some .int) ∈ GW := gw_i 1793 (by decide +kernel) rfl
theorem G1790 : Cond.methodLink "HookedCityModel" 291 ⟨"HookedCityModel", "act", "(IIIIZ)I"⟩ ∈ GW := gw_i 1790 (by decide +kernel) rfl
theorem V_HookedCityModel_291 : VL "HookedCityModel" 291 yX12_act cX12_act 7 (some .int) 5 := ⟨G1793, G1790, G131, by decide +kernel, by decide +kernel, by decide +kernel⟩
theorem G1792 : Cond.instanceMethod ⟨"HookedCityModel", "act", "(IIIIZ)I"⟩ ∈ GW := gw_i 1792 (by decide +kernel) rfl
theorem G78 : Cond.selects "HookedCityModel" ⟨"HookedCityModel", "act", "(IIIIZ)I"⟩ ⟨"HookedCityModel", "act", "(IIIIZ)I"⟩ ∈ GW := gw_i 78 (by decide +kernel) rfl
theorem dX12_button_42 : decode cX12_button 42 = .ok (.ireturn, 1) := by decide +kernel
theorem dX11_loose_0 : decode cX11_loose 0 = .ok (.aload_n 0, 1) := by decide +kernel
theorem dX11_loose_1 : decode cX11_loose 1 = .ok (.iload_n 1, 1) := by decide +kernel
theorem dX11_loose_2 : decode cX11_loose 2 = .ok (.invokevirtual 166, 3) := by decide +kernel
theorem dX11_loose_5 : decode cX11_loose 5 = .ok (.ifCond .eq 11, 3) := by decide +kernel
theorem dX11_loose_16 : decode cX11_loose 16 = .ok (.iconst (-1), 1) := by decide +kernel
theorem dX11_loose_17 : decode cX11_loose 17 = .ok (.ireturn, 1) := by decide +kernel
theorem dX12_loose_0 : decode cX12_loose 0 = .ok (.aload_n 0, 1) := by decide +kernel
theorem dX12_loose_1 : decode cX12_loose 1 = .ok (.iconst 0, 1) := by decide +kernel
theorem dX12_loose_2 : decode cX12_loose 2 = .ok (.putfield 1, 3) := by decide +kernel
theorem dX12_loose_5 : decode cX12_loose 5 = .ok (.aload_n 0, 1) := by decide +kernel
theorem dX12_loose_6 : decode cX12_loose 6 = .ok (.iconst 1, 1) := by decide +kernel
theorem dX12_loose_7 : decode cX12_loose 7 = .ok (.iload_n 1, 1) := by decide +kernel
theorem dX12_loose_8 : decode cX12_loose 8 = .ok (.iload_n 2, 1) := by decide +kernel
theorem dX12_loose_9 : decode cX12_loose 9 = .ok (.iconst 0, 1) := by decide +kernel
theorem dX12_loose_10 : decode cX12_loose 10 = .ok (.aload_n 0, 1) := by decide +kernel
theorem dX12_loose_11 : decode cX12_loose 11 = .ok (.iload_n 1, 1) := by decide +kernel
theorem dX12_loose_12 : decode cX12_loose 12 = .ok (.invokevirtual 252, 3) := by decide +kernel
theorem dX12_loose_15 : decode cX12_loose 15 = .ok (.ifCond .eq 15, 3) := by decide +kernel
theorem dX12_loose_30 : decode cX12_loose 30 = .ok (.iconst 0, 1) := by decide +kernel
theorem dX12_loose_31 : decode cX12_loose 31 = .ok (.invokevirtual 291, 3) := by decide +kernel
theorem dX12_loose_34 : decode cX12_loose 34 = .ok (.ireturn, 1) := by decide +kernel
theorem dX11_isPerson_0 : decode cX11_isPerson 0 = .ok (.iload_n 1, 1) := by decide +kernel
theorem dX11_isPerson_1 : decode cX11_isPerson 1 = .ok (.ifCond .lt 18, 3) := by decide +kernel
theorem dX11_isPerson_19 : decode cX11_isPerson 19 = .ok (.iconst 0, 1) := by decide +kernel
theorem dX11_isPerson_20 : decode cX11_isPerson 20 = .ok (.ireturn, 1) := by decide +kernel
theorem dX11_isPerson_4 : decode cX11_isPerson 4 = .ok (.iload_n 1, 1) := by decide +kernel
theorem dX11_isPerson_5 : decode cX11_isPerson 5 = .ok (.aload_n 0, 1) := by decide +kernel
theorem dX11_isPerson_6 : decode cX11_isPerson 6 = .ok (.getfield 74, 3) := by decide +kernel
theorem dX11_isPerson_9 : decode cX11_isPerson 9 = .ok (.getfield 257, 3) := by decide +kernel
theorem N392 : Cond.fieldLinkNest "HookedCity" 257 "HookedCity$Town" "persons" "I" "HookedCity" ∈ lw_tbl := List.mem_of_getElem? (i := 392) (by decide +kernel)
theorem dX11_isPerson_12 : decode cX11_isPerson 12 = .ok (.if_icmp .ge 7, 3) := by decide +kernel
theorem dX11_mend_0 : decode cX11_mend 0 = .ok (.aload_n 0, 1) := by decide +kernel
theorem dX11_mend_1 : decode cX11_mend 1 = .ok (.iload_n 1, 1) := by decide +kernel
theorem dX11_mend_2 : decode cX11_mend 2 = .ok (.invokevirtual 134, 3) := by decide +kernel
theorem G842 : Cond.code ⟨"HookedCity", "isPerson", "(I)Z"⟩ prog_1_method_39_code 2 (some .boolean) ∈ GW := gw_i 842 (by decide +kernel) rfl
theorem G839 : Cond.methodLink "HookedCity" 134 ⟨"HookedCity", "isPerson", "(I)Z"⟩ ∈ GW := gw_i 839 (by decide +kernel) rfl
theorem V_HookedCity_134 : VL "HookedCity" 134 yX11_isPerson cX11_isPerson 2 (some .boolean) 1 := ⟨G842, G839, G119, by decide +kernel, by decide +kernel, by decide +kernel⟩
theorem G841 : Cond.instanceMethod ⟨"HookedCity", "isPerson", "(I)Z"⟩ ∈ GW := gw_i 841 (by decide +kernel) rfl
theorem G16 : Cond.selects "HookedCity" ⟨"HookedCity", "isPerson", "(I)Z"⟩ ⟨"HookedCity", "isPerson", "(I)Z"⟩ ∈ GW := gw_i 16 (by decide +kernel) rfl
theorem dX11_mend_5 : decode cX11_mend 5 = .ok (.ifCond .ne 5, 3) := by decide +kernel
theorem dX11_mend_8 : decode cX11_mend 8 = .ok (.iconst (-1), 1) := by decide +kernel
theorem dX11_mend_9 : decode cX11_mend 9 = .ok (.ireturn, 1) := by decide +kernel
theorem dX12_isPerson_0 : decode cX12_isPerson 0 = .ok (.iload_n 1, 1) := by decide +kernel
theorem dX12_isPerson_1 : decode cX12_isPerson 1 = .ok (.iconst 0, 1) := by decide +kernel
theorem dX12_isPerson_2 : decode cX12_isPerson 2 = .ok (.aload_n 0, 1) := by decide +kernel
theorem dX12_isPerson_3 : decode cX12_isPerson 3 = .ok (.getfield 98, 3) := by decide +kernel
theorem dX12_isPerson_6 : decode cX12_isPerson 6 = .ok (.iconst 0, 1) := by decide +kernel
theorem dX12_isPerson_7 : decode cX12_isPerson 7 = .ok (.iaload, 1) := by decide +kernel
theorem dX12_isPerson_8 : decode cX12_isPerson 8 = .ok (.iconst 1, 1) := by decide +kernel
theorem dX12_isPerson_9 : decode cX12_isPerson 9 = .ok (.isub, 1) := by decide +kernel
theorem dX12_isPerson_10 : decode cX12_isPerson 10 = .ok (.invokestatic 75, 3) := by decide +kernel
theorem dX12_isPerson_13 : decode cX12_isPerson 13 = .ok (.ireturn, 1) := by decide +kernel
theorem dX12_mend_0 : decode cX12_mend 0 = .ok (.aload_n 0, 1) := by decide +kernel
theorem dX12_mend_1 : decode cX12_mend 1 = .ok (.iconst 0, 1) := by decide +kernel
theorem dX12_mend_2 : decode cX12_mend 2 = .ok (.putfield 1, 3) := by decide +kernel
theorem dX12_mend_5 : decode cX12_mend 5 = .ok (.aload_n 0, 1) := by decide +kernel
theorem dX12_mend_6 : decode cX12_mend 6 = .ok (.iconst 2, 1) := by decide +kernel
theorem dX12_mend_7 : decode cX12_mend 7 = .ok (.iload_n 1, 1) := by decide +kernel
theorem dX12_mend_8 : decode cX12_mend 8 = .ok (.iconst 0, 1) := by decide +kernel
theorem dX12_mend_9 : decode cX12_mend 9 = .ok (.iconst 0, 1) := by decide +kernel
theorem dX12_mend_10 : decode cX12_mend 10 = .ok (.aload_n 0, 1) := by decide +kernel
theorem dX12_mend_11 : decode cX12_mend 11 = .ok (.iload_n 1, 1) := by decide +kernel
theorem dX12_mend_12 : decode cX12_mend 12 = .ok (.invokevirtual 240, 3) := by decide +kernel
theorem G1741 : Cond.code ⟨"HookedCityModel", "isPerson", "(I)Z"⟩ prog_14_method_43_code 2 (some .boolean) ∈ GW := gw_i 1741 (by decide +kernel) rfl
theorem G1738 : Cond.methodLink "HookedCityModel" 240 ⟨"HookedCityModel", "isPerson", "(I)Z"⟩ ∈ GW := gw_i 1738 (by decide +kernel) rfl
theorem V_HookedCityModel_240 : VL "HookedCityModel" 240 yX12_isPerson cX12_isPerson 2 (some .boolean) 1 := ⟨G1741, G1738, G131, by decide +kernel, by decide +kernel, by decide +kernel⟩
theorem G1740 : Cond.instanceMethod ⟨"HookedCityModel", "isPerson", "(I)Z"⟩ ∈ GW := gw_i 1740 (by decide +kernel) rfl
theorem G68 : Cond.selects "HookedCityModel" ⟨"HookedCityModel", "isPerson", "(I)Z"⟩ ⟨"HookedCityModel", "isPerson", "(I)Z"⟩ ∈ GW := gw_i 68 (by decide +kernel) rfl
theorem dX12_mend_15 : decode cX12_mend 15 = .ok (.invokevirtual 291, 3) := by decide +kernel
theorem dX12_mend_18 : decode cX12_mend 18 = .ok (.ireturn, 1) := by decide +kernel
theorem dX11_undo_0 : decode cX11_undo 0 = .ok (.aload_n 0, 1) := by decide +kernel
theorem dX11_undo_1 : decode cX11_undo 1 = .ok (.getfield 91, 3) := by decide +kernel
theorem dX11_undo_4 : decode cX11_undo 4 = .ok (.ifCond .gt 5, 3) := by decide +kernel
theorem dX11_undo_7 : decode cX11_undo 7 = .ok (.iconst (-1), 1) := by decide +kernel
theorem dX11_undo_8 : decode cX11_undo 8 = .ok (.ireturn, 1) := by decide +kernel
theorem dX12_undo_0 : decode cX12_undo 0 = .ok (.aload_n 0, 1) := by decide +kernel
theorem dX12_undo_1 : decode cX12_undo 1 = .ok (.iconst 0, 1) := by decide +kernel
theorem dX12_undo_2 : decode cX12_undo 2 = .ok (.putfield 1, 3) := by decide +kernel
theorem dX12_undo_5 : decode cX12_undo 5 = .ok (.aload_n 0, 1) := by decide +kernel
theorem dX12_undo_6 : decode cX12_undo 6 = .ok (.getfield 233, 3) := by decide +kernel
theorem dX12_undo_9 : decode cX12_undo 9 = .ok (.ifCond .ne 5, 3) := by decide +kernel
theorem dX12_undo_12 : decode cX12_undo 12 = .ok (.iconst (-1), 1) := by decide +kernel
theorem dX12_undo_13 : decode cX12_undo 13 = .ok (.ireturn, 1) := by decide +kernel
theorem dX11_with_0 : decode cX11_with 0 = .ok (.aload_n 0, 1) := by decide +kernel
theorem dX11_with_1 : decode cX11_with 1 = .ok (.iload_n 1, 1) := by decide +kernel
theorem dX11_with_2 : decode cX11_with 2 = .ok (.invokevirtual 134, 3) := by decide +kernel
theorem dX11_with_5 : decode cX11_with 5 = .ok (.ifCond .eq 14, 3) := by decide +kernel
theorem dX11_with_19 : decode cX11_with 19 = .ok (.iconst (-1), 1) := by decide +kernel
theorem dX11_with_20 : decode cX11_with 20 = .ok (.ireturn, 1) := by decide +kernel
theorem dX12_with_0 : decode cX12_with 0 = .ok (.aload_n 0, 1) := by decide +kernel
theorem dX12_with_1 : decode cX12_with 1 = .ok (.iconst 0, 1) := by decide +kernel
theorem dX12_with_2 : decode cX12_with 2 = .ok (.putfield 1, 3) := by decide +kernel
theorem dX12_with_5 : decode cX12_with 5 = .ok (.aload_n 0, 1) := by decide +kernel
theorem dX12_with_6 : decode cX12_with 6 = .ok (.iload_n 1, 1) := by decide +kernel
theorem dX12_with_7 : decode cX12_with 7 = .ok (.invokevirtual 240, 3) := by decide +kernel
theorem dX12_with_10 : decode cX12_with 10 = .ok (.ifCond .eq 11, 3) := by decide +kernel
theorem dX12_with_21 : decode cX12_with 21 = .ok (.iconst (-1), 1) := by decide +kernel
theorem dX12_with_22 : decode cX12_with 22 = .ok (.ireturn, 1) := by decide +kernel
theorem dX7_partsOf_0 : decode cX7_partsOf 0 = .ok (.iconst 0, 1) := by decide +kernel
theorem dX7_partsOf_1 : decode cX7_partsOf 1 = .ok (.istore_n 2, 1) := by decide +kernel
theorem dX7_partsOf_2 : decode cX7_partsOf 2 = .ok (.iconst 0, 1) := by decide +kernel
theorem dX7_partsOf_3 : decode cX7_partsOf 3 = .ok (.istore_n 3, 1) := by decide +kernel
theorem dX7_partsOf_4 : decode cX7_partsOf 4 = .ok (.iload_n 3, 1) := by decide +kernel
theorem dX7_partsOf_5 : decode cX7_partsOf 5 = .ok (.aload_n 1, 1) := by decide +kernel
theorem dX7_partsOf_6 : decode cX7_partsOf 6 = .ok (.getfield 85, 3) := by decide +kernel
theorem dX7_partsOf_9 : decode cX7_partsOf 9 = .ok (.if_icmp .ge 30, 3) := by decide +kernel
theorem dX7_partsOf_39 : decode cX7_partsOf 39 = .ok (.iload_n 2, 1) := by decide +kernel
theorem dX7_partsOf_40 : decode cX7_partsOf 40 = .ok (.ireturn, 1) := by decide +kernel
theorem dX11_parts_0 : decode cX11_parts 0 = .ok (.aload_n 0, 1) := by decide +kernel
theorem dX11_parts_1 : decode cX11_parts 1 = .ok (.getfield 19, 3) := by decide +kernel
theorem dX11_parts_4 : decode cX11_parts 4 = .ok (.aload_n 0, 1) := by decide +kernel
theorem dX11_parts_5 : decode cX11_parts 5 = .ok (.getfield 74, 3) := by decide +kernel
theorem dX11_parts_8 : decode cX11_parts 8 = .ok (.invokevirtual 237, 3) := by decide +kernel
theorem G936 : Cond.code ⟨"HookedCity$State", "partsOf", "(LHookedCity$Town;)I"⟩ prog_9_method_22_code 5 (some .int) ∈ GW := gw_i 936 (by decide +kernel) rfl
theorem G933 : Cond.methodLink "HookedCity" 237 ⟨"HookedCity$State", "partsOf", "(LHookedCity$Town;)I"⟩ ∈ GW := gw_i 933 (by decide +kernel) rfl
theorem V_HookedCity_237 : VL "HookedCity" 237 yX7_partsOf cX7_partsOf 5 (some .int) 1 := ⟨G936, G933, G121, by decide +kernel, by decide +kernel, by decide +kernel⟩
theorem G934 : Cond.instanceMethod ⟨"HookedCity$State", "partsOf", "(LHookedCity$Town;)I"⟩ ∈ GW := gw_i 934 (by decide +kernel) rfl
theorem G935 : Cond.selects "HookedCity$State" ⟨"HookedCity$State", "partsOf", "(LHookedCity$Town;)I"⟩ ⟨"HookedCity$State", "partsOf", "(LHookedCity$Town;)I"⟩ ∈ GW := gw_i 935 (by decide +kernel) rfl
theorem dX11_parts_11 : decode cX11_parts 11 = .ok (.ireturn, 1) := by decide +kernel
theorem dX12_parts_0 : decode cX12_parts 0 = .ok (.aload_n 0, 1) := by decide +kernel
theorem dX12_parts_1 : decode cX12_parts 1 = .ok (.iconst 0, 1) := by decide +kernel
theorem dX12_parts_2 : decode cX12_parts 2 = .ok (.putfield 1, 3) := by decide +kernel
theorem dX12_parts_5 : decode cX12_parts 5 = .ok (.iconst 0, 1) := by decide +kernel
theorem dX12_parts_6 : decode cX12_parts 6 = .ok (.istore_n 1, 1) := by decide +kernel
theorem dX12_parts_7 : decode cX12_parts 7 = .ok (.iconst 1, 1) := by decide +kernel
theorem dX12_parts_8 : decode cX12_parts 8 = .ok (.aload_n 0, 1) := by decide +kernel
theorem dX12_parts_9 : decode cX12_parts 9 = .ok (.getfield 98, 3) := by decide +kernel
theorem dX12_parts_12 : decode cX12_parts 12 = .ok (.iconst 0, 1) := by decide +kernel
theorem dX12_parts_13 : decode cX12_parts 13 = .ok (.iaload, 1) := by decide +kernel
theorem dX12_parts_14 : decode cX12_parts 14 = .ok (.ishl, 1) := by decide +kernel
theorem dX12_parts_15 : decode cX12_parts 15 = .ok (.iconst 1, 1) := by decide +kernel
theorem dX12_parts_16 : decode cX12_parts 16 = .ok (.isub, 1) := by decide +kernel
theorem dX12_parts_17 : decode cX12_parts 17 = .ok (.istore_n 2, 1) := by decide +kernel
theorem dX12_parts_18 : decode cX12_parts 18 = .ok (.iconst 0, 1) := by decide +kernel
theorem dX12_parts_19 : decode cX12_parts 19 = .ok (.istore_n 3, 1) := by decide +kernel
theorem dX12_parts_20 : decode cX12_parts 20 = .ok (.iload_n 3, 1) := by decide +kernel
theorem dX12_parts_21 : decode cX12_parts 21 = .ok (.aload_n 0, 1) := by decide +kernel
theorem dX12_parts_22 : decode cX12_parts 22 = .ok (.getfield 98, 3) := by decide +kernel
theorem dX12_parts_25 : decode cX12_parts 25 = .ok (.iconst 0, 1) := by decide +kernel
theorem dX12_parts_26 : decode cX12_parts 26 = .ok (.iaload, 1) := by decide +kernel
theorem dX12_parts_27 : decode cX12_parts 27 = .ok (.if_icmp .ge 33, 3) := by decide +kernel
theorem dX12_parts_60 : decode cX12_parts 60 = .ok (.iload_n 1, 1) := by decide +kernel
theorem dX12_parts_61 : decode cX12_parts 61 = .ok (.ireturn, 1) := by decide +kernel
theorem dX7_ringOnes_0 : decode cX7_ringOnes 0 = .ok (.iconst 0, 1) := by decide +kernel
theorem dX7_ringOnes_1 : decode cX7_ringOnes 1 = .ok (.istore_n 2, 1) := by decide +kernel
theorem dX7_ringOnes_2 : decode cX7_ringOnes 2 = .ok (.iconst 0, 1) := by decide +kernel
theorem dX7_ringOnes_3 : decode cX7_ringOnes 3 = .ok (.istore_n 3, 1) := by decide +kernel
theorem dX7_ringOnes_4 : decode cX7_ringOnes 4 = .ok (.iload_n 3, 1) := by decide +kernel
theorem dX7_ringOnes_5 : decode cX7_ringOnes 5 = .ok (.aload_n 1, 1) := by decide +kernel
theorem dX7_ringOnes_6 : decode cX7_ringOnes 6 = .ok (.getfield 85, 3) := by decide +kernel
theorem dX7_ringOnes_9 : decode cX7_ringOnes 9 = .ok (.if_icmp .ge 27, 3) := by decide +kernel
theorem dX7_ringOnes_36 : decode cX7_ringOnes 36 = .ok (.iload_n 2, 1) := by decide +kernel
theorem dX7_ringOnes_37 : decode cX7_ringOnes 37 = .ok (.ireturn, 1) := by decide +kernel
theorem dX11_quiet_0 : decode cX11_quiet 0 = .ok (.aload_n 0, 1) := by decide +kernel
theorem dX11_quiet_1 : decode cX11_quiet 1 = .ok (.getfield 19, 3) := by decide +kernel
theorem dX11_quiet_4 : decode cX11_quiet 4 = .ok (.aload_n 0, 1) := by decide +kernel
theorem dX11_quiet_5 : decode cX11_quiet 5 = .ok (.getfield 74, 3) := by decide +kernel
theorem dX11_quiet_8 : decode cX11_quiet 8 = .ok (.invokevirtual 240, 3) := by decide +kernel
theorem G945 : Cond.code ⟨"HookedCity$State", "ringOnes", "(LHookedCity$Town;)I"⟩ prog_9_method_23_code 4 (some .int) ∈ GW := gw_i 945 (by decide +kernel) rfl
theorem G942 : Cond.methodLink "HookedCity" 240 ⟨"HookedCity$State", "ringOnes", "(LHookedCity$Town;)I"⟩ ∈ GW := gw_i 942 (by decide +kernel) rfl
theorem V_HookedCity_240 : VL "HookedCity" 240 yX7_ringOnes cX7_ringOnes 4 (some .int) 1 := ⟨G945, G942, G121, by decide +kernel, by decide +kernel, by decide +kernel⟩
theorem G943 : Cond.instanceMethod ⟨"HookedCity$State", "ringOnes", "(LHookedCity$Town;)I"⟩ ∈ GW := gw_i 943 (by decide +kernel) rfl
theorem G944 : Cond.selects "HookedCity$State" ⟨"HookedCity$State", "ringOnes", "(LHookedCity$Town;)I"⟩ ⟨"HookedCity$State", "ringOnes", "(LHookedCity$Town;)I"⟩ ∈ GW := gw_i 944 (by decide +kernel) rfl
theorem dX11_quiet_11 : decode cX11_quiet 11 = .ok (.ireturn, 1) := by decide +kernel
theorem dX12_quiet_0 : decode cX12_quiet 0 = .ok (.aload_n 0, 1) := by decide +kernel
theorem dX12_quiet_1 : decode cX12_quiet 1 = .ok (.iconst 0, 1) := by decide +kernel
theorem dX12_quiet_2 : decode cX12_quiet 2 = .ok (.putfield 1, 3) := by decide +kernel
theorem dX12_quiet_5 : decode cX12_quiet 5 = .ok (.iconst 0, 1) := by decide +kernel
theorem dX12_quiet_6 : decode cX12_quiet 6 = .ok (.istore_n 1, 1) := by decide +kernel
theorem dX12_quiet_7 : decode cX12_quiet 7 = .ok (.iconst 0, 1) := by decide +kernel
theorem dX12_quiet_8 : decode cX12_quiet 8 = .ok (.istore_n 2, 1) := by decide +kernel
theorem dX12_quiet_9 : decode cX12_quiet 9 = .ok (.iload_n 2, 1) := by decide +kernel
theorem dX12_quiet_10 : decode cX12_quiet 10 = .ok (.aload_n 0, 1) := by decide +kernel
theorem dX12_quiet_11 : decode cX12_quiet 11 = .ok (.getfield 98, 3) := by decide +kernel
theorem dX12_quiet_14 : decode cX12_quiet 14 = .ok (.iconst 0, 1) := by decide +kernel
theorem dX12_quiet_15 : decode cX12_quiet 15 = .ok (.iaload, 1) := by decide +kernel
theorem dX12_quiet_16 : decode cX12_quiet 16 = .ok (.if_icmp .ge 23, 3) := by decide +kernel
theorem dX12_quiet_39 : decode cX12_quiet 39 = .ok (.iload_n 1, 1) := by decide +kernel
theorem dX12_quiet_40 : decode cX12_quiet 40 = .ok (.ireturn, 1) := by decide +kernel
def cn91 : Nat → Int32 := (rngc 0 0 (-1 : Int32) cn6)
def cn92 : Nat → Int32 := (rngc 0 9 (-1 : Int32) cn6)
theorem dX9_everybody_0 : decode cX9_everybody 0 = .ok (.iconst 1, 1) := by decide +kernel
theorem dX9_everybody_1 : decode cX9_everybody 1 = .ok (.aload_n 0, 1) := by decide +kernel
theorem dX9_everybody_2 : decode cX9_everybody 2 = .ok (.getfield 40, 3) := by decide +kernel
theorem dX9_everybody_5 : decode cX9_everybody 5 = .ok (.ishl, 1) := by decide +kernel
theorem dX9_everybody_6 : decode cX9_everybody 6 = .ok (.iconst 1, 1) := by decide +kernel
theorem dX9_everybody_7 : decode cX9_everybody 7 = .ok (.isub, 1) := by decide +kernel
theorem dX9_everybody_8 : decode cX9_everybody 8 = .ok (.ireturn, 1) := by decide +kernel
theorem dX3_mostFrom_0 : decode cX3_mostFrom 0 = .ok (.aload_n 0, 1) := by decide +kernel
theorem dX3_mostFrom_1 : decode cX3_mostFrom 1 = .ok (.getfield 18, 3) := by decide +kernel
theorem dX3_mostFrom_4 : decode cX3_mostFrom 4 = .ok (.iconst (-1), 1) := by decide +kernel
theorem dX3_mostFrom_5 : decode cX3_mostFrom 5 = .ok (.invokestatic 28, 3) := by decide +kernel
theorem dX3_mostFrom_8 : decode cX3_mostFrom 8 = .ok (.iconst 0, 1) := by decide +kernel
theorem dX3_mostFrom_9 : decode cX3_mostFrom 9 = .ok (.istore_n 3, 1) := by decide +kernel
theorem dX3_mostFrom_10 : decode cX3_mostFrom 10 = .ok (.iload_n 1, 1) := by decide +kernel
theorem dX3_mostFrom_11 : decode cX3_mostFrom 11 = .ok (.istore 4, 2) := by decide +kernel
theorem dX3_mostFrom_13 : decode cX3_mostFrom 13 = .ok (.iload 4, 2) := by decide +kernel
theorem dX3_mostFrom_15 : decode cX3_mostFrom 15 = .ok (.aload_n 0, 1) := by decide +kernel
theorem dX3_mostFrom_16 : decode cX3_mostFrom 16 = .ok (.getfield 21, 3) := by decide +kernel
theorem dX3_mostFrom_19 : decode cX3_mostFrom 19 = .ok (.if_icmp .ge 28, 3) := by decide +kernel
theorem dX3_mostFrom_47 : decode cX3_mostFrom 47 = .ok (.iload_n 3, 1) := by decide +kernel
theorem dX3_mostFrom_48 : decode cX3_mostFrom 48 = .ok (.ireturn, 1) := by decide +kernel
theorem dX3_find_0 : decode cX3_find 0 = .ok (.aload_n 0, 1) := by decide +kernel
theorem dX3_find_1 : decode cX3_find 1 = .ok (.aload_n 1, 1) := by decide +kernel
theorem dX3_find_2 : decode cX3_find 2 = .ok (.getfield 34, 3) := by decide +kernel
theorem N388 : Cond.fieldLinkNest "HookedCity$Matching" 34 "HookedCity$Town" "persons" "I" "HookedCity" ∈ lw_tbl := List.mem_of_getElem? (i := 388) (by decide +kernel)
theorem dX3_find_5 : decode cX3_find 5 = .ok (.putfield 21, 3) := by decide +kernel
theorem dX3_find_8 : decode cX3_find 8 = .ok (.aload_n 0, 1) := by decide +kernel
theorem dX3_find_9 : decode cX3_find 9 = .ok (.getfield 9, 3) := by decide +kernel
theorem dX3_find_12 : decode cX3_find 12 = .ok (.iconst (-1), 1) := by decide +kernel
theorem dX3_find_13 : decode cX3_find 13 = .ok (.invokestatic 28, 3) := by decide +kernel
theorem dX3_find_16 : decode cX3_find 16 = .ok (.iconst 0, 1) := by decide +kernel
theorem dX3_find_17 : decode cX3_find 17 = .ok (.istore_n 3, 1) := by decide +kernel
theorem dX3_find_18 : decode cX3_find 18 = .ok (.iload_n 3, 1) := by decide +kernel
theorem dX3_find_19 : decode cX3_find 19 = .ok (.aload_n 0, 1) := by decide +kernel
theorem dX3_find_20 : decode cX3_find 20 = .ok (.getfield 21, 3) := by decide +kernel
theorem dX3_find_23 : decode cX3_find 23 = .ok (.if_icmp .ge 21, 3) := by decide +kernel
theorem dX3_find_44 : decode cX3_find 44 = .ok (.aload_n 1, 1) := by decide +kernel
theorem dX3_find_45 : decode cX3_find 45 = .ok (.invokevirtual 41, 3) := by decide +kernel
theorem G966 : Cond.code ⟨"HookedCity$Town", "everybody", "()I"⟩ prog_11_method_20_code 1 (some .int) ∈ GW := gw_i 966 (by decide +kernel) rfl
theorem G963 : Cond.methodLink "HookedCity$Matching" 41 ⟨"HookedCity$Town", "everybody", "()I"⟩ ∈ GW := gw_i 963 (by decide +kernel) rfl
theorem V_HookedCity_Matching_41 : VL "HookedCity$Matching" 41 yX9_everybody cX9_everybody 1 (some .int) 0 := ⟨G966, G963, G128, by decide +kernel, by decide +kernel, by decide +kernel⟩
theorem G964 : Cond.instanceMethod ⟨"HookedCity$Town", "everybody", "()I"⟩ ∈ GW := gw_i 964 (by decide +kernel) rfl
theorem G965 : Cond.selects "HookedCity$Town" ⟨"HookedCity$Town", "everybody", "()I"⟩ ⟨"HookedCity$Town", "everybody", "()I"⟩ ∈ GW := gw_i 965 (by decide +kernel) rfl
theorem dX3_find_48 : decode cX3_find 48 = .ok (.istore_n 3, 1) := by decide +kernel
theorem dX3_find_49 : decode cX3_find 49 = .ok (.aload_n 0, 1) := by decide +kernel
theorem dX3_find_50 : decode cX3_find 50 = .ok (.iconst 0, 1) := by decide +kernel
theorem dX3_find_51 : decode cX3_find 51 = .ok (.iload_n 3, 1) := by decide +kernel
theorem dX3_find_52 : decode cX3_find 52 = .ok (.invokevirtual 45, 3) := by decide +kernel
theorem G970 : Cond.code ⟨"HookedCity$Matching", "mostFrom", "(II)I"⟩ prog_5_method_5_code 5 (some .int) ∈ GW := gw_i 970 (by decide +kernel) rfl
theorem G967 : Cond.methodLink "HookedCity$Matching" 45 ⟨"HookedCity$Matching", "mostFrom", "(II)I"⟩ ∈ GW := gw_i 967 (by decide +kernel) rfl
theorem V_HookedCity_Matching_45 : VL "HookedCity$Matching" 45 yX3_mostFrom cX3_mostFrom 5 (some .int) 2 := ⟨G970, G967, G123, by decide +kernel, by decide +kernel, by decide +kernel⟩
theorem G969 : Cond.instanceMethod ⟨"HookedCity$Matching", "mostFrom", "(II)I"⟩ ∈ GW := gw_i 969 (by decide +kernel) rfl
theorem G22 : Cond.selects "HookedCity$Matching" ⟨"HookedCity$Matching", "mostFrom", "(II)I"⟩ ⟨"HookedCity$Matching", "mostFrom", "(II)I"⟩ ∈ GW := gw_i 22 (by decide +kernel) rfl
theorem dX3_find_55 : decode cX3_find 55 = .ok (.istore 4, 2) := by decide +kernel
theorem dX3_find_57 : decode cX3_find 57 = .ok (.iload 4, 2) := by decide +kernel
theorem dX3_find_59 : decode cX3_find 59 = .ok (.istore 5, 2) := by decide +kernel
theorem dX3_find_61 : decode cX3_find 61 = .ok (.iconst 0, 1) := by decide +kernel
theorem dX3_find_62 : decode cX3_find 62 = .ok (.istore 6, 2) := by decide +kernel
theorem dX3_find_64 : decode cX3_find 64 = .ok (.iload 6, 2) := by decide +kernel
theorem dX3_find_66 : decode cX3_find 66 = .ok (.aload_n 0, 1) := by decide +kernel
theorem dX3_find_67 : decode cX3_find 67 = .ok (.getfield 21, 3) := by decide +kernel
theorem dX3_find_70 : decode cX3_find 70 = .ok (.if_icmp .ge 53, 3) := by decide +kernel
theorem dX3_find_123 : decode cX3_find 123 = .ok (.iload 4, 2) := by decide +kernel
theorem dX3_find_125 : decode cX3_find 125 = .ok (.ireturn, 1) := by decide +kernel
theorem dX11_match_0 : decode cX11_match 0 = .ok (.aload_n 0, 1) := by decide +kernel
theorem dX11_match_1 : decode cX11_match 1 = .ok (.iconst 1, 1) := by decide +kernel
theorem dX11_match_2 : decode cX11_match 2 = .ok (.putfield 98, 3) := by decide +kernel
theorem dX11_match_5 : decode cX11_match 5 = .ok (.aload_n 0, 1) := by decide +kernel
theorem dX11_match_6 : decode cX11_match 6 = .ok (.getfield 36, 3) := by decide +kernel
theorem dX11_match_9 : decode cX11_match 9 = .ok (.aload_n 0, 1) := by decide +kernel
theorem dX11_match_10 : decode cX11_match 10 = .ok (.getfield 74, 3) := by decide +kernel
theorem dX11_match_13 : decode cX11_match 13 = .ok (.aload_n 0, 1) := by decide +kernel
theorem dX11_match_14 : decode cX11_match 14 = .ok (.getfield 19, 3) := by decide +kernel
theorem dX11_match_17 : decode cX11_match 17 = .ok (.invokevirtual 243, 3) := by decide +kernel
theorem G957 : Cond.code ⟨"HookedCity$Matching", "find", "(LHookedCity$Town;LHookedCity$State;)I"⟩ prog_5_method_2_code 7 (some .int) ∈ GW := gw_i 957 (by decide +kernel) rfl
theorem G954 : Cond.methodLink "HookedCity" 243 ⟨"HookedCity$Matching", "find", "(LHookedCity$Town;LHookedCity$State;)I"⟩ ∈ GW := gw_i 954 (by decide +kernel) rfl
theorem V_HookedCity_243 : VL "HookedCity" 243 yX3_find cX3_find 7 (some .int) 2 := ⟨G957, G954, G123, by decide +kernel, by decide +kernel, by decide +kernel⟩
theorem G955 : Cond.instanceMethod ⟨"HookedCity$Matching", "find", "(LHookedCity$Town;LHookedCity$State;)I"⟩ ∈ GW := gw_i 955 (by decide +kernel) rfl
theorem G956 : Cond.selects "HookedCity$Matching" ⟨"HookedCity$Matching", "find", "(LHookedCity$Town;LHookedCity$State;)I"⟩ ⟨"HookedCity$Matching", "find", "(LHookedCity$Town;LHookedCity$State;)I"⟩ ∈ GW := gw_i 956 (by decide +kernel) rfl
theorem dX11_match_20 : decode cX11_match 20 = .ok (.ireturn, 1) := by decide +kernel
theorem dX12_mostFrom_0 : decode cX12_mostFrom 0 = .ok (.iconst 0, 1) := by decide +kernel
theorem dX12_mostFrom_1 : decode cX12_mostFrom 1 = .ok (.istore_n 2, 1) := by decide +kernel
theorem dX12_mostFrom_2 : decode cX12_mostFrom 2 = .ok (.iload_n 2, 1) := by decide +kernel
theorem dX12_mostFrom_3 : decode cX12_mostFrom 3 = .ok (.bipush 9, 2) := by decide +kernel
theorem dX12_mostFrom_5 : decode cX12_mostFrom 5 = .ok (.if_icmp .ge 16, 3) := by decide +kernel
theorem dX12_mostFrom_21 : decode cX12_mostFrom 21 = .ok (.iconst 0, 1) := by decide +kernel
theorem dX12_mostFrom_22 : decode cX12_mostFrom 22 = .ok (.istore_n 2, 1) := by decide +kernel
theorem dX12_mostFrom_23 : decode cX12_mostFrom 23 = .ok (.iload_n 1, 1) := by decide +kernel
theorem dX12_mostFrom_24 : decode cX12_mostFrom 24 = .ok (.istore_n 3, 1) := by decide +kernel
theorem dX12_mostFrom_25 : decode cX12_mostFrom 25 = .ok (.iload_n 3, 1) := by decide +kernel
theorem dX12_mostFrom_26 : decode cX12_mostFrom 26 = .ok (.aload_n 0, 1) := by decide +kernel
theorem dX12_mostFrom_27 : decode cX12_mostFrom 27 = .ok (.getfield 98, 3) := by decide +kernel
theorem dX12_mostFrom_30 : decode cX12_mostFrom 30 = .ok (.iconst 0, 1) := by decide +kernel
theorem dX12_mostFrom_31 : decode cX12_mostFrom 31 = .ok (.iaload, 1) := by decide +kernel
theorem dX12_mostFrom_32 : decode cX12_mostFrom 32 = .ok (.if_icmp .ge 44, 3) := by decide +kernel
theorem dX12_mostFrom_76 : decode cX12_mostFrom 76 = .ok (.iload_n 2, 1) := by decide +kernel
theorem dX12_mostFrom_77 : decode cX12_mostFrom 77 = .ok (.ireturn, 1) := by decide +kernel
theorem dX12_mostFrom_8 : decode cX12_mostFrom 8 = .ok (.aload_n 0, 1) := by decide +kernel
theorem dX12_mostFrom_9 : decode cX12_mostFrom 9 = .ok (.getfield 130, 3) := by decide +kernel
theorem dX12_mostFrom_12 : decode cX12_mostFrom 12 = .ok (.iload_n 2, 1) := by decide +kernel
theorem dX12_mostFrom_13 : decode cX12_mostFrom 13 = .ok (.iconst (-1), 1) := by decide +kernel
theorem dX12_mostFrom_14 : decode cX12_mostFrom 14 = .ok (.iastore, 1) := by decide +kernel
theorem dX12_mostFrom_15 : decode cX12_mostFrom 15 = .ok (.iinc 2 1, 3) := by decide +kernel
theorem dX12_mostFrom_18 : decode cX12_mostFrom 18 = .ok (.goto (-16), 3) := by decide +kernel
theorem dX12_match_0 : decode cX12_match 0 = .ok (.aload_n 0, 1) := by decide +kernel
theorem dX12_match_1 : decode cX12_match 1 = .ok (.iconst 0, 1) := by decide +kernel
theorem dX12_match_2 : decode cX12_match 2 = .ok (.putfield 1, 3) := by decide +kernel
theorem dX12_match_5 : decode cX12_match 5 = .ok (.iconst 0, 1) := by decide +kernel
theorem dX12_match_6 : decode cX12_match 6 = .ok (.istore_n 1, 1) := by decide +kernel
theorem dX12_match_7 : decode cX12_match 7 = .ok (.iload_n 1, 1) := by decide +kernel
theorem dX12_match_8 : decode cX12_match 8 = .ok (.bipush 9, 2) := by decide +kernel
theorem dX12_match_10 : decode cX12_match 10 = .ok (.if_icmp .ge 16, 3) := by decide +kernel
theorem dX12_match_26 : decode cX12_match 26 = .ok (.aload_n 0, 1) := by decide +kernel
theorem dX12_match_27 : decode cX12_match 27 = .ok (.iconst 0, 1) := by decide +kernel
theorem dX12_match_28 : decode cX12_match 28 = .ok (.invokevirtual 316, 3) := by decide +kernel
theorem G1872 : Cond.code ⟨"HookedCityModel", "mostFrom", "(I)I"⟩ prog_14_method_76_code 5 (some .int) ∈ GW := gw_i 1872 (by decide +kernel) rfl
theorem G1869 : Cond.methodLink "HookedCityModel" 316 ⟨"HookedCityModel", "mostFrom", "(I)I"⟩ ∈ GW := gw_i 1869 (by decide +kernel) rfl
theorem V_HookedCityModel_316 : VL "HookedCityModel" 316 yX12_mostFrom cX12_mostFrom 5 (some .int) 1 := ⟨G1872, G1869, G131, by decide +kernel, by decide +kernel, by decide +kernel⟩
theorem G1871 : Cond.instanceMethod ⟨"HookedCityModel", "mostFrom", "(I)I"⟩ ∈ GW := gw_i 1871 (by decide +kernel) rfl
theorem G89 : Cond.selects "HookedCityModel" ⟨"HookedCityModel", "mostFrom", "(I)I"⟩ ⟨"HookedCityModel", "mostFrom", "(I)I"⟩ ∈ GW := gw_i 89 (by decide +kernel) rfl
theorem dX12_match_31 : decode cX12_match 31 = .ok (.istore_n 1, 1) := by decide +kernel
theorem dX12_match_32 : decode cX12_match 32 = .ok (.iload_n 1, 1) := by decide +kernel
theorem dX12_match_33 : decode cX12_match 33 = .ok (.istore_n 2, 1) := by decide +kernel
theorem dX12_match_34 : decode cX12_match 34 = .ok (.iconst 0, 1) := by decide +kernel
theorem dX12_match_35 : decode cX12_match 35 = .ok (.istore_n 3, 1) := by decide +kernel
theorem dX12_match_36 : decode cX12_match 36 = .ok (.iload_n 3, 1) := by decide +kernel
theorem dX12_match_37 : decode cX12_match 37 = .ok (.aload_n 0, 1) := by decide +kernel
theorem dX12_match_38 : decode cX12_match 38 = .ok (.getfield 98, 3) := by decide +kernel
theorem dX12_match_41 : decode cX12_match 41 = .ok (.iconst 0, 1) := by decide +kernel
theorem dX12_match_42 : decode cX12_match 42 = .ok (.iaload, 1) := by decide +kernel
theorem dX12_match_43 : decode cX12_match 43 = .ok (.if_icmp .ge 34, 3) := by decide +kernel
theorem dX12_match_77 : decode cX12_match 77 = .ok (.aload_n 0, 1) := by decide +kernel
theorem dX12_match_78 : decode cX12_match 78 = .ok (.aload_n 0, 1) := by decide +kernel
theorem dX12_match_79 : decode cX12_match 79 = .ok (.getfield 98, 3) := by decide +kernel
theorem dX12_match_82 : decode cX12_match 82 = .ok (.iconst 0, 1) := by decide +kernel
theorem dX12_match_83 : decode cX12_match 83 = .ok (.iaload, 1) := by decide +kernel
theorem dX12_match_84 : decode cX12_match 84 = .ok (.putfield 322, 3) := by decide +kernel
theorem G1496 : Cond.fieldLink "HookedCityModel" 322 "HookedCityModel" "matchedMany" "I" ∈ GW := gw_i 1496 (by decide +kernel) rfl
theorem dX12_match_87 : decode cX12_match 87 = .ok (.aload_n 0, 1) := by decide +kernel
theorem dX12_match_88 : decode cX12_match 88 = .ok (.iconst 1, 1) := by decide +kernel
theorem dX12_match_89 : decode cX12_match 89 = .ok (.putfield 325, 3) := by decide +kernel
theorem G1497 : Cond.fieldLink "HookedCityModel" 325 "HookedCityModel" "hasMatched" "Z" ∈ GW := gw_i 1497 (by decide +kernel) rfl
theorem dX12_match_92 : decode cX12_match 92 = .ok (.aload_n 0, 1) := by decide +kernel
theorem dX12_match_93 : decode cX12_match 93 = .ok (.iconst 1, 1) := by decide +kernel
theorem dX12_match_94 : decode cX12_match 94 = .ok (.putfield 236, 3) := by decide +kernel
theorem dX12_match_97 : decode cX12_match 97 = .ok (.iload_n 1, 1) := by decide +kernel
theorem dX12_match_98 : decode cX12_match 98 = .ok (.ireturn, 1) := by decide +kernel
theorem dX12_match_13 : decode cX12_match 13 = .ok (.aload_n 0, 1) := by decide +kernel
theorem dX12_match_14 : decode cX12_match 14 = .ok (.getfield 139, 3) := by decide +kernel
theorem dX12_match_17 : decode cX12_match 17 = .ok (.iload_n 1, 1) := by decide +kernel
theorem dX12_match_18 : decode cX12_match 18 = .ok (.iconst 0, 1) := by decide +kernel
theorem dX12_match_19 : decode cX12_match 19 = .ok (.bastore, 1) := by decide +kernel
theorem dX12_match_20 : decode cX12_match 20 = .ok (.iinc 1 1, 3) := by decide +kernel
theorem dX12_match_23 : decode cX12_match 23 = .ok (.goto (-16), 3) := by decide +kernel
theorem dX11_matched_0 : decode cX11_matched 0 = .ok (.iload_n 1, 1) := by decide +kernel
theorem dX11_matched_1 : decode cX11_matched 1 = .ok (.ifCond .lt 21, 3) := by decide +kernel
theorem dX11_matched_22 : decode cX11_matched 22 = .ok (.iconst (-1), 1) := by decide +kernel
theorem dX11_matched_23 : decode cX11_matched 23 = .ok (.ireturn, 1) := by decide +kernel
theorem dX11_matched_4 : decode cX11_matched 4 = .ok (.iload_n 1, 1) := by decide +kernel
theorem dX11_matched_5 : decode cX11_matched 5 = .ok (.bipush 9, 2) := by decide +kernel
theorem dX11_matched_7 : decode cX11_matched 7 = .ok (.if_icmp .ge 15, 3) := by decide +kernel
theorem dX11_matched_10 : decode cX11_matched 10 = .ok (.aload_n 0, 1) := by decide +kernel
theorem dX11_matched_11 : decode cX11_matched 11 = .ok (.getfield 36, 3) := by decide +kernel
theorem dX11_matched_14 : decode cX11_matched 14 = .ok (.getfield 247, 3) := by decide +kernel
theorem N293 : Cond.fieldLinkNest "HookedCity" 247 "HookedCity$Matching" "mates" "[I" "HookedCity" ∈ lw_tbl := List.mem_of_getElem? (i := 293) (by decide +kernel)
theorem dX11_matched_17 : decode cX11_matched 17 = .ok (.iload_n 1, 1) := by decide +kernel
theorem dX11_matched_18 : decode cX11_matched 18 = .ok (.iaload, 1) := by decide +kernel
theorem dX11_matched_19 : decode cX11_matched 19 = .ok (.goto 4, 3) := by decide +kernel
theorem dX12_matched_0 : decode cX12_matched 0 = .ok (.aload_n 0, 1) := by decide +kernel
theorem dX12_matched_1 : decode cX12_matched 1 = .ok (.iconst 0, 1) := by decide +kernel
theorem dX12_matched_2 : decode cX12_matched 2 = .ok (.putfield 1, 3) := by decide +kernel
theorem dX12_matched_5 : decode cX12_matched 5 = .ok (.aload_n 0, 1) := by decide +kernel
theorem dX12_matched_6 : decode cX12_matched 6 = .ok (.getfield 325, 3) := by decide +kernel
theorem dX12_matched_9 : decode cX12_matched 9 = .ok (.ifCond .eq 26, 3) := by decide +kernel
theorem dX12_matched_35 : decode cX12_matched 35 = .ok (.iconst (-1), 1) := by decide +kernel
theorem dX12_matched_36 : decode cX12_matched 36 = .ok (.ireturn, 1) := by decide +kernel
theorem dX11_takes_0 : decode cX11_takes 0 = .ok (.aload_n 0, 1) := by decide +kernel
theorem dX11_takes_1 : decode cX11_takes 1 = .ok (.getfield 98, 3) := by decide +kernel
theorem dX11_takes_4 : decode cX11_takes 4 = .ok (.ifCond .ne 5, 3) := by decide +kernel
theorem dX11_takes_7 : decode cX11_takes 7 = .ok (.iconst (-1), 1) := by decide +kernel
theorem dX11_takes_8 : decode cX11_takes 8 = .ok (.ireturn, 1) := by decide +kernel
theorem dX12_takes_0 : decode cX12_takes 0 = .ok (.aload_n 0, 1) := by decide +kernel
theorem dX12_takes_1 : decode cX12_takes 1 = .ok (.iconst 0, 1) := by decide +kernel
theorem dX12_takes_2 : decode cX12_takes 2 = .ok (.putfield 1, 3) := by decide +kernel
theorem dX12_takes_5 : decode cX12_takes 5 = .ok (.aload_n 0, 1) := by decide +kernel
theorem dX12_takes_6 : decode cX12_takes 6 = .ok (.getfield 236, 3) := by decide +kernel
theorem dX12_takes_9 : decode cX12_takes 9 = .ok (.ifCond .ne 5, 3) := by decide +kernel
theorem dX12_takes_12 : decode cX12_takes 12 = .ok (.iconst (-1), 1) := by decide +kernel
theorem dX12_takes_13 : decode cX12_takes 13 = .ok (.ireturn, 1) := by decide +kernel
set_option maxRecDepth 100000 in
set_option maxHeartbeats 4000000 in
theorem c64_X11_button (l : Launch) (D : va_G) (T : Nat → ClassId) (sz : Nat) (a0 a1 a2 a3 a4 a5 a6 a7 a8 a9 a10 a11 a12 a13 a14 a15 a16 a17 a18 a19 a20 a21 a22 a23 : Nat) (x0 : Int32) (x1 : Int32) (x2 : Int32) : Met l yX11_button (Cond.code yX11_button cX11_button 5 (some .int) :: GW) (Rm 1 0 0) (cPre [.ref a0, .int x0, .int x1, .int x2] D T [(a0, .inr (10, [.ref a1, .ref a2, .ref a3, .ref a4, .ref a5, .ref a6, .ref a7, .ref a8, .ref a9, .ref a10, .ref a11, .ref a12, .ref a13, .ref a14, .int 0, .int 0, .int 0])), (a11, .inr (9, [.ref a15, .ref a16, .ref a17, .ref a18, .ref a19, .ref a20, .ref a21, .ref a22, .ref a23, .int 0, .int 0, .int 0, .int 0, .int 12, .int 1, .int 0, .int 0, .int 0]))] sz) (qI D [(a0, .inr (10, [.ref a1, .ref a2, .ref a3, .ref a4, .ref a5, .ref a6, .ref a7, .ref a8, .ref a9, .ref a10, .ref a11, .ref a12, .ref a13, .ref a14, .int 0, .int 0, .int 0])), (a11, .inr (9, [.ref a15, .ref a16, .ref a17, .ref a18, .ref a19, .ref a20, .ref a21, .ref a22, .ref a23, .int 0, .int 0, .int 0, .int 0, .int 12, .int 1, .int 0, .int 0, .int 0]))] sz (fun (v : Int32) (u : Unit) => (-1 : Int32) = v) (fun u => [])) 0 0 (va_A [(a0, .inr (10, [.ref a1, .ref a2, .ref a3, .ref a4, .ref a5, .ref a6, .ref a7, .ref a8, .ref a9, .ref a10, .ref a11, .ref a12, .ref a13, .ref a14, .int 0, .int 0, .int 0])), (a11, .inr (9, [.ref a15, .ref a16, .ref a17, .ref a18, .ref a19, .ref a20, .ref a21, .ref a22, .ref a23, .int 0, .int 0, .int 0, .int 0, .int 12, .int 1, .int 0, .int 0, .int 0]))] sz) := by
  refine e_I (by decide) (Nat.le_of_ble_eq_true rfl) ?_
  intro p e s m args below meth c A Q ls M hin w ret hl
  have hx := M.1.1
  have hb := M.1.2.1
  have hl : lv_has ls 5 [(0, .ref a0), (1, .int x0), (2, .int x1), (3, .int x2)] := hl
  refine lv_aload_n hx hb dX11_button_0 rfl (lv_at hl 0 rfl) ?_
  refine lv_iload_n hx hb dX11_button_1 rfl (lv_at hl 1 rfl) ?_
  refine k_I (ce := 0) (sl := 0) (rest := []) (wr := []) (r_V (f := 0) [0, 1] M w V_HookedCity_166 G813 G15 (c51_X11_isMaid l D T _ a0 a1 a2 a3 a4 a5 a6 a7 a8 a9 a10 a11 a12 a13 a14 a15 a16 a17 a18 a19 a20 a21 a22 a23 x0) 0 clX11 rfl rfl (by decide) rfl hl.1 rfl (Nat.le_of_ble_eq_true rfl) dX11_button_2 (by decide) (by decide) (by decide) (by decide)) w [0, 1] [] rfl rfl (by decide) (by decide) rfl rfl (fun v _ H locs hp w => ?_)
  have hp : (0 : Int32) = v := hp
  subst hp
  have w : WD D A s.heap [(a0, .inr (10, [.ref a1, .ref a2, .ref a3, .ref a4, .ref a5, .ref a6, .ref a7, .ref a8, .ref a9, .ref a10, .ref a11, .ref a12, .ref a13, .ref a14, .int 0, .int 0, .int 0])), (a11, .inr (9, [.ref a15, .ref a16, .ref a17, .ref a18, .ref a19, .ref a20, .ref a21, .ref a22, .ref a23, .int 0, .int 0, .int 0, .int 0, .int 12, .int 1, .int 0, .int 0, .int 0]))] H locs := w
  refine lv_if_eq (tgt := 24) hx hb dX11_button_5 (by decide) (fun _ => ?_) (fun c => absurd (by decide +kernel) c)
  refine lv_iconst (v := (-1)) hx hb dX11_button_24 (by decide) ?_
  exact ret _ () _ _ _ _ _ [] dX11_button_25 rfl w (by decide) rfl
set_option maxRecDepth 100000 in
set_option maxHeartbeats 4000000 in
theorem c65_X12_act (l : Launch) (D : va_G) (T : Nat → ClassId) (sz : Nat) (a0 : Nat) (x0 : Int32) (x1 : Int32) (x2 : Int32) : Met l yX12_act (Cond.code yX12_act cX12_act 7 (some .int) :: GW) (Rm 0 0 0) (cPre [.ref a0, .int 0, .int x0, .int x1, .int x2, .int 0] D T [] sz) (qI D [] sz (fun (v : Int32) (u : Unit) => (-1 : Int32) = v) (fun u => [])) 0 0 (va_A [] sz) := by
  refine e_I (by decide) (Nat.le_of_ble_eq_true rfl) ?_
  intro p e s m args below meth c A Q ls M hin w ret hl
  have hx := M.1.1
  have hb := M.1.2.1
  have hl : lv_has ls 7 [(0, .ref a0), (1, .int 0), (2, .int x0), (3, .int x1), (4, .int x2), (5, .int 0)] := hl
  refine lv_iload hx hb dX12_act_0 (lv_at hl 5 rfl) ?_
  refine lv_if_ne (tgt := 7) hx hb dX12_act_2 (by decide) (fun c => absurd (by decide +kernel) c) (fun _ => ?_)
  refine lv_iconst (v := (-1)) hx hb dX12_act_5 (by decide) ?_
  exact ret _ () _ _ _ _ _ [] dX12_act_6 rfl w (by decide) rfl
set_option maxRecDepth 100000 in
set_option maxHeartbeats 4000000 in
theorem c66_X12_button (l : Launch) (D : va_G) (T : Nat → ClassId) (sz : Nat) (a0 a1 a2 a3 a4 a5 a6 a7 a8 a9 a10 a11 a12 a13 a14 a15 a16 a17 a18 a19 a20 a21 a22 : Nat) (x0 : Int32) (x1 : Int32) (x2 : Int32) : Met l yX12_button (Cond.code yX12_button cX12_button 4 (some .int) :: GW) (Rm 2 0 0) (cPre [.ref a0, .int x0, .int x1, .int x2] D T [(a0, .inr (11, [.int 0, .ref a1, .int 0, .int 0, .int 0, .int 0, .int 0, .int 0, .int 0, .int 0, .int 0, .int 0, .long 0, .int 0, .ref a2, .ref a3, .ref a4, .ref a5, .ref a6, .ref a7, .ref a8, .ref a9, .ref a10, .ref a11, .int 0, .ref a12, .ref a13, .ref a14, .ref a15, .int 0, .int 0, .int 0, .ref a16, .int (-1), .int (-1), .ref a17, .ref a18, .int 0, .ref a19, .int 0, .int 0, .ref a20, .ref a21, .int 0, .int 0, .ref a22, .int 0, .int 0, .int 0, .int 0])), (a2, .inl (T 0, 329, .inl cn45))] sz) (qI D [(a0, .inr (11, [.int 0, .ref a1, .int 0, .int 0, .int 0, .int 0, .int 0, .int 0, .int 0, .int 0, .int 0, .int 0, .long 0, .int 0, .ref a2, .ref a3, .ref a4, .ref a5, .ref a6, .ref a7, .ref a8, .ref a9, .ref a10, .ref a11, .int 0, .ref a12, .ref a13, .ref a14, .ref a15, .int 0, .int 0, .int 0, .ref a16, .int (-1), .int (-1), .ref a17, .ref a18, .int 0, .ref a19, .int 0, .int 0, .ref a20, .ref a21, .int 0, .int 0, .ref a22, .int 0, .int 0, .int 0, .int 0])), (a2, .inl (T 0, 329, .inl cn45))] sz (fun (v : Int32) (u : Unit) => (-1 : Int32) = v) (fun u => [])) 0 0 (va_A [(a0, .inr (11, [.int 0, .ref a1, .int 0, .int 0, .int 0, .int 0, .int 0, .int 0, .int 0, .int 0, .int 0, .int 0, .long 0, .int 0, .ref a2, .ref a3, .ref a4, .ref a5, .ref a6, .ref a7, .ref a8, .ref a9, .ref a10, .ref a11, .int 0, .ref a12, .ref a13, .ref a14, .ref a15, .int 0, .int 0, .int 0, .ref a16, .int (-1), .int (-1), .ref a17, .ref a18, .int 0, .ref a19, .int 0, .int 0, .ref a20, .ref a21, .int 0, .int 0, .ref a22, .int 0, .int 0, .int 0, .int 0])), (a2, .inl (T 0, 329, .inl cn45))] sz) := by
  refine e_I (by decide) (Nat.le_of_ble_eq_true rfl) ?_
  intro p e s m args below meth c A Q ls M hin w ret hl
  have hx := M.1.1
  have hb := M.1.2.1
  have hl : lv_has ls 4 [(0, .ref a0), (1, .int x0), (2, .int x1), (3, .int x2)] := hl
  refine lv_aload_n hx hb dX12_button_0 rfl (lv_at hl 0 rfl) ?_
  refine lv_iconst (v := 0) hx hb dX12_button_1 (by decide) ?_
  refine r_put (ws' := [(a0, .inr (11, [.int 0, .ref a1, .int 0, .int 0, .int 0, .int 0, .int 0, .int 0, .int 0, .int 0, .int 0, .int 0, .long 0, .int 0, .ref a2, .ref a3, .ref a4, .ref a5, .ref a6, .ref a7, .ref a8, .ref a9, .ref a10, .ref a11, .int 0, .ref a12, .ref a13, .ref a14, .ref a15, .int 0, .int 0, .int 0, .ref a16, .int (-1), .int (-1), .ref a17, .ref a18, .int 0, .ref a19, .int 0, .int 0, .ref a20, .ref a21, .int 0, .int 0, .ref a22, .int 0, .int 0, .int 0, .int 0])), (a2, .inl (T 0, 329, .inl cn45))]) M w 0 0 clX12 rfl (by decide) G1467 rfl rfl rfl rfl (Nat.le_of_ble_eq_true rfl) rfl dX12_button_2 (fun H locs w => ?_)
  refine lv_aload_n hx hb dX12_button_5 rfl (lv_at hl 0 rfl) ?_
  refine lv_iconst (v := 0) hx hb dX12_button_6 (by decide) ?_
  refine lv_iload_n hx hb dX12_button_7 rfl (lv_at hl 1 rfl) ?_
  refine lv_iload_n hx hb dX12_button_8 rfl (lv_at hl 2 rfl) ?_
  refine lv_iload_n hx hb dX12_button_9 rfl (lv_at hl 3 rfl) ?_
  refine lv_aload_n hx hb dX12_button_10 rfl (lv_at hl 0 rfl) ?_
  refine lv_iload_n hx hb dX12_button_11 rfl (lv_at hl 1 rfl) ?_
  refine k_I (ce := 0) (sl := 0) (rest := [.int x2, .int x1, .int x0, .int 0, .ref a0]) (wr := []) (r_V (f := 1) [0, 1] M w V_HookedCityModel_252 G1760 G72 (c54_X12_isMaid l D T _ a0 a1 a2 a3 a4 a5 a6 a7 a8 a9 a10 a11 a12 a13 a14 a15 a16 a17 a18 a19 a20 a21 a22 x0) 0 clX12 rfl rfl (by decide) rfl hl.1 rfl (Nat.le_of_ble_eq_true rfl) dX12_button_12 (by decide) (by decide) (by decide) (by decide)) w [0, 1] [] rfl rfl (by decide) (by decide) rfl rfl (fun v _ H locs hp w => ?_)
  have hp : (0 : Int32) = v := hp
  subst hp
  have w : WD D A s.heap [(a0, .inr (11, [.int 0, .ref a1, .int 0, .int 0, .int 0, .int 0, .int 0, .int 0, .int 0, .int 0, .int 0, .int 0, .long 0, .int 0, .ref a2, .ref a3, .ref a4, .ref a5, .ref a6, .ref a7, .ref a8, .ref a9, .ref a10, .ref a11, .int 0, .ref a12, .ref a13, .ref a14, .ref a15, .int 0, .int 0, .int 0, .ref a16, .int (-1), .int (-1), .ref a17, .ref a18, .int 0, .ref a19, .int 0, .int 0, .ref a20, .ref a21, .int 0, .int 0, .ref a22, .int 0, .int 0, .int 0, .int 0])), (a2, .inl (T 0, 329, .inl cn45))] H locs := w
  refine lv_if_eq (tgt := 38) hx hb dX12_button_15 (by decide) (fun _ => ?_) (fun c => absurd (by decide +kernel) c)
  refine lv_iconst (v := 0) hx hb dX12_button_38 (by decide) ?_
  refine k_I (ce := 0) (sl := 0) (rest := []) (wr := [(a0, .inr (11, [.int 0, .ref a1, .int 0, .int 0, .int 0, .int 0, .int 0, .int 0, .int 0, .int 0, .int 0, .int 0, .long 0, .int 0, .ref a2, .ref a3, .ref a4, .ref a5, .ref a6, .ref a7, .ref a8, .ref a9, .ref a10, .ref a11, .int 0, .ref a12, .ref a13, .ref a14, .ref a15, .int 0, .int 0, .int 0, .ref a16, .int (-1), .int (-1), .ref a17, .ref a18, .int 0, .ref a19, .int 0, .int 0, .ref a20, .ref a21, .int 0, .int 0, .ref a22, .int 0, .int 0, .int 0, .int 0])), (a2, .inl (T 0, 329, .inl cn45))]) (r_V (f := 0) [] M w V_HookedCityModel_291 G1792 G78 (c65_X12_act l D T _ a0 x0 x1 x2) 0 clX12 rfl rfl (by decide) rfl hl.1 rfl (Nat.le_of_ble_eq_true rfl) dX12_button_39 (by decide) (by decide) (by decide) (by decide)) w [] [0, 1] rfl rfl (by decide) (by decide) rfl rfl (fun v _ H locs hp w => ?_)
  have hp : (-1 : Int32) = v := hp
  subst hp
  have w : WD D A s.heap [(a0, .inr (11, [.int 0, .ref a1, .int 0, .int 0, .int 0, .int 0, .int 0, .int 0, .int 0, .int 0, .int 0, .int 0, .long 0, .int 0, .ref a2, .ref a3, .ref a4, .ref a5, .ref a6, .ref a7, .ref a8, .ref a9, .ref a10, .ref a11, .int 0, .ref a12, .ref a13, .ref a14, .ref a15, .int 0, .int 0, .int 0, .ref a16, .int (-1), .int (-1), .ref a17, .ref a18, .int 0, .ref a19, .int 0, .int 0, .ref a20, .ref a21, .int 0, .int 0, .ref a22, .int 0, .int 0, .int 0, .int 0])), (a2, .inl (T 0, 329, .inl cn45))] H locs := w
  exact ret _ () _ _ _ _ _ [] dX12_button_42 rfl w (by decide) rfl
set_option maxRecDepth 100000 in
set_option maxHeartbeats 4000000 in
theorem c67_X11_loose (l : Launch) (D : va_G) (T : Nat → ClassId) (sz : Nat) (a0 a1 a2 a3 a4 a5 a6 a7 a8 a9 a10 a11 a12 a13 a14 a15 a16 a17 a18 a19 a20 a21 a22 a23 : Nat) (x0 : Int32) (x1 : Int32) : Met l yX11_loose (Cond.code yX11_loose cX11_loose 4 (some .int) :: GW) (Rm 1 0 0) (cPre [.ref a0, .int x0, .int x1] D T [(a0, .inr (10, [.ref a1, .ref a2, .ref a3, .ref a4, .ref a5, .ref a6, .ref a7, .ref a8, .ref a9, .ref a10, .ref a11, .ref a12, .ref a13, .ref a14, .int 0, .int 0, .int 0])), (a11, .inr (9, [.ref a15, .ref a16, .ref a17, .ref a18, .ref a19, .ref a20, .ref a21, .ref a22, .ref a23, .int 0, .int 0, .int 0, .int 0, .int 12, .int 1, .int 0, .int 0, .int 0]))] sz) (qI D [(a0, .inr (10, [.ref a1, .ref a2, .ref a3, .ref a4, .ref a5, .ref a6, .ref a7, .ref a8, .ref a9, .ref a10, .ref a11, .ref a12, .ref a13, .ref a14, .int 0, .int 0, .int 0])), (a11, .inr (9, [.ref a15, .ref a16, .ref a17, .ref a18, .ref a19, .ref a20, .ref a21, .ref a22, .ref a23, .int 0, .int 0, .int 0, .int 0, .int 12, .int 1, .int 0, .int 0, .int 0]))] sz (fun (v : Int32) (u : Unit) => (-1 : Int32) = v) (fun u => [])) 0 0 (va_A [(a0, .inr (10, [.ref a1, .ref a2, .ref a3, .ref a4, .ref a5, .ref a6, .ref a7, .ref a8, .ref a9, .ref a10, .ref a11, .ref a12, .ref a13, .ref a14, .int 0, .int 0, .int 0])), (a11, .inr (9, [.ref a15, .ref a16, .ref a17, .ref a18, .ref a19, .ref a20, .ref a21, .ref a22, .ref a23, .int 0, .int 0, .int 0, .int 0, .int 12, .int 1, .int 0, .int 0, .int 0]))] sz) := by
  refine e_I (by decide) (Nat.le_of_ble_eq_true rfl) ?_
  intro p e s m args below meth c A Q ls M hin w ret hl
  have hx := M.1.1
  have hb := M.1.2.1
  have hl : lv_has ls 4 [(0, .ref a0), (1, .int x0), (2, .int x1)] := hl
  refine lv_aload_n hx hb dX11_loose_0 rfl (lv_at hl 0 rfl) ?_
  refine lv_iload_n hx hb dX11_loose_1 rfl (lv_at hl 1 rfl) ?_
  refine k_I (ce := 0) (sl := 0) (rest := []) (wr := []) (r_V (f := 0) [0, 1] M w V_HookedCity_166 G813 G15 (c51_X11_isMaid l D T _ a0 a1 a2 a3 a4 a5 a6 a7 a8 a9 a10 a11 a12 a13 a14 a15 a16 a17 a18 a19 a20 a21 a22 a23 x0) 0 clX11 rfl rfl (by decide) rfl hl.1 rfl (Nat.le_of_ble_eq_true rfl) dX11_loose_2 (by decide) (by decide) (by decide) (by decide)) w [0, 1] [] rfl rfl (by decide) (by decide) rfl rfl (fun v _ H locs hp w => ?_)
  have hp : (0 : Int32) = v := hp
  subst hp
  have w : WD D A s.heap [(a0, .inr (10, [.ref a1, .ref a2, .ref a3, .ref a4, .ref a5, .ref a6, .ref a7, .ref a8, .ref a9, .ref a10, .ref a11, .ref a12, .ref a13, .ref a14, .int 0, .int 0, .int 0])), (a11, .inr (9, [.ref a15, .ref a16, .ref a17, .ref a18, .ref a19, .ref a20, .ref a21, .ref a22, .ref a23, .int 0, .int 0, .int 0, .int 0, .int 12, .int 1, .int 0, .int 0, .int 0]))] H locs := w
  refine lv_if_eq (tgt := 16) hx hb dX11_loose_5 (by decide) (fun _ => ?_) (fun c => absurd (by decide +kernel) c)
  refine lv_iconst (v := (-1)) hx hb dX11_loose_16 (by decide) ?_
  exact ret _ () _ _ _ _ _ [] dX11_loose_17 rfl w (by decide) rfl
set_option maxRecDepth 100000 in
set_option maxHeartbeats 4000000 in
theorem c68_X12_act (l : Launch) (D : va_G) (T : Nat → ClassId) (sz : Nat) (a0 : Nat) (x0 : Int32) (x1 : Int32) : Met l yX12_act (Cond.code yX12_act cX12_act 7 (some .int) :: GW) (Rm 0 0 0) (cPre [.ref a0, .int 1, .int x0, .int x1, .int 0, .int 0] D T [] sz) (qI D [] sz (fun (v : Int32) (u : Unit) => (-1 : Int32) = v) (fun u => [])) 0 0 (va_A [] sz) := by
  refine e_I (by decide) (Nat.le_of_ble_eq_true rfl) ?_
  intro p e s m args below meth c A Q ls M hin w ret hl
  have hx := M.1.1
  have hb := M.1.2.1
  have hl : lv_has ls 7 [(0, .ref a0), (1, .int 1), (2, .int x0), (3, .int x1), (4, .int 0), (5, .int 0)] := hl
  refine lv_iload hx hb dX12_act_0 (lv_at hl 5 rfl) ?_
  refine lv_if_ne (tgt := 7) hx hb dX12_act_2 (by decide) (fun c => absurd (by decide +kernel) c) (fun _ => ?_)
  refine lv_iconst (v := (-1)) hx hb dX12_act_5 (by decide) ?_
  exact ret _ () _ _ _ _ _ [] dX12_act_6 rfl w (by decide) rfl
set_option maxRecDepth 100000 in
set_option maxHeartbeats 4000000 in
theorem c69_X12_loose (l : Launch) (D : va_G) (T : Nat → ClassId) (sz : Nat) (a0 a1 a2 a3 a4 a5 a6 a7 a8 a9 a10 a11 a12 a13 a14 a15 a16 a17 a18 a19 a20 a21 a22 : Nat) (x0 : Int32) (x1 : Int32) : Met l yX12_loose (Cond.code yX12_loose cX12_loose 3 (some .int) :: GW) (Rm 2 0 0) (cPre [.ref a0, .int x0, .int x1] D T [(a0, .inr (11, [.int 0, .ref a1, .int 0, .int 0, .int 0, .int 0, .int 0, .int 0, .int 0, .int 0, .int 0, .int 0, .long 0, .int 0, .ref a2, .ref a3, .ref a4, .ref a5, .ref a6, .ref a7, .ref a8, .ref a9, .ref a10, .ref a11, .int 0, .ref a12, .ref a13, .ref a14, .ref a15, .int 0, .int 0, .int 0, .ref a16, .int (-1), .int (-1), .ref a17, .ref a18, .int 0, .ref a19, .int 0, .int 0, .ref a20, .ref a21, .int 0, .int 0, .ref a22, .int 0, .int 0, .int 0, .int 0])), (a2, .inl (T 0, 329, .inl cn45))] sz) (qI D [(a0, .inr (11, [.int 0, .ref a1, .int 0, .int 0, .int 0, .int 0, .int 0, .int 0, .int 0, .int 0, .int 0, .int 0, .long 0, .int 0, .ref a2, .ref a3, .ref a4, .ref a5, .ref a6, .ref a7, .ref a8, .ref a9, .ref a10, .ref a11, .int 0, .ref a12, .ref a13, .ref a14, .ref a15, .int 0, .int 0, .int 0, .ref a16, .int (-1), .int (-1), .ref a17, .ref a18, .int 0, .ref a19, .int 0, .int 0, .ref a20, .ref a21, .int 0, .int 0, .ref a22, .int 0, .int 0, .int 0, .int 0])), (a2, .inl (T 0, 329, .inl cn45))] sz (fun (v : Int32) (u : Unit) => (-1 : Int32) = v) (fun u => [])) 0 0 (va_A [(a0, .inr (11, [.int 0, .ref a1, .int 0, .int 0, .int 0, .int 0, .int 0, .int 0, .int 0, .int 0, .int 0, .int 0, .long 0, .int 0, .ref a2, .ref a3, .ref a4, .ref a5, .ref a6, .ref a7, .ref a8, .ref a9, .ref a10, .ref a11, .int 0, .ref a12, .ref a13, .ref a14, .ref a15, .int 0, .int 0, .int 0, .ref a16, .int (-1), .int (-1), .ref a17, .ref a18, .int 0, .ref a19, .int 0, .int 0, .ref a20, .ref a21, .int 0, .int 0, .ref a22, .int 0, .int 0, .int 0, .int 0])), (a2, .inl (T 0, 329, .inl cn45))] sz) := by
  refine e_I (by decide) (Nat.le_of_ble_eq_true rfl) ?_
  intro p e s m args below meth c A Q ls M hin w ret hl
  have hx := M.1.1
  have hb := M.1.2.1
  have hl : lv_has ls 3 [(0, .ref a0), (1, .int x0), (2, .int x1)] := hl
  refine lv_aload_n hx hb dX12_loose_0 rfl (lv_at hl 0 rfl) ?_
  refine lv_iconst (v := 0) hx hb dX12_loose_1 (by decide) ?_
  refine r_put (ws' := [(a0, .inr (11, [.int 0, .ref a1, .int 0, .int 0, .int 0, .int 0, .int 0, .int 0, .int 0, .int 0, .int 0, .int 0, .long 0, .int 0, .ref a2, .ref a3, .ref a4, .ref a5, .ref a6, .ref a7, .ref a8, .ref a9, .ref a10, .ref a11, .int 0, .ref a12, .ref a13, .ref a14, .ref a15, .int 0, .int 0, .int 0, .ref a16, .int (-1), .int (-1), .ref a17, .ref a18, .int 0, .ref a19, .int 0, .int 0, .ref a20, .ref a21, .int 0, .int 0, .ref a22, .int 0, .int 0, .int 0, .int 0])), (a2, .inl (T 0, 329, .inl cn45))]) M w 0 0 clX12 rfl (by decide) G1467 rfl rfl rfl rfl (Nat.le_of_ble_eq_true rfl) rfl dX12_loose_2 (fun H locs w => ?_)
  refine lv_aload_n hx hb dX12_loose_5 rfl (lv_at hl 0 rfl) ?_
  refine lv_iconst (v := 1) hx hb dX12_loose_6 (by decide) ?_
  refine lv_iload_n hx hb dX12_loose_7 rfl (lv_at hl 1 rfl) ?_
  refine lv_iload_n hx hb dX12_loose_8 rfl (lv_at hl 2 rfl) ?_
  refine lv_iconst (v := 0) hx hb dX12_loose_9 (by decide) ?_
  refine lv_aload_n hx hb dX12_loose_10 rfl (lv_at hl 0 rfl) ?_
  refine lv_iload_n hx hb dX12_loose_11 rfl (lv_at hl 1 rfl) ?_
  refine k_I (ce := 0) (sl := 0) (rest := [.int 0, .int x1, .int x0, .int 1, .ref a0]) (wr := []) (r_V (f := 1) [0, 1] M w V_HookedCityModel_252 G1760 G72 (c54_X12_isMaid l D T _ a0 a1 a2 a3 a4 a5 a6 a7 a8 a9 a10 a11 a12 a13 a14 a15 a16 a17 a18 a19 a20 a21 a22 x0) 0 clX12 rfl rfl (by decide) rfl hl.1 rfl (Nat.le_of_ble_eq_true rfl) dX12_loose_12 (by decide) (by decide) (by decide) (by decide)) w [0, 1] [] rfl rfl (by decide) (by decide) rfl rfl (fun v _ H locs hp w => ?_)
  have hp : (0 : Int32) = v := hp
  subst hp
  have w : WD D A s.heap [(a0, .inr (11, [.int 0, .ref a1, .int 0, .int 0, .int 0, .int 0, .int 0, .int 0, .int 0, .int 0, .int 0, .int 0, .long 0, .int 0, .ref a2, .ref a3, .ref a4, .ref a5, .ref a6, .ref a7, .ref a8, .ref a9, .ref a10, .ref a11, .int 0, .ref a12, .ref a13, .ref a14, .ref a15, .int 0, .int 0, .int 0, .ref a16, .int (-1), .int (-1), .ref a17, .ref a18, .int 0, .ref a19, .int 0, .int 0, .ref a20, .ref a21, .int 0, .int 0, .ref a22, .int 0, .int 0, .int 0, .int 0])), (a2, .inl (T 0, 329, .inl cn45))] H locs := w
  refine lv_if_eq (tgt := 30) hx hb dX12_loose_15 (by decide) (fun _ => ?_) (fun c => absurd (by decide +kernel) c)
  refine lv_iconst (v := 0) hx hb dX12_loose_30 (by decide) ?_
  refine k_I (ce := 0) (sl := 0) (rest := []) (wr := [(a0, .inr (11, [.int 0, .ref a1, .int 0, .int 0, .int 0, .int 0, .int 0, .int 0, .int 0, .int 0, .int 0, .int 0, .long 0, .int 0, .ref a2, .ref a3, .ref a4, .ref a5, .ref a6, .ref a7, .ref a8, .ref a9, .ref a10, .ref a11, .int 0, .ref a12, .ref a13, .ref a14, .ref a15, .int 0, .int 0, .int 0, .ref a16, .int (-1), .int (-1), .ref a17, .ref a18, .int 0, .ref a19, .int 0, .int 0, .ref a20, .ref a21, .int 0, .int 0, .ref a22, .int 0, .int 0, .int 0, .int 0])), (a2, .inl (T 0, 329, .inl cn45))]) (r_V (f := 0) [] M w V_HookedCityModel_291 G1792 G78 (c68_X12_act l D T _ a0 x0 x1) 0 clX12 rfl rfl (by decide) rfl hl.1 rfl (Nat.le_of_ble_eq_true rfl) dX12_loose_31 (by decide) (by decide) (by decide) (by decide)) w [] [0, 1] rfl rfl (by decide) (by decide) rfl rfl (fun v _ H locs hp w => ?_)
  have hp : (-1 : Int32) = v := hp
  subst hp
  have w : WD D A s.heap [(a0, .inr (11, [.int 0, .ref a1, .int 0, .int 0, .int 0, .int 0, .int 0, .int 0, .int 0, .int 0, .int 0, .int 0, .long 0, .int 0, .ref a2, .ref a3, .ref a4, .ref a5, .ref a6, .ref a7, .ref a8, .ref a9, .ref a10, .ref a11, .int 0, .ref a12, .ref a13, .ref a14, .ref a15, .int 0, .int 0, .int 0, .ref a16, .int (-1), .int (-1), .ref a17, .ref a18, .int 0, .ref a19, .int 0, .int 0, .ref a20, .ref a21, .int 0, .int 0, .ref a22, .int 0, .int 0, .int 0, .int 0])), (a2, .inl (T 0, 329, .inl cn45))] H locs := w
  exact ret _ () _ _ _ _ _ [] dX12_loose_34 rfl w (by decide) rfl
set_option maxRecDepth 100000 in
set_option maxHeartbeats 4000000 in
theorem c70_X11_isPerson (l : Launch) (D : va_G) (T : Nat → ClassId) (sz : Nat) (a0 a1 a2 a3 a4 a5 a6 a7 a8 a9 a10 a11 a12 a13 a14 a15 a16 a17 a18 a19 a20 a21 a22 a23 : Nat) (x0 : Int32) : Met l yX11_isPerson (Cond.code yX11_isPerson cX11_isPerson 2 (some .boolean) :: GW) (Rm 0 0 0) (cPre [.ref a0, .int x0] D T [(a0, .inr (10, [.ref a1, .ref a2, .ref a3, .ref a4, .ref a5, .ref a6, .ref a7, .ref a8, .ref a9, .ref a10, .ref a11, .ref a12, .ref a13, .ref a14, .int 0, .int 0, .int 0])), (a11, .inr (9, [.ref a15, .ref a16, .ref a17, .ref a18, .ref a19, .ref a20, .ref a21, .ref a22, .ref a23, .int 0, .int 0, .int 0, .int 0, .int 12, .int 1, .int 0, .int 0, .int 0]))] sz) (qI D [(a0, .inr (10, [.ref a1, .ref a2, .ref a3, .ref a4, .ref a5, .ref a6, .ref a7, .ref a8, .ref a9, .ref a10, .ref a11, .ref a12, .ref a13, .ref a14, .int 0, .int 0, .int 0])), (a11, .inr (9, [.ref a15, .ref a16, .ref a17, .ref a18, .ref a19, .ref a20, .ref a21, .ref a22, .ref a23, .int 0, .int 0, .int 0, .int 0, .int 12, .int 1, .int 0, .int 0, .int 0]))] sz (fun (v : Int32) (u : Unit) => (0 : Int32) = v) (fun u => [(a0, .inr (10, [.ref a1, .ref a2, .ref a3, .ref a4, .ref a5, .ref a6, .ref a7, .ref a8, .ref a9, .ref a10, .ref a11, .ref a12, .ref a13, .ref a14, .int 0, .int 0, .int 0])), (a11, .inr (9, [.ref a15, .ref a16, .ref a17, .ref a18, .ref a19, .ref a20, .ref a21, .ref a22, .ref a23, .int 0, .int 0, .int 0, .int 0, .int 12, .int 1, .int 0, .int 0, .int 0]))])) 0 0 (va_A [(a0, .inr (10, [.ref a1, .ref a2, .ref a3, .ref a4, .ref a5, .ref a6, .ref a7, .ref a8, .ref a9, .ref a10, .ref a11, .ref a12, .ref a13, .ref a14, .int 0, .int 0, .int 0])), (a11, .inr (9, [.ref a15, .ref a16, .ref a17, .ref a18, .ref a19, .ref a20, .ref a21, .ref a22, .ref a23, .int 0, .int 0, .int 0, .int 0, .int 12, .int 1, .int 0, .int 0, .int 0]))] sz) := by
  refine e_Z (by decide) (Nat.le_of_ble_eq_true rfl) ?_
  intro p e s m args below meth c A Q ls M hin w ret hl
  have hx := M.1.1
  have hb := M.1.2.1
  have hl : lv_has ls 2 [(0, .ref a0), (1, .int x0)] := hl
  refine lv_iload_n hx hb dX11_isPerson_0 rfl (lv_at hl 1 rfl) ?_
  refine lv_if_lt (tgt := 19) hx hb dX11_isPerson_1 (by decide) (fun c_1 => ?_) (fun c_1 => ?_)
  · refine lv_iconst (v := 0) hx hb dX11_isPerson_19 (by decide) ?_
    exact ret _ () _ _ _ _ _ [0, 1] dX11_isPerson_20 (by decide +kernel) rfl w (by decide) rfl
  · refine lv_iload_n hx hb dX11_isPerson_4 rfl (lv_at hl 1 rfl) ?_
    refine lv_aload_n hx hb dX11_isPerson_5 rfl (lv_at hl 0 rfl) ?_
    refine r_get (v := .ref a11) M w 0 10 clX11 rfl (by decide) G507 rfl rfl dX11_isPerson_6 ?_
    refine r_getN (v := .int 0) M w 1 9 clX9 rfl (by decide) N392 rfl rfl dX11_isPerson_9 ?_
    refine lv_icmp_ge (tgt := 19) hx hb dX11_isPerson_12 (by decide) (fun c_2 => ?_) (fun c_2 => ?_)
    · refine lv_iconst (v := 0) hx hb dX11_isPerson_19 (by decide) ?_
      exact ret _ () _ _ _ _ _ [0, 1] dX11_isPerson_20 (by decide +kernel) rfl w (by decide) rfl
    · exfalso
      simp only [fa_lt, fa_le, fa_eq] at c_1 c_2
      have e0 : (0 : Int32).toInt = 0 := (by decide)
      omega
set_option maxRecDepth 100000 in
set_option maxHeartbeats 4000000 in
theorem c71_X11_mend (l : Launch) (D : va_G) (T : Nat → ClassId) (sz : Nat) (a0 a1 a2 a3 a4 a5 a6 a7 a8 a9 a10 a11 a12 a13 a14 a15 a16 a17 a18 a19 a20 a21 a22 a23 : Nat) (x0 : Int32) : Met l yX11_mend (Cond.code yX11_mend cX11_mend 3 (some .int) :: GW) (Rm 1 0 0) (cPre [.ref a0, .int x0] D T [(a0, .inr (10, [.ref a1, .ref a2, .ref a3, .ref a4, .ref a5, .ref a6, .ref a7, .ref a8, .ref a9, .ref a10, .ref a11, .ref a12, .ref a13, .ref a14, .int 0, .int 0, .int 0])), (a11, .inr (9, [.ref a15, .ref a16, .ref a17, .ref a18, .ref a19, .ref a20, .ref a21, .ref a22, .ref a23, .int 0, .int 0, .int 0, .int 0, .int 12, .int 1, .int 0, .int 0, .int 0]))] sz) (qI D [(a0, .inr (10, [.ref a1, .ref a2, .ref a3, .ref a4, .ref a5, .ref a6, .ref a7, .ref a8, .ref a9, .ref a10, .ref a11, .ref a12, .ref a13, .ref a14, .int 0, .int 0, .int 0])), (a11, .inr (9, [.ref a15, .ref a16, .ref a17, .ref a18, .ref a19, .ref a20, .ref a21, .ref a22, .ref a23, .int 0, .int 0, .int 0, .int 0, .int 12, .int 1, .int 0, .int 0, .int 0]))] sz (fun (v : Int32) (u : Unit) => (-1 : Int32) = v) (fun u => [])) 0 0 (va_A [(a0, .inr (10, [.ref a1, .ref a2, .ref a3, .ref a4, .ref a5, .ref a6, .ref a7, .ref a8, .ref a9, .ref a10, .ref a11, .ref a12, .ref a13, .ref a14, .int 0, .int 0, .int 0])), (a11, .inr (9, [.ref a15, .ref a16, .ref a17, .ref a18, .ref a19, .ref a20, .ref a21, .ref a22, .ref a23, .int 0, .int 0, .int 0, .int 0, .int 12, .int 1, .int 0, .int 0, .int 0]))] sz) := by
  refine e_I (by decide) (Nat.le_of_ble_eq_true rfl) ?_
  intro p e s m args below meth c A Q ls M hin w ret hl
  have hx := M.1.1
  have hb := M.1.2.1
  have hl : lv_has ls 3 [(0, .ref a0), (1, .int x0)] := hl
  refine lv_aload_n hx hb dX11_mend_0 rfl (lv_at hl 0 rfl) ?_
  refine lv_iload_n hx hb dX11_mend_1 rfl (lv_at hl 1 rfl) ?_
  refine k_I (ce := 0) (sl := 0) (rest := []) (wr := []) (r_V (f := 0) [0, 1] M w V_HookedCity_134 G841 G16 (c70_X11_isPerson l D T _ a0 a1 a2 a3 a4 a5 a6 a7 a8 a9 a10 a11 a12 a13 a14 a15 a16 a17 a18 a19 a20 a21 a22 a23 x0) 0 clX11 rfl rfl (by decide) rfl hl.1 rfl (Nat.le_of_ble_eq_true rfl) dX11_mend_2 (by decide) (by decide) (by decide) (by decide)) w [0, 1] [] rfl rfl (by decide) (by decide) rfl rfl (fun v _ H locs hp w => ?_)
  have hp : (0 : Int32) = v := hp
  subst hp
  have w : WD D A s.heap [(a0, .inr (10, [.ref a1, .ref a2, .ref a3, .ref a4, .ref a5, .ref a6, .ref a7, .ref a8, .ref a9, .ref a10, .ref a11, .ref a12, .ref a13, .ref a14, .int 0, .int 0, .int 0])), (a11, .inr (9, [.ref a15, .ref a16, .ref a17, .ref a18, .ref a19, .ref a20, .ref a21, .ref a22, .ref a23, .int 0, .int 0, .int 0, .int 0, .int 12, .int 1, .int 0, .int 0, .int 0]))] H locs := w
  refine lv_if_ne (tgt := 10) hx hb dX11_mend_5 (by decide) (fun c => absurd (by decide +kernel) c) (fun _ => ?_)
  refine lv_iconst (v := (-1)) hx hb dX11_mend_8 (by decide) ?_
  exact ret _ () _ _ _ _ _ [] dX11_mend_9 rfl w (by decide) rfl
set_option maxRecDepth 100000 in
set_option maxHeartbeats 4000000 in
theorem c72_X12_isPerson (l : Launch) (D : va_G) (T : Nat → ClassId) (sz : Nat) (a0 a1 a2 a3 a4 a5 a6 a7 a8 a9 a10 a11 a12 a13 a14 a15 a16 a17 a18 a19 a20 a21 a22 : Nat) (x0 : Int32) : Met l yX12_isPerson (Cond.code yX12_isPerson cX12_isPerson 2 (some .boolean) :: GW) (Rm 1 0 0) (cPre [.ref a0, .int x0] D T [(a0, .inr (11, [.int 0, .ref a1, .int 0, .int 0, .int 0, .int 0, .int 0, .int 0, .int 0, .int 0, .int 0, .int 0, .long 0, .int 0, .ref a2, .ref a3, .ref a4, .ref a5, .ref a6, .ref a7, .ref a8, .ref a9, .ref a10, .ref a11, .int 0, .ref a12, .ref a13, .ref a14, .ref a15, .int 0, .int 0, .int 0, .ref a16, .int (-1), .int (-1), .ref a17, .ref a18, .int 0, .ref a19, .int 0, .int 0, .ref a20, .ref a21, .int 0, .int 0, .ref a22, .int 0, .int 0, .int 0, .int 0])), (a2, .inl (T 0, 329, .inl cn45))] sz) (qI D [(a0, .inr (11, [.int 0, .ref a1, .int 0, .int 0, .int 0, .int 0, .int 0, .int 0, .int 0, .int 0, .int 0, .int 0, .long 0, .int 0, .ref a2, .ref a3, .ref a4, .ref a5, .ref a6, .ref a7, .ref a8, .ref a9, .ref a10, .ref a11, .int 0, .ref a12, .ref a13, .ref a14, .ref a15, .int 0, .int 0, .int 0, .ref a16, .int (-1), .int (-1), .ref a17, .ref a18, .int 0, .ref a19, .int 0, .int 0, .ref a20, .ref a21, .int 0, .int 0, .ref a22, .int 0, .int 0, .int 0, .int 0])), (a2, .inl (T 0, 329, .inl cn45))] sz (fun (v : Int32) (u : Unit) => (0 : Int32) = v) (fun u => [(a0, .inr (11, [.int 0, .ref a1, .int 0, .int 0, .int 0, .int 0, .int 0, .int 0, .int 0, .int 0, .int 0, .int 0, .long 0, .int 0, .ref a2, .ref a3, .ref a4, .ref a5, .ref a6, .ref a7, .ref a8, .ref a9, .ref a10, .ref a11, .int 0, .ref a12, .ref a13, .ref a14, .ref a15, .int 0, .int 0, .int 0, .ref a16, .int (-1), .int (-1), .ref a17, .ref a18, .int 0, .ref a19, .int 0, .int 0, .ref a20, .ref a21, .int 0, .int 0, .ref a22, .int 0, .int 0, .int 0, .int 0])), (a2, .inl (T 0, 329, .inl cn45))])) 0 0 (va_A [(a0, .inr (11, [.int 0, .ref a1, .int 0, .int 0, .int 0, .int 0, .int 0, .int 0, .int 0, .int 0, .int 0, .int 0, .long 0, .int 0, .ref a2, .ref a3, .ref a4, .ref a5, .ref a6, .ref a7, .ref a8, .ref a9, .ref a10, .ref a11, .int 0, .ref a12, .ref a13, .ref a14, .ref a15, .int 0, .int 0, .int 0, .ref a16, .int (-1), .int (-1), .ref a17, .ref a18, .int 0, .ref a19, .int 0, .int 0, .ref a20, .ref a21, .int 0, .int 0, .ref a22, .int 0, .int 0, .int 0, .int 0])), (a2, .inl (T 0, 329, .inl cn45))] sz) := by
  refine e_Z (by decide) (Nat.le_of_ble_eq_true rfl) ?_
  intro p e s m args below meth c A Q ls M hin w ret hl
  have hx := M.1.1
  have hb := M.1.2.1
  have hl : lv_has ls 2 [(0, .ref a0), (1, .int x0)] := hl
  refine lv_iload_n hx hb dX12_isPerson_0 rfl (lv_at hl 1 rfl) ?_
  refine lv_iconst (v := 0) hx hb dX12_isPerson_1 (by decide) ?_
  refine lv_aload_n hx hb dX12_isPerson_2 rfl (lv_at hl 0 rfl) ?_
  refine r_get (v := .ref a2) M w 0 14 clX12 rfl (by decide) G1481 rfl rfl dX12_isPerson_3 ?_
  refine lv_iconst (v := 0) hx hb dX12_isPerson_6 (by decide) ?_
  refine r_iald (v := (0 : Int32)) M w 1 rfl (vin (by decide +kernel)) (by decide +kernel) dX12_isPerson_7 ?_
  refine lv_iconst (v := 1) hx hb dX12_isPerson_8 (by decide) ?_
  refine r_isub (v := (-1 : Int32)) M (by decide +kernel) dX12_isPerson_9 ?_
  refine k_I (ce := 0) (sl := 0) (rest := []) (wr := [(a0, .inr (11, [.int 0, .ref a1, .int 0, .int 0, .int 0, .int 0, .int 0, .int 0, .int 0, .int 0, .int 0, .int 0, .long 0, .int 0, .ref a2, .ref a3, .ref a4, .ref a5, .ref a6, .ref a7, .ref a8, .ref a9, .ref a10, .ref a11, .int 0, .ref a12, .ref a13, .ref a14, .ref a15, .int 0, .int 0, .int 0, .ref a16, .int (-1), .int (-1), .ref a17, .ref a18, .int 0, .ref a19, .int 0, .int 0, .ref a20, .ref a21, .int 0, .int 0, .ref a22, .int 0, .int 0, .int 0, .int 0])), (a2, .inl (T 0, 329, .inl cn45))]) (r_S (f := 0) [] M w V_HookedCityModel_75 G1697 (c53_X12_isIn l D T _ x0) rfl (by decide) rfl hl.1 rfl (Nat.le_of_ble_eq_true rfl) dX12_isPerson_10 (by decide) (by decide) (by decide) (by decide)) w [] [0, 1] rfl rfl (by decide) (by decide) rfl rfl (fun v _ H locs hp w => ?_)
  have hp : (0 : Int32) = v := hp
  subst hp
  have w : WD D A s.heap [(a0, .inr (11, [.int 0, .ref a1, .int 0, .int 0, .int 0, .int 0, .int 0, .int 0, .int 0, .int 0, .int 0, .int 0, .long 0, .int 0, .ref a2, .ref a3, .ref a4, .ref a5, .ref a6, .ref a7, .ref a8, .ref a9, .ref a10, .ref a11, .int 0, .ref a12, .ref a13, .ref a14, .ref a15, .int 0, .int 0, .int 0, .ref a16, .int (-1), .int (-1), .ref a17, .ref a18, .int 0, .ref a19, .int 0, .int 0, .ref a20, .ref a21, .int 0, .int 0, .ref a22, .int 0, .int 0, .int 0, .int 0])), (a2, .inl (T 0, 329, .inl cn45))] H locs := w
  exact ret _ () _ _ _ _ _ [0, 1] dX12_isPerson_13 (by decide +kernel) rfl w (by decide) rfl
set_option maxRecDepth 100000 in
set_option maxHeartbeats 4000000 in
theorem c73_X12_act (l : Launch) (D : va_G) (T : Nat → ClassId) (sz : Nat) (a0 : Nat) (x0 : Int32) : Met l yX12_act (Cond.code yX12_act cX12_act 7 (some .int) :: GW) (Rm 0 0 0) (cPre [.ref a0, .int 2, .int x0, .int 0, .int 0, .int 0] D T [] sz) (qI D [] sz (fun (v : Int32) (u : Unit) => (-1 : Int32) = v) (fun u => [])) 0 0 (va_A [] sz) := by
  refine e_I (by decide) (Nat.le_of_ble_eq_true rfl) ?_
  intro p e s m args below meth c A Q ls M hin w ret hl
  have hx := M.1.1
  have hb := M.1.2.1
  have hl : lv_has ls 7 [(0, .ref a0), (1, .int 2), (2, .int x0), (3, .int 0), (4, .int 0), (5, .int 0)] := hl
  refine lv_iload hx hb dX12_act_0 (lv_at hl 5 rfl) ?_
  refine lv_if_ne (tgt := 7) hx hb dX12_act_2 (by decide) (fun c => absurd (by decide +kernel) c) (fun _ => ?_)
  refine lv_iconst (v := (-1)) hx hb dX12_act_5 (by decide) ?_
  exact ret _ () _ _ _ _ _ [] dX12_act_6 rfl w (by decide) rfl
set_option maxRecDepth 100000 in
set_option maxHeartbeats 4000000 in
theorem c74_X12_mend (l : Launch) (D : va_G) (T : Nat → ClassId) (sz : Nat) (a0 a1 a2 a3 a4 a5 a6 a7 a8 a9 a10 a11 a12 a13 a14 a15 a16 a17 a18 a19 a20 a21 a22 : Nat) (x0 : Int32) : Met l yX12_mend (Cond.code yX12_mend cX12_mend 2 (some .int) :: GW) (Rm 2 0 0) (cPre [.ref a0, .int x0] D T [(a0, .inr (11, [.int 0, .ref a1, .int 0, .int 0, .int 0, .int 0, .int 0, .int 0, .int 0, .int 0, .int 0, .int 0, .long 0, .int 0, .ref a2, .ref a3, .ref a4, .ref a5, .ref a6, .ref a7, .ref a8, .ref a9, .ref a10, .ref a11, .int 0, .ref a12, .ref a13, .ref a14, .ref a15, .int 0, .int 0, .int 0, .ref a16, .int (-1), .int (-1), .ref a17, .ref a18, .int 0, .ref a19, .int 0, .int 0, .ref a20, .ref a21, .int 0, .int 0, .ref a22, .int 0, .int 0, .int 0, .int 0])), (a2, .inl (T 0, 329, .inl cn45))] sz) (qI D [(a0, .inr (11, [.int 0, .ref a1, .int 0, .int 0, .int 0, .int 0, .int 0, .int 0, .int 0, .int 0, .int 0, .int 0, .long 0, .int 0, .ref a2, .ref a3, .ref a4, .ref a5, .ref a6, .ref a7, .ref a8, .ref a9, .ref a10, .ref a11, .int 0, .ref a12, .ref a13, .ref a14, .ref a15, .int 0, .int 0, .int 0, .ref a16, .int (-1), .int (-1), .ref a17, .ref a18, .int 0, .ref a19, .int 0, .int 0, .ref a20, .ref a21, .int 0, .int 0, .ref a22, .int 0, .int 0, .int 0, .int 0])), (a2, .inl (T 0, 329, .inl cn45))] sz (fun (v : Int32) (u : Unit) => (-1 : Int32) = v) (fun u => [])) 0 0 (va_A [(a0, .inr (11, [.int 0, .ref a1, .int 0, .int 0, .int 0, .int 0, .int 0, .int 0, .int 0, .int 0, .int 0, .int 0, .long 0, .int 0, .ref a2, .ref a3, .ref a4, .ref a5, .ref a6, .ref a7, .ref a8, .ref a9, .ref a10, .ref a11, .int 0, .ref a12, .ref a13, .ref a14, .ref a15, .int 0, .int 0, .int 0, .ref a16, .int (-1), .int (-1), .ref a17, .ref a18, .int 0, .ref a19, .int 0, .int 0, .ref a20, .ref a21, .int 0, .int 0, .ref a22, .int 0, .int 0, .int 0, .int 0])), (a2, .inl (T 0, 329, .inl cn45))] sz) := by
  refine e_I (by decide) (Nat.le_of_ble_eq_true rfl) ?_
  intro p e s m args below meth c A Q ls M hin w ret hl
  have hx := M.1.1
  have hb := M.1.2.1
  have hl : lv_has ls 2 [(0, .ref a0), (1, .int x0)] := hl
  refine lv_aload_n hx hb dX12_mend_0 rfl (lv_at hl 0 rfl) ?_
  refine lv_iconst (v := 0) hx hb dX12_mend_1 (by decide) ?_
  refine r_put (ws' := [(a0, .inr (11, [.int 0, .ref a1, .int 0, .int 0, .int 0, .int 0, .int 0, .int 0, .int 0, .int 0, .int 0, .int 0, .long 0, .int 0, .ref a2, .ref a3, .ref a4, .ref a5, .ref a6, .ref a7, .ref a8, .ref a9, .ref a10, .ref a11, .int 0, .ref a12, .ref a13, .ref a14, .ref a15, .int 0, .int 0, .int 0, .ref a16, .int (-1), .int (-1), .ref a17, .ref a18, .int 0, .ref a19, .int 0, .int 0, .ref a20, .ref a21, .int 0, .int 0, .ref a22, .int 0, .int 0, .int 0, .int 0])), (a2, .inl (T 0, 329, .inl cn45))]) M w 0 0 clX12 rfl (by decide) G1467 rfl rfl rfl rfl (Nat.le_of_ble_eq_true rfl) rfl dX12_mend_2 (fun H locs w => ?_)
  refine lv_aload_n hx hb dX12_mend_5 rfl (lv_at hl 0 rfl) ?_
  refine lv_iconst (v := 2) hx hb dX12_mend_6 (by decide) ?_
  refine lv_iload_n hx hb dX12_mend_7 rfl (lv_at hl 1 rfl) ?_
  refine lv_iconst (v := 0) hx hb dX12_mend_8 (by decide) ?_
  refine lv_iconst (v := 0) hx hb dX12_mend_9 (by decide) ?_
  refine lv_aload_n hx hb dX12_mend_10 rfl (lv_at hl 0 rfl) ?_
  refine lv_iload_n hx hb dX12_mend_11 rfl (lv_at hl 1 rfl) ?_
  refine k_I (ce := 0) (sl := 0) (rest := [.int 0, .int 0, .int x0, .int 2, .ref a0]) (wr := []) (r_V (f := 1) [0, 1] M w V_HookedCityModel_240 G1740 G68 (c72_X12_isPerson l D T _ a0 a1 a2 a3 a4 a5 a6 a7 a8 a9 a10 a11 a12 a13 a14 a15 a16 a17 a18 a19 a20 a21 a22 x0) 0 clX12 rfl rfl (by decide) rfl hl.1 rfl (Nat.le_of_ble_eq_true rfl) dX12_mend_12 (by decide) (by decide) (by decide) (by decide)) w [0, 1] [] rfl rfl (by decide) (by decide) rfl rfl (fun v _ H locs hp w => ?_)
  have hp : (0 : Int32) = v := hp
  subst hp
  have w : WD D A s.heap [(a0, .inr (11, [.int 0, .ref a1, .int 0, .int 0, .int 0, .int 0, .int 0, .int 0, .int 0, .int 0, .int 0, .int 0, .long 0, .int 0, .ref a2, .ref a3, .ref a4, .ref a5, .ref a6, .ref a7, .ref a8, .ref a9, .ref a10, .ref a11, .int 0, .ref a12, .ref a13, .ref a14, .ref a15, .int 0, .int 0, .int 0, .ref a16, .int (-1), .int (-1), .ref a17, .ref a18, .int 0, .ref a19, .int 0, .int 0, .ref a20, .ref a21, .int 0, .int 0, .ref a22, .int 0, .int 0, .int 0, .int 0])), (a2, .inl (T 0, 329, .inl cn45))] H locs := w
  refine k_I (ce := 0) (sl := 0) (rest := []) (wr := [(a0, .inr (11, [.int 0, .ref a1, .int 0, .int 0, .int 0, .int 0, .int 0, .int 0, .int 0, .int 0, .int 0, .int 0, .long 0, .int 0, .ref a2, .ref a3, .ref a4, .ref a5, .ref a6, .ref a7, .ref a8, .ref a9, .ref a10, .ref a11, .int 0, .ref a12, .ref a13, .ref a14, .ref a15, .int 0, .int 0, .int 0, .ref a16, .int (-1), .int (-1), .ref a17, .ref a18, .int 0, .ref a19, .int 0, .int 0, .ref a20, .ref a21, .int 0, .int 0, .ref a22, .int 0, .int 0, .int 0, .int 0])), (a2, .inl (T 0, 329, .inl cn45))]) (r_V (f := 0) [] M w V_HookedCityModel_291 G1792 G78 (c73_X12_act l D T _ a0 x0) 0 clX12 rfl rfl (by decide) rfl hl.1 rfl (Nat.le_of_ble_eq_true rfl) dX12_mend_15 (by decide) (by decide) (by decide) (by decide)) w [] [0, 1] rfl rfl (by decide) (by decide) rfl rfl (fun v _ H locs hp w => ?_)
  have hp : (-1 : Int32) = v := hp
  subst hp
  have w : WD D A s.heap [(a0, .inr (11, [.int 0, .ref a1, .int 0, .int 0, .int 0, .int 0, .int 0, .int 0, .int 0, .int 0, .int 0, .int 0, .long 0, .int 0, .ref a2, .ref a3, .ref a4, .ref a5, .ref a6, .ref a7, .ref a8, .ref a9, .ref a10, .ref a11, .int 0, .ref a12, .ref a13, .ref a14, .ref a15, .int 0, .int 0, .int 0, .ref a16, .int (-1), .int (-1), .ref a17, .ref a18, .int 0, .ref a19, .int 0, .int 0, .ref a20, .ref a21, .int 0, .int 0, .ref a22, .int 0, .int 0, .int 0, .int 0])), (a2, .inl (T 0, 329, .inl cn45))] H locs := w
  exact ret _ () _ _ _ _ _ [] dX12_mend_18 rfl w (by decide) rfl
set_option maxRecDepth 100000 in
set_option maxHeartbeats 4000000 in
theorem c75_X11_undo (l : Launch) (D : va_G) (T : Nat → ClassId) (sz : Nat) (a0 a1 a2 a3 a4 a5 a6 a7 a8 a9 a10 a11 a12 a13 a14 : Nat) : Met l yX11_undo (Cond.code yX11_undo cX11_undo 1 (some .int) :: GW) (Rm 0 0 0) (cPre [.ref a0] D T [(a0, .inr (10, [.ref a1, .ref a2, .ref a3, .ref a4, .ref a5, .ref a6, .ref a7, .ref a8, .ref a9, .ref a10, .ref a11, .ref a12, .ref a13, .ref a14, .int 0, .int 0, .int 0]))] sz) (qI D [(a0, .inr (10, [.ref a1, .ref a2, .ref a3, .ref a4, .ref a5, .ref a6, .ref a7, .ref a8, .ref a9, .ref a10, .ref a11, .ref a12, .ref a13, .ref a14, .int 0, .int 0, .int 0]))] sz (fun (v : Int32) (u : Unit) => (-1 : Int32) = v) (fun u => [])) 0 0 (va_A [(a0, .inr (10, [.ref a1, .ref a2, .ref a3, .ref a4, .ref a5, .ref a6, .ref a7, .ref a8, .ref a9, .ref a10, .ref a11, .ref a12, .ref a13, .ref a14, .int 0, .int 0, .int 0]))] sz) := by
  refine e_I (by decide) (Nat.le_of_ble_eq_true rfl) ?_
  intro p e s m args below meth c A Q ls M hin w ret hl
  have hx := M.1.1
  have hb := M.1.2.1
  have hl : lv_has ls 1 [(0, .ref a0)] := hl
  refine lv_aload_n hx hb dX11_undo_0 rfl (lv_at hl 0 rfl) ?_
  refine r_get (v := .int 0) M w 0 14 clX11 rfl (by decide) G511 rfl rfl dX11_undo_1 ?_
  refine lv_if_gt (tgt := 9) hx hb dX11_undo_4 (by decide) (fun c => absurd c (by decide +kernel)) (fun _ => ?_)
  refine lv_iconst (v := (-1)) hx hb dX11_undo_7 (by decide) ?_
  exact ret _ () _ _ _ _ _ [] dX11_undo_8 rfl w (by decide) rfl
set_option maxRecDepth 100000 in
set_option maxHeartbeats 4000000 in
theorem c76_X12_undo (l : Launch) (D : va_G) (T : Nat → ClassId) (sz : Nat) (a0 a1 a2 a3 a4 a5 a6 a7 a8 a9 a10 a11 a12 a13 a14 a15 a16 a17 a18 a19 a20 a21 a22 : Nat) : Met l yX12_undo (Cond.code yX12_undo cX12_undo 2 (some .int) :: GW) (Rm 0 0 0) (cPre [.ref a0] D T [(a0, .inr (11, [.int 0, .ref a1, .int 0, .int 0, .int 0, .int 0, .int 0, .int 0, .int 0, .int 0, .int 0, .int 0, .long 0, .int 0, .ref a2, .ref a3, .ref a4, .ref a5, .ref a6, .ref a7, .ref a8, .ref a9, .ref a10, .ref a11, .int 0, .ref a12, .ref a13, .ref a14, .ref a15, .int 0, .int 0, .int 0, .ref a16, .int (-1), .int (-1), .ref a17, .ref a18, .int 0, .ref a19, .int 0, .int 0, .ref a20, .ref a21, .int 0, .int 0, .ref a22, .int 0, .int 0, .int 0, .int 0]))] sz) (qI D [(a0, .inr (11, [.int 0, .ref a1, .int 0, .int 0, .int 0, .int 0, .int 0, .int 0, .int 0, .int 0, .int 0, .int 0, .long 0, .int 0, .ref a2, .ref a3, .ref a4, .ref a5, .ref a6, .ref a7, .ref a8, .ref a9, .ref a10, .ref a11, .int 0, .ref a12, .ref a13, .ref a14, .ref a15, .int 0, .int 0, .int 0, .ref a16, .int (-1), .int (-1), .ref a17, .ref a18, .int 0, .ref a19, .int 0, .int 0, .ref a20, .ref a21, .int 0, .int 0, .ref a22, .int 0, .int 0, .int 0, .int 0]))] sz (fun (v : Int32) (u : Unit) => (-1 : Int32) = v) (fun u => [])) 0 0 (va_A [(a0, .inr (11, [.int 0, .ref a1, .int 0, .int 0, .int 0, .int 0, .int 0, .int 0, .int 0, .int 0, .int 0, .int 0, .long 0, .int 0, .ref a2, .ref a3, .ref a4, .ref a5, .ref a6, .ref a7, .ref a8, .ref a9, .ref a10, .ref a11, .int 0, .ref a12, .ref a13, .ref a14, .ref a15, .int 0, .int 0, .int 0, .ref a16, .int (-1), .int (-1), .ref a17, .ref a18, .int 0, .ref a19, .int 0, .int 0, .ref a20, .ref a21, .int 0, .int 0, .ref a22, .int 0, .int 0, .int 0, .int 0]))] sz) := by
  refine e_I (by decide) (Nat.le_of_ble_eq_true rfl) ?_
  intro p e s m args below meth c A Q ls M hin w ret hl
  have hx := M.1.1
  have hb := M.1.2.1
  have hl : lv_has ls 2 [(0, .ref a0)] := hl
  refine lv_aload_n hx hb dX12_undo_0 rfl (lv_at hl 0 rfl) ?_
  refine lv_iconst (v := 0) hx hb dX12_undo_1 (by decide) ?_
  refine r_put (ws' := [(a0, .inr (11, [.int 0, .ref a1, .int 0, .int 0, .int 0, .int 0, .int 0, .int 0, .int 0, .int 0, .int 0, .int 0, .long 0, .int 0, .ref a2, .ref a3, .ref a4, .ref a5, .ref a6, .ref a7, .ref a8, .ref a9, .ref a10, .ref a11, .int 0, .ref a12, .ref a13, .ref a14, .ref a15, .int 0, .int 0, .int 0, .ref a16, .int (-1), .int (-1), .ref a17, .ref a18, .int 0, .ref a19, .int 0, .int 0, .ref a20, .ref a21, .int 0, .int 0, .ref a22, .int 0, .int 0, .int 0, .int 0]))]) M w 0 0 clX12 rfl (by decide) G1467 rfl rfl rfl rfl (Nat.le_of_ble_eq_true rfl) rfl dX12_undo_2 (fun H locs w => ?_)
  refine lv_aload_n hx hb dX12_undo_5 rfl (lv_at hl 0 rfl) ?_
  refine r_get (v := .int 0) M w 0 24 clX12 rfl (by decide) G1491 rfl rfl dX12_undo_6 ?_
  refine lv_if_ne (tgt := 14) hx hb dX12_undo_9 (by decide) (fun c => absurd (by decide +kernel) c) (fun _ => ?_)
  refine lv_iconst (v := (-1)) hx hb dX12_undo_12 (by decide) ?_
  exact ret _ () _ _ _ _ _ [] dX12_undo_13 rfl w (by decide) rfl
set_option maxRecDepth 100000 in
set_option maxHeartbeats 4000000 in
theorem c77_X11_with (l : Launch) (D : va_G) (T : Nat → ClassId) (sz : Nat) (a0 a1 a2 a3 a4 a5 a6 a7 a8 a9 a10 a11 a12 a13 a14 a15 a16 a17 a18 a19 a20 a21 a22 a23 : Nat) (x0 : Int32) : Met l yX11_with (Cond.code yX11_with cX11_with 2 (some .int) :: GW) (Rm 1 0 0) (cPre [.ref a0, .int x0] D T [(a0, .inr (10, [.ref a1, .ref a2, .ref a3, .ref a4, .ref a5, .ref a6, .ref a7, .ref a8, .ref a9, .ref a10, .ref a11, .ref a12, .ref a13, .ref a14, .int 0, .int 0, .int 0])), (a11, .inr (9, [.ref a15, .ref a16, .ref a17, .ref a18, .ref a19, .ref a20, .ref a21, .ref a22, .ref a23, .int 0, .int 0, .int 0, .int 0, .int 12, .int 1, .int 0, .int 0, .int 0]))] sz) (qI D [(a0, .inr (10, [.ref a1, .ref a2, .ref a3, .ref a4, .ref a5, .ref a6, .ref a7, .ref a8, .ref a9, .ref a10, .ref a11, .ref a12, .ref a13, .ref a14, .int 0, .int 0, .int 0])), (a11, .inr (9, [.ref a15, .ref a16, .ref a17, .ref a18, .ref a19, .ref a20, .ref a21, .ref a22, .ref a23, .int 0, .int 0, .int 0, .int 0, .int 12, .int 1, .int 0, .int 0, .int 0]))] sz (fun (v : Int32) (u : Unit) => (-1 : Int32) = v) (fun u => [])) 0 0 (va_A [(a0, .inr (10, [.ref a1, .ref a2, .ref a3, .ref a4, .ref a5, .ref a6, .ref a7, .ref a8, .ref a9, .ref a10, .ref a11, .ref a12, .ref a13, .ref a14, .int 0, .int 0, .int 0])), (a11, .inr (9, [.ref a15, .ref a16, .ref a17, .ref a18, .ref a19, .ref a20, .ref a21, .ref a22, .ref a23, .int 0, .int 0, .int 0, .int 0, .int 12, .int 1, .int 0, .int 0, .int 0]))] sz) := by
  refine e_I (by decide) (Nat.le_of_ble_eq_true rfl) ?_
  intro p e s m args below meth c A Q ls M hin w ret hl
  have hx := M.1.1
  have hb := M.1.2.1
  have hl : lv_has ls 2 [(0, .ref a0), (1, .int x0)] := hl
  refine lv_aload_n hx hb dX11_with_0 rfl (lv_at hl 0 rfl) ?_
  refine lv_iload_n hx hb dX11_with_1 rfl (lv_at hl 1 rfl) ?_
  refine k_I (ce := 0) (sl := 0) (rest := []) (wr := []) (r_V (f := 0) [0, 1] M w V_HookedCity_134 G841 G16 (c70_X11_isPerson l D T _ a0 a1 a2 a3 a4 a5 a6 a7 a8 a9 a10 a11 a12 a13 a14 a15 a16 a17 a18 a19 a20 a21 a22 a23 x0) 0 clX11 rfl rfl (by decide) rfl hl.1 rfl (Nat.le_of_ble_eq_true rfl) dX11_with_2 (by decide) (by decide) (by decide) (by decide)) w [0, 1] [] rfl rfl (by decide) (by decide) rfl rfl (fun v _ H locs hp w => ?_)
  have hp : (0 : Int32) = v := hp
  subst hp
  have w : WD D A s.heap [(a0, .inr (10, [.ref a1, .ref a2, .ref a3, .ref a4, .ref a5, .ref a6, .ref a7, .ref a8, .ref a9, .ref a10, .ref a11, .ref a12, .ref a13, .ref a14, .int 0, .int 0, .int 0])), (a11, .inr (9, [.ref a15, .ref a16, .ref a17, .ref a18, .ref a19, .ref a20, .ref a21, .ref a22, .ref a23, .int 0, .int 0, .int 0, .int 0, .int 12, .int 1, .int 0, .int 0, .int 0]))] H locs := w
  refine lv_if_eq (tgt := 19) hx hb dX11_with_5 (by decide) (fun _ => ?_) (fun c => absurd (by decide +kernel) c)
  refine lv_iconst (v := (-1)) hx hb dX11_with_19 (by decide) ?_
  exact ret _ () _ _ _ _ _ [] dX11_with_20 rfl w (by decide) rfl
set_option maxRecDepth 100000 in
set_option maxHeartbeats 4000000 in
theorem c78_X12_with (l : Launch) (D : va_G) (T : Nat → ClassId) (sz : Nat) (a0 a1 a2 a3 a4 a5 a6 a7 a8 a9 a10 a11 a12 a13 a14 a15 a16 a17 a18 a19 a20 a21 a22 : Nat) (x0 : Int32) : Met l yX12_with (Cond.code yX12_with cX12_with 2 (some .int) :: GW) (Rm 2 0 0) (cPre [.ref a0, .int x0] D T [(a0, .inr (11, [.int 0, .ref a1, .int 0, .int 0, .int 0, .int 0, .int 0, .int 0, .int 0, .int 0, .int 0, .int 0, .long 0, .int 0, .ref a2, .ref a3, .ref a4, .ref a5, .ref a6, .ref a7, .ref a8, .ref a9, .ref a10, .ref a11, .int 0, .ref a12, .ref a13, .ref a14, .ref a15, .int 0, .int 0, .int 0, .ref a16, .int (-1), .int (-1), .ref a17, .ref a18, .int 0, .ref a19, .int 0, .int 0, .ref a20, .ref a21, .int 0, .int 0, .ref a22, .int 0, .int 0, .int 0, .int 0])), (a2, .inl (T 0, 329, .inl cn45))] sz) (qI D [(a0, .inr (11, [.int 0, .ref a1, .int 0, .int 0, .int 0, .int 0, .int 0, .int 0, .int 0, .int 0, .int 0, .int 0, .long 0, .int 0, .ref a2, .ref a3, .ref a4, .ref a5, .ref a6, .ref a7, .ref a8, .ref a9, .ref a10, .ref a11, .int 0, .ref a12, .ref a13, .ref a14, .ref a15, .int 0, .int 0, .int 0, .ref a16, .int (-1), .int (-1), .ref a17, .ref a18, .int 0, .ref a19, .int 0, .int 0, .ref a20, .ref a21, .int 0, .int 0, .ref a22, .int 0, .int 0, .int 0, .int 0])), (a2, .inl (T 0, 329, .inl cn45))] sz (fun (v : Int32) (u : Unit) => (-1 : Int32) = v) (fun u => [])) 0 0 (va_A [(a0, .inr (11, [.int 0, .ref a1, .int 0, .int 0, .int 0, .int 0, .int 0, .int 0, .int 0, .int 0, .int 0, .int 0, .long 0, .int 0, .ref a2, .ref a3, .ref a4, .ref a5, .ref a6, .ref a7, .ref a8, .ref a9, .ref a10, .ref a11, .int 0, .ref a12, .ref a13, .ref a14, .ref a15, .int 0, .int 0, .int 0, .ref a16, .int (-1), .int (-1), .ref a17, .ref a18, .int 0, .ref a19, .int 0, .int 0, .ref a20, .ref a21, .int 0, .int 0, .ref a22, .int 0, .int 0, .int 0, .int 0])), (a2, .inl (T 0, 329, .inl cn45))] sz) := by
  refine e_I (by decide) (Nat.le_of_ble_eq_true rfl) ?_
  intro p e s m args below meth c A Q ls M hin w ret hl
  have hx := M.1.1
  have hb := M.1.2.1
  have hl : lv_has ls 2 [(0, .ref a0), (1, .int x0)] := hl
  refine lv_aload_n hx hb dX12_with_0 rfl (lv_at hl 0 rfl) ?_
  refine lv_iconst (v := 0) hx hb dX12_with_1 (by decide) ?_
  refine r_put (ws' := [(a0, .inr (11, [.int 0, .ref a1, .int 0, .int 0, .int 0, .int 0, .int 0, .int 0, .int 0, .int 0, .int 0, .int 0, .long 0, .int 0, .ref a2, .ref a3, .ref a4, .ref a5, .ref a6, .ref a7, .ref a8, .ref a9, .ref a10, .ref a11, .int 0, .ref a12, .ref a13, .ref a14, .ref a15, .int 0, .int 0, .int 0, .ref a16, .int (-1), .int (-1), .ref a17, .ref a18, .int 0, .ref a19, .int 0, .int 0, .ref a20, .ref a21, .int 0, .int 0, .ref a22, .int 0, .int 0, .int 0, .int 0])), (a2, .inl (T 0, 329, .inl cn45))]) M w 0 0 clX12 rfl (by decide) G1467 rfl rfl rfl rfl (Nat.le_of_ble_eq_true rfl) rfl dX12_with_2 (fun H locs w => ?_)
  refine lv_aload_n hx hb dX12_with_5 rfl (lv_at hl 0 rfl) ?_
  refine lv_iload_n hx hb dX12_with_6 rfl (lv_at hl 1 rfl) ?_
  refine k_I (ce := 0) (sl := 0) (rest := []) (wr := []) (r_V (f := 1) [0, 1] M w V_HookedCityModel_240 G1740 G68 (c72_X12_isPerson l D T _ a0 a1 a2 a3 a4 a5 a6 a7 a8 a9 a10 a11 a12 a13 a14 a15 a16 a17 a18 a19 a20 a21 a22 x0) 0 clX12 rfl rfl (by decide) rfl hl.1 rfl (Nat.le_of_ble_eq_true rfl) dX12_with_7 (by decide) (by decide) (by decide) (by decide)) w [0, 1] [] rfl rfl (by decide) (by decide) rfl rfl (fun v _ H locs hp w => ?_)
  have hp : (0 : Int32) = v := hp
  subst hp
  have w : WD D A s.heap [(a0, .inr (11, [.int 0, .ref a1, .int 0, .int 0, .int 0, .int 0, .int 0, .int 0, .int 0, .int 0, .int 0, .int 0, .long 0, .int 0, .ref a2, .ref a3, .ref a4, .ref a5, .ref a6, .ref a7, .ref a8, .ref a9, .ref a10, .ref a11, .int 0, .ref a12, .ref a13, .ref a14, .ref a15, .int 0, .int 0, .int 0, .ref a16, .int (-1), .int (-1), .ref a17, .ref a18, .int 0, .ref a19, .int 0, .int 0, .ref a20, .ref a21, .int 0, .int 0, .ref a22, .int 0, .int 0, .int 0, .int 0])), (a2, .inl (T 0, 329, .inl cn45))] H locs := w
  refine lv_if_eq (tgt := 21) hx hb dX12_with_10 (by decide) (fun _ => ?_) (fun c => absurd (by decide +kernel) c)
  refine lv_iconst (v := (-1)) hx hb dX12_with_21 (by decide) ?_
  exact ret _ () _ _ _ _ _ [] dX12_with_22 rfl w (by decide) rfl
set_option maxRecDepth 100000 in
set_option maxHeartbeats 4000000 in
theorem c79_X7_partsOf (l : Launch) (D : va_G) (T : Nat → ClassId) (sz : Nat) (a0 a1 a2 a3 a4 a5 a6 a7 a8 a9 a10 : Nat) : Met l yX7_partsOf (Cond.code yX7_partsOf cX7_partsOf 5 (some .int) :: GW) (Rm 0 0 0) (cPre [.ref a0, .ref a1] D T [(a1, .inr (9, [.ref a2, .ref a3, .ref a4, .ref a5, .ref a6, .ref a7, .ref a8, .ref a9, .ref a10, .int 0, .int 0, .int 0, .int 0, .int 12, .int 1, .int 0, .int 0, .int 0]))] sz) (qI D [(a1, .inr (9, [.ref a2, .ref a3, .ref a4, .ref a5, .ref a6, .ref a7, .ref a8, .ref a9, .ref a10, .int 0, .int 0, .int 0, .int 0, .int 12, .int 1, .int 0, .int 0, .int 0]))] sz (fun (v : Int32) (u : Unit) => (0 : Int32) = v) (fun u => [(a1, .inr (9, [.ref a2, .ref a3, .ref a4, .ref a5, .ref a6, .ref a7, .ref a8, .ref a9, .ref a10, .int 0, .int 0, .int 0, .int 0, .int 12, .int 1, .int 0, .int 0, .int 0]))])) 0 0 (va_A [(a1, .inr (9, [.ref a2, .ref a3, .ref a4, .ref a5, .ref a6, .ref a7, .ref a8, .ref a9, .ref a10, .int 0, .int 0, .int 0, .int 0, .int 12, .int 1, .int 0, .int 0, .int 0]))] sz) := by
  refine e_I (by decide) (Nat.le_of_ble_eq_true rfl) ?_
  intro p e s m args below meth c A Q ls M hin w ret hl
  have hx := M.1.1
  have hb := M.1.2.1
  have hl : lv_has ls 5 [(0, .ref a0), (1, .ref a1)] := hl
  refine lv_iconst (v := 0) hx hb dX7_partsOf_0 (by decide) ?_
  refine lv_istore_n (lv' := [(2, .int 0), (0, .ref a0), (1, .ref a1)]) hx hb dX7_partsOf_1 rfl hl (by decide) rfl (fun ls hl => ?_)
  refine lv_iconst (v := 0) hx hb dX7_partsOf_2 (by decide) ?_
  refine lv_istore_n (lv' := [(3, .int 0), (2, .int 0), (0, .ref a0), (1, .ref a1)]) hx hb dX7_partsOf_3 rfl hl (by decide) rfl (fun ls hl => ?_)
  refine lv_iload_n hx hb dX7_partsOf_4 rfl (lv_at hl 0 rfl) ?_
  refine lv_aload_n hx hb dX7_partsOf_5 rfl (lv_at hl 3 rfl) ?_
  refine r_getN (v := .int 0) M w 0 9 clX9 rfl (by decide) N390 rfl rfl dX7_partsOf_6 ?_
  refine lv_icmp_ge (tgt := 39) hx hb dX7_partsOf_9 (by decide) (fun _ => ?_) (fun c => absurd (by decide +kernel) c)
  refine lv_iload_n hx hb dX7_partsOf_39 rfl (lv_at hl 1 rfl) ?_
  exact ret _ () _ _ _ _ _ [0] dX7_partsOf_40 rfl w (by decide) rfl
set_option maxRecDepth 100000 in
set_option maxHeartbeats 4000000 in
theorem c80_X11_parts (l : Launch) (D : va_G) (T : Nat → ClassId) (sz : Nat) (a0 a1 a2 a3 a4 a5 a6 a7 a8 a9 a10 a11 a12 a13 a14 a15 a16 a17 a18 a19 a20 a21 a22 a23 a24 a25 a26 a27 : Nat) : Met l yX11_parts (Cond.code yX11_parts cX11_parts 1 (some .int) :: GW) (Rm 1 0 0) (cPre [.ref a0] D T [(a0, .inr (10, [.ref a1, .ref a2, .ref a3, .ref a4, .ref a5, .ref a6, .ref a7, .ref a8, .ref a9, .ref a10, .ref a11, .ref a12, .ref a13, .ref a14, .int 0, .int 0, .int 0])), (a2, .inr (7, [.ref a15, .ref a16, .ref a17, .ref a18, .int 0, .int 0, .int 0, .int 0])), (a11, .inr (9, [.ref a19, .ref a20, .ref a21, .ref a22, .ref a23, .ref a24, .ref a25, .ref a26, .ref a27, .int 0, .int 0, .int 0, .int 0, .int 12, .int 1, .int 0, .int 0, .int 0]))] sz) (qI D [(a0, .inr (10, [.ref a1, .ref a2, .ref a3, .ref a4, .ref a5, .ref a6, .ref a7, .ref a8, .ref a9, .ref a10, .ref a11, .ref a12, .ref a13, .ref a14, .int 0, .int 0, .int 0])), (a2, .inr (7, [.ref a15, .ref a16, .ref a17, .ref a18, .int 0, .int 0, .int 0, .int 0])), (a11, .inr (9, [.ref a19, .ref a20, .ref a21, .ref a22, .ref a23, .ref a24, .ref a25, .ref a26, .ref a27, .int 0, .int 0, .int 0, .int 0, .int 12, .int 1, .int 0, .int 0, .int 0]))] sz (fun (v : Int32) (u : Unit) => (0 : Int32) = v) (fun u => [])) 0 0 (va_A [(a0, .inr (10, [.ref a1, .ref a2, .ref a3, .ref a4, .ref a5, .ref a6, .ref a7, .ref a8, .ref a9, .ref a10, .ref a11, .ref a12, .ref a13, .ref a14, .int 0, .int 0, .int 0])), (a2, .inr (7, [.ref a15, .ref a16, .ref a17, .ref a18, .int 0, .int 0, .int 0, .int 0])), (a11, .inr (9, [.ref a19, .ref a20, .ref a21, .ref a22, .ref a23, .ref a24, .ref a25, .ref a26, .ref a27, .int 0, .int 0, .int 0, .int 0, .int 12, .int 1, .int 0, .int 0, .int 0]))] sz) := by
  refine e_I (by decide) (Nat.le_of_ble_eq_true rfl) ?_
  intro p e s m args below meth c A Q ls M hin w ret hl
  have hx := M.1.1
  have hb := M.1.2.1
  have hl : lv_has ls 1 [(0, .ref a0)] := hl
  refine lv_aload_n hx hb dX11_parts_0 rfl (lv_at hl 0 rfl) ?_
  refine r_get (v := .ref a2) M w 0 1 clX11 rfl (by decide) G498 rfl rfl dX11_parts_1 ?_
  refine lv_aload_n hx hb dX11_parts_4 rfl (lv_at hl 0 rfl) ?_
  refine r_get (v := .ref a11) M w 0 10 clX11 rfl (by decide) G507 rfl rfl dX11_parts_5 ?_
  refine k_I (ce := 0) (sl := 0) (rest := []) (wr := [(a0, .inr (10, [.ref a1, .ref a2, .ref a3, .ref a4, .ref a5, .ref a6, .ref a7, .ref a8, .ref a9, .ref a10, .ref a11, .ref a12, .ref a13, .ref a14, .int 0, .int 0, .int 0])), (a2, .inr (7, [.ref a15, .ref a16, .ref a17, .ref a18, .int 0, .int 0, .int 0, .int 0]))]) (r_V (f := 0) [2] M w V_HookedCity_237 G934 G935 (c79_X7_partsOf l D T _ a2 a11 a19 a20 a21 a22 a23 a24 a25 a26 a27) 1 clX7 rfl rfl (by decide) rfl hl.1 rfl (Nat.le_of_ble_eq_true rfl) dX11_parts_8 (by decide) (by decide) (by decide) (by decide)) w [2] [0, 1] rfl rfl (by decide) (by decide) rfl rfl (fun v _ H locs hp w => ?_)
  have hp : (0 : Int32) = v := hp
  subst hp
  have w : WD D A s.heap [(a0, .inr (10, [.ref a1, .ref a2, .ref a3, .ref a4, .ref a5, .ref a6, .ref a7, .ref a8, .ref a9, .ref a10, .ref a11, .ref a12, .ref a13, .ref a14, .int 0, .int 0, .int 0])), (a2, .inr (7, [.ref a15, .ref a16, .ref a17, .ref a18, .int 0, .int 0, .int 0, .int 0])), (a11, .inr (9, [.ref a19, .ref a20, .ref a21, .ref a22, .ref a23, .ref a24, .ref a25, .ref a26, .ref a27, .int 0, .int 0, .int 0, .int 0, .int 12, .int 1, .int 0, .int 0, .int 0]))] H locs := w
  exact ret _ () _ _ _ _ _ [] dX11_parts_11 rfl w (by decide) rfl
set_option maxRecDepth 100000 in
set_option maxHeartbeats 4000000 in
theorem c81_X12_parts (l : Launch) (D : va_G) (T : Nat → ClassId) (sz : Nat) (a0 a1 a2 a3 a4 a5 a6 a7 a8 a9 a10 a11 a12 a13 a14 a15 a16 a17 a18 a19 a20 a21 a22 : Nat) : Met l yX12_parts (Cond.code yX12_parts cX12_parts 4 (some .int) :: GW) (Rm 0 0 0) (cPre [.ref a0] D T [(a0, .inr (11, [.int 0, .ref a1, .int 0, .int 0, .int 0, .int 0, .int 0, .int 0, .int 0, .int 0, .int 0, .int 0, .long 0, .int 0, .ref a2, .ref a3, .ref a4, .ref a5, .ref a6, .ref a7, .ref a8, .ref a9, .ref a10, .ref a11, .int 0, .ref a12, .ref a13, .ref a14, .ref a15, .int 0, .int 0, .int 0, .ref a16, .int (-1), .int (-1), .ref a17, .ref a18, .int 0, .ref a19, .int 0, .int 0, .ref a20, .ref a21, .int 0, .int 0, .ref a22, .int 0, .int 0, .int 0, .int 0])), (a2, .inl (T 0, 329, .inl cn45))] sz) (qI D [(a0, .inr (11, [.int 0, .ref a1, .int 0, .int 0, .int 0, .int 0, .int 0, .int 0, .int 0, .int 0, .int 0, .int 0, .long 0, .int 0, .ref a2, .ref a3, .ref a4, .ref a5, .ref a6, .ref a7, .ref a8, .ref a9, .ref a10, .ref a11, .int 0, .ref a12, .ref a13, .ref a14, .ref a15, .int 0, .int 0, .int 0, .ref a16, .int (-1), .int (-1), .ref a17, .ref a18, .int 0, .ref a19, .int 0, .int 0, .ref a20, .ref a21, .int 0, .int 0, .ref a22, .int 0, .int 0, .int 0, .int 0])), (a2, .inl (T 0, 329, .inl cn45))] sz (fun (v : Int32) (u : Unit) => (0 : Int32) = v) (fun u => [])) 0 0 (va_A [(a0, .inr (11, [.int 0, .ref a1, .int 0, .int 0, .int 0, .int 0, .int 0, .int 0, .int 0, .int 0, .int 0, .int 0, .long 0, .int 0, .ref a2, .ref a3, .ref a4, .ref a5, .ref a6, .ref a7, .ref a8, .ref a9, .ref a10, .ref a11, .int 0, .ref a12, .ref a13, .ref a14, .ref a15, .int 0, .int 0, .int 0, .ref a16, .int (-1), .int (-1), .ref a17, .ref a18, .int 0, .ref a19, .int 0, .int 0, .ref a20, .ref a21, .int 0, .int 0, .ref a22, .int 0, .int 0, .int 0, .int 0])), (a2, .inl (T 0, 329, .inl cn45))] sz) := by
  refine e_I (by decide) (Nat.le_of_ble_eq_true rfl) ?_
  intro p e s m args below meth c A Q ls M hin w ret hl
  have hx := M.1.1
  have hb := M.1.2.1
  have hl : lv_has ls 4 [(0, .ref a0)] := hl
  refine lv_aload_n hx hb dX12_parts_0 rfl (lv_at hl 0 rfl) ?_
  refine lv_iconst (v := 0) hx hb dX12_parts_1 (by decide) ?_
  refine r_put (ws' := [(a0, .inr (11, [.int 0, .ref a1, .int 0, .int 0, .int 0, .int 0, .int 0, .int 0, .int 0, .int 0, .int 0, .int 0, .long 0, .int 0, .ref a2, .ref a3, .ref a4, .ref a5, .ref a6, .ref a7, .ref a8, .ref a9, .ref a10, .ref a11, .int 0, .ref a12, .ref a13, .ref a14, .ref a15, .int 0, .int 0, .int 0, .ref a16, .int (-1), .int (-1), .ref a17, .ref a18, .int 0, .ref a19, .int 0, .int 0, .ref a20, .ref a21, .int 0, .int 0, .ref a22, .int 0, .int 0, .int 0, .int 0])), (a2, .inl (T 0, 329, .inl cn45))]) M w 0 0 clX12 rfl (by decide) G1467 rfl rfl rfl rfl (Nat.le_of_ble_eq_true rfl) rfl dX12_parts_2 (fun H locs w => ?_)
  refine lv_iconst (v := 0) hx hb dX12_parts_5 (by decide) ?_
  refine lv_istore_n (lv' := [(1, .int 0), (0, .ref a0)]) hx hb dX12_parts_6 rfl hl (by decide) rfl (fun ls hl => ?_)
  refine lv_iconst (v := 1) hx hb dX12_parts_7 (by decide) ?_
  refine lv_aload_n hx hb dX12_parts_8 rfl (lv_at hl 1 rfl) ?_
  refine r_get (v := .ref a2) M w 0 14 clX12 rfl (by decide) G1481 rfl rfl dX12_parts_9 ?_
  refine lv_iconst (v := 0) hx hb dX12_parts_12 (by decide) ?_
  refine r_iald (v := (0 : Int32)) M w 1 rfl (vin (by decide +kernel)) (by decide +kernel) dX12_parts_13 ?_
  refine r_ishl (v := (1 : Int32)) M (by decide +kernel) dX12_parts_14 ?_
  refine lv_iconst (v := 1) hx hb dX12_parts_15 (by decide) ?_
  refine r_isub (v := (0 : Int32)) M (by decide +kernel) dX12_parts_16 ?_
  refine lv_istore_n (lv' := [(2, .int 0), (1, .int 0), (0, .ref a0)]) hx hb dX12_parts_17 rfl hl (by decide) rfl (fun ls hl => ?_)
  refine lv_iconst (v := 0) hx hb dX12_parts_18 (by decide) ?_
  refine lv_istore_n (lv' := [(3, .int 0), (2, .int 0), (1, .int 0), (0, .ref a0)]) hx hb dX12_parts_19 rfl hl (by decide) rfl (fun ls hl => ?_)
  refine lv_iload_n hx hb dX12_parts_20 rfl (lv_at hl 0 rfl) ?_
  refine lv_aload_n hx hb dX12_parts_21 rfl (lv_at hl 3 rfl) ?_
  refine r_get (v := .ref a2) M w 0 14 clX12 rfl (by decide) G1481 rfl rfl dX12_parts_22 ?_
  refine lv_iconst (v := 0) hx hb dX12_parts_25 (by decide) ?_
  refine r_iald (v := (0 : Int32)) M w 1 rfl (vin (by decide +kernel)) (by decide +kernel) dX12_parts_26 ?_
  refine lv_icmp_ge (tgt := 60) hx hb dX12_parts_27 (by decide) (fun _ => ?_) (fun c => absurd (by decide +kernel) c)
  refine lv_iload_n hx hb dX12_parts_60 rfl (lv_at hl 2 rfl) ?_
  exact ret _ () _ _ _ _ _ [] dX12_parts_61 rfl w (by decide) rfl
set_option maxRecDepth 100000 in
set_option maxHeartbeats 4000000 in
theorem c82_X7_ringOnes (l : Launch) (D : va_G) (T : Nat → ClassId) (sz : Nat) (a0 a1 a2 a3 a4 a5 a6 a7 a8 a9 a10 : Nat) : Met l yX7_ringOnes (Cond.code yX7_ringOnes cX7_ringOnes 4 (some .int) :: GW) (Rm 0 0 0) (cPre [.ref a0, .ref a1] D T [(a1, .inr (9, [.ref a2, .ref a3, .ref a4, .ref a5, .ref a6, .ref a7, .ref a8, .ref a9, .ref a10, .int 0, .int 0, .int 0, .int 0, .int 12, .int 1, .int 0, .int 0, .int 0]))] sz) (qI D [(a1, .inr (9, [.ref a2, .ref a3, .ref a4, .ref a5, .ref a6, .ref a7, .ref a8, .ref a9, .ref a10, .int 0, .int 0, .int 0, .int 0, .int 12, .int 1, .int 0, .int 0, .int 0]))] sz (fun (v : Int32) (u : Unit) => (0 : Int32) = v) (fun u => [(a1, .inr (9, [.ref a2, .ref a3, .ref a4, .ref a5, .ref a6, .ref a7, .ref a8, .ref a9, .ref a10, .int 0, .int 0, .int 0, .int 0, .int 12, .int 1, .int 0, .int 0, .int 0]))])) 0 0 (va_A [(a1, .inr (9, [.ref a2, .ref a3, .ref a4, .ref a5, .ref a6, .ref a7, .ref a8, .ref a9, .ref a10, .int 0, .int 0, .int 0, .int 0, .int 12, .int 1, .int 0, .int 0, .int 0]))] sz) := by
  refine e_I (by decide) (Nat.le_of_ble_eq_true rfl) ?_
  intro p e s m args below meth c A Q ls M hin w ret hl
  have hx := M.1.1
  have hb := M.1.2.1
  have hl : lv_has ls 4 [(0, .ref a0), (1, .ref a1)] := hl
  refine lv_iconst (v := 0) hx hb dX7_ringOnes_0 (by decide) ?_
  refine lv_istore_n (lv' := [(2, .int 0), (0, .ref a0), (1, .ref a1)]) hx hb dX7_ringOnes_1 rfl hl (by decide) rfl (fun ls hl => ?_)
  refine lv_iconst (v := 0) hx hb dX7_ringOnes_2 (by decide) ?_
  refine lv_istore_n (lv' := [(3, .int 0), (2, .int 0), (0, .ref a0), (1, .ref a1)]) hx hb dX7_ringOnes_3 rfl hl (by decide) rfl (fun ls hl => ?_)
  refine lv_iload_n hx hb dX7_ringOnes_4 rfl (lv_at hl 0 rfl) ?_
  refine lv_aload_n hx hb dX7_ringOnes_5 rfl (lv_at hl 3 rfl) ?_
  refine r_getN (v := .int 0) M w 0 9 clX9 rfl (by decide) N390 rfl rfl dX7_ringOnes_6 ?_
  refine lv_icmp_ge (tgt := 36) hx hb dX7_ringOnes_9 (by decide) (fun _ => ?_) (fun c => absurd (by decide +kernel) c)
  refine lv_iload_n hx hb dX7_ringOnes_36 rfl (lv_at hl 1 rfl) ?_
  exact ret _ () _ _ _ _ _ [0] dX7_ringOnes_37 rfl w (by decide) rfl
set_option maxRecDepth 100000 in
set_option maxHeartbeats 4000000 in
theorem c83_X11_quiet (l : Launch) (D : va_G) (T : Nat → ClassId) (sz : Nat) (a0 a1 a2 a3 a4 a5 a6 a7 a8 a9 a10 a11 a12 a13 a14 a15 a16 a17 a18 a19 a20 a21 a22 a23 a24 a25 a26 a27 : Nat) : Met l yX11_quiet (Cond.code yX11_quiet cX11_quiet 1 (some .int) :: GW) (Rm 1 0 0) (cPre [.ref a0] D T [(a0, .inr (10, [.ref a1, .ref a2, .ref a3, .ref a4, .ref a5, .ref a6, .ref a7, .ref a8, .ref a9, .ref a10, .ref a11, .ref a12, .ref a13, .ref a14, .int 0, .int 0, .int 0])), (a2, .inr (7, [.ref a15, .ref a16, .ref a17, .ref a18, .int 0, .int 0, .int 0, .int 0])), (a11, .inr (9, [.ref a19, .ref a20, .ref a21, .ref a22, .ref a23, .ref a24, .ref a25, .ref a26, .ref a27, .int 0, .int 0, .int 0, .int 0, .int 12, .int 1, .int 0, .int 0, .int 0]))] sz) (qI D [(a0, .inr (10, [.ref a1, .ref a2, .ref a3, .ref a4, .ref a5, .ref a6, .ref a7, .ref a8, .ref a9, .ref a10, .ref a11, .ref a12, .ref a13, .ref a14, .int 0, .int 0, .int 0])), (a2, .inr (7, [.ref a15, .ref a16, .ref a17, .ref a18, .int 0, .int 0, .int 0, .int 0])), (a11, .inr (9, [.ref a19, .ref a20, .ref a21, .ref a22, .ref a23, .ref a24, .ref a25, .ref a26, .ref a27, .int 0, .int 0, .int 0, .int 0, .int 12, .int 1, .int 0, .int 0, .int 0]))] sz (fun (v : Int32) (u : Unit) => (0 : Int32) = v) (fun u => [])) 0 0 (va_A [(a0, .inr (10, [.ref a1, .ref a2, .ref a3, .ref a4, .ref a5, .ref a6, .ref a7, .ref a8, .ref a9, .ref a10, .ref a11, .ref a12, .ref a13, .ref a14, .int 0, .int 0, .int 0])), (a2, .inr (7, [.ref a15, .ref a16, .ref a17, .ref a18, .int 0, .int 0, .int 0, .int 0])), (a11, .inr (9, [.ref a19, .ref a20, .ref a21, .ref a22, .ref a23, .ref a24, .ref a25, .ref a26, .ref a27, .int 0, .int 0, .int 0, .int 0, .int 12, .int 1, .int 0, .int 0, .int 0]))] sz) := by
  refine e_I (by decide) (Nat.le_of_ble_eq_true rfl) ?_
  intro p e s m args below meth c A Q ls M hin w ret hl
  have hx := M.1.1
  have hb := M.1.2.1
  have hl : lv_has ls 1 [(0, .ref a0)] := hl
  refine lv_aload_n hx hb dX11_quiet_0 rfl (lv_at hl 0 rfl) ?_
  refine r_get (v := .ref a2) M w 0 1 clX11 rfl (by decide) G498 rfl rfl dX11_quiet_1 ?_
  refine lv_aload_n hx hb dX11_quiet_4 rfl (lv_at hl 0 rfl) ?_
  refine r_get (v := .ref a11) M w 0 10 clX11 rfl (by decide) G507 rfl rfl dX11_quiet_5 ?_
  refine k_I (ce := 0) (sl := 0) (rest := []) (wr := [(a0, .inr (10, [.ref a1, .ref a2, .ref a3, .ref a4, .ref a5, .ref a6, .ref a7, .ref a8, .ref a9, .ref a10, .ref a11, .ref a12, .ref a13, .ref a14, .int 0, .int 0, .int 0])), (a2, .inr (7, [.ref a15, .ref a16, .ref a17, .ref a18, .int 0, .int 0, .int 0, .int 0]))]) (r_V (f := 0) [2] M w V_HookedCity_240 G943 G944 (c82_X7_ringOnes l D T _ a2 a11 a19 a20 a21 a22 a23 a24 a25 a26 a27) 1 clX7 rfl rfl (by decide) rfl hl.1 rfl (Nat.le_of_ble_eq_true rfl) dX11_quiet_8 (by decide) (by decide) (by decide) (by decide)) w [2] [0, 1] rfl rfl (by decide) (by decide) rfl rfl (fun v _ H locs hp w => ?_)
  have hp : (0 : Int32) = v := hp
  subst hp
  have w : WD D A s.heap [(a0, .inr (10, [.ref a1, .ref a2, .ref a3, .ref a4, .ref a5, .ref a6, .ref a7, .ref a8, .ref a9, .ref a10, .ref a11, .ref a12, .ref a13, .ref a14, .int 0, .int 0, .int 0])), (a2, .inr (7, [.ref a15, .ref a16, .ref a17, .ref a18, .int 0, .int 0, .int 0, .int 0])), (a11, .inr (9, [.ref a19, .ref a20, .ref a21, .ref a22, .ref a23, .ref a24, .ref a25, .ref a26, .ref a27, .int 0, .int 0, .int 0, .int 0, .int 12, .int 1, .int 0, .int 0, .int 0]))] H locs := w
  exact ret _ () _ _ _ _ _ [] dX11_quiet_11 rfl w (by decide) rfl
set_option maxRecDepth 100000 in
set_option maxHeartbeats 4000000 in
theorem c84_X12_quiet (l : Launch) (D : va_G) (T : Nat → ClassId) (sz : Nat) (a0 a1 a2 a3 a4 a5 a6 a7 a8 a9 a10 a11 a12 a13 a14 a15 a16 a17 a18 a19 a20 a21 a22 : Nat) : Met l yX12_quiet (Cond.code yX12_quiet cX12_quiet 3 (some .int) :: GW) (Rm 0 0 0) (cPre [.ref a0] D T [(a0, .inr (11, [.int 0, .ref a1, .int 0, .int 0, .int 0, .int 0, .int 0, .int 0, .int 0, .int 0, .int 0, .int 0, .long 0, .int 0, .ref a2, .ref a3, .ref a4, .ref a5, .ref a6, .ref a7, .ref a8, .ref a9, .ref a10, .ref a11, .int 0, .ref a12, .ref a13, .ref a14, .ref a15, .int 0, .int 0, .int 0, .ref a16, .int (-1), .int (-1), .ref a17, .ref a18, .int 0, .ref a19, .int 0, .int 0, .ref a20, .ref a21, .int 0, .int 0, .ref a22, .int 0, .int 0, .int 0, .int 0])), (a2, .inl (T 0, 329, .inl cn45))] sz) (qI D [(a0, .inr (11, [.int 0, .ref a1, .int 0, .int 0, .int 0, .int 0, .int 0, .int 0, .int 0, .int 0, .int 0, .int 0, .long 0, .int 0, .ref a2, .ref a3, .ref a4, .ref a5, .ref a6, .ref a7, .ref a8, .ref a9, .ref a10, .ref a11, .int 0, .ref a12, .ref a13, .ref a14, .ref a15, .int 0, .int 0, .int 0, .ref a16, .int (-1), .int (-1), .ref a17, .ref a18, .int 0, .ref a19, .int 0, .int 0, .ref a20, .ref a21, .int 0, .int 0, .ref a22, .int 0, .int 0, .int 0, .int 0])), (a2, .inl (T 0, 329, .inl cn45))] sz (fun (v : Int32) (u : Unit) => (0 : Int32) = v) (fun u => [])) 0 0 (va_A [(a0, .inr (11, [.int 0, .ref a1, .int 0, .int 0, .int 0, .int 0, .int 0, .int 0, .int 0, .int 0, .int 0, .int 0, .long 0, .int 0, .ref a2, .ref a3, .ref a4, .ref a5, .ref a6, .ref a7, .ref a8, .ref a9, .ref a10, .ref a11, .int 0, .ref a12, .ref a13, .ref a14, .ref a15, .int 0, .int 0, .int 0, .ref a16, .int (-1), .int (-1), .ref a17, .ref a18, .int 0, .ref a19, .int 0, .int 0, .ref a20, .ref a21, .int 0, .int 0, .ref a22, .int 0, .int 0, .int 0, .int 0])), (a2, .inl (T 0, 329, .inl cn45))] sz) := by
  refine e_I (by decide) (Nat.le_of_ble_eq_true rfl) ?_
  intro p e s m args below meth c A Q ls M hin w ret hl
  have hx := M.1.1
  have hb := M.1.2.1
  have hl : lv_has ls 3 [(0, .ref a0)] := hl
  refine lv_aload_n hx hb dX12_quiet_0 rfl (lv_at hl 0 rfl) ?_
  refine lv_iconst (v := 0) hx hb dX12_quiet_1 (by decide) ?_
  refine r_put (ws' := [(a0, .inr (11, [.int 0, .ref a1, .int 0, .int 0, .int 0, .int 0, .int 0, .int 0, .int 0, .int 0, .int 0, .int 0, .long 0, .int 0, .ref a2, .ref a3, .ref a4, .ref a5, .ref a6, .ref a7, .ref a8, .ref a9, .ref a10, .ref a11, .int 0, .ref a12, .ref a13, .ref a14, .ref a15, .int 0, .int 0, .int 0, .ref a16, .int (-1), .int (-1), .ref a17, .ref a18, .int 0, .ref a19, .int 0, .int 0, .ref a20, .ref a21, .int 0, .int 0, .ref a22, .int 0, .int 0, .int 0, .int 0])), (a2, .inl (T 0, 329, .inl cn45))]) M w 0 0 clX12 rfl (by decide) G1467 rfl rfl rfl rfl (Nat.le_of_ble_eq_true rfl) rfl dX12_quiet_2 (fun H locs w => ?_)
  refine lv_iconst (v := 0) hx hb dX12_quiet_5 (by decide) ?_
  refine lv_istore_n (lv' := [(1, .int 0), (0, .ref a0)]) hx hb dX12_quiet_6 rfl hl (by decide) rfl (fun ls hl => ?_)
  refine lv_iconst (v := 0) hx hb dX12_quiet_7 (by decide) ?_
  refine lv_istore_n (lv' := [(2, .int 0), (1, .int 0), (0, .ref a0)]) hx hb dX12_quiet_8 rfl hl (by decide) rfl (fun ls hl => ?_)
  refine lv_iload_n hx hb dX12_quiet_9 rfl (lv_at hl 0 rfl) ?_
  refine lv_aload_n hx hb dX12_quiet_10 rfl (lv_at hl 2 rfl) ?_
  refine r_get (v := .ref a2) M w 0 14 clX12 rfl (by decide) G1481 rfl rfl dX12_quiet_11 ?_
  refine lv_iconst (v := 0) hx hb dX12_quiet_14 (by decide) ?_
  refine r_iald (v := (0 : Int32)) M w 1 rfl (vin (by decide +kernel)) (by decide +kernel) dX12_quiet_15 ?_
  refine lv_icmp_ge (tgt := 39) hx hb dX12_quiet_16 (by decide) (fun _ => ?_) (fun c => absurd (by decide +kernel) c)
  refine lv_iload_n hx hb dX12_quiet_39 rfl (lv_at hl 1 rfl) ?_
  exact ret _ () _ _ _ _ _ [] dX12_quiet_40 rfl w (by decide) rfl
set_option maxRecDepth 100000 in
set_option maxHeartbeats 4000000 in
theorem c85_J7_fill_53178 (l : Launch) (D : va_G) (T : Nat → ClassId) (sz : Nat) (a0 : Nat) : Met l yJ7_fill_53178 (Cond.code yJ7_fill_53178 cJ7_fill_53178 4 none :: GW) (Rm 0 0 0) (cPre [.ref a0, .int (-1)] D T [(a0, .inl (T 0, 9, .inl cn6))] sz) (qV D [(a0, .inl (T 0, 9, .inl cn6))] sz (fun (u : Unit) => True) (fun u => [(a0, .inl (T 0, 9, .inl cn92))])) 0 0 (va_A [(a0, .inl (T 0, 9, .inl cn6))] sz) := by
  refine e_V (by decide) (Nat.le_of_ble_eq_true rfl) ?_
  intro p e s m args below meth c A Q ls M hin w ret hl
  have hx := M.1.1
  have hb := M.1.2.1
  have hl : lv_has ls 4 [(0, .ref a0), (1, .int (-1))] := hl
  refine lv_iconst (v := 0) hx hb dJ7_fill_53178_0 (by decide) ?_
  refine lv_istore_n (lv' := [(2, .int 0), (0, .ref a0), (1, .int (-1))]) hx hb dJ7_fill_53178_1 rfl hl (by decide) rfl (fun ls hl => ?_)
  refine lv_aload_n hx hb dJ7_fill_53178_2 rfl (lv_at hl 1 rfl) ?_
  refine r_alen (v := 9) M w 0 0 rfl rfl rfl dJ7_fill_53178_3 ?_
  refine lv_istore_n (lv' := [(3, .int 9), (2, .int 0), (0, .ref a0), (1, .int (-1))]) hx hb dJ7_fill_53178_4 rfl hl (by decide) rfl (fun ls hl => ?_)
  have w : WD D A s.heap [(a0, .inl (T 0, 9, .inl (rngc 0 0 (-1 : Int32) cn6)))] _ _ := w.to (by simp only [rngc_0])
  have loop : ∀ (k i : Nat) (H : Heap) (locs : List Loc) (ls : Array Slot), 0 ≤ i → i ≤ 9 → 9 < i + k → WD D A s.heap [(a0, .inl (T 0, 9, .inl (rngc 0 i (-1 : Int32) cn6)))] H locs → lv_has ls 4 [(3, .int 9), (2, .int (nI i)), (0, .ref a0), (1, .int (-1))] → W p l e (Rm 0 0 0) s m args below meth c H locs 0 0 Q (F0 m 5 ls []) := by
    intro k
    induction k with
    | zero => intro i H locs ls h0 h1 h2; exact absurd h2 (by omega)
    | succ k ih =>
      intro i H locs ls hi0 hi1 hi2 w hl
      refine lv_iload_n hx hb dJ7_fill_53178_5 rfl (lv_at hl 1 rfl) ?_
      refine lv_iload_n hx hb dJ7_fill_53178_6 rfl (lv_at hl 0 rfl) ?_
      refine lv_icmp_ge (tgt := 20) hx hb dJ7_fill_53178_7 (by decide) (fun c_1 => ?_) (fun c_1 => ?_)
      · have hi2 : 9 ≤ i := ix_exit (n := 9) (by decide) (by omega) (by decide) c_1
        obtain rfl : i = 9 := by omega
        have w : WD D A s.heap [(a0, .inl (T 0, 9, .inl cn92))] H locs := w
        have hl : lv_has ls 4 [(3, .int 9), (2, .int 9), (0, .ref a0), (1, .int (-1))] := hl
        exact ret () _ _ _ _ _ [0] dJ7_fill_53178_20 trivial w (by decide) rfl
      · have hi2 : i < 9 := ix_in2 (n := 9) (by decide) (by omega) (by decide) c_1
        refine lv_aload_n hx hb dJ7_fill_53178_10 rfl (lv_at hl 2 rfl) ?_
        refine lv_iload_n hx hb dJ7_fill_53178_11 rfl (lv_at hl 1 rfl) ?_
        refine lv_iload_n hx hb dJ7_fill_53178_12 rfl (lv_at hl 3 rfl) ?_
        refine r_iast (ws' := [(a0, .inl (T 0, 9, .inl (upd (rngc 0 i (-1 : Int32) cn6) (Int32.toNatClampNeg (nI i)) (-1 : Int32))))]) M w 0 rfl (ix_in (by omega) (by decide)) rfl dJ7_fill_53178_13 (fun H locs w => ?_)
        refine lv_iinc (v := (nI (i + 1))) (lv' := [(2, .int (nI (i + 1))), (3, .int 9), (0, .ref a0), (1, .int (-1))]) hx hb dJ7_fill_53178_14 hl (k := 1) rfl (ix_add (k := 1) (by decide) (by omega)) (by decide) rfl (fun ls hl => ?_)
        refine lv_goto (tgt := 5) hx hb dJ7_fill_53178_17 (by decide) ?_
        rw [show (upd (rngc 0 i (-1 : Int32) cn6) (Int32.toNatClampNeg (nI i)) (-1 : Int32)) = (rngc 0 (i + 1) (-1 : Int32) cn6) from rngc_step (nI_clamp (by omega)) (by omega)] at w
        exact ih (i + 1) _ _ _ (by omega) (by omega) (by omega) w (lv_sub hl [1, 0, 2, 3] rfl)
  exact loop 10 0 _ _ _ (by decide) (by decide) (by decide) w hl
set_option maxRecDepth 100000 in
set_option maxHeartbeats 4000000 in
theorem c86_X9_everybody (l : Launch) (D : va_G) (T : Nat → ClassId) (sz : Nat) (a0 a1 a2 a3 a4 a5 a6 a7 a8 a9 : Nat) : Met l yX9_everybody (Cond.code yX9_everybody cX9_everybody 1 (some .int) :: GW) (Rm 0 0 0) (cPre [.ref a0] D T [(a0, .inr (9, [.ref a1, .ref a2, .ref a3, .ref a4, .ref a5, .ref a6, .ref a7, .ref a8, .ref a9, .int 0, .int 0, .int 0, .int 0, .int 12, .int 1, .int 0, .int 0, .int 0]))] sz) (qI D [(a0, .inr (9, [.ref a1, .ref a2, .ref a3, .ref a4, .ref a5, .ref a6, .ref a7, .ref a8, .ref a9, .int 0, .int 0, .int 0, .int 0, .int 12, .int 1, .int 0, .int 0, .int 0]))] sz (fun (v : Int32) (u : Unit) => (0 : Int32) = v) (fun u => [(a0, .inr (9, [.ref a1, .ref a2, .ref a3, .ref a4, .ref a5, .ref a6, .ref a7, .ref a8, .ref a9, .int 0, .int 0, .int 0, .int 0, .int 12, .int 1, .int 0, .int 0, .int 0]))])) 0 0 (va_A [(a0, .inr (9, [.ref a1, .ref a2, .ref a3, .ref a4, .ref a5, .ref a6, .ref a7, .ref a8, .ref a9, .int 0, .int 0, .int 0, .int 0, .int 12, .int 1, .int 0, .int 0, .int 0]))] sz) := by
  refine e_I (by decide) (Nat.le_of_ble_eq_true rfl) ?_
  intro p e s m args below meth c A Q ls M hin w ret hl
  have hx := M.1.1
  have hb := M.1.2.1
  have hl : lv_has ls 1 [(0, .ref a0)] := hl
  refine lv_iconst (v := 1) hx hb dX9_everybody_0 (by decide) ?_
  refine lv_aload_n hx hb dX9_everybody_1 rfl (lv_at hl 0 rfl) ?_
  refine r_get (v := .int 0) M w 0 9 clX9 rfl (by decide) G387 rfl rfl dX9_everybody_2 ?_
  refine r_ishl (v := (1 : Int32)) M (by decide +kernel) dX9_everybody_5 ?_
  refine lv_iconst (v := 1) hx hb dX9_everybody_6 (by decide) ?_
  refine r_isub (v := (0 : Int32)) M (by decide +kernel) dX9_everybody_7 ?_
  exact ret _ () _ _ _ _ _ [0] dX9_everybody_8 rfl w (by decide) rfl
set_option maxRecDepth 100000 in
set_option maxHeartbeats 4000000 in
theorem c87_X3_mostFrom (l : Launch) (D : va_G) (T : Nat → ClassId) (sz : Nat) (a0 a1 a2 a3 : Nat) : Met l yX3_mostFrom (Cond.code yX3_mostFrom cX3_mostFrom 5 (some .int) :: GW) (Rm 1 0 0) (cPre [.ref a0, .int 0, .int 0] D T [(a0, .inr (3, [.ref a1, .ref a2, .ref a3, .int 0, .int 0])), (a3, .inl (T 0, 9, .inl (fun _ => 0)))] sz) (qI D [(a0, .inr (3, [.ref a1, .ref a2, .ref a3, .int 0, .int 0])), (a3, .inl (T 0, 9, .inl (fun _ => 0)))] sz (fun (v : Int32) (u : Unit) => (0 : Int32) = v) (fun u => [(a0, .inr (3, [.ref a1, .ref a2, .ref a3, .int 0, .int 0])), (a3, .inl (T 0, 9, .inl cn6))])) 0 0 (va_A [(a0, .inr (3, [.ref a1, .ref a2, .ref a3, .int 0, .int 0])), (a3, .inl (T 0, 9, .inl (fun _ => 0)))] sz) := by
  refine e_I (by decide) (Nat.le_of_ble_eq_true rfl) ?_
  intro p e s m args below meth c A Q ls M hin w ret hl
  have hx := M.1.1
  have hb := M.1.2.1
  have hl : lv_has ls 5 [(0, .ref a0), (1, .int 0), (2, .int 0)] := hl
  refine lv_aload_n hx hb dX3_mostFrom_0 rfl (lv_at hl 0 rfl) ?_
  refine r_get (v := .ref a3) M w 0 2 clX3 rfl (by decide) G295 rfl rfl dX3_mostFrom_1 ?_
  refine lv_iconst (v := (-1)) hx hb dX3_mostFrom_4 (by decide) ?_
  refine k_V (ce := 0) (sl := 0) (rest := []) (wr := [(a0, .inr (3, [.ref a1, .ref a2, .ref a3, .int 0, .int 0]))]) (r_S (f := 0) [1] M w V_HookedCity_Matching_28 G290 (c4_J7_fill_53178 l D T _ a3) rfl (by decide) rfl hl.1 rfl (Nat.le_of_ble_eq_true rfl) dX3_mostFrom_5 (by decide) (by decide) (by decide) (by decide)) w [1] [0] rfl rfl (by decide) (by decide) rfl rfl (fun _ H locs hp w => ?_)
  have w : WD D A s.heap [(a0, .inr (3, [.ref a1, .ref a2, .ref a3, .int 0, .int 0])), (a3, .inl (T 0, 9, .inl cn6))] H locs := w
  refine lv_iconst (v := 0) hx hb dX3_mostFrom_8 (by decide) ?_
  refine lv_istore_n (lv' := [(3, .int 0), (0, .ref a0), (1, .int 0), (2, .int 0)]) hx hb dX3_mostFrom_9 rfl hl (by decide) rfl (fun ls hl => ?_)
  refine lv_iload_n hx hb dX3_mostFrom_10 rfl (lv_at hl 2 rfl) ?_
  refine lv_istore (lv' := [(4, .int 0), (3, .int 0), (0, .ref a0), (1, .int 0), (2, .int 0)]) hx hb dX3_mostFrom_11 hl (by decide) rfl (fun ls hl => ?_)
  refine lv_iload hx hb dX3_mostFrom_13 (lv_at hl 0 rfl) ?_
  refine lv_aload_n hx hb dX3_mostFrom_15 rfl (lv_at hl 2 rfl) ?_
  refine r_get (v := .int 0) M w 0 3 clX3 rfl (by decide) G296 rfl rfl dX3_mostFrom_16 ?_
  refine lv_icmp_ge (tgt := 47) hx hb dX3_mostFrom_19 (by decide) (fun _ => ?_) (fun c => absurd (by decide +kernel) c)
  refine lv_iload_n hx hb dX3_mostFrom_47 rfl (lv_at hl 1 rfl) ?_
  exact ret _ () _ _ _ _ _ [0, 1] dX3_mostFrom_48 rfl w (by decide) rfl
set_option maxRecDepth 100000 in
set_option maxHeartbeats 4000000 in
theorem c88_X3_find (l : Launch) (D : va_G) (T : Nat → ClassId) (sz : Nat) (a0 a1 a2 a3 a4 a5 a6 a7 a8 a9 a10 a11 a12 a13 a14 : Nat) : Met l yX3_find (Cond.code yX3_find cX3_find 7 (some .int) :: GW) (Rm 2 0 0) (cPre [.ref a0, .ref a1, .ref a2] D T [(a0, .inr (3, [.ref a3, .ref a4, .ref a5, .int 0, .int 0])), (a1, .inr (9, [.ref a6, .ref a7, .ref a8, .ref a9, .ref a10, .ref a11, .ref a12, .ref a13, .ref a14, .int 0, .int 0, .int 0, .int 0, .int 12, .int 1, .int 0, .int 0, .int 0])), (a3, .inl (T 0, 9, .inl cn6)), (a5, .inl (T 0, 9, .inl (fun _ => 0)))] sz) (qI D [(a0, .inr (3, [.ref a3, .ref a4, .ref a5, .int 0, .int 0])), (a1, .inr (9, [.ref a6, .ref a7, .ref a8, .ref a9, .ref a10, .ref a11, .ref a12, .ref a13, .ref a14, .int 0, .int 0, .int 0, .int 0, .int 12, .int 1, .int 0, .int 0, .int 0])), (a3, .inl (T 0, 9, .inl cn6)), (a5, .inl (T 0, 9, .inl (fun _ => 0)))] sz (fun (v : Int32) (u : Unit) => (0 : Int32) = v) (fun u => [(a0, .inr (3, [.ref a3, .ref a4, .ref a5, .int 0, .int 0])), (a1, .inr (9, [.ref a6, .ref a7, .ref a8, .ref a9, .ref a10, .ref a11, .ref a12, .ref a13, .ref a14, .int 0, .int 0, .int 0, .int 0, .int 12, .int 1, .int 0, .int 0, .int 0])), (a3, .inl (T 0, 9, .inl cn92)), (a5, .inl (T 0, 9, .inl cn6))])) 0 0 (va_A [(a0, .inr (3, [.ref a3, .ref a4, .ref a5, .int 0, .int 0])), (a1, .inr (9, [.ref a6, .ref a7, .ref a8, .ref a9, .ref a10, .ref a11, .ref a12, .ref a13, .ref a14, .int 0, .int 0, .int 0, .int 0, .int 12, .int 1, .int 0, .int 0, .int 0])), (a3, .inl (T 0, 9, .inl cn6)), (a5, .inl (T 0, 9, .inl (fun _ => 0)))] sz) := by
  refine e_I (by decide) (Nat.le_of_ble_eq_true rfl) ?_
  intro p e s m args below meth c A Q ls M hin w ret hl
  have hx := M.1.1
  have hb := M.1.2.1
  have hl : lv_has ls 7 [(0, .ref a0), (1, .ref a1), (2, .ref a2)] := hl
  refine lv_aload_n hx hb dX3_find_0 rfl (lv_at hl 0 rfl) ?_
  refine lv_aload_n hx hb dX3_find_1 rfl (lv_at hl 1 rfl) ?_
  refine r_getN (v := .int 0) M w 1 9 clX9 rfl (by decide) N388 rfl rfl dX3_find_2 ?_
  refine r_put (ws' := [(a0, .inr (3, [.ref a3, .ref a4, .ref a5, .int 0, .int 0])), (a1, .inr (9, [.ref a6, .ref a7, .ref a8, .ref a9, .ref a10, .ref a11, .ref a12, .ref a13, .ref a14, .int 0, .int 0, .int 0, .int 0, .int 12, .int 1, .int 0, .int 0, .int 0])), (a3, .inl (T 0, 9, .inl cn6)), (a5, .inl (T 0, 9, .inl (fun _ => 0)))]) M w 0 3 clX3 rfl (by decide) G296 rfl rfl rfl rfl (Nat.le_of_ble_eq_true rfl) rfl dX3_find_5 (fun H locs w => ?_)
  refine lv_aload_n hx hb dX3_find_8 rfl (lv_at hl 0 rfl) ?_
  refine r_get (v := .ref a3) M w 0 0 clX3 rfl (by decide) G292 rfl rfl dX3_find_9 ?_
  refine lv_iconst (v := (-1)) hx hb dX3_find_12 (by decide) ?_
  refine k_V (ce := 0) (sl := 0) (rest := []) (wr := [(a0, .inr (3, [.ref a3, .ref a4, .ref a5, .int 0, .int 0])), (a1, .inr (9, [.ref a6, .ref a7, .ref a8, .ref a9, .ref a10, .ref a11, .ref a12, .ref a13, .ref a14, .int 0, .int 0, .int 0, .int 0, .int 12, .int 1, .int 0, .int 0, .int 0])), (a5, .inl (T 0, 9, .inl (fun _ => 0)))]) (r_S (f := 0) [2] M w V_HookedCity_Matching_28 G290 (c85_J7_fill_53178 l D T _ a3) rfl (by decide) rfl hl.1 rfl (Nat.le_of_ble_eq_true rfl) dX3_find_13 (by decide) (by decide) (by decide) (by decide)) w [2] [0, 1, 3] rfl rfl (by decide) (by decide) rfl rfl (fun _ H locs hp w => ?_)
  have w : WD D A s.heap [(a0, .inr (3, [.ref a3, .ref a4, .ref a5, .int 0, .int 0])), (a1, .inr (9, [.ref a6, .ref a7, .ref a8, .ref a9, .ref a10, .ref a11, .ref a12, .ref a13, .ref a14, .int 0, .int 0, .int 0, .int 0, .int 12, .int 1, .int 0, .int 0, .int 0])), (a5, .inl (T 0, 9, .inl (fun _ => 0))), (a3, .inl (T 0, 9, .inl cn92))] H locs := w
  refine lv_iconst (v := 0) hx hb dX3_find_16 (by decide) ?_
  refine lv_istore_n (lv' := [(3, .int 0), (0, .ref a0), (1, .ref a1), (2, .ref a2)]) hx hb dX3_find_17 rfl hl (by decide) rfl (fun ls hl => ?_)
  refine lv_iload_n hx hb dX3_find_18 rfl (lv_at hl 0 rfl) ?_
  refine lv_aload_n hx hb dX3_find_19 rfl (lv_at hl 1 rfl) ?_
  refine r_get (v := .int 0) M w 0 3 clX3 rfl (by decide) G296 rfl rfl dX3_find_20 ?_
  refine lv_icmp_ge (tgt := 44) hx hb dX3_find_23 (by decide) (fun _ => ?_) (fun c => absurd (by decide +kernel) c)
  refine lv_aload_n hx hb dX3_find_44 rfl (lv_at hl 2 rfl) ?_
  refine k_I (ce := 0) (sl := 0) (rest := []) (wr := [(a0, .inr (3, [.ref a3, .ref a4, .ref a5, .int 0, .int 0])), (a5, .inl (T 0, 9, .inl (fun _ => 0))), (a3, .inl (T 0, 9, .inl cn92))]) (r_V (f := 0) [1] M w V_HookedCity_Matching_41 G964 G965 (c86_X9_everybody l D T _ a1 a6 a7 a8 a9 a10 a11 a12 a13 a14) 1 clX9 rfl rfl (by decide) rfl hl.1 rfl (Nat.le_of_ble_eq_true rfl) dX3_find_45 (by decide) (by decide) (by decide) (by decide)) w [1] [0, 2, 3] rfl rfl (by decide) (by decide) rfl rfl (fun v _ H locs hp w => ?_)
  have hp : (0 : Int32) = v := hp
  subst hp
  have w : WD D A s.heap [(a0, .inr (3, [.ref a3, .ref a4, .ref a5, .int 0, .int 0])), (a5, .inl (T 0, 9, .inl (fun _ => 0))), (a3, .inl (T 0, 9, .inl cn92)), (a1, .inr (9, [.ref a6, .ref a7, .ref a8, .ref a9, .ref a10, .ref a11, .ref a12, .ref a13, .ref a14, .int 0, .int 0, .int 0, .int 0, .int 12, .int 1, .int 0, .int 0, .int 0]))] H locs := w
  refine lv_istore_n (lv' := [(3, .int 0), (0, .ref a0), (1, .ref a1), (2, .ref a2)]) hx hb dX3_find_48 rfl hl (by decide) rfl (fun ls hl => ?_)
  refine lv_aload_n hx hb dX3_find_49 rfl (lv_at hl 1 rfl) ?_
  refine lv_iconst (v := 0) hx hb dX3_find_50 (by decide) ?_
  refine lv_iload_n hx hb dX3_find_51 rfl (lv_at hl 0 rfl) ?_
  refine k_I (ce := 0) (sl := 0) (rest := []) (wr := [(a3, .inl (T 0, 9, .inl cn92)), (a1, .inr (9, [.ref a6, .ref a7, .ref a8, .ref a9, .ref a10, .ref a11, .ref a12, .ref a13, .ref a14, .int 0, .int 0, .int 0, .int 0, .int 12, .int 1, .int 0, .int 0, .int 0]))]) (r_V (f := 1) [0, 1] M w V_HookedCity_Matching_45 G969 G22 (c87_X3_mostFrom l D T _ a0 a3 a4 a5) 0 clX3 rfl rfl (by decide) rfl hl.1 rfl (Nat.le_of_ble_eq_true rfl) dX3_find_52 (by decide) (by decide) (by decide) (by decide)) w [0, 1] [2, 3] rfl rfl (by decide) (by decide) rfl rfl (fun v _ H locs hp w => ?_)
  have hp : (0 : Int32) = v := hp
  subst hp
  have w : WD D A s.heap [(a3, .inl (T 0, 9, .inl cn92)), (a1, .inr (9, [.ref a6, .ref a7, .ref a8, .ref a9, .ref a10, .ref a11, .ref a12, .ref a13, .ref a14, .int 0, .int 0, .int 0, .int 0, .int 12, .int 1, .int 0, .int 0, .int 0])), (a0, .inr (3, [.ref a3, .ref a4, .ref a5, .int 0, .int 0])), (a5, .inl (T 0, 9, .inl cn6))] H locs := w
  refine lv_istore (lv' := [(4, .int 0), (3, .int 0), (0, .ref a0), (1, .ref a1), (2, .ref a2)]) hx hb dX3_find_55 hl (by decide) rfl (fun ls hl => ?_)
  refine lv_iload hx hb dX3_find_57 (lv_at hl 0 rfl) ?_
  refine lv_istore (lv' := [(5, .int 0), (4, .int 0), (3, .int 0), (0, .ref a0), (1, .ref a1), (2, .ref a2)]) hx hb dX3_find_59 hl (by decide) rfl (fun ls hl => ?_)
  refine lv_iconst (v := 0) hx hb dX3_find_61 (by decide) ?_
  refine lv_istore (lv' := [(6, .int 0), (5, .int 0), (4, .int 0), (3, .int 0), (0, .ref a0), (1, .ref a1), (2, .ref a2)]) hx hb dX3_find_62 hl (by decide) rfl (fun ls hl => ?_)
  refine lv_iload hx hb dX3_find_64 (lv_at hl 0 rfl) ?_
  refine lv_aload_n hx hb dX3_find_66 rfl (lv_at hl 4 rfl) ?_
  refine r_get (v := .int 0) M w 2 3 clX3 rfl (by decide) G296 rfl rfl dX3_find_67 ?_
  refine lv_icmp_ge (tgt := 123) hx hb dX3_find_70 (by decide) (fun _ => ?_) (fun c => absurd (by decide +kernel) c)
  refine lv_iload hx hb dX3_find_123 (lv_at hl 2 rfl) ?_
  exact ret _ () _ _ _ _ _ [2, 1, 0, 3] dX3_find_125 rfl w (by decide) rfl
set_option maxRecDepth 100000 in
set_option maxHeartbeats 4000000 in
theorem c89_X11_match (l : Launch) (D : va_G) (T : Nat → ClassId) (sz : Nat) (a0 a1 a2 a3 a4 a5 a6 a7 a8 a9 a10 a11 a12 a13 a14 a15 a16 a17 a18 a19 a20 a21 a22 a23 a24 a25 a26 : Nat) : Met l yX11_match (Cond.code yX11_match cX11_match 1 (some .int) :: GW) (Rm 3 0 0) (cPre [.ref a0] D T [(a0, .inr (10, [.ref a1, .ref a2, .ref a3, .ref a4, .ref a5, .ref a6, .ref a7, .ref a8, .ref a9, .ref a10, .ref a11, .ref a12, .ref a13, .ref a14, .int 0, .int 0, .int 0])), (a5, .inr (3, [.ref a15, .ref a16, .ref a17, .int 0, .int 0])), (a11, .inr (9, [.ref a18, .ref a19, .ref a20, .ref a21, .ref a22, .ref a23, .ref a24, .ref a25, .ref a26, .int 0, .int 0, .int 0, .int 0, .int 12, .int 1, .int 0, .int 0, .int 0])), (a15, .inl (T 0, 9, .inl cn6)), (a17, .inl (T 0, 9, .inl (fun _ => 0)))] sz) (qI D [(a0, .inr (10, [.ref a1, .ref a2, .ref a3, .ref a4, .ref a5, .ref a6, .ref a7, .ref a8, .ref a9, .ref a10, .ref a11, .ref a12, .ref a13, .ref a14, .int 0, .int 0, .int 0])), (a5, .inr (3, [.ref a15, .ref a16, .ref a17, .int 0, .int 0])), (a11, .inr (9, [.ref a18, .ref a19, .ref a20, .ref a21, .ref a22, .ref a23, .ref a24, .ref a25, .ref a26, .int 0, .int 0, .int 0, .int 0, .int 12, .int 1, .int 0, .int 0, .int 0])), (a15, .inl (T 0, 9, .inl cn6)), (a17, .inl (T 0, 9, .inl (fun _ => 0)))] sz (fun (v : Int32) (u : Unit) => (0 : Int32) = v) (fun u => [])) 0 0 (va_A [(a0, .inr (10, [.ref a1, .ref a2, .ref a3, .ref a4, .ref a5, .ref a6, .ref a7, .ref a8, .ref a9, .ref a10, .ref a11, .ref a12, .ref a13, .ref a14, .int 0, .int 0, .int 0])), (a5, .inr (3, [.ref a15, .ref a16, .ref a17, .int 0, .int 0])), (a11, .inr (9, [.ref a18, .ref a19, .ref a20, .ref a21, .ref a22, .ref a23, .ref a24, .ref a25, .ref a26, .int 0, .int 0, .int 0, .int 0, .int 12, .int 1, .int 0, .int 0, .int 0])), (a15, .inl (T 0, 9, .inl cn6)), (a17, .inl (T 0, 9, .inl (fun _ => 0)))] sz) := by
  refine e_I (by decide) (Nat.le_of_ble_eq_true rfl) ?_
  intro p e s m args below meth c A Q ls M hin w ret hl
  have hx := M.1.1
  have hb := M.1.2.1
  have hl : lv_has ls 1 [(0, .ref a0)] := hl
  refine lv_aload_n hx hb dX11_match_0 rfl (lv_at hl 0 rfl) ?_
  refine lv_iconst (v := 1) hx hb dX11_match_1 (by decide) ?_
  refine r_put (ws' := [(a0, .inr (10, [.ref a1, .ref a2, .ref a3, .ref a4, .ref a5, .ref a6, .ref a7, .ref a8, .ref a9, .ref a10, .ref a11, .ref a12, .ref a13, .ref a14, .int 0, .int 0, .int 1])), (a5, .inr (3, [.ref a15, .ref a16, .ref a17, .int 0, .int 0])), (a11, .inr (9, [.ref a18, .ref a19, .ref a20, .ref a21, .ref a22, .ref a23, .ref a24, .ref a25, .ref a26, .int 0, .int 0, .int 0, .int 0, .int 12, .int 1, .int 0, .int 0, .int 0])), (a15, .inl (T 0, 9, .inl cn6)), (a17, .inl (T 0, 9, .inl (fun _ => 0)))]) M w 0 16 clX11 rfl (by decide) G513 rfl rfl (by decide +kernel) (by decide +kernel) (Nat.le_of_ble_eq_true rfl) rfl dX11_match_2 (fun H locs w => ?_)
  refine lv_aload_n hx hb dX11_match_5 rfl (lv_at hl 0 rfl) ?_
  refine r_get (v := .ref a5) M w 0 4 clX11 rfl (by decide) G501 rfl rfl dX11_match_6 ?_
  refine lv_aload_n hx hb dX11_match_9 rfl (lv_at hl 0 rfl) ?_
  refine r_get (v := .ref a11) M w 0 10 clX11 rfl (by decide) G507 rfl rfl dX11_match_10 ?_
  refine lv_aload_n hx hb dX11_match_13 rfl (lv_at hl 0 rfl) ?_
  refine r_get (v := .ref a2) M w 0 1 clX11 rfl (by decide) G498 rfl rfl dX11_match_14 ?_
  refine k_I (ce := 0) (sl := 0) (rest := []) (wr := [(a0, .inr (10, [.ref a1, .ref a2, .ref a3, .ref a4, .ref a5, .ref a6, .ref a7, .ref a8, .ref a9, .ref a10, .ref a11, .ref a12, .ref a13, .ref a14, .int 0, .int 0, .int 1]))]) (r_V (f := 2) [1, 2, 3, 4] M w V_HookedCity_243 G955 G956 (c88_X3_find l D T _ a5 a11 a2 a15 a16 a17 a18 a19 a20 a21 a22 a23 a24 a25 a26) 1 clX3 rfl rfl (by decide) rfl hl.1 rfl (Nat.le_of_ble_eq_true rfl) dX11_match_17 (by decide) (by decide) (by decide) (by decide)) w [1, 2, 3, 4] [0] rfl rfl (by decide) (by decide) rfl rfl (fun v _ H locs hp w => ?_)
  have hp : (0 : Int32) = v := hp
  subst hp
  have w : WD D A s.heap [(a0, .inr (10, [.ref a1, .ref a2, .ref a3, .ref a4, .ref a5, .ref a6, .ref a7, .ref a8, .ref a9, .ref a10, .ref a11, .ref a12, .ref a13, .ref a14, .int 0, .int 0, .int 1])), (a5, .inr (3, [.ref a15, .ref a16, .ref a17, .int 0, .int 0])), (a11, .inr (9, [.ref a18, .ref a19, .ref a20, .ref a21, .ref a22, .ref a23, .ref a24, .ref a25, .ref a26, .int 0, .int 0, .int 0, .int 0, .int 12, .int 1, .int 0, .int 0, .int 0])), (a15, .inl (T 0, 9, .inl cn92)), (a17, .inl (T 0, 9, .inl cn6))] H locs := w
  exact ret _ () _ _ _ _ _ [] dX11_match_20 rfl w (by decide) rfl
set_option maxRecDepth 100000 in
set_option maxHeartbeats 4000000 in
theorem c90_X12_mostFrom (l : Launch) (D : va_G) (T : Nat → ClassId) (sz : Nat) (a0 a1 a2 a3 a4 a5 a6 a7 a8 a9 a10 a11 a12 a13 a14 a15 a16 a17 a18 a19 a20 a21 a22 : Nat) : Met l yX12_mostFrom (Cond.code yX12_mostFrom cX12_mostFrom 5 (some .int) :: GW) (Rm 0 0 0) (cPre [.ref a0, .int 0] D T [(a0, .inr (11, [.int 0, .ref a1, .int 0, .int 0, .int 0, .int 0, .int 0, .int 0, .int 0, .int 0, .int 0, .int 0, .long 0, .int 0, .ref a2, .ref a3, .ref a4, .ref a5, .ref a6, .ref a7, .ref a8, .ref a9, .ref a10, .ref a11, .int 0, .ref a12, .ref a13, .ref a14, .ref a15, .int 0, .int 0, .int 0, .ref a16, .int (-1), .int (-1), .ref a17, .ref a18, .int 0, .ref a19, .int 0, .int 0, .ref a20, .ref a21, .int 0, .int 0, .ref a22, .int 0, .int 0, .int 0, .int 0])), (a2, .inl (T 0, 329, .inl cn45)), (a12, .inl (T 0, 9, .inl (fun _ => 0)))] sz) (qI D [(a0, .inr (11, [.int 0, .ref a1, .int 0, .int 0, .int 0, .int 0, .int 0, .int 0, .int 0, .int 0, .int 0, .int 0, .long 0, .int 0, .ref a2, .ref a3, .ref a4, .ref a5, .ref a6, .ref a7, .ref a8, .ref a9, .ref a10, .ref a11, .int 0, .ref a12, .ref a13, .ref a14, .ref a15, .int 0, .int 0, .int 0, .ref a16, .int (-1), .int (-1), .ref a17, .ref a18, .int 0, .ref a19, .int 0, .int 0, .ref a20, .ref a21, .int 0, .int 0, .ref a22, .int 0, .int 0, .int 0, .int 0])), (a2, .inl (T 0, 329, .inl cn45)), (a12, .inl (T 0, 9, .inl (fun _ => 0)))] sz (fun (v : Int32) (u : Unit) => (0 : Int32) = v) (fun u => [(a0, .inr (11, [.int 0, .ref a1, .int 0, .int 0, .int 0, .int 0, .int 0, .int 0, .int 0, .int 0, .int 0, .int 0, .long 0, .int 0, .ref a2, .ref a3, .ref a4, .ref a5, .ref a6, .ref a7, .ref a8, .ref a9, .ref a10, .ref a11, .int 0, .ref a12, .ref a13, .ref a14, .ref a15, .int 0, .int 0, .int 0, .ref a16, .int (-1), .int (-1), .ref a17, .ref a18, .int 0, .ref a19, .int 0, .int 0, .ref a20, .ref a21, .int 0, .int 0, .ref a22, .int 0, .int 0, .int 0, .int 0])), (a2, .inl (T 0, 329, .inl cn45)), (a12, .inl (T 0, 9, .inl cn6))])) 0 0 (va_A [(a0, .inr (11, [.int 0, .ref a1, .int 0, .int 0, .int 0, .int 0, .int 0, .int 0, .int 0, .int 0, .int 0, .int 0, .long 0, .int 0, .ref a2, .ref a3, .ref a4, .ref a5, .ref a6, .ref a7, .ref a8, .ref a9, .ref a10, .ref a11, .int 0, .ref a12, .ref a13, .ref a14, .ref a15, .int 0, .int 0, .int 0, .ref a16, .int (-1), .int (-1), .ref a17, .ref a18, .int 0, .ref a19, .int 0, .int 0, .ref a20, .ref a21, .int 0, .int 0, .ref a22, .int 0, .int 0, .int 0, .int 0])), (a2, .inl (T 0, 329, .inl cn45)), (a12, .inl (T 0, 9, .inl (fun _ => 0)))] sz) := by
  refine e_I (by decide) (Nat.le_of_ble_eq_true rfl) ?_
  intro p e s m args below meth c A Q ls M hin w ret hl
  have hx := M.1.1
  have hb := M.1.2.1
  have hl : lv_has ls 5 [(0, .ref a0), (1, .int 0)] := hl
  refine lv_iconst (v := 0) hx hb dX12_mostFrom_0 (by decide) ?_
  refine lv_istore_n (lv' := [(2, .int 0), (0, .ref a0), (1, .int 0)]) hx hb dX12_mostFrom_1 rfl hl (by decide) rfl (fun ls hl => ?_)
  have w : WD D A s.heap [(a0, .inr (11, [.int 0, .ref a1, .int 0, .int 0, .int 0, .int 0, .int 0, .int 0, .int 0, .int 0, .int 0, .int 0, .long 0, .int 0, .ref a2, .ref a3, .ref a4, .ref a5, .ref a6, .ref a7, .ref a8, .ref a9, .ref a10, .ref a11, .int 0, .ref a12, .ref a13, .ref a14, .ref a15, .int 0, .int 0, .int 0, .ref a16, .int (-1), .int (-1), .ref a17, .ref a18, .int 0, .ref a19, .int 0, .int 0, .ref a20, .ref a21, .int 0, .int 0, .ref a22, .int 0, .int 0, .int 0, .int 0])), (a2, .inl (T 0, 329, .inl cn45)), (a12, .inl (T 0, 9, .inl (rngc 0 0 (-1 : Int32) (fun _ => 0))))] _ _ := w.to (by simp only [rngc_0])
  have loop : ∀ (k i : Nat) (H : Heap) (locs : List Loc) (ls : Array Slot), 0 ≤ i → i ≤ 9 → 9 < i + k → WD D A s.heap [(a0, .inr (11, [.int 0, .ref a1, .int 0, .int 0, .int 0, .int 0, .int 0, .int 0, .int 0, .int 0, .int 0, .int 0, .long 0, .int 0, .ref a2, .ref a3, .ref a4, .ref a5, .ref a6, .ref a7, .ref a8, .ref a9, .ref a10, .ref a11, .int 0, .ref a12, .ref a13, .ref a14, .ref a15, .int 0, .int 0, .int 0, .ref a16, .int (-1), .int (-1), .ref a17, .ref a18, .int 0, .ref a19, .int 0, .int 0, .ref a20, .ref a21, .int 0, .int 0, .ref a22, .int 0, .int 0, .int 0, .int 0])), (a2, .inl (T 0, 329, .inl cn45)), (a12, .inl (T 0, 9, .inl (rngc 0 i (-1 : Int32) (fun _ => 0))))] H locs → lv_has ls 5 [(2, .int (nI i)), (0, .ref a0), (1, .int 0)] → W p l e (Rm 0 0 0) s m args below meth c H locs 0 0 Q (F0 m 2 ls []) := by
    intro k
    induction k with
    | zero => intro i H locs ls h0 h1 h2; exact absurd h2 (by omega)
    | succ k ih =>
      intro i H locs ls hi0 hi1 hi2 w hl
      refine lv_iload_n hx hb dX12_mostFrom_2 rfl (lv_at hl 0 rfl) ?_
      refine lv_bipush (v := 9) hx hb dX12_mostFrom_3 (by decide) ?_
      refine lv_icmp_ge (tgt := 21) hx hb dX12_mostFrom_5 (by decide) (fun c_1 => ?_) (fun c_1 => ?_)
      · have hi2 : 9 ≤ i := ix_exit (n := 9) (by decide) (by omega) (by decide) c_1
        obtain rfl : i = 9 := by omega
        have w : WD D A s.heap [(a0, .inr (11, [.int 0, .ref a1, .int 0, .int 0, .int 0, .int 0, .int 0, .int 0, .int 0, .int 0, .int 0, .int 0, .long 0, .int 0, .ref a2, .ref a3, .ref a4, .ref a5, .ref a6, .ref a7, .ref a8, .ref a9, .ref a10, .ref a11, .int 0, .ref a12, .ref a13, .ref a14, .ref a15, .int 0, .int 0, .int 0, .ref a16, .int (-1), .int (-1), .ref a17, .ref a18, .int 0, .ref a19, .int 0, .int 0, .ref a20, .ref a21, .int 0, .int 0, .ref a22, .int 0, .int 0, .int 0, .int 0])), (a2, .inl (T 0, 329, .inl cn45)), (a12, .inl (T 0, 9, .inl cn6))] H locs := w
        have hl : lv_has ls 5 [(2, .int 9), (0, .ref a0), (1, .int 0)] := hl
        refine lv_iconst (v := 0) hx hb dX12_mostFrom_21 (by decide) ?_
        refine lv_istore_n (lv' := [(2, .int 0), (0, .ref a0), (1, .int 0)]) hx hb dX12_mostFrom_22 rfl hl (by decide) rfl (fun ls hl => ?_)
        refine lv_iload_n hx hb dX12_mostFrom_23 rfl (lv_at hl 2 rfl) ?_
        refine lv_istore_n (lv' := [(3, .int 0), (2, .int 0), (0, .ref a0), (1, .int 0)]) hx hb dX12_mostFrom_24 rfl hl (by decide) rfl (fun ls hl => ?_)
        refine lv_iload_n hx hb dX12_mostFrom_25 rfl (lv_at hl 0 rfl) ?_
        refine lv_aload_n hx hb dX12_mostFrom_26 rfl (lv_at hl 2 rfl) ?_
        refine r_get (v := .ref a2) M w 0 14 clX12 rfl (by decide) G1481 rfl rfl dX12_mostFrom_27 ?_
        refine lv_iconst (v := 0) hx hb dX12_mostFrom_30 (by decide) ?_
        refine r_iald (v := (0 : Int32)) M w 1 rfl (vin (by decide +kernel)) (by decide +kernel) dX12_mostFrom_31 ?_
        refine lv_icmp_ge (tgt := 76) hx hb dX12_mostFrom_32 (by decide) (fun _ => ?_) (fun c => absurd (by decide +kernel) c)
        refine lv_iload_n hx hb dX12_mostFrom_76 rfl (lv_at hl 1 rfl) ?_
        exact ret _ () _ _ _ _ _ [0, 1, 2] dX12_mostFrom_77 rfl w (by decide) rfl
      · have hi2 : i < 9 := ix_in2 (n := 9) (by decide) (by omega) (by decide) c_1
        refine lv_aload_n hx hb dX12_mostFrom_8 rfl (lv_at hl 1 rfl) ?_
        refine r_get (v := .ref a12) M w 0 25 clX12 rfl (by decide) G1492 rfl rfl dX12_mostFrom_9 ?_
        refine lv_iload_n hx hb dX12_mostFrom_12 rfl (lv_at hl 0 rfl) ?_
        refine lv_iconst (v := (-1)) hx hb dX12_mostFrom_13 (by decide) ?_
        refine r_iast (ws' := [(a0, .inr (11, [.int 0, .ref a1, .int 0, .int 0, .int 0, .int 0, .int 0, .int 0, .int 0, .int 0, .int 0, .int 0, .long 0, .int 0, .ref a2, .ref a3, .ref a4, .ref a5, .ref a6, .ref a7, .ref a8, .ref a9, .ref a10, .ref a11, .int 0, .ref a12, .ref a13, .ref a14, .ref a15, .int 0, .int 0, .int 0, .ref a16, .int (-1), .int (-1), .ref a17, .ref a18, .int 0, .ref a19, .int 0, .int 0, .ref a20, .ref a21, .int 0, .int 0, .ref a22, .int 0, .int 0, .int 0, .int 0])), (a2, .inl (T 0, 329, .inl cn45)), (a12, .inl (T 0, 9, .inl (upd (rngc 0 i (-1 : Int32) (fun _ => 0)) (Int32.toNatClampNeg (nI i)) (-1 : Int32))))]) M w 2 rfl (ix_in (by omega) (by decide)) rfl dX12_mostFrom_14 (fun H locs w => ?_)
        refine lv_iinc (v := (nI (i + 1))) (lv' := [(2, .int (nI (i + 1))), (0, .ref a0), (1, .int 0)]) hx hb dX12_mostFrom_15 hl (k := 0) rfl (ix_add (k := 1) (by decide) (by omega)) (by decide) rfl (fun ls hl => ?_)
        refine lv_goto (tgt := 2) hx hb dX12_mostFrom_18 (by decide) ?_
        rw [show (upd (rngc 0 i (-1 : Int32) (fun _ => 0)) (Int32.toNatClampNeg (nI i)) (-1 : Int32)) = (rngc 0 (i + 1) (-1 : Int32) (fun _ => 0)) from rngc_step (nI_clamp (by omega)) (by omega)] at w
        exact ih (i + 1) _ _ _ (by omega) (by omega) (by omega) w (lv_sub hl [0, 1, 2] rfl)
  exact loop 10 0 _ _ _ (by decide) (by decide) (by decide) w hl
set_option maxRecDepth 100000 in
set_option maxHeartbeats 4000000 in
theorem c91_X12_match (l : Launch) (D : va_G) (T : Nat → ClassId) (sz : Nat) (a0 a1 a2 a3 a4 a5 a6 a7 a8 a9 a10 a11 a12 a13 a14 a15 a16 a17 a18 a19 a20 a21 a22 : Nat) : Met l yX12_match (Cond.code yX12_match cX12_match 4 (some .int) :: GW) (Rm 1 0 0) (cPre [.ref a0] D T [(a0, .inr (11, [.int 0, .ref a1, .int 0, .int 0, .int 0, .int 0, .int 0, .int 0, .int 0, .int 0, .int 0, .int 0, .long 0, .int 0, .ref a2, .ref a3, .ref a4, .ref a5, .ref a6, .ref a7, .ref a8, .ref a9, .ref a10, .ref a11, .int 0, .ref a12, .ref a13, .ref a14, .ref a15, .int 0, .int 0, .int 0, .ref a16, .int (-1), .int (-1), .ref a17, .ref a18, .int 0, .ref a19, .int 0, .int 0, .ref a20, .ref a21, .int 0, .int 0, .ref a22, .int 0, .int 0, .int 0, .int 0])), (a2, .inl (T 0, 329, .inl cn45)), (a12, .inl (T 0, 9, .inl (fun _ => 0))), (a15, .inl (T 2, 9, .inl (fun _ => 0)))] sz) (qI D [(a0, .inr (11, [.int 0, .ref a1, .int 0, .int 0, .int 0, .int 0, .int 0, .int 0, .int 0, .int 0, .int 0, .int 0, .long 0, .int 0, .ref a2, .ref a3, .ref a4, .ref a5, .ref a6, .ref a7, .ref a8, .ref a9, .ref a10, .ref a11, .int 0, .ref a12, .ref a13, .ref a14, .ref a15, .int 0, .int 0, .int 0, .ref a16, .int (-1), .int (-1), .ref a17, .ref a18, .int 0, .ref a19, .int 0, .int 0, .ref a20, .ref a21, .int 0, .int 0, .ref a22, .int 0, .int 0, .int 0, .int 0])), (a2, .inl (T 0, 329, .inl cn45)), (a12, .inl (T 0, 9, .inl (fun _ => 0))), (a15, .inl (T 2, 9, .inl (fun _ => 0)))] sz (fun (v : Int32) (u : Unit) => (0 : Int32) = v) (fun u => [])) 0 0 (va_A [(a0, .inr (11, [.int 0, .ref a1, .int 0, .int 0, .int 0, .int 0, .int 0, .int 0, .int 0, .int 0, .int 0, .int 0, .long 0, .int 0, .ref a2, .ref a3, .ref a4, .ref a5, .ref a6, .ref a7, .ref a8, .ref a9, .ref a10, .ref a11, .int 0, .ref a12, .ref a13, .ref a14, .ref a15, .int 0, .int 0, .int 0, .ref a16, .int (-1), .int (-1), .ref a17, .ref a18, .int 0, .ref a19, .int 0, .int 0, .ref a20, .ref a21, .int 0, .int 0, .ref a22, .int 0, .int 0, .int 0, .int 0])), (a2, .inl (T 0, 329, .inl cn45)), (a12, .inl (T 0, 9, .inl (fun _ => 0))), (a15, .inl (T 2, 9, .inl (fun _ => 0)))] sz) := by
  refine e_I (by decide) (Nat.le_of_ble_eq_true rfl) ?_
  intro p e s m args below meth c A Q ls M hin w ret hl
  have hx := M.1.1
  have hb := M.1.2.1
  have hl : lv_has ls 4 [(0, .ref a0)] := hl
  refine lv_aload_n hx hb dX12_match_0 rfl (lv_at hl 0 rfl) ?_
  refine lv_iconst (v := 0) hx hb dX12_match_1 (by decide) ?_
  refine r_put (ws' := [(a0, .inr (11, [.int 0, .ref a1, .int 0, .int 0, .int 0, .int 0, .int 0, .int 0, .int 0, .int 0, .int 0, .int 0, .long 0, .int 0, .ref a2, .ref a3, .ref a4, .ref a5, .ref a6, .ref a7, .ref a8, .ref a9, .ref a10, .ref a11, .int 0, .ref a12, .ref a13, .ref a14, .ref a15, .int 0, .int 0, .int 0, .ref a16, .int (-1), .int (-1), .ref a17, .ref a18, .int 0, .ref a19, .int 0, .int 0, .ref a20, .ref a21, .int 0, .int 0, .ref a22, .int 0, .int 0, .int 0, .int 0])), (a2, .inl (T 0, 329, .inl cn45)), (a12, .inl (T 0, 9, .inl (fun _ => 0))), (a15, .inl (T 2, 9, .inl (fun _ => 0)))]) M w 0 0 clX12 rfl (by decide) G1467 rfl rfl rfl rfl (Nat.le_of_ble_eq_true rfl) rfl dX12_match_2 (fun H locs w => ?_)
  refine lv_iconst (v := 0) hx hb dX12_match_5 (by decide) ?_
  refine lv_istore_n (lv' := [(1, .int 0), (0, .ref a0)]) hx hb dX12_match_6 rfl hl (by decide) rfl (fun ls hl => ?_)
  have w : WD D A s.heap [(a0, .inr (11, [.int 0, .ref a1, .int 0, .int 0, .int 0, .int 0, .int 0, .int 0, .int 0, .int 0, .int 0, .int 0, .long 0, .int 0, .ref a2, .ref a3, .ref a4, .ref a5, .ref a6, .ref a7, .ref a8, .ref a9, .ref a10, .ref a11, .int 0, .ref a12, .ref a13, .ref a14, .ref a15, .int 0, .int 0, .int 0, .ref a16, .int (-1), .int (-1), .ref a17, .ref a18, .int 0, .ref a19, .int 0, .int 0, .ref a20, .ref a21, .int 0, .int 0, .ref a22, .int 0, .int 0, .int 0, .int 0])), (a2, .inl (T 0, 329, .inl cn45)), (a12, .inl (T 0, 9, .inl (fun _ => 0))), (a15, .inl (T 2, 9, .inl (rngc 0 0 (0 : Int32) (fun _ => 0))))] _ _ := w.to (by simp only [rngc_0])
  have loop : ∀ (k i : Nat) (H : Heap) (locs : List Loc) (ls : Array Slot), 0 ≤ i → i ≤ 9 → 9 < i + k → WD D A s.heap [(a0, .inr (11, [.int 0, .ref a1, .int 0, .int 0, .int 0, .int 0, .int 0, .int 0, .int 0, .int 0, .int 0, .int 0, .long 0, .int 0, .ref a2, .ref a3, .ref a4, .ref a5, .ref a6, .ref a7, .ref a8, .ref a9, .ref a10, .ref a11, .int 0, .ref a12, .ref a13, .ref a14, .ref a15, .int 0, .int 0, .int 0, .ref a16, .int (-1), .int (-1), .ref a17, .ref a18, .int 0, .ref a19, .int 0, .int 0, .ref a20, .ref a21, .int 0, .int 0, .ref a22, .int 0, .int 0, .int 0, .int 0])), (a2, .inl (T 0, 329, .inl cn45)), (a12, .inl (T 0, 9, .inl (fun _ => 0))), (a15, .inl (T 2, 9, .inl (rngc 0 i (0 : Int32) (fun _ => 0))))] H locs → lv_has ls 4 [(1, .int (nI i)), (0, .ref a0)] → W p l e (Rm 1 0 0) s m args below meth c H locs 0 0 Q (F0 m 7 ls []) := by
    intro k
    induction k with
    | zero => intro i H locs ls h0 h1 h2; exact absurd h2 (by omega)
    | succ k ih =>
      intro i H locs ls hi0 hi1 hi2 w hl
      refine lv_iload_n hx hb dX12_match_7 rfl (lv_at hl 0 rfl) ?_
      refine lv_bipush (v := 9) hx hb dX12_match_8 (by decide) ?_
      refine lv_icmp_ge (tgt := 26) hx hb dX12_match_10 (by decide) (fun c_1 => ?_) (fun c_1 => ?_)
      · have hi2 : 9 ≤ i := ix_exit (n := 9) (by decide) (by omega) (by decide) c_1
        obtain rfl : i = 9 := by omega
        have w : WD D A s.heap [(a0, .inr (11, [.int 0, .ref a1, .int 0, .int 0, .int 0, .int 0, .int 0, .int 0, .int 0, .int 0, .int 0, .int 0, .long 0, .int 0, .ref a2, .ref a3, .ref a4, .ref a5, .ref a6, .ref a7, .ref a8, .ref a9, .ref a10, .ref a11, .int 0, .ref a12, .ref a13, .ref a14, .ref a15, .int 0, .int 0, .int 0, .ref a16, .int (-1), .int (-1), .ref a17, .ref a18, .int 0, .ref a19, .int 0, .int 0, .ref a20, .ref a21, .int 0, .int 0, .ref a22, .int 0, .int 0, .int 0, .int 0])), (a2, .inl (T 0, 329, .inl cn45)), (a12, .inl (T 0, 9, .inl (fun _ => 0))), (a15, .inl (T 2, 9, .inl cn46))] H locs := w
        have hl : lv_has ls 4 [(1, .int 9), (0, .ref a0)] := hl
        refine lv_aload_n hx hb dX12_match_26 rfl (lv_at hl 1 rfl) ?_
        refine lv_iconst (v := 0) hx hb dX12_match_27 (by decide) ?_
        refine k_I (ce := 0) (sl := 0) (rest := []) (wr := [(a15, .inl (T 2, 9, .inl cn46))]) (r_V (f := 0) [0, 1, 2] M w V_HookedCityModel_316 G1871 G89 (c90_X12_mostFrom l D T _ a0 a1 a2 a3 a4 a5 a6 a7 a8 a9 a10 a11 a12 a13 a14 a15 a16 a17 a18 a19 a20 a21 a22) 0 clX12 rfl rfl (by decide) rfl hl.1 rfl (Nat.le_of_ble_eq_true rfl) dX12_match_28 (by decide) (by decide) (by decide) (by decide)) w [0, 1, 2] [3] rfl rfl (by decide) (by decide) rfl rfl (fun v _ H locs hp w => ?_)
        have hp : (0 : Int32) = v := hp
        subst hp
        have w : WD D A s.heap [(a15, .inl (T 2, 9, .inl cn46)), (a0, .inr (11, [.int 0, .ref a1, .int 0, .int 0, .int 0, .int 0, .int 0, .int 0, .int 0, .int 0, .int 0, .int 0, .long 0, .int 0, .ref a2, .ref a3, .ref a4, .ref a5, .ref a6, .ref a7, .ref a8, .ref a9, .ref a10, .ref a11, .int 0, .ref a12, .ref a13, .ref a14, .ref a15, .int 0, .int 0, .int 0, .ref a16, .int (-1), .int (-1), .ref a17, .ref a18, .int 0, .ref a19, .int 0, .int 0, .ref a20, .ref a21, .int 0, .int 0, .ref a22, .int 0, .int 0, .int 0, .int 0])), (a2, .inl (T 0, 329, .inl cn45)), (a12, .inl (T 0, 9, .inl cn6))] H locs := w
        refine lv_istore_n (lv' := [(1, .int 0), (0, .ref a0)]) hx hb dX12_match_31 rfl hl (by decide) rfl (fun ls hl => ?_)
        refine lv_iload_n hx hb dX12_match_32 rfl (lv_at hl 0 rfl) ?_
        refine lv_istore_n (lv' := [(2, .int 0), (1, .int 0), (0, .ref a0)]) hx hb dX12_match_33 rfl hl (by decide) rfl (fun ls hl => ?_)
        refine lv_iconst (v := 0) hx hb dX12_match_34 (by decide) ?_
        refine lv_istore_n (lv' := [(3, .int 0), (2, .int 0), (1, .int 0), (0, .ref a0)]) hx hb dX12_match_35 rfl hl (by decide) rfl (fun ls hl => ?_)
        refine lv_iload_n hx hb dX12_match_36 rfl (lv_at hl 0 rfl) ?_
        refine lv_aload_n hx hb dX12_match_37 rfl (lv_at hl 3 rfl) ?_
        refine r_get (v := .ref a2) M w 1 14 clX12 rfl (by decide) G1481 rfl rfl dX12_match_38 ?_
        refine lv_iconst (v := 0) hx hb dX12_match_41 (by decide) ?_
        refine r_iald (v := (0 : Int32)) M w 2 rfl (vin (by decide +kernel)) (by decide +kernel) dX12_match_42 ?_
        refine lv_icmp_ge (tgt := 77) hx hb dX12_match_43 (by decide) (fun _ => ?_) (fun c => absurd (by decide +kernel) c)
        refine lv_aload_n hx hb dX12_match_77 rfl (lv_at hl 3 rfl) ?_
        refine lv_aload_n hx hb dX12_match_78 rfl (lv_at hl 3 rfl) ?_
        refine r_get (v := .ref a2) M w 1 14 clX12 rfl (by decide) G1481 rfl rfl dX12_match_79 ?_
        refine lv_iconst (v := 0) hx hb dX12_match_82 (by decide) ?_
        refine r_iald (v := (0 : Int32)) M w 2 rfl (vin (by decide +kernel)) (by decide +kernel) dX12_match_83 ?_
        refine r_put (ws' := [(a15, .inl (T 2, 9, .inl cn46)), (a0, .inr (11, [.int 0, .ref a1, .int 0, .int 0, .int 0, .int 0, .int 0, .int 0, .int 0, .int 0, .int 0, .int 0, .long 0, .int 0, .ref a2, .ref a3, .ref a4, .ref a5, .ref a6, .ref a7, .ref a8, .ref a9, .ref a10, .ref a11, .int 0, .ref a12, .ref a13, .ref a14, .ref a15, .int 0, .int 0, .int 0, .ref a16, .int (-1), .int (-1), .ref a17, .ref a18, .int 0, .ref a19, .int 0, .int 0, .ref a20, .ref a21, .int 0, .int 0, .ref a22, .int 0, .int 0, .int 0, .int 0])), (a2, .inl (T 0, 329, .inl cn45)), (a12, .inl (T 0, 9, .inl cn6))]) M w 1 29 clX12 rfl (by decide) G1496 rfl rfl rfl rfl (Nat.le_of_ble_eq_true rfl) rfl dX12_match_84 (fun H locs w => ?_)
        refine lv_aload_n hx hb dX12_match_87 rfl (lv_at hl 3 rfl) ?_
        refine lv_iconst (v := 1) hx hb dX12_match_88 (by decide) ?_
        refine r_put (ws' := [(a15, .inl (T 2, 9, .inl cn46)), (a0, .inr (11, [.int 0, .ref a1, .int 0, .int 0, .int 0, .int 0, .int 0, .int 0, .int 0, .int 0, .int 0, .int 0, .long 0, .int 0, .ref a2, .ref a3, .ref a4, .ref a5, .ref a6, .ref a7, .ref a8, .ref a9, .ref a10, .ref a11, .int 0, .ref a12, .ref a13, .ref a14, .ref a15, .int 0, .int 1, .int 0, .ref a16, .int (-1), .int (-1), .ref a17, .ref a18, .int 0, .ref a19, .int 0, .int 0, .ref a20, .ref a21, .int 0, .int 0, .ref a22, .int 0, .int 0, .int 0, .int 0])), (a2, .inl (T 0, 329, .inl cn45)), (a12, .inl (T 0, 9, .inl cn6))]) M w 1 30 clX12 rfl (by decide) G1497 rfl rfl (by decide +kernel) (by decide +kernel) (Nat.le_of_ble_eq_true rfl) rfl dX12_match_89 (fun H locs w => ?_)
        refine lv_aload_n hx hb dX12_match_92 rfl (lv_at hl 3 rfl) ?_
        refine lv_iconst (v := 1) hx hb dX12_match_93 (by decide) ?_
        refine r_put (ws' := [(a15, .inl (T 2, 9, .inl cn46)), (a0, .inr (11, [.int 0, .ref a1, .int 0, .int 0, .int 0, .int 0, .int 0, .int 0, .int 0, .int 0, .int 0, .int 0, .long 0, .int 0, .ref a2, .ref a3, .ref a4, .ref a5, .ref a6, .ref a7, .ref a8, .ref a9, .ref a10, .ref a11, .int 0, .ref a12, .ref a13, .ref a14, .ref a15, .int 0, .int 1, .int 1, .ref a16, .int (-1), .int (-1), .ref a17, .ref a18, .int 0, .ref a19, .int 0, .int 0, .ref a20, .ref a21, .int 0, .int 0, .ref a22, .int 0, .int 0, .int 0, .int 0])), (a2, .inl (T 0, 329, .inl cn45)), (a12, .inl (T 0, 9, .inl cn6))]) M w 1 31 clX12 rfl (by decide) G1498 rfl rfl (by decide +kernel) (by decide +kernel) (Nat.le_of_ble_eq_true rfl) rfl dX12_match_94 (fun H locs w => ?_)
        refine lv_iload_n hx hb dX12_match_97 rfl (lv_at hl 2 rfl) ?_
        exact ret _ () _ _ _ _ _ [] dX12_match_98 rfl w (by decide) rfl
      · have hi2 : i < 9 := ix_in2 (n := 9) (by decide) (by omega) (by decide) c_1
        refine lv_aload_n hx hb dX12_match_13 rfl (lv_at hl 1 rfl) ?_
        refine r_get (v := .ref a15) M w 0 28 clX12 rfl (by decide) G1495 rfl rfl dX12_match_14 ?_
        refine lv_iload_n hx hb dX12_match_17 rfl (lv_at hl 0 rfl) ?_
        refine lv_iconst (v := 0) hx hb dX12_match_18 (by decide) ?_
        refine r_zast (x2 := (0 : Int32)) (ws' := [(a0, .inr (11, [.int 0, .ref a1, .int 0, .int 0, .int 0, .int 0, .int 0, .int 0, .int 0, .int 0, .int 0, .int 0, .long 0, .int 0, .ref a2, .ref a3, .ref a4, .ref a5, .ref a6, .ref a7, .ref a8, .ref a9, .ref a10, .ref a11, .int 0, .ref a12, .ref a13, .ref a14, .ref a15, .int 0, .int 0, .int 0, .ref a16, .int (-1), .int (-1), .ref a17, .ref a18, .int 0, .ref a19, .int 0, .int 0, .ref a20, .ref a21, .int 0, .int 0, .ref a22, .int 0, .int 0, .int 0, .int 0])), (a2, .inl (T 0, 329, .inl cn45)), (a12, .inl (T 0, 9, .inl (fun _ => 0))), (a15, .inl (T 2, 9, .inl (upd (rngc 0 i (0 : Int32) (fun _ => 0)) (Int32.toNatClampNeg (nI i)) (0 : Int32))))]) M w 3 rfl (ix_in (by omega) (by decide)) (by decide +kernel) rfl dX12_match_19 (fun H locs w => ?_)
        refine lv_iinc (v := (nI (i + 1))) (lv' := [(1, .int (nI (i + 1))), (0, .ref a0)]) hx hb dX12_match_20 hl (k := 0) rfl (ix_add (k := 1) (by decide) (by omega)) (by decide) rfl (fun ls hl => ?_)
        refine lv_goto (tgt := 7) hx hb dX12_match_23 (by decide) ?_
        rw [show (upd (rngc 0 i (0 : Int32) (fun _ => 0)) (Int32.toNatClampNeg (nI i)) (0 : Int32)) = (rngc 0 (i + 1) (0 : Int32) (fun _ => 0)) from rngc_step (nI_clamp (by omega)) (by omega)] at w
        exact ih (i + 1) _ _ _ (by omega) (by omega) (by omega) w (lv_sub hl [0, 1] rfl)
  exact loop 10 0 _ _ _ (by decide) (by decide) (by decide) w hl
set_option maxRecDepth 100000 in
set_option maxHeartbeats 4000000 in
theorem c92_X11_matched (l : Launch) (D : va_G) (T : Nat → ClassId) (sz : Nat) (a0 a1 a2 a3 a4 a5 a6 a7 a8 a9 a10 a11 a12 a13 a14 a15 a16 a17 : Nat) (x0 : Int32) : Met l yX11_matched (Cond.code yX11_matched cX11_matched 2 (some .int) :: GW) (Rm 0 0 0) (cPre [.ref a0, .int x0] D T [(a0, .inr (10, [.ref a1, .ref a2, .ref a3, .ref a4, .ref a5, .ref a6, .ref a7, .ref a8, .ref a9, .ref a10, .ref a11, .ref a12, .ref a13, .ref a14, .int 0, .int 0, .int 0])), (a5, .inr (3, [.ref a15, .ref a16, .ref a17, .int 0, .int 0])), (a15, .inl (T 0, 9, .inl cn6))] sz) (qI D [(a0, .inr (10, [.ref a1, .ref a2, .ref a3, .ref a4, .ref a5, .ref a6, .ref a7, .ref a8, .ref a9, .ref a10, .ref a11, .ref a12, .ref a13, .ref a14, .int 0, .int 0, .int 0])), (a5, .inr (3, [.ref a15, .ref a16, .ref a17, .int 0, .int 0])), (a15, .inl (T 0, 9, .inl cn6))] sz (fun (v : Int32) (u : Unit) => (-1 : Int32) = v) (fun u => [])) 0 0 (va_A [(a0, .inr (10, [.ref a1, .ref a2, .ref a3, .ref a4, .ref a5, .ref a6, .ref a7, .ref a8, .ref a9, .ref a10, .ref a11, .ref a12, .ref a13, .ref a14, .int 0, .int 0, .int 0])), (a5, .inr (3, [.ref a15, .ref a16, .ref a17, .int 0, .int 0])), (a15, .inl (T 0, 9, .inl cn6))] sz) := by
  refine e_I (by decide) (Nat.le_of_ble_eq_true rfl) ?_
  intro p e s m args below meth c A Q ls M hin w ret hl
  have hx := M.1.1
  have hb := M.1.2.1
  have hl : lv_has ls 2 [(0, .ref a0), (1, .int x0)] := hl
  refine lv_iload_n hx hb dX11_matched_0 rfl (lv_at hl 1 rfl) ?_
  refine lv_if_lt (tgt := 22) hx hb dX11_matched_1 (by decide) (fun c_1 => ?_) (fun c_1 => ?_)
  · refine lv_iconst (v := (-1)) hx hb dX11_matched_22 (by decide) ?_
    exact ret _ () _ _ _ _ _ [] dX11_matched_23 rfl w (by decide) rfl
  · refine lv_iload_n hx hb dX11_matched_4 rfl (lv_at hl 1 rfl) ?_
    refine lv_bipush (v := 9) hx hb dX11_matched_5 (by decide) ?_
    refine lv_icmp_ge (tgt := 22) hx hb dX11_matched_7 (by decide) (fun c_2 => ?_) (fun c_2 => ?_)
    · refine lv_iconst (v := (-1)) hx hb dX11_matched_22 (by decide) ?_
      exact ret _ () _ _ _ _ _ [] dX11_matched_23 rfl w (by decide) rfl
    · refine lv_aload_n hx hb dX11_matched_10 rfl (lv_at hl 0 rfl) ?_
      refine r_get (v := .ref a5) M w 0 4 clX11 rfl (by decide) G501 rfl rfl dX11_matched_11 ?_
      refine r_getN (v := .ref a15) M w 1 0 clX3 rfl (by decide) N293 rfl rfl dX11_matched_14 ?_
      refine lv_iload_n hx hb dX11_matched_17 rfl (lv_at hl 1 rfl) ?_
      have h3 : x0 = (0 : Int32) ∨ x0 = (1 : Int32) ∨ x0 = (2 : Int32) ∨ x0 = (3 : Int32) ∨ x0 = (4 : Int32) ∨ x0 = (5 : Int32) ∨ x0 = (6 : Int32) ∨ x0 = (7 : Int32) ∨ x0 = (8 : Int32) := by
        simp only [fa_lt, fa_le, fa_eq] at c_1 c_2 ⊢
        have e0 : (0 : Int32).toInt = 0 := (by decide)
        have e1 : (1 : Int32).toInt = 1 := (by decide)
        have e2 : (2 : Int32).toInt = 2 := (by decide)
        have e3 : (3 : Int32).toInt = 3 := (by decide)
        have e4 : (4 : Int32).toInt = 4 := (by decide)
        have e5 : (5 : Int32).toInt = 5 := (by decide)
        have e6 : (6 : Int32).toInt = 6 := (by decide)
        have e7 : (7 : Int32).toInt = 7 := (by decide)
        have e8 : (8 : Int32).toInt = 8 := (by decide)
        have e9 : (9 : Int32).toInt = 9 := (by decide)
        omega
      rcases h3 with rfl | rfl | rfl | rfl | rfl | rfl | rfl | rfl | rfl
      · refine r_iald (v := (-1 : Int32)) M w 2 rfl (vin (by decide +kernel)) (by decide +kernel) dX11_matched_18 ?_
        refine lv_goto (tgt := 23) hx hb dX11_matched_19 (by decide) ?_
        exact ret _ () _ _ _ _ _ [] dX11_matched_23 rfl w (by decide) rfl
      · refine r_iald (v := (-1 : Int32)) M w 2 rfl (vin (by decide +kernel)) (by decide +kernel) dX11_matched_18 ?_
        refine lv_goto (tgt := 23) hx hb dX11_matched_19 (by decide) ?_
        exact ret _ () _ _ _ _ _ [] dX11_matched_23 rfl w (by decide) rfl
      · refine r_iald (v := (-1 : Int32)) M w 2 rfl (vin (by decide +kernel)) (by decide +kernel) dX11_matched_18 ?_
        refine lv_goto (tgt := 23) hx hb dX11_matched_19 (by decide) ?_
        exact ret _ () _ _ _ _ _ [] dX11_matched_23 rfl w (by decide) rfl
      · refine r_iald (v := (-1 : Int32)) M w 2 rfl (vin (by decide +kernel)) (by decide +kernel) dX11_matched_18 ?_
        refine lv_goto (tgt := 23) hx hb dX11_matched_19 (by decide) ?_
        exact ret _ () _ _ _ _ _ [] dX11_matched_23 rfl w (by decide) rfl
      · refine r_iald (v := (-1 : Int32)) M w 2 rfl (vin (by decide +kernel)) (by decide +kernel) dX11_matched_18 ?_
        refine lv_goto (tgt := 23) hx hb dX11_matched_19 (by decide) ?_
        exact ret _ () _ _ _ _ _ [] dX11_matched_23 rfl w (by decide) rfl
      · refine r_iald (v := (-1 : Int32)) M w 2 rfl (vin (by decide +kernel)) (by decide +kernel) dX11_matched_18 ?_
        refine lv_goto (tgt := 23) hx hb dX11_matched_19 (by decide) ?_
        exact ret _ () _ _ _ _ _ [] dX11_matched_23 rfl w (by decide) rfl
      · refine r_iald (v := (-1 : Int32)) M w 2 rfl (vin (by decide +kernel)) (by decide +kernel) dX11_matched_18 ?_
        refine lv_goto (tgt := 23) hx hb dX11_matched_19 (by decide) ?_
        exact ret _ () _ _ _ _ _ [] dX11_matched_23 rfl w (by decide) rfl
      · refine r_iald (v := (-1 : Int32)) M w 2 rfl (vin (by decide +kernel)) (by decide +kernel) dX11_matched_18 ?_
        refine lv_goto (tgt := 23) hx hb dX11_matched_19 (by decide) ?_
        exact ret _ () _ _ _ _ _ [] dX11_matched_23 rfl w (by decide) rfl
      · refine r_iald (v := (-1 : Int32)) M w 2 rfl (vin (by decide +kernel)) (by decide +kernel) dX11_matched_18 ?_
        refine lv_goto (tgt := 23) hx hb dX11_matched_19 (by decide) ?_
        exact ret _ () _ _ _ _ _ [] dX11_matched_23 rfl w (by decide) rfl
set_option maxRecDepth 100000 in
set_option maxHeartbeats 4000000 in
theorem c93_X12_matched (l : Launch) (D : va_G) (T : Nat → ClassId) (sz : Nat) (a0 a1 a2 a3 a4 a5 a6 a7 a8 a9 a10 a11 a12 a13 a14 a15 a16 a17 a18 a19 a20 a21 a22 : Nat) (x0 : Int32) : Met l yX12_matched (Cond.code yX12_matched cX12_matched 2 (some .int) :: GW) (Rm 0 0 0) (cPre [.ref a0, .int x0] D T [(a0, .inr (11, [.int 0, .ref a1, .int 0, .int 0, .int 0, .int 0, .int 0, .int 0, .int 0, .int 0, .int 0, .int 0, .long 0, .int 0, .ref a2, .ref a3, .ref a4, .ref a5, .ref a6, .ref a7, .ref a8, .ref a9, .ref a10, .ref a11, .int 0, .ref a12, .ref a13, .ref a14, .ref a15, .int 0, .int 0, .int 0, .ref a16, .int (-1), .int (-1), .ref a17, .ref a18, .int 0, .ref a19, .int 0, .int 0, .ref a20, .ref a21, .int 0, .int 0, .ref a22, .int 0, .int 0, .int 0, .int 0]))] sz) (qI D [(a0, .inr (11, [.int 0, .ref a1, .int 0, .int 0, .int 0, .int 0, .int 0, .int 0, .int 0, .int 0, .int 0, .int 0, .long 0, .int 0, .ref a2, .ref a3, .ref a4, .ref a5, .ref a6, .ref a7, .ref a8, .ref a9, .ref a10, .ref a11, .int 0, .ref a12, .ref a13, .ref a14, .ref a15, .int 0, .int 0, .int 0, .ref a16, .int (-1), .int (-1), .ref a17, .ref a18, .int 0, .ref a19, .int 0, .int 0, .ref a20, .ref a21, .int 0, .int 0, .ref a22, .int 0, .int 0, .int 0, .int 0]))] sz (fun (v : Int32) (u : Unit) => (-1 : Int32) = v) (fun u => [])) 0 0 (va_A [(a0, .inr (11, [.int 0, .ref a1, .int 0, .int 0, .int 0, .int 0, .int 0, .int 0, .int 0, .int 0, .int 0, .int 0, .long 0, .int 0, .ref a2, .ref a3, .ref a4, .ref a5, .ref a6, .ref a7, .ref a8, .ref a9, .ref a10, .ref a11, .int 0, .ref a12, .ref a13, .ref a14, .ref a15, .int 0, .int 0, .int 0, .ref a16, .int (-1), .int (-1), .ref a17, .ref a18, .int 0, .ref a19, .int 0, .int 0, .ref a20, .ref a21, .int 0, .int 0, .ref a22, .int 0, .int 0, .int 0, .int 0]))] sz) := by
  refine e_I (by decide) (Nat.le_of_ble_eq_true rfl) ?_
  intro p e s m args below meth c A Q ls M hin w ret hl
  have hx := M.1.1
  have hb := M.1.2.1
  have hl : lv_has ls 2 [(0, .ref a0), (1, .int x0)] := hl
  refine lv_aload_n hx hb dX12_matched_0 rfl (lv_at hl 0 rfl) ?_
  refine lv_iconst (v := 0) hx hb dX12_matched_1 (by decide) ?_
  refine r_put (ws' := [(a0, .inr (11, [.int 0, .ref a1, .int 0, .int 0, .int 0, .int 0, .int 0, .int 0, .int 0, .int 0, .int 0, .int 0, .long 0, .int 0, .ref a2, .ref a3, .ref a4, .ref a5, .ref a6, .ref a7, .ref a8, .ref a9, .ref a10, .ref a11, .int 0, .ref a12, .ref a13, .ref a14, .ref a15, .int 0, .int 0, .int 0, .ref a16, .int (-1), .int (-1), .ref a17, .ref a18, .int 0, .ref a19, .int 0, .int 0, .ref a20, .ref a21, .int 0, .int 0, .ref a22, .int 0, .int 0, .int 0, .int 0]))]) M w 0 0 clX12 rfl (by decide) G1467 rfl rfl rfl rfl (Nat.le_of_ble_eq_true rfl) rfl dX12_matched_2 (fun H locs w => ?_)
  refine lv_aload_n hx hb dX12_matched_5 rfl (lv_at hl 0 rfl) ?_
  refine r_get (v := .int 0) M w 0 30 clX12 rfl (by decide) G1497 rfl rfl dX12_matched_6 ?_
  refine lv_if_eq (tgt := 35) hx hb dX12_matched_9 (by decide) (fun _ => ?_) (fun c => absurd (by decide +kernel) c)
  refine lv_iconst (v := (-1)) hx hb dX12_matched_35 (by decide) ?_
  exact ret _ () _ _ _ _ _ [] dX12_matched_36 rfl w (by decide) rfl
set_option maxRecDepth 100000 in
set_option maxHeartbeats 4000000 in
theorem c94_X11_takes (l : Launch) (D : va_G) (T : Nat → ClassId) (sz : Nat) (a0 a1 a2 a3 a4 a5 a6 a7 a8 a9 a10 a11 a12 a13 a14 : Nat) : Met l yX11_takes (Cond.code yX11_takes cX11_takes 3 (some .int) :: GW) (Rm 0 0 0) (cPre [.ref a0] D T [(a0, .inr (10, [.ref a1, .ref a2, .ref a3, .ref a4, .ref a5, .ref a6, .ref a7, .ref a8, .ref a9, .ref a10, .ref a11, .ref a12, .ref a13, .ref a14, .int 0, .int 0, .int 0]))] sz) (qI D [(a0, .inr (10, [.ref a1, .ref a2, .ref a3, .ref a4, .ref a5, .ref a6, .ref a7, .ref a8, .ref a9, .ref a10, .ref a11, .ref a12, .ref a13, .ref a14, .int 0, .int 0, .int 0]))] sz (fun (v : Int32) (u : Unit) => (-1 : Int32) = v) (fun u => [])) 0 0 (va_A [(a0, .inr (10, [.ref a1, .ref a2, .ref a3, .ref a4, .ref a5, .ref a6, .ref a7, .ref a8, .ref a9, .ref a10, .ref a11, .ref a12, .ref a13, .ref a14, .int 0, .int 0, .int 0]))] sz) := by
  refine e_I (by decide) (Nat.le_of_ble_eq_true rfl) ?_
  intro p e s m args below meth c A Q ls M hin w ret hl
  have hx := M.1.1
  have hb := M.1.2.1
  have hl : lv_has ls 3 [(0, .ref a0)] := hl
  refine lv_aload_n hx hb dX11_takes_0 rfl (lv_at hl 0 rfl) ?_
  refine r_get (v := .int 0) M w 0 16 clX11 rfl (by decide) G513 rfl rfl dX11_takes_1 ?_
  refine lv_if_ne (tgt := 9) hx hb dX11_takes_4 (by decide) (fun c => absurd (by decide +kernel) c) (fun _ => ?_)
  refine lv_iconst (v := (-1)) hx hb dX11_takes_7 (by decide) ?_
  exact ret _ () _ _ _ _ _ [] dX11_takes_8 rfl w (by decide) rfl
set_option maxRecDepth 100000 in
set_option maxHeartbeats 4000000 in
theorem c95_X12_takes (l : Launch) (D : va_G) (T : Nat → ClassId) (sz : Nat) (a0 a1 a2 a3 a4 a5 a6 a7 a8 a9 a10 a11 a12 a13 a14 a15 a16 a17 a18 a19 a20 a21 a22 : Nat) : Met l yX12_takes (Cond.code yX12_takes cX12_takes 4 (some .int) :: GW) (Rm 0 0 0) (cPre [.ref a0] D T [(a0, .inr (11, [.int 0, .ref a1, .int 0, .int 0, .int 0, .int 0, .int 0, .int 0, .int 0, .int 0, .int 0, .int 0, .long 0, .int 0, .ref a2, .ref a3, .ref a4, .ref a5, .ref a6, .ref a7, .ref a8, .ref a9, .ref a10, .ref a11, .int 0, .ref a12, .ref a13, .ref a14, .ref a15, .int 0, .int 0, .int 0, .ref a16, .int (-1), .int (-1), .ref a17, .ref a18, .int 0, .ref a19, .int 0, .int 0, .ref a20, .ref a21, .int 0, .int 0, .ref a22, .int 0, .int 0, .int 0, .int 0]))] sz) (qI D [(a0, .inr (11, [.int 0, .ref a1, .int 0, .int 0, .int 0, .int 0, .int 0, .int 0, .int 0, .int 0, .int 0, .int 0, .long 0, .int 0, .ref a2, .ref a3, .ref a4, .ref a5, .ref a6, .ref a7, .ref a8, .ref a9, .ref a10, .ref a11, .int 0, .ref a12, .ref a13, .ref a14, .ref a15, .int 0, .int 0, .int 0, .ref a16, .int (-1), .int (-1), .ref a17, .ref a18, .int 0, .ref a19, .int 0, .int 0, .ref a20, .ref a21, .int 0, .int 0, .ref a22, .int 0, .int 0, .int 0, .int 0]))] sz (fun (v : Int32) (u : Unit) => (-1 : Int32) = v) (fun u => [])) 0 0 (va_A [(a0, .inr (11, [.int 0, .ref a1, .int 0, .int 0, .int 0, .int 0, .int 0, .int 0, .int 0, .int 0, .int 0, .int 0, .long 0, .int 0, .ref a2, .ref a3, .ref a4, .ref a5, .ref a6, .ref a7, .ref a8, .ref a9, .ref a10, .ref a11, .int 0, .ref a12, .ref a13, .ref a14, .ref a15, .int 0, .int 0, .int 0, .ref a16, .int (-1), .int (-1), .ref a17, .ref a18, .int 0, .ref a19, .int 0, .int 0, .ref a20, .ref a21, .int 0, .int 0, .ref a22, .int 0, .int 0, .int 0, .int 0]))] sz) := by
  refine e_I (by decide) (Nat.le_of_ble_eq_true rfl) ?_
  intro p e s m args below meth c A Q ls M hin w ret hl
  have hx := M.1.1
  have hb := M.1.2.1
  have hl : lv_has ls 4 [(0, .ref a0)] := hl
  refine lv_aload_n hx hb dX12_takes_0 rfl (lv_at hl 0 rfl) ?_
  refine lv_iconst (v := 0) hx hb dX12_takes_1 (by decide) ?_
  refine r_put (ws' := [(a0, .inr (11, [.int 0, .ref a1, .int 0, .int 0, .int 0, .int 0, .int 0, .int 0, .int 0, .int 0, .int 0, .int 0, .long 0, .int 0, .ref a2, .ref a3, .ref a4, .ref a5, .ref a6, .ref a7, .ref a8, .ref a9, .ref a10, .ref a11, .int 0, .ref a12, .ref a13, .ref a14, .ref a15, .int 0, .int 0, .int 0, .ref a16, .int (-1), .int (-1), .ref a17, .ref a18, .int 0, .ref a19, .int 0, .int 0, .ref a20, .ref a21, .int 0, .int 0, .ref a22, .int 0, .int 0, .int 0, .int 0]))]) M w 0 0 clX12 rfl (by decide) G1467 rfl rfl rfl rfl (Nat.le_of_ble_eq_true rfl) rfl dX12_takes_2 (fun H locs w => ?_)
  refine lv_aload_n hx hb dX12_takes_5 rfl (lv_at hl 0 rfl) ?_
  refine r_get (v := .int 0) M w 0 31 clX12 rfl (by decide) G1498 rfl rfl dX12_takes_6 ?_
  refine lv_if_ne (tgt := 14) hx hb dX12_takes_9 (by decide) (fun c => absurd (by decide +kernel) c) (fun _ => ?_)
  refine lv_iconst (v := (-1)) hx hb dX12_takes_12 (by decide) ?_
  exact ret _ () _ _ _ _ _ [] dX12_takes_13 rfl w (by decide) rfl
