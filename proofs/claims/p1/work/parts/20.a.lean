theorem dX8_append_0 : decode cX8_append 0 = .ok (.bipush 24, 2) := by decide +kernel
theorem dX8_append_2 : decode cX8_append 2 = .ok (.istore_n 2, 1) := by decide +kernel
theorem dX8_append_3 : decode cX8_append 3 = .ok (.iload_n 2, 1) := by decide +kernel
theorem dX8_append_4 : decode cX8_append 4 = .ok (.ifCond .lt 45, 3) := by decide +kernel
theorem dX8_append_7 : decode cX8_append 7 = .ok (.aload_n 0, 1) := by decide +kernel
theorem dX8_append_8 : decode cX8_append 8 = .ok (.getfield 15, 3) := by decide +kernel
theorem dX8_append_11 : decode cX8_append 11 = .ok (.sipush 940, 3) := by decide +kernel
theorem dX8_append_14 : decode cX8_append 14 = .ok (.if_icmp .ge 35, 3) := by decide +kernel
theorem dX8_append_17 : decode cX8_append 17 = .ok (.aload_n 0, 1) := by decide +kernel
theorem dX8_append_18 : decode cX8_append 18 = .ok (.getfield 11, 3) := by decide +kernel
theorem dX8_append_21 : decode cX8_append 21 = .ok (.aload_n 0, 1) := by decide +kernel
theorem dX8_append_22 : decode cX8_append 22 = .ok (.getfield 15, 3) := by decide +kernel
theorem dX8_append_25 : decode cX8_append 25 = .ok (.iload_n 1, 1) := by decide +kernel
theorem dX8_append_26 : decode cX8_append 26 = .ok (.iload_n 2, 1) := by decide +kernel
theorem dX8_append_27 : decode cX8_append 27 = .ok (.iushr, 1) := by decide +kernel
theorem dX8_append_28 : decode cX8_append 28 = .ok (.sipush 255, 3) := by decide +kernel
theorem dX8_append_31 : decode cX8_append 31 = .ok (.iand, 1) := by decide +kernel
theorem dX8_append_32 : decode cX8_append 32 = .ok (.iastore, 1) := by decide +kernel
theorem dX8_append_33 : decode cX8_append 33 = .ok (.aload_n 0, 1) := by decide +kernel
theorem dX8_append_34 : decode cX8_append 34 = .ok (.dup, 1) := by decide +kernel
theorem dX8_append_35 : decode cX8_append 35 = .ok (.getfield 15, 3) := by decide +kernel
theorem dX8_append_38 : decode cX8_append 38 = .ok (.iconst 1, 1) := by decide +kernel
theorem dX8_append_39 : decode cX8_append 39 = .ok (.iadd, 1) := by decide +kernel
theorem dX8_append_40 : decode cX8_append 40 = .ok (.putfield 15, 3) := by decide +kernel
theorem dX8_append_43 : decode cX8_append 43 = .ok (.iinc 2 (-8), 3) := by decide +kernel
theorem dX8_append_46 : decode cX8_append 46 = .ok (.goto (-43), 3) := by decide +kernel
theorem dX8_append_49 : decode cX8_append 49 = .ok (.return_, 1) := by decide +kernel
theorem dX8_take_0 : decode cX8_take 0 = .ok (.aload_n 0, 1) := by decide +kernel
theorem dX8_take_1 : decode cX8_take 1 = .ok (.getfield 15, 3) := by decide +kernel
theorem dX8_take_4 : decode cX8_take 4 = .ok (.bipush 20, 2) := by decide +kernel
theorem dX8_take_6 : decode cX8_take 6 = .ok (.iadd, 1) := by decide +kernel
theorem dX8_take_7 : decode cX8_take 7 = .ok (.sipush 940, 3) := by decide +kernel
theorem dX8_take_10 : decode cX8_take 10 = .ok (.if_icmp .le 5, 3) := by decide +kernel
theorem dX8_take_15 : decode cX8_take 15 = .ok (.aload_n 0, 1) := by decide +kernel
theorem dX8_take_16 : decode cX8_take 16 = .ok (.iload_n 1, 1) := by decide +kernel
theorem dX8_take_17 : decode cX8_take 17 = .ok (.invokevirtual 51, 3) := by decide +kernel
theorem G560 : Cond.code ⟨"HookedCity$Tape", "append", "(I)V"⟩ prog_10_method_3_code 3 none ∈ GW := gw_i 560 (by decide +kernel) rfl
theorem G557 : Cond.methodLink "HookedCity$Tape" 51 ⟨"HookedCity$Tape", "append", "(I)V"⟩ ∈ GW := gw_i 557 (by decide +kernel) rfl
theorem V_HookedCity_Tape_51 : VL "HookedCity$Tape" 51 yX8_append cX8_append 3 none 1 := ⟨G560, G557, G120, by decide +kernel, by decide +kernel, by decide +kernel⟩
theorem G559 : Cond.instanceMethod ⟨"HookedCity$Tape", "append", "(I)V"⟩ ∈ GW := gw_i 559 (by decide +kernel) rfl
theorem G0 : Cond.selects "HookedCity$Tape" ⟨"HookedCity$Tape", "append", "(I)V"⟩ ⟨"HookedCity$Tape", "append", "(I)V"⟩ ∈ GW := gw_i 0 (by decide +kernel) rfl
theorem dX8_take_20 : decode cX8_take 20 = .ok (.aload_n 0, 1) := by decide +kernel
theorem dX8_take_21 : decode cX8_take 21 = .ok (.iload_n 2, 1) := by decide +kernel
theorem dX8_take_22 : decode cX8_take 22 = .ok (.invokevirtual 51, 3) := by decide +kernel
theorem dX8_take_25 : decode cX8_take 25 = .ok (.aload_n 0, 1) := by decide +kernel
theorem dX8_take_26 : decode cX8_take 26 = .ok (.iload_n 3, 1) := by decide +kernel
theorem dX8_take_27 : decode cX8_take 27 = .ok (.invokevirtual 51, 3) := by decide +kernel
theorem dX8_take_30 : decode cX8_take 30 = .ok (.aload_n 0, 1) := by decide +kernel
theorem dX8_take_31 : decode cX8_take 31 = .ok (.iload 4, 2) := by decide +kernel
theorem dX8_take_33 : decode cX8_take 33 = .ok (.invokevirtual 51, 3) := by decide +kernel
theorem dX8_take_36 : decode cX8_take 36 = .ok (.aload_n 0, 1) := by decide +kernel
theorem dX8_take_37 : decode cX8_take 37 = .ok (.iload 5, 2) := by decide +kernel
theorem dX8_take_39 : decode cX8_take 39 = .ok (.invokevirtual 51, 3) := by decide +kernel
theorem dX8_take_42 : decode cX8_take 42 = .ok (.aload_n 0, 1) := by decide +kernel
theorem dX8_take_43 : decode cX8_take 43 = .ok (.getfield 15, 3) := by decide +kernel
theorem dX8_take_46 : decode cX8_take 46 = .ok (.ireturn, 1) := by decide +kernel
theorem dX11_feed_0 : decode cX11_feed 0 = .ok (.aload_n 0, 1) := by decide +kernel
theorem dX11_feed_1 : decode cX11_feed 1 = .ok (.getfield 10, 3) := by decide +kernel
theorem dX11_feed_4 : decode cX11_feed 4 = .ok (.iload_n 1, 1) := by decide +kernel
theorem dX11_feed_5 : decode cX11_feed 5 = .ok (.iload_n 2, 1) := by decide +kernel
theorem dX11_feed_6 : decode cX11_feed 6 = .ok (.iload_n 3, 1) := by decide +kernel
theorem dX11_feed_7 : decode cX11_feed 7 = .ok (.iload 4, 2) := by decide +kernel
theorem dX11_feed_9 : decode cX11_feed 9 = .ok (.iload 5, 2) := by decide +kernel
theorem dX11_feed_11 : decode cX11_feed 11 = .ok (.invokevirtual 103, 3) := by decide +kernel
theorem G556 : Cond.code ⟨"HookedCity$Tape", "take", "(IIIII)I"⟩ prog_10_method_2_code 6 (some .int) ∈ GW := gw_i 556 (by decide +kernel) rfl
theorem G553 : Cond.methodLink "HookedCity" 103 ⟨"HookedCity$Tape", "take", "(IIIII)I"⟩ ∈ GW := gw_i 553 (by decide +kernel) rfl
theorem V_HookedCity_103 : VL "HookedCity" 103 yX8_take cX8_take 6 (some .int) 5 := ⟨G556, G553, G120, by decide +kernel, by decide +kernel, by decide +kernel⟩
theorem G554 : Cond.instanceMethod ⟨"HookedCity$Tape", "take", "(IIIII)I"⟩ ∈ GW := gw_i 554 (by decide +kernel) rfl
theorem G555 : Cond.selects "HookedCity$Tape" ⟨"HookedCity$Tape", "take", "(IIIII)I"⟩ ⟨"HookedCity$Tape", "take", "(IIIII)I"⟩ ∈ GW := gw_i 555 (by decide +kernel) rfl
theorem dX11_feed_14 : decode cX11_feed 14 = .ok (.ireturn, 1) := by decide +kernel
theorem dX12_come_0 : decode cX12_come 0 = .ok (.bipush 24, 2) := by decide +kernel
theorem dX12_come_2 : decode cX12_come 2 = .ok (.istore_n 2, 1) := by decide +kernel
theorem dX12_come_3 : decode cX12_come 3 = .ok (.iload_n 2, 1) := by decide +kernel
theorem dX12_come_4 : decode cX12_come 4 = .ok (.ifCond .lt 35, 3) := by decide +kernel
theorem dX12_come_7 : decode cX12_come 7 = .ok (.aload_n 0, 1) := by decide +kernel
theorem dX12_come_8 : decode cX12_come 8 = .ok (.getfield 7, 3) := by decide +kernel
theorem dX12_come_11 : decode cX12_come 11 = .ok (.aload_n 0, 1) := by decide +kernel
theorem dX12_come_12 : decode cX12_come 12 = .ok (.getfield 11, 3) := by decide +kernel
theorem G1469 : Cond.fieldLink "HookedCityModel" 11 "HookedCityModel" "taped" "I" ∈ GW := gw_i 1469 (by decide +kernel) rfl
theorem dX12_come_15 : decode cX12_come 15 = .ok (.iload_n 1, 1) := by decide +kernel
theorem dX12_come_16 : decode cX12_come 16 = .ok (.iload_n 2, 1) := by decide +kernel
theorem dX12_come_17 : decode cX12_come 17 = .ok (.iushr, 1) := by decide +kernel
theorem dX12_come_18 : decode cX12_come 18 = .ok (.sipush 255, 3) := by decide +kernel
theorem dX12_come_21 : decode cX12_come 21 = .ok (.iand, 1) := by decide +kernel
theorem dX12_come_22 : decode cX12_come 22 = .ok (.iastore, 1) := by decide +kernel
theorem dX12_come_23 : decode cX12_come 23 = .ok (.aload_n 0, 1) := by decide +kernel
theorem dX12_come_24 : decode cX12_come 24 = .ok (.dup, 1) := by decide +kernel
theorem dX12_come_25 : decode cX12_come 25 = .ok (.getfield 11, 3) := by decide +kernel
theorem dX12_come_28 : decode cX12_come 28 = .ok (.iconst 1, 1) := by decide +kernel
theorem dX12_come_29 : decode cX12_come 29 = .ok (.iadd, 1) := by decide +kernel
theorem dX12_come_30 : decode cX12_come 30 = .ok (.putfield 11, 3) := by decide +kernel
theorem dX12_come_33 : decode cX12_come 33 = .ok (.iinc 2 (-8), 3) := by decide +kernel
theorem dX12_come_36 : decode cX12_come 36 = .ok (.goto (-33), 3) := by decide +kernel
theorem dX12_come_39 : decode cX12_come 39 = .ok (.return_, 1) := by decide +kernel
theorem dX12_feed_0 : decode cX12_feed 0 = .ok (.aload_n 0, 1) := by decide +kernel
theorem dX12_feed_1 : decode cX12_feed 1 = .ok (.iconst 0, 1) := by decide +kernel
theorem dX12_feed_2 : decode cX12_feed 2 = .ok (.putfield 1, 3) := by decide +kernel
theorem G1467 : Cond.fieldLink "HookedCityModel" 1 "HookedCityModel" "thrown" "I" ∈ GW := gw_i 1467 (by decide +kernel) rfl
theorem dX12_feed_5 : decode cX12_feed 5 = .ok (.aload_n 0, 1) := by decide +kernel
theorem dX12_feed_6 : decode cX12_feed 6 = .ok (.getfield 11, 3) := by decide +kernel
theorem dX12_feed_9 : decode cX12_feed 9 = .ok (.bipush 20, 2) := by decide +kernel
theorem dX12_feed_11 : decode cX12_feed 11 = .ok (.iadd, 1) := by decide +kernel
theorem dX12_feed_12 : decode cX12_feed 12 = .ok (.sipush 940, 3) := by decide +kernel
theorem dX12_feed_15 : decode cX12_feed 15 = .ok (.if_icmp .le 5, 3) := by decide +kernel
theorem dX12_feed_20 : decode cX12_feed 20 = .ok (.aload_n 0, 1) := by decide +kernel
theorem dX12_feed_21 : decode cX12_feed 21 = .ok (.iload_n 1, 1) := by decide +kernel
theorem dX12_feed_22 : decode cX12_feed 22 = .ok (.invokevirtual 14, 3) := by decide +kernel
theorem G1449 : Cond.code ⟨"HookedCityModel", "come", "(I)V"⟩ prog_14_method_3_code 3 none ∈ GW := gw_i 1449 (by decide +kernel) rfl
theorem G1445 : Cond.methodLink "HookedCityModel" 14 ⟨"HookedCityModel", "come", "(I)V"⟩ ∈ GW := gw_i 1445 (by decide +kernel) rfl
theorem V_HookedCityModel_14 : VL "HookedCityModel" 14 yX12_come cX12_come 3 none 1 := ⟨G1449, G1445, G131, by decide +kernel, by decide +kernel, by decide +kernel⟩
theorem G1447 : Cond.instanceMethod ⟨"HookedCityModel", "come", "(I)V"⟩ ∈ GW := gw_i 1447 (by decide +kernel) rfl
theorem G44 : Cond.selects "HookedCityModel" ⟨"HookedCityModel", "come", "(I)V"⟩ ⟨"HookedCityModel", "come", "(I)V"⟩ ∈ GW := gw_i 44 (by decide +kernel) rfl
theorem dX12_feed_25 : decode cX12_feed 25 = .ok (.aload_n 0, 1) := by decide +kernel
theorem dX12_feed_26 : decode cX12_feed 26 = .ok (.iload_n 2, 1) := by decide +kernel
theorem dX12_feed_27 : decode cX12_feed 27 = .ok (.invokevirtual 14, 3) := by decide +kernel
theorem dX12_feed_30 : decode cX12_feed 30 = .ok (.aload_n 0, 1) := by decide +kernel
theorem dX12_feed_31 : decode cX12_feed 31 = .ok (.iload_n 3, 1) := by decide +kernel
theorem dX12_feed_32 : decode cX12_feed 32 = .ok (.invokevirtual 14, 3) := by decide +kernel
theorem dX12_feed_35 : decode cX12_feed 35 = .ok (.aload_n 0, 1) := by decide +kernel
theorem dX12_feed_36 : decode cX12_feed 36 = .ok (.iload 4, 2) := by decide +kernel
theorem dX12_feed_38 : decode cX12_feed 38 = .ok (.invokevirtual 14, 3) := by decide +kernel
theorem dX12_feed_41 : decode cX12_feed 41 = .ok (.aload_n 0, 1) := by decide +kernel
theorem dX12_feed_42 : decode cX12_feed 42 = .ok (.iload 5, 2) := by decide +kernel
theorem dX12_feed_44 : decode cX12_feed 44 = .ok (.invokevirtual 14, 3) := by decide +kernel
theorem dX12_feed_47 : decode cX12_feed 47 = .ok (.aload_n 0, 1) := by decide +kernel
theorem dX12_feed_48 : decode cX12_feed 48 = .ok (.getfield 11, 3) := by decide +kernel
theorem dX12_feed_51 : decode cX12_feed 51 = .ok (.ireturn, 1) := by decide +kernel
theorem dX8_cut_0 : decode cX8_cut 0 = .ok (.iload_n 1, 1) := by decide +kernel
theorem dX8_cut_1 : decode cX8_cut 1 = .ok (.ifCond .lt 11, 3) := by decide +kernel
theorem dX8_cut_12 : decode cX8_cut 12 = .ok (.iconst 0, 1) := by decide +kernel
theorem dX8_cut_13 : decode cX8_cut 13 = .ok (.ireturn, 1) := by decide +kernel
theorem dX8_cut_4 : decode cX8_cut 4 = .ok (.iload_n 1, 1) := by decide +kernel
theorem dX8_cut_5 : decode cX8_cut 5 = .ok (.aload_n 0, 1) := by decide +kernel
theorem dX8_cut_6 : decode cX8_cut 6 = .ok (.getfield 15, 3) := by decide +kernel
theorem dX8_cut_9 : decode cX8_cut 9 = .ok (.if_icmp .le 5, 3) := by decide +kernel
theorem dX8_cut_14 : decode cX8_cut 14 = .ok (.aload_n 0, 1) := by decide +kernel
theorem dX8_cut_15 : decode cX8_cut 15 = .ok (.iload_n 1, 1) := by decide +kernel
theorem dX8_cut_16 : decode cX8_cut 16 = .ok (.putfield 15, 3) := by decide +kernel
theorem dX8_cut_19 : decode cX8_cut 19 = .ok (.iconst 1, 1) := by decide +kernel
theorem dX8_cut_20 : decode cX8_cut 20 = .ok (.ireturn, 1) := by decide +kernel
theorem dX11_end_0 : decode cX11_end 0 = .ok (.aload_n 0, 1) := by decide +kernel
theorem dX11_end_1 : decode cX11_end 1 = .ok (.getfield 10, 3) := by decide +kernel
theorem dX11_end_4 : decode cX11_end 4 = .ok (.iload_n 1, 1) := by decide +kernel
theorem dX11_end_5 : decode cX11_end 5 = .ok (.invokevirtual 107, 3) := by decide +kernel
theorem G568 : Cond.code ⟨"HookedCity$Tape", "cut", "(I)Z"⟩ prog_10_method_4_code 2 (some .boolean) ∈ GW := gw_i 568 (by decide +kernel) rfl
theorem G565 : Cond.methodLink "HookedCity" 107 ⟨"HookedCity$Tape", "cut", "(I)Z"⟩ ∈ GW := gw_i 565 (by decide +kernel) rfl
theorem V_HookedCity_107 : VL "HookedCity" 107 yX8_cut cX8_cut 2 (some .boolean) 1 := ⟨G568, G565, G120, by decide +kernel, by decide +kernel, by decide +kernel⟩
theorem G566 : Cond.instanceMethod ⟨"HookedCity$Tape", "cut", "(I)Z"⟩ ∈ GW := gw_i 566 (by decide +kernel) rfl
theorem G567 : Cond.selects "HookedCity$Tape" ⟨"HookedCity$Tape", "cut", "(I)Z"⟩ ⟨"HookedCity$Tape", "cut", "(I)Z"⟩ ∈ GW := gw_i 567 (by decide +kernel) rfl
theorem dX11_end_8 : decode cX11_end 8 = .ok (.ireturn, 1) := by decide +kernel
theorem dX12_end_0 : decode cX12_end 0 = .ok (.aload_n 0, 1) := by decide +kernel
theorem dX12_end_1 : decode cX12_end 1 = .ok (.iconst 0, 1) := by decide +kernel
theorem dX12_end_2 : decode cX12_end 2 = .ok (.putfield 1, 3) := by decide +kernel
theorem dX12_end_5 : decode cX12_end 5 = .ok (.iload_n 1, 1) := by decide +kernel
theorem dX12_end_6 : decode cX12_end 6 = .ok (.ifCond .lt 11, 3) := by decide +kernel
theorem dX12_end_17 : decode cX12_end 17 = .ok (.iconst 0, 1) := by decide +kernel
theorem dX12_end_18 : decode cX12_end 18 = .ok (.ireturn, 1) := by decide +kernel
theorem dX12_end_9 : decode cX12_end 9 = .ok (.iload_n 1, 1) := by decide +kernel
theorem dX12_end_10 : decode cX12_end 10 = .ok (.aload_n 0, 1) := by decide +kernel
theorem dX12_end_11 : decode cX12_end 11 = .ok (.getfield 11, 3) := by decide +kernel
theorem dX12_end_14 : decode cX12_end 14 = .ok (.if_icmp .le 5, 3) := by decide +kernel
theorem dX12_end_19 : decode cX12_end 19 = .ok (.aload_n 0, 1) := by decide +kernel
theorem dX12_end_20 : decode cX12_end 20 = .ok (.iload_n 1, 1) := by decide +kernel
theorem dX12_end_21 : decode cX12_end 21 = .ok (.putfield 11, 3) := by decide +kernel
theorem dX12_end_24 : decode cX12_end 24 = .ok (.iconst 1, 1) := by decide +kernel
theorem dX12_end_25 : decode cX12_end 25 = .ok (.ireturn, 1) := by decide +kernel
def cn46 : Nat → Int32 := (rngc 0 9 (0 : Int32) (fun _ => 0))
theorem dX9_clear_0 : decode cX9_clear 0 = .ok (.aload_n 0, 1) := by decide +kernel
theorem dX9_clear_1 : decode cX9_clear 1 = .ok (.iconst 0, 1) := by decide +kernel
theorem dX9_clear_2 : decode cX9_clear 2 = .ok (.putfield 40, 3) := by decide +kernel
theorem dX9_clear_5 : decode cX9_clear 5 = .ok (.aload_n 0, 1) := by decide +kernel
theorem dX9_clear_6 : decode cX9_clear 6 = .ok (.iconst 0, 1) := by decide +kernel
theorem dX9_clear_7 : decode cX9_clear 7 = .ok (.putfield 44, 3) := by decide +kernel
theorem dX9_clear_10 : decode cX9_clear 10 = .ok (.aload_n 0, 1) := by decide +kernel
theorem dX9_clear_11 : decode cX9_clear 11 = .ok (.iconst 0, 1) := by decide +kernel
theorem dX9_clear_12 : decode cX9_clear 12 = .ok (.putfield 50, 3) := by decide +kernel
theorem dX9_clear_15 : decode cX9_clear 15 = .ok (.aload_n 0, 1) := by decide +kernel
theorem dX9_clear_16 : decode cX9_clear 16 = .ok (.bipush 12, 2) := by decide +kernel
theorem dX9_clear_18 : decode cX9_clear 18 = .ok (.putfield 53, 3) := by decide +kernel
theorem dX9_clear_21 : decode cX9_clear 21 = .ok (.aload_n 0, 1) := by decide +kernel
theorem dX9_clear_22 : decode cX9_clear 22 = .ok (.iconst 1, 1) := by decide +kernel
theorem dX9_clear_23 : decode cX9_clear 23 = .ok (.putfield 56, 3) := by decide +kernel
theorem dX9_clear_26 : decode cX9_clear 26 = .ok (.aload_n 0, 1) := by decide +kernel
theorem dX9_clear_27 : decode cX9_clear 27 = .ok (.iconst 0, 1) := by decide +kernel
theorem dX9_clear_28 : decode cX9_clear 28 = .ok (.putfield 59, 3) := by decide +kernel
theorem dX9_clear_31 : decode cX9_clear 31 = .ok (.aload_n 0, 1) := by decide +kernel
theorem dX9_clear_32 : decode cX9_clear 32 = .ok (.iconst 0, 1) := by decide +kernel
theorem dX9_clear_33 : decode cX9_clear 33 = .ok (.putfield 63, 3) := by decide +kernel
theorem dX9_clear_36 : decode cX9_clear 36 = .ok (.aload_n 0, 1) := by decide +kernel
theorem dX9_clear_37 : decode cX9_clear 37 = .ok (.iconst 0, 1) := by decide +kernel
theorem dX9_clear_38 : decode cX9_clear 38 = .ok (.putfield 66, 3) := by decide +kernel
theorem dX9_clear_41 : decode cX9_clear 41 = .ok (.aload_n 0, 1) := by decide +kernel
theorem dX9_clear_42 : decode cX9_clear 42 = .ok (.getfield 25, 3) := by decide +kernel
theorem dX9_clear_45 : decode cX9_clear 45 = .ok (.iconst 0, 1) := by decide +kernel
theorem dX9_clear_46 : decode cX9_clear 46 = .ok (.invokestatic 69, 3) := by decide +kernel
theorem G581 : Cond.methodLink "HookedCity$Town" 69 ⟨"java/util/Arrays", "fill", "([II)V"⟩ ∈ GW := gw_i 581 (by decide +kernel) rfl
theorem V_HookedCity_Town_69 : VL "HookedCity$Town" 69 yJ7_fill_53178 cJ7_fill_53178 4 none 2 := ⟨G291, G581, G124, by decide +kernel, by decide +kernel, by decide +kernel⟩
theorem dX9_clear_49 : decode cX9_clear 49 = .ok (.aload_n 0, 1) := by decide +kernel
theorem dX9_clear_50 : decode cX9_clear 50 = .ok (.getfield 28, 3) := by decide +kernel
theorem dX9_clear_53 : decode cX9_clear 53 = .ok (.iconst (-1), 1) := by decide +kernel
theorem dX9_clear_54 : decode cX9_clear 54 = .ok (.invokestatic 69, 3) := by decide +kernel
theorem dX9_clear_57 : decode cX9_clear 57 = .ok (.aload_n 0, 1) := by decide +kernel
theorem dX9_clear_58 : decode cX9_clear 58 = .ok (.getfield 31, 3) := by decide +kernel
theorem dX9_clear_61 : decode cX9_clear 61 = .ok (.iconst (-1), 1) := by decide +kernel
theorem dX9_clear_62 : decode cX9_clear 62 = .ok (.invokestatic 69, 3) := by decide +kernel
theorem dX9_clear_65 : decode cX9_clear 65 = .ok (.return_, 1) := by decide +kernel
theorem dX8_step_0 : decode cX8_step 0 = .ok (.aload_n 0, 1) := by decide +kernel
theorem dX8_step_1 : decode cX8_step 1 = .ok (.getfield 22, 3) := by decide +kernel
theorem dX8_step_4 : decode cX8_step 4 = .ok (.aload_n 0, 1) := by decide +kernel
theorem dX8_step_5 : decode cX8_step 5 = .ok (.getfield 15, 3) := by decide +kernel
theorem dX8_step_8 : decode cX8_step 8 = .ok (.if_icmp .ge 44, 3) := by decide +kernel
theorem dX8_step_52 : decode cX8_step 52 = .ok (.aload_n 0, 1) := by decide +kernel
theorem dX8_step_53 : decode cX8_step 53 = .ok (.aload_n 0, 1) := by decide +kernel
theorem dX8_step_54 : decode cX8_step 54 = .ok (.getfield 22, 3) := by decide +kernel
theorem dX8_step_57 : decode cX8_step 57 = .ok (.putfield 25, 3) := by decide +kernel
theorem dX8_step_60 : decode cX8_step 60 = .ok (.aload_n 0, 1) := by decide +kernel
theorem dX8_step_61 : decode cX8_step 61 = .ok (.aconst_null, 1) := by decide +kernel
theorem dX8_step_62 : decode cX8_step 62 = .ok (.putfield 31, 3) := by decide +kernel
theorem dX8_step_65 : decode cX8_step 65 = .ok (.aload_n 0, 1) := by decide +kernel
theorem dX8_step_66 : decode cX8_step 66 = .ok (.getfield 15, 3) := by decide +kernel
theorem dX8_step_69 : decode cX8_step 69 = .ok (.aload_n 0, 1) := by decide +kernel
theorem dX8_step_70 : decode cX8_step 70 = .ok (.getfield 19, 3) := by decide +kernel
theorem dX8_step_73 : decode cX8_step 73 = .ok (.if_icmp .le 30, 3) := by decide +kernel
theorem dX8_step_103 : decode cX8_step 103 = .ok (.aload_n 0, 1) := by decide +kernel
theorem dX8_step_104 : decode cX8_step 104 = .ok (.getfield 22, 3) := by decide +kernel
theorem dX8_step_107 : decode cX8_step 107 = .ok (.aload_n 0, 1) := by decide +kernel
theorem dX8_step_108 : decode cX8_step 108 = .ok (.getfield 15, 3) := by decide +kernel
theorem dX8_step_111 : decode cX8_step 111 = .ok (.if_icmp .lt 11, 3) := by decide +kernel
theorem dX8_step_114 : decode cX8_step 114 = .ok (.aload_n 0, 1) := by decide +kernel
theorem dX8_step_115 : decode cX8_step 115 = .ok (.iconst 0, 1) := by decide +kernel
theorem dX8_step_116 : decode cX8_step 116 = .ok (.putfield 28, 3) := by decide +kernel
theorem dX8_step_119 : decode cX8_step 119 = .ok (.goto 85, 3) := by decide +kernel
theorem dX8_step_204 : decode cX8_step 204 = .ok (.return_, 1) := by decide +kernel
theorem dX8_open_0 : decode cX8_open 0 = .ok (.aload_n 0, 1) := by decide +kernel
theorem dX8_open_1 : decode cX8_open 1 = .ok (.iload_n 1, 1) := by decide +kernel
theorem dX8_open_2 : decode cX8_open 2 = .ok (.putfield 19, 3) := by decide +kernel
theorem dX8_open_5 : decode cX8_open 5 = .ok (.aload_n 0, 1) := by decide +kernel
theorem dX8_open_6 : decode cX8_open 6 = .ok (.iconst 0, 1) := by decide +kernel
theorem dX8_open_7 : decode cX8_open 7 = .ok (.putfield 22, 3) := by decide +kernel
theorem dX8_open_10 : decode cX8_open 10 = .ok (.aload_n 0, 1) := by decide +kernel
theorem dX8_open_11 : decode cX8_open 11 = .ok (.iconst 0, 1) := by decide +kernel
theorem dX8_open_12 : decode cX8_open 12 = .ok (.putfield 45, 3) := by decide +kernel
theorem dX8_open_15 : decode cX8_open 15 = .ok (.aload_n 0, 1) := by decide +kernel
theorem dX8_open_16 : decode cX8_open 16 = .ok (.iconst 0, 1) := by decide +kernel
theorem dX8_open_17 : decode cX8_open 17 = .ok (.putfield 48, 3) := by decide +kernel
theorem dX8_open_20 : decode cX8_open 20 = .ok (.aload_n 0, 1) := by decide +kernel
theorem dX8_open_21 : decode cX8_open 21 = .ok (.invokevirtual 55, 3) := by decide +kernel
theorem G589 : Cond.code ⟨"HookedCity$Tape", "step", "()V"⟩ prog_10_method_7_code 1 none ∈ GW := gw_i 589 (by decide +kernel) rfl
theorem G586 : Cond.methodLink "HookedCity$Tape" 55 ⟨"HookedCity$Tape", "step", "()V"⟩ ∈ GW := gw_i 586 (by decide +kernel) rfl
theorem V_HookedCity_Tape_55 : VL "HookedCity$Tape" 55 yX8_step cX8_step 1 none 0 := ⟨G589, G586, G120, by decide +kernel, by decide +kernel, by decide +kernel⟩
theorem G587 : Cond.instanceMethod ⟨"HookedCity$Tape", "step", "()V"⟩ ∈ GW := gw_i 587 (by decide +kernel) rfl
theorem G588 : Cond.selects "HookedCity$Tape" ⟨"HookedCity$Tape", "step", "()V"⟩ ⟨"HookedCity$Tape", "step", "()V"⟩ ∈ GW := gw_i 588 (by decide +kernel) rfl
theorem dX8_open_24 : decode cX8_open 24 = .ok (.return_, 1) := by decide +kernel
theorem dX8_atEnd_0 : decode cX8_atEnd 0 = .ok (.aload_n 0, 1) := by decide +kernel
theorem dX8_atEnd_1 : decode cX8_atEnd 1 = .ok (.getfield 28, 3) := by decide +kernel
theorem dX8_atEnd_4 : decode cX8_atEnd 4 = .ok (.ifCond .ne 7, 3) := by decide +kernel
theorem dX8_atEnd_7 : decode cX8_atEnd 7 = .ok (.iconst 1, 1) := by decide +kernel
theorem dX8_atEnd_8 : decode cX8_atEnd 8 = .ok (.goto 4, 3) := by decide +kernel
theorem dX8_atEnd_12 : decode cX8_atEnd 12 = .ok (.ireturn, 1) := by decide +kernel
theorem dX9_read_0 : decode cX9_read 0 = .ok (.aload_n 0, 1) := by decide +kernel
theorem dX9_read_1 : decode cX9_read 1 = .ok (.invokevirtual 81, 3) := by decide +kernel
theorem G580 : Cond.code ⟨"HookedCity$Town", "clear", "()V"⟩ prog_11_method_2_code 1 none ∈ GW := gw_i 580 (by decide +kernel) rfl
theorem G577 : Cond.methodLink "HookedCity$Town" 81 ⟨"HookedCity$Town", "clear", "()V"⟩ ∈ GW := gw_i 577 (by decide +kernel) rfl
theorem V_HookedCity_Town_81 : VL "HookedCity$Town" 81 yX9_clear cX9_clear 1 none 0 := ⟨G580, G577, G128, by decide +kernel, by decide +kernel, by decide +kernel⟩
theorem G579 : Cond.instanceMethod ⟨"HookedCity$Town", "clear", "()V"⟩ ∈ GW := gw_i 579 (by decide +kernel) rfl
theorem G1 : Cond.selects "HookedCity$Town" ⟨"HookedCity$Town", "clear", "()V"⟩ ⟨"HookedCity$Town", "clear", "()V"⟩ ∈ GW := gw_i 1 (by decide +kernel) rfl
theorem dX9_read_4 : decode cX9_read 4 = .ok (.aload_n 1, 1) := by decide +kernel
theorem dX9_read_5 : decode cX9_read 5 = .ok (.sipush 900, 3) := by decide +kernel
theorem dX9_read_8 : decode cX9_read 8 = .ok (.invokevirtual 84, 3) := by decide +kernel
theorem G585 : Cond.code ⟨"HookedCity$Tape", "open", "(I)V"⟩ prog_10_method_6_code 2 none ∈ GW := gw_i 585 (by decide +kernel) rfl
theorem G582 : Cond.methodLink "HookedCity$Town" 84 ⟨"HookedCity$Tape", "open", "(I)V"⟩ ∈ GW := gw_i 582 (by decide +kernel) rfl
theorem V_HookedCity_Town_84 : VL "HookedCity$Town" 84 yX8_open cX8_open 2 none 1 := ⟨G585, G582, G120, by decide +kernel, by decide +kernel, by decide +kernel⟩
theorem G583 : Cond.instanceMethod ⟨"HookedCity$Tape", "open", "(I)V"⟩ ∈ GW := gw_i 583 (by decide +kernel) rfl
theorem G584 : Cond.selects "HookedCity$Tape" ⟨"HookedCity$Tape", "open", "(I)V"⟩ ⟨"HookedCity$Tape", "open", "(I)V"⟩ ∈ GW := gw_i 584 (by decide +kernel) rfl
theorem dX9_read_11 : decode cX9_read 11 = .ok (.aload_n 0, 1) := by decide +kernel
theorem dX9_read_12 : decode cX9_read 12 = .ok (.iconst 0, 1) := by decide +kernel
theorem dX9_read_13 : decode cX9_read 13 = .ok (.putfield 47, 3) := by decide +kernel
theorem dX9_read_16 : decode cX9_read 16 = .ok (.aload_n 0, 1) := by decide +kernel
theorem dX9_read_17 : decode cX9_read 17 = .ok (.getfield 47, 3) := by decide +kernel
theorem dX9_read_20 : decode cX9_read 20 = .ok (.sipush 900, 3) := by decide +kernel
theorem dX9_read_23 : decode cX9_read 23 = .ok (.if_icmp .ge 42, 3) := by decide +kernel
theorem dX9_read_26 : decode cX9_read 26 = .ok (.aload_n 1, 1) := by decide +kernel
theorem dX9_read_27 : decode cX9_read 27 = .ok (.invokevirtual 90, 3) := by decide +kernel
theorem G698 : Cond.code ⟨"HookedCity$Tape", "atEnd", "()Z"⟩ prog_10_method_13_code 1 (some .boolean) ∈ GW := gw_i 698 (by decide +kernel) rfl
theorem G695 : Cond.methodLink "HookedCity$Town" 90 ⟨"HookedCity$Tape", "atEnd", "()Z"⟩ ∈ GW := gw_i 695 (by decide +kernel) rfl
theorem V_HookedCity_Town_90 : VL "HookedCity$Town" 90 yX8_atEnd cX8_atEnd 1 (some .boolean) 0 := ⟨G698, G695, G120, by decide +kernel, by decide +kernel, by decide +kernel⟩
theorem G696 : Cond.instanceMethod ⟨"HookedCity$Tape", "atEnd", "()Z"⟩ ∈ GW := gw_i 696 (by decide +kernel) rfl
theorem G697 : Cond.selects "HookedCity$Tape" ⟨"HookedCity$Tape", "atEnd", "()Z"⟩ ⟨"HookedCity$Tape", "atEnd", "()Z"⟩ ∈ GW := gw_i 697 (by decide +kernel) rfl
theorem dX9_read_30 : decode cX9_read 30 = .ok (.ifCond .ne 35, 3) := by decide +kernel
theorem dX9_read_65 : decode cX9_read 65 = .ok (.iconst 1, 1) := by decide +kernel
theorem dX9_read_66 : decode cX9_read 66 = .ok (.ireturn, 1) := by decide +kernel
theorem dX8_empty_0 : decode cX8_empty 0 = .ok (.aload_n 0, 1) := by decide +kernel
theorem dX8_empty_1 : decode cX8_empty 1 = .ok (.iconst 0, 1) := by decide +kernel
theorem dX8_empty_2 : decode cX8_empty 2 = .ok (.putfield 15, 3) := by decide +kernel
theorem dX8_empty_5 : decode cX8_empty 5 = .ok (.return_, 1) := by decide +kernel
def cn47 : Nat → Int32 := (va_cpy (fun _ => 0) (fun _ => 0) (Int32.toNatClampNeg (0 : Int32)) (Int32.toNatClampNeg (0 : Int32)) (Int32.toNatClampNeg (9 : Int32)))
def cn48 : Nat → Int32 := (va_cpy cn6 (fun _ => 0) (Int32.toNatClampNeg (0 : Int32)) (Int32.toNatClampNeg (0 : Int32)) (Int32.toNatClampNeg (9 : Int32)))
theorem dX7_begin_0 : decode cX7_begin 0 = .ok (.aload_n 1, 1) := by decide +kernel
theorem dX7_begin_1 : decode cX7_begin 1 = .ok (.getfield 37, 3) := by decide +kernel
theorem N373 : Cond.fieldLinkNest "HookedCity$State" 37 "HookedCity$Town" "strengths" "[I" "HookedCity" ∈ lw_tbl := List.mem_of_getElem? (i := 373) (by decide +kernel)
theorem dX7_begin_4 : decode cX7_begin 4 = .ok (.iconst 0, 1) := by decide +kernel
theorem dX7_begin_5 : decode cX7_begin 5 = .ok (.aload_n 0, 1) := by decide +kernel
theorem dX7_begin_6 : decode cX7_begin 6 = .ok (.getfield 9, 3) := by decide +kernel
theorem dX7_begin_9 : decode cX7_begin 9 = .ok (.iconst 0, 1) := by decide +kernel
theorem dX7_begin_10 : decode cX7_begin 10 = .ok (.bipush 9, 2) := by decide +kernel
theorem dX7_begin_12 : decode cX7_begin 12 = .ok (.invokestatic 42, 3) := by decide +kernel
theorem G794 : Cond.methodLink "HookedCity$State" 42 ⟨"java/lang/System", "arraycopy", "(Ljava/lang/Object;ILjava/lang/Object;II)V"⟩ ∈ GW := gw_i 794 (by decide +kernel) rfl
theorem G796 : Cond.native ⟨"java/lang/System", "arraycopy", "(Ljava/lang/Object;ILjava/lang/Object;II)V"⟩ ∈ GW := gw_i 796 (by decide +kernel) rfl
theorem G795 : Cond.static ⟨"java/lang/System", "arraycopy", "(Ljava/lang/Object;ILjava/lang/Object;II)V"⟩ ∈ GW := gw_i 795 (by decide +kernel) rfl
theorem G140 : Cond.initialized "java/lang/System" ∈ GW := gw_i 140 (by decide +kernel) rfl
theorem dX7_begin_15 : decode cX7_begin 15 = .ok (.aload_n 1, 1) := by decide +kernel
theorem dX7_begin_16 : decode cX7_begin 16 = .ok (.getfield 48, 3) := by decide +kernel
theorem N380 : Cond.fieldLinkNest "HookedCity$State" 48 "HookedCity$Town" "into" "[I" "HookedCity" ∈ lw_tbl := List.mem_of_getElem? (i := 380) (by decide +kernel)
theorem dX7_begin_19 : decode cX7_begin 19 = .ok (.iconst 0, 1) := by decide +kernel
theorem dX7_begin_20 : decode cX7_begin 20 = .ok (.aload_n 0, 1) := by decide +kernel
theorem dX7_begin_21 : decode cX7_begin 21 = .ok (.getfield 15, 3) := by decide +kernel
theorem dX7_begin_24 : decode cX7_begin 24 = .ok (.iconst 0, 1) := by decide +kernel
theorem dX7_begin_25 : decode cX7_begin 25 = .ok (.bipush 9, 2) := by decide +kernel
theorem dX7_begin_27 : decode cX7_begin 27 = .ok (.invokestatic 42, 3) := by decide +kernel
theorem dX7_begin_30 : decode cX7_begin 30 = .ok (.aload_n 1, 1) := by decide +kernel
theorem dX7_begin_31 : decode cX7_begin 31 = .ok (.getfield 49, 3) := by decide +kernel
theorem N382 : Cond.fieldLinkNest "HookedCity$State" 49 "HookedCity$Town" "from" "[I" "HookedCity" ∈ lw_tbl := List.mem_of_getElem? (i := 382) (by decide +kernel)
theorem dX7_begin_34 : decode cX7_begin 34 = .ok (.iconst 0, 1) := by decide +kernel
theorem dX7_begin_35 : decode cX7_begin 35 = .ok (.aload_n 0, 1) := by decide +kernel
theorem dX7_begin_36 : decode cX7_begin 36 = .ok (.getfield 18, 3) := by decide +kernel
theorem dX7_begin_39 : decode cX7_begin 39 = .ok (.iconst 0, 1) := by decide +kernel
theorem dX7_begin_40 : decode cX7_begin 40 = .ok (.bipush 9, 2) := by decide +kernel
theorem dX7_begin_42 : decode cX7_begin 42 = .ok (.invokestatic 42, 3) := by decide +kernel
theorem dX7_begin_45 : decode cX7_begin 45 = .ok (.aload_n 0, 1) := by decide +kernel
theorem dX7_begin_46 : decode cX7_begin 46 = .ok (.getfield 21, 3) := by decide +kernel
theorem dX7_begin_49 : decode cX7_begin 49 = .ok (.iconst 0, 1) := by decide +kernel
theorem dX7_begin_50 : decode cX7_begin 50 = .ok (.invokestatic 50, 3) := by decide +kernel
theorem G797 : Cond.methodLink "HookedCity$State" 50 ⟨"java/util/Arrays", "fill", "([II)V"⟩ ∈ GW := gw_i 797 (by decide +kernel) rfl
theorem V_HookedCity_State_50 : VL "HookedCity$State" 50 yJ7_fill_53178 cJ7_fill_53178 4 none 2 := ⟨G291, G797, G124, by decide +kernel, by decide +kernel, by decide +kernel⟩
theorem dX7_begin_53 : decode cX7_begin 53 = .ok (.aload_n 0, 1) := by decide +kernel
theorem dX7_begin_54 : decode cX7_begin 54 = .ok (.iconst 0, 1) := by decide +kernel
theorem dX7_begin_55 : decode cX7_begin 55 = .ok (.putfield 24, 3) := by decide +kernel
theorem dX7_begin_58 : decode cX7_begin 58 = .ok (.aload_n 0, 1) := by decide +kernel
theorem dX7_begin_59 : decode cX7_begin 59 = .ok (.aload_n 1, 1) := by decide +kernel
theorem dX7_begin_60 : decode cX7_begin 60 = .ok (.getfield 56, 3) := by decide +kernel
theorem N399 : Cond.fieldLinkNest "HookedCity$State" 56 "HookedCity$Town" "spare" "I" "HookedCity" ∈ lw_tbl := List.mem_of_getElem? (i := 399) (by decide +kernel)
theorem dX7_begin_63 : decode cX7_begin 63 = .ok (.putfield 28, 3) := by decide +kernel
theorem dX7_begin_66 : decode cX7_begin 66 = .ok (.aload_n 0, 1) := by decide +kernel
theorem dX7_begin_67 : decode cX7_begin 67 = .ok (.iconst 0, 1) := by decide +kernel
theorem dX7_begin_68 : decode cX7_begin 68 = .ok (.putfield 31, 3) := by decide +kernel
theorem dX7_begin_71 : decode cX7_begin 71 = .ok (.aload_n 0, 1) := by decide +kernel
theorem dX7_begin_72 : decode cX7_begin 72 = .ok (.iconst 0, 1) := by decide +kernel
theorem dX7_begin_73 : decode cX7_begin 73 = .ok (.putfield 34, 3) := by decide +kernel
theorem dX7_begin_76 : decode cX7_begin 76 = .ok (.return_, 1) := by decide +kernel
theorem dX5_clear_0 : decode cX5_clear 0 = .ok (.aload_n 0, 1) := by decide +kernel
theorem dX5_clear_1 : decode cX5_clear 1 = .ok (.iconst 0, 1) := by decide +kernel
theorem dX5_clear_2 : decode cX5_clear 2 = .ok (.putfield 27, 3) := by decide +kernel
theorem dX5_clear_5 : decode cX5_clear 5 = .ok (.aload_n 0, 1) := by decide +kernel
theorem dX5_clear_6 : decode cX5_clear 6 = .ok (.iconst 0, 1) := by decide +kernel
theorem dX5_clear_7 : decode cX5_clear 7 = .ok (.putfield 31, 3) := by decide +kernel
theorem dX5_clear_10 : decode cX5_clear 10 = .ok (.return_, 1) := by decide +kernel
theorem dX11_city_0 : decode cX11_city 0 = .ok (.aload_n 0, 1) := by decide +kernel
theorem dX11_city_1 : decode cX11_city 1 = .ok (.getfield 78, 3) := by decide +kernel
theorem dX11_city_4 : decode cX11_city 4 = .ok (.aload_n 0, 1) := by decide +kernel
theorem dX11_city_5 : decode cX11_city 5 = .ok (.getfield 10, 3) := by decide +kernel
theorem dX11_city_8 : decode cX11_city 8 = .ok (.invokevirtual 111, 3) := by decide +kernel
theorem G576 : Cond.code ⟨"HookedCity$Town", "read", "(LHookedCity$Tape;)Z"⟩ prog_11_method_4_code 2 (some .boolean) ∈ GW := gw_i 576 (by decide +kernel) rfl
theorem G573 : Cond.methodLink "HookedCity" 111 ⟨"HookedCity$Town", "read", "(LHookedCity$Tape;)Z"⟩ ∈ GW := gw_i 573 (by decide +kernel) rfl
theorem V_HookedCity_111 : VL "HookedCity" 111 yX9_read cX9_read 2 (some .boolean) 1 := ⟨G576, G573, G128, by decide +kernel, by decide +kernel, by decide +kernel⟩
theorem G574 : Cond.instanceMethod ⟨"HookedCity$Town", "read", "(LHookedCity$Tape;)Z"⟩ ∈ GW := gw_i 574 (by decide +kernel) rfl
theorem G575 : Cond.selects "HookedCity$Town" ⟨"HookedCity$Town", "read", "(LHookedCity$Tape;)Z"⟩ ⟨"HookedCity$Town", "read", "(LHookedCity$Tape;)Z"⟩ ∈ GW := gw_i 575 (by decide +kernel) rfl
theorem dX11_city_11 : decode cX11_city 11 = .ok (.istore_n 1, 1) := by decide +kernel
theorem dX11_city_12 : decode cX11_city 12 = .ok (.aload_n 0, 1) := by decide +kernel
theorem dX11_city_13 : decode cX11_city 13 = .ok (.getfield 10, 3) := by decide +kernel
theorem dX11_city_16 : decode cX11_city 16 = .ok (.invokevirtual 115, 3) := by decide +kernel
theorem G789 : Cond.code ⟨"HookedCity$Tape", "empty", "()V"⟩ prog_10_method_5_code 1 none ∈ GW := gw_i 789 (by decide +kernel) rfl
theorem G786 : Cond.methodLink "HookedCity" 115 ⟨"HookedCity$Tape", "empty", "()V"⟩ ∈ GW := gw_i 786 (by decide +kernel) rfl
theorem V_HookedCity_115 : VL "HookedCity" 115 yX8_empty cX8_empty 1 none 0 := ⟨G789, G786, G120, by decide +kernel, by decide +kernel, by decide +kernel⟩
theorem G787 : Cond.instanceMethod ⟨"HookedCity$Tape", "empty", "()V"⟩ ∈ GW := gw_i 787 (by decide +kernel) rfl
theorem G788 : Cond.selects "HookedCity$Tape" ⟨"HookedCity$Tape", "empty", "()V"⟩ ⟨"HookedCity$Tape", "empty", "()V"⟩ ∈ GW := gw_i 788 (by decide +kernel) rfl
theorem dX11_city_19 : decode cX11_city 19 = .ok (.iload_n 1, 1) := by decide +kernel
theorem dX11_city_20 : decode cX11_city 20 = .ok (.ifCond .ne 13, 3) := by decide +kernel
theorem dX11_city_33 : decode cX11_city 33 = .ok (.aload_n 0, 1) := by decide +kernel
theorem dX11_city_34 : decode cX11_city 34 = .ok (.getfield 74, 3) := by decide +kernel
theorem dX11_city_37 : decode cX11_city 37 = .ok (.astore_n 2, 1) := by decide +kernel
theorem dX11_city_38 : decode cX11_city 38 = .ok (.aload_n 0, 1) := by decide +kernel
theorem dX11_city_39 : decode cX11_city 39 = .ok (.aload_n 0, 1) := by decide +kernel
theorem dX11_city_40 : decode cX11_city 40 = .ok (.getfield 78, 3) := by decide +kernel
theorem dX11_city_43 : decode cX11_city 43 = .ok (.putfield 74, 3) := by decide +kernel
theorem dX11_city_46 : decode cX11_city 46 = .ok (.aload_n 0, 1) := by decide +kernel
theorem dX11_city_47 : decode cX11_city 47 = .ok (.aload_n 2, 1) := by decide +kernel
theorem dX11_city_48 : decode cX11_city 48 = .ok (.putfield 78, 3) := by decide +kernel
theorem dX11_city_51 : decode cX11_city 51 = .ok (.aload_n 0, 1) := by decide +kernel
theorem dX11_city_52 : decode cX11_city 52 = .ok (.getfield 19, 3) := by decide +kernel
theorem dX11_city_55 : decode cX11_city 55 = .ok (.aload_n 0, 1) := by decide +kernel
theorem dX11_city_56 : decode cX11_city 56 = .ok (.getfield 74, 3) := by decide +kernel
theorem dX11_city_59 : decode cX11_city 59 = .ok (.invokevirtual 121, 3) := by decide +kernel
theorem G793 : Cond.code ⟨"HookedCity$State", "begin", "(LHookedCity$Town;)V"⟩ prog_9_method_2_code 2 none ∈ GW := gw_i 793 (by decide +kernel) rfl
theorem G790 : Cond.methodLink "HookedCity" 121 ⟨"HookedCity$State", "begin", "(LHookedCity$Town;)V"⟩ ∈ GW := gw_i 790 (by decide +kernel) rfl
theorem V_HookedCity_121 : VL "HookedCity" 121 yX7_begin cX7_begin 2 none 1 := ⟨G793, G790, G121, by decide +kernel, by decide +kernel, by decide +kernel⟩
theorem G791 : Cond.instanceMethod ⟨"HookedCity$State", "begin", "(LHookedCity$Town;)V"⟩ ∈ GW := gw_i 791 (by decide +kernel) rfl
theorem G792 : Cond.selects "HookedCity$State" ⟨"HookedCity$State", "begin", "(LHookedCity$Town;)V"⟩ ⟨"HookedCity$State", "begin", "(LHookedCity$Town;)V"⟩ ∈ GW := gw_i 792 (by decide +kernel) rfl
theorem dX11_city_62 : decode cX11_city 62 = .ok (.aload_n 0, 1) := by decide +kernel
theorem dX11_city_63 : decode cX11_city 63 = .ok (.getfield 84, 3) := by decide +kernel
theorem dX11_city_66 : decode cX11_city 66 = .ok (.invokevirtual 125, 3) := by decide +kernel
theorem G801 : Cond.code ⟨"HookedCity$Sentence", "clear", "()V"⟩ prog_7_method_2_code 1 none ∈ GW := gw_i 801 (by decide +kernel) rfl
theorem G798 : Cond.methodLink "HookedCity" 125 ⟨"HookedCity$Sentence", "clear", "()V"⟩ ∈ GW := gw_i 798 (by decide +kernel) rfl
theorem V_HookedCity_125 : VL "HookedCity" 125 yX5_clear cX5_clear 1 none 0 := ⟨G801, G798, G129, by decide +kernel, by decide +kernel, by decide +kernel⟩
theorem G799 : Cond.instanceMethod ⟨"HookedCity$Sentence", "clear", "()V"⟩ ∈ GW := gw_i 799 (by decide +kernel) rfl
theorem G800 : Cond.selects "HookedCity$Sentence" ⟨"HookedCity$Sentence", "clear", "()V"⟩ ⟨"HookedCity$Sentence", "clear", "()V"⟩ ∈ GW := gw_i 800 (by decide +kernel) rfl
theorem dX11_city_69 : decode cX11_city 69 = .ok (.aload_n 0, 1) := by decide +kernel
theorem dX11_city_70 : decode cX11_city 70 = .ok (.iconst 0, 1) := by decide +kernel
theorem dX11_city_71 : decode cX11_city 71 = .ok (.putfield 91, 3) := by decide +kernel
theorem dX11_city_74 : decode cX11_city 74 = .ok (.aload_n 0, 1) := by decide +kernel
theorem dX11_city_75 : decode cX11_city 75 = .ok (.iconst 0, 1) := by decide +kernel
theorem dX11_city_76 : decode cX11_city 76 = .ok (.putfield 98, 3) := by decide +kernel
theorem dX11_city_79 : decode cX11_city 79 = .ok (.aload_n 0, 1) := by decide +kernel
theorem dX11_city_80 : decode cX11_city 80 = .ok (.getfield 74, 3) := by decide +kernel
theorem dX11_city_83 : decode cX11_city 83 = .ok (.getfield 128, 3) := by decide +kernel
theorem N397 : Cond.fieldLinkNest "HookedCity" 128 "HookedCity$Town" "lines" "I" "HookedCity" ∈ lw_tbl := List.mem_of_getElem? (i := 397) (by decide +kernel)
theorem dX11_city_86 : decode cX11_city 86 = .ok (.ireturn, 1) := by decide +kernel
theorem dX12_take_0 : decode cX12_take 0 = .ok (.aload_n 0, 1) := by decide +kernel
theorem dX12_take_1 : decode cX12_take 1 = .ok (.getfield 11, 3) := by decide +kernel
theorem dX12_take_4 : decode cX12_take 4 = .ok (.istore_n 1, 1) := by decide +kernel
theorem dX12_take_5 : decode cX12_take 5 = .ok (.aload_n 0, 1) := by decide +kernel
theorem dX12_take_6 : decode cX12_take 6 = .ok (.iconst 0, 1) := by decide +kernel
theorem dX12_take_7 : decode cX12_take 7 = .ok (.putfield 11, 3) := by decide +kernel
theorem dX12_take_10 : decode cX12_take 10 = .ok (.iload_n 1, 1) := by decide +kernel
theorem dX12_take_11 : decode cX12_take 11 = .ok (.ireturn, 1) := by decide +kernel
theorem dX12_go_0 : decode cX12_go 0 = .ok (.aload_n 0, 1) := by decide +kernel
theorem dX12_go_1 : decode cX12_go 1 = .ok (.getfield 21, 3) := by decide +kernel
theorem G1472 : Cond.fieldLink "HookedCityModel" 21 "HookedCityModel" "to" "I" ∈ GW := gw_i 1472 (by decide +kernel) rfl
theorem dX12_go_4 : decode cX12_go 4 = .ok (.aload_n 0, 1) := by decide +kernel
theorem dX12_go_5 : decode cX12_go 5 = .ok (.getfield 18, 3) := by decide +kernel
theorem G1470 : Cond.fieldLink "HookedCityModel" 18 "HookedCityModel" "size" "I" ∈ GW := gw_i 1470 (by decide +kernel) rfl
theorem dX12_go_8 : decode cX12_go 8 = .ok (.if_icmp .ge 44, 3) := by decide +kernel
theorem dX12_go_52 : decode cX12_go 52 = .ok (.aload_n 0, 1) := by decide +kernel
theorem dX12_go_53 : decode cX12_go 53 = .ok (.aload_n 0, 1) := by decide +kernel
theorem dX12_go_54 : decode cX12_go 54 = .ok (.getfield 21, 3) := by decide +kernel
theorem dX12_go_57 : decode cX12_go 57 = .ok (.putfield 24, 3) := by decide +kernel
theorem G1473 : Cond.fieldLink "HookedCityModel" 24 "HookedCityModel" "from" "I" ∈ GW := gw_i 1473 (by decide +kernel) rfl
theorem dX12_go_60 : decode cX12_go 60 = .ok (.aload_n 0, 1) := by decide +kernel
theorem dX12_go_61 : decode cX12_go 61 = .ok (.getfield 18, 3) := by decide +kernel
theorem dX12_go_64 : decode cX12_go 64 = .ok (.aload_n 0, 1) := by decide +kernel
theorem dX12_go_65 : decode cX12_go 65 = .ok (.getfield 27, 3) := by decide +kernel
theorem G1471 : Cond.fieldLink "HookedCityModel" 27 "HookedCityModel" "limit" "I" ∈ GW := gw_i 1471 (by decide +kernel) rfl
theorem dX12_go_68 : decode cX12_go 68 = .ok (.if_icmp .le 28, 3) := by decide +kernel
theorem dX12_go_96 : decode cX12_go 96 = .ok (.aload_n 0, 1) := by decide +kernel
theorem dX12_go_97 : decode cX12_go 97 = .ok (.getfield 21, 3) := by decide +kernel
theorem dX12_go_100 : decode cX12_go 100 = .ok (.aload_n 0, 1) := by decide +kernel
theorem dX12_go_101 : decode cX12_go 101 = .ok (.getfield 18, 3) := by decide +kernel
theorem dX12_go_104 : decode cX12_go 104 = .ok (.if_icmp .lt 9, 3) := by decide +kernel
theorem dX12_go_107 : decode cX12_go 107 = .ok (.aload_n 0, 1) := by decide +kernel
theorem dX12_go_108 : decode cX12_go 108 = .ok (.iconst 0, 1) := by decide +kernel
theorem dX12_go_109 : decode cX12_go 109 = .ok (.putfield 30, 3) := by decide +kernel
theorem G1474 : Cond.fieldLink "HookedCityModel" 30 "HookedCityModel" "kind" "I" ∈ GW := gw_i 1474 (by decide +kernel) rfl
theorem dX12_go_112 : decode cX12_go 112 = .ok (.return_, 1) := by decide +kernel
theorem dX12_begin_0 : decode cX12_begin 0 = .ok (.aload_n 0, 1) := by decide +kernel
theorem dX12_begin_1 : decode cX12_begin 1 = .ok (.iconst 0, 1) := by decide +kernel
theorem dX12_begin_2 : decode cX12_begin 2 = .ok (.putfield 1, 3) := by decide +kernel
theorem dX12_begin_5 : decode cX12_begin 5 = .ok (.aload_n 0, 1) := by decide +kernel
theorem dX12_begin_6 : decode cX12_begin 6 = .ok (.aload_n 0, 1) := by decide +kernel
theorem dX12_begin_7 : decode cX12_begin 7 = .ok (.invokevirtual 89, 3) := by decide +kernel
theorem G1630 : Cond.code ⟨"HookedCityModel", "take", "()I"⟩ prog_14_method_6_code 2 (some .int) ∈ GW := gw_i 1630 (by decide +kernel) rfl
theorem G1627 : Cond.methodLink "HookedCityModel" 89 ⟨"HookedCityModel", "take", "()I"⟩ ∈ GW := gw_i 1627 (by decide +kernel) rfl
theorem V_HookedCityModel_89 : VL "HookedCityModel" 89 yX12_take cX12_take 2 (some .int) 0 := ⟨G1630, G1627, G131, by decide +kernel, by decide +kernel, by decide +kernel⟩
theorem G1629 : Cond.instanceMethod ⟨"HookedCityModel", "take", "()I"⟩ ∈ GW := gw_i 1629 (by decide +kernel) rfl
theorem G48 : Cond.selects "HookedCityModel" ⟨"HookedCityModel", "take", "()I"⟩ ⟨"HookedCityModel", "take", "()I"⟩ ∈ GW := gw_i 48 (by decide +kernel) rfl
theorem dX12_begin_10 : decode cX12_begin 10 = .ok (.putfield 18, 3) := by decide +kernel
theorem dX12_begin_13 : decode cX12_begin 13 = .ok (.aload_n 0, 1) := by decide +kernel
theorem dX12_begin_14 : decode cX12_begin 14 = .ok (.iload_n 1, 1) := by decide +kernel
theorem dX12_begin_15 : decode cX12_begin 15 = .ok (.putfield 27, 3) := by decide +kernel
theorem dX12_begin_18 : decode cX12_begin 18 = .ok (.aload_n 0, 1) := by decide +kernel
theorem dX12_begin_19 : decode cX12_begin 19 = .ok (.iconst 0, 1) := by decide +kernel
theorem dX12_begin_20 : decode cX12_begin 20 = .ok (.putfield 66, 3) := by decide +kernel
theorem G1477 : Cond.fieldLink "HookedCityModel" 66 "HookedCityModel" "fault" "I" ∈ GW := gw_i 1477 (by decide +kernel) rfl
theorem dX12_begin_23 : decode cX12_begin 23 = .ok (.aload_n 0, 1) := by decide +kernel
theorem dX12_begin_24 : decode cX12_begin 24 = .ok (.iconst 0, 1) := by decide +kernel
theorem dX12_begin_25 : decode cX12_begin 25 = .ok (.putfield 21, 3) := by decide +kernel
theorem dX12_begin_28 : decode cX12_begin 28 = .ok (.aload_n 0, 1) := by decide +kernel
theorem dX12_begin_29 : decode cX12_begin 29 = .ok (.invokevirtual 82, 3) := by decide +kernel
theorem G1634 : Cond.code ⟨"HookedCityModel", "go", "()V"⟩ prog_14_method_16_code 5 none ∈ GW := gw_i 1634 (by decide +kernel) rfl
theorem G1631 : Cond.methodLink "HookedCityModel" 82 ⟨"HookedCityModel", "go", "()V"⟩ ∈ GW := gw_i 1631 (by decide +kernel) rfl
theorem V_HookedCityModel_82 : VL "HookedCityModel" 82 yX12_go cX12_go 5 none 0 := ⟨G1634, G1631, G131, by decide +kernel, by decide +kernel, by decide +kernel⟩
theorem G1633 : Cond.instanceMethod ⟨"HookedCityModel", "go", "()V"⟩ ∈ GW := gw_i 1633 (by decide +kernel) rfl
theorem G49 : Cond.selects "HookedCityModel" ⟨"HookedCityModel", "go", "()V"⟩ ⟨"HookedCityModel", "go", "()V"⟩ ∈ GW := gw_i 49 (by decide +kernel) rfl
theorem dX12_begin_32 : decode cX12_begin 32 = .ok (.return_, 1) := by decide +kernel
def cn49 : Nat → Int32 := (rngc 0 0 (0 : Int32) cn13)
def cn50 : Nat → Int32 := (rngc 0 53 (0 : Int32) cn13)
def cn51 : Nat → Int32 := (rngc 0 0 (0 : Int32) cn9)
def cn52 : Nat → Int32 := (rngc 0 3 (0 : Int32) cn9)
def cn53 : Nat → Int32 := (rngc 32 32 (-1 : Int32) cn50)
def cn54 : Nat → Int32 := (rngc 32 41 (-1 : Int32) cn50)
def cn55 : Nat → Int32 := (upd cn54 (Int32.toNatClampNeg (3 : Int32)) (12 : Int32))
def cn56 : Nat → Int32 := (upd cn55 (Int32.toNatClampNeg (4 : Int32)) (1 : Int32))
def cn57 : Nat → Int32 := (shc 0 0 0 0 cn56 cn45)
def cn58 : Nat → Int32 := (shc 0 53 0 0 cn56 cn45)
def cn59 : Nat → Int64 := (shc 0 0 0 0 (fun _ => 0) (fun _ => 0))
def cn60 : Nat → Int64 := (shc 0 12 0 0 (fun _ => 0) (fun _ => 0))
def cn61 : Nat → Int32 := (rngc 53 53 (0 : Int32) cn58)
def cn62 : Nat → Int32 := (rngc 53 329 (0 : Int32) cn58)
def cn63 : Nat → Int32 := (upd cn62 (Int32.toNatClampNeg (54 : Int32)) (0 : Int32))
def cn64 : Nat → Int32 := (upd cn63 (Int32.toNatClampNeg (57 : Int32)) (-1 : Int32))
def cn65 : Nat → Int32 := (upd cn64 (Int32.toNatClampNeg (66 : Int32)) (-1 : Int32))
def cn66 : Nat → Int32 := (upd cn65 (Int32.toNatClampNeg (75 : Int32)) (0 : Int32))
def cn67 : Nat → Int32 := (upd cn66 (Int32.toNatClampNeg (58 : Int32)) (-1 : Int32))
def cn68 : Nat → Int32 := (upd cn67 (Int32.toNatClampNeg (67 : Int32)) (-1 : Int32))
def cn69 : Nat → Int32 := (upd cn68 (Int32.toNatClampNeg (76 : Int32)) (0 : Int32))
def cn70 : Nat → Int32 := (upd cn69 (Int32.toNatClampNeg (59 : Int32)) (-1 : Int32))
def cn71 : Nat → Int32 := (upd cn70 (Int32.toNatClampNeg (68 : Int32)) (-1 : Int32))
def cn72 : Nat → Int32 := (upd cn71 (Int32.toNatClampNeg (77 : Int32)) (0 : Int32))
def cn73 : Nat → Int32 := (upd cn72 (Int32.toNatClampNeg (60 : Int32)) (-1 : Int32))
def cn74 : Nat → Int32 := (upd cn73 (Int32.toNatClampNeg (69 : Int32)) (-1 : Int32))
def cn75 : Nat → Int32 := (upd cn74 (Int32.toNatClampNeg (78 : Int32)) (0 : Int32))
def cn76 : Nat → Int32 := (upd cn75 (Int32.toNatClampNeg (61 : Int32)) (-1 : Int32))
def cn77 : Nat → Int32 := (upd cn76 (Int32.toNatClampNeg (70 : Int32)) (-1 : Int32))
def cn78 : Nat → Int32 := (upd cn77 (Int32.toNatClampNeg (79 : Int32)) (0 : Int32))
def cn79 : Nat → Int32 := (upd cn78 (Int32.toNatClampNeg (62 : Int32)) (-1 : Int32))
def cn80 : Nat → Int32 := (upd cn79 (Int32.toNatClampNeg (71 : Int32)) (-1 : Int32))
def cn81 : Nat → Int32 := (upd cn80 (Int32.toNatClampNeg (80 : Int32)) (0 : Int32))
def cn82 : Nat → Int32 := (upd cn81 (Int32.toNatClampNeg (63 : Int32)) (-1 : Int32))
def cn83 : Nat → Int32 := (upd cn82 (Int32.toNatClampNeg (72 : Int32)) (-1 : Int32))
def cn84 : Nat → Int32 := (upd cn83 (Int32.toNatClampNeg (81 : Int32)) (0 : Int32))
def cn85 : Nat → Int32 := (upd cn84 (Int32.toNatClampNeg (64 : Int32)) (-1 : Int32))
def cn86 : Nat → Int32 := (upd cn85 (Int32.toNatClampNeg (73 : Int32)) (-1 : Int32))
def cn87 : Nat → Int32 := (upd cn86 (Int32.toNatClampNeg (82 : Int32)) (0 : Int32))
def cn88 : Nat → Int32 := (upd cn87 (Int32.toNatClampNeg (65 : Int32)) (-1 : Int32))
def cn89 : Nat → Int32 := (upd cn88 (Int32.toNatClampNeg (74 : Int32)) (-1 : Int32))
def cn90 : Nat → Int32 := (upd cn89 (Int32.toNatClampNeg (83 : Int32)) (0 : Int32))
theorem dX12_city_0 : decode cX12_city 0 = .ok (.aload_n 0, 1) := by decide +kernel
theorem dX12_city_1 : decode cX12_city 1 = .ok (.sipush 900, 3) := by decide +kernel
theorem dX12_city_4 : decode cX12_city 4 = .ok (.invokevirtual 224, 3) := by decide +kernel
theorem G1626 : Cond.code ⟨"HookedCityModel", "begin", "(I)V"⟩ prog_14_method_25_code 2 none ∈ GW := gw_i 1626 (by decide +kernel) rfl
theorem G1623 : Cond.methodLink "HookedCityModel" 224 ⟨"HookedCityModel", "begin", "(I)V"⟩ ∈ GW := gw_i 1623 (by decide +kernel) rfl
theorem V_HookedCityModel_224 : VL "HookedCityModel" 224 yX12_begin cX12_begin 2 none 1 := ⟨G1626, G1623, G131, by decide +kernel, by decide +kernel, by decide +kernel⟩
theorem G1625 : Cond.instanceMethod ⟨"HookedCityModel", "begin", "(I)V"⟩ ∈ GW := gw_i 1625 (by decide +kernel) rfl
theorem G47 : Cond.selects "HookedCityModel" ⟨"HookedCityModel", "begin", "(I)V"⟩ ⟨"HookedCityModel", "begin", "(I)V"⟩ ∈ GW := gw_i 47 (by decide +kernel) rfl
theorem dX12_city_7 : decode cX12_city 7 = .ok (.aload_n 0, 1) := by decide +kernel
theorem dX12_city_8 : decode cX12_city 8 = .ok (.invokevirtual 169, 3) := by decide +kernel
theorem dX12_city_11 : decode cX12_city 11 = .ok (.iconst 0, 1) := by decide +kernel
theorem dX12_city_12 : decode cX12_city 12 = .ok (.istore_n 1, 1) := by decide +kernel
theorem dX12_city_13 : decode cX12_city 13 = .ok (.aload_n 0, 1) := by decide +kernel
theorem dX12_city_14 : decode cX12_city 14 = .ok (.getfield 30, 3) := by decide +kernel
theorem dX12_city_17 : decode cX12_city 17 = .ok (.ifCond .eq 30, 3) := by decide +kernel
theorem dX12_city_47 : decode cX12_city 47 = .ok (.iconst 0, 1) := by decide +kernel
theorem dX12_city_48 : decode cX12_city 48 = .ok (.istore_n 2, 1) := by decide +kernel
theorem dX12_city_49 : decode cX12_city 49 = .ok (.iload_n 2, 1) := by decide +kernel
theorem dX12_city_50 : decode cX12_city 50 = .ok (.bipush 53, 2) := by decide +kernel
theorem dX12_city_52 : decode cX12_city 52 = .ok (.if_icmp .ge 21, 3) := by decide +kernel
theorem dX12_city_73 : decode cX12_city 73 = .ok (.iconst 0, 1) := by decide +kernel
theorem dX12_city_74 : decode cX12_city 74 = .ok (.istore_n 2, 1) := by decide +kernel
theorem dX12_city_75 : decode cX12_city 75 = .ok (.iload_n 2, 1) := by decide +kernel
theorem dX12_city_76 : decode cX12_city 76 = .ok (.bipush 12, 2) := by decide +kernel
theorem dX12_city_78 : decode cX12_city 78 = .ok (.if_icmp .ge 21, 3) := by decide +kernel
theorem dX12_city_99 : decode cX12_city 99 = .ok (.aload_n 0, 1) := by decide +kernel
theorem dX12_city_100 : decode cX12_city 100 = .ok (.invokevirtual 172, 3) := by decide +kernel
theorem dX12_city_103 : decode cX12_city 103 = .ok (.aload_n 0, 1) := by decide +kernel
theorem dX12_city_104 : decode cX12_city 104 = .ok (.iconst 0, 1) := by decide +kernel
theorem dX12_city_105 : decode cX12_city 105 = .ok (.putfield 233, 3) := by decide +kernel
theorem G1491 : Cond.fieldLink "HookedCityModel" 233 "HookedCityModel" "snapMany" "I" ∈ GW := gw_i 1491 (by decide +kernel) rfl
theorem dX12_city_108 : decode cX12_city 108 = .ok (.aload_n 0, 1) := by decide +kernel
theorem dX12_city_109 : decode cX12_city 109 = .ok (.iconst 0, 1) := by decide +kernel
theorem dX12_city_110 : decode cX12_city 110 = .ok (.putfield 236, 3) := by decide +kernel
theorem G1498 : Cond.fieldLink "HookedCityModel" 236 "HookedCityModel" "canTake" "Z" ∈ GW := gw_i 1498 (by decide +kernel) rfl
theorem dX12_city_113 : decode cX12_city 113 = .ok (.iload_n 1, 1) := by decide +kernel
theorem dX12_city_114 : decode cX12_city 114 = .ok (.ireturn, 1) := by decide +kernel
theorem dX12_city_81 : decode cX12_city 81 = .ok (.aload_n 0, 1) := by decide +kernel
theorem dX12_city_82 : decode cX12_city 82 = .ok (.getfield 113, 3) := by decide +kernel
theorem dX12_city_85 : decode cX12_city 85 = .ok (.iload_n 2, 1) := by decide +kernel
theorem dX12_city_86 : decode cX12_city 86 = .ok (.aload_n 0, 1) := by decide +kernel
theorem dX12_city_87 : decode cX12_city 87 = .ok (.getfield 117, 3) := by decide +kernel
theorem dX12_city_90 : decode cX12_city 90 = .ok (.iload_n 2, 1) := by decide +kernel
theorem dX12_city_91 : decode cX12_city 91 = .ok (.laload, 1) := by decide +kernel
theorem dX12_city_92 : decode cX12_city 92 = .ok (.lastore, 1) := by decide +kernel
theorem dX12_city_93 : decode cX12_city 93 = .ok (.iinc 2 1, 3) := by decide +kernel
theorem dX12_city_96 : decode cX12_city 96 = .ok (.goto (-21), 3) := by decide +kernel
theorem dX12_city_55 : decode cX12_city 55 = .ok (.aload_n 0, 1) := by decide +kernel
theorem dX12_city_56 : decode cX12_city 56 = .ok (.getfield 98, 3) := by decide +kernel
theorem dX12_city_59 : decode cX12_city 59 = .ok (.iload_n 2, 1) := by decide +kernel
theorem dX12_city_60 : decode cX12_city 60 = .ok (.aload_n 0, 1) := by decide +kernel
theorem dX12_city_61 : decode cX12_city 61 = .ok (.getfield 101, 3) := by decide +kernel
theorem dX12_city_64 : decode cX12_city 64 = .ok (.iload_n 2, 1) := by decide +kernel
theorem dX12_city_65 : decode cX12_city 65 = .ok (.iaload, 1) := by decide +kernel
theorem dX12_city_66 : decode cX12_city 66 = .ok (.iastore, 1) := by decide +kernel
theorem dX12_city_67 : decode cX12_city 67 = .ok (.iinc 2 1, 3) := by decide +kernel
theorem dX12_city_70 : decode cX12_city 70 = .ok (.goto (-21), 3) := by decide +kernel
theorem dX11_fault_0 : decode cX11_fault 0 = .ok (.aload_n 0, 1) := by decide +kernel
theorem dX11_fault_1 : decode cX11_fault 1 = .ok (.getfield 10, 3) := by decide +kernel
theorem dX11_fault_4 : decode cX11_fault 4 = .ok (.getfield 131, 3) := by decide +kernel
theorem N180 : Cond.fieldLinkNest "HookedCity" 131 "HookedCity$Tape" "faultKind" "I" "HookedCity" ∈ lw_tbl := List.mem_of_getElem? (i := 180) (by decide +kernel)
theorem dX11_fault_7 : decode cX11_fault 7 = .ok (.ireturn, 1) := by decide +kernel
theorem dX12_fault_0 : decode cX12_fault 0 = .ok (.aload_n 0, 1) := by decide +kernel
theorem dX12_fault_1 : decode cX12_fault 1 = .ok (.iconst 0, 1) := by decide +kernel
theorem dX12_fault_2 : decode cX12_fault 2 = .ok (.putfield 1, 3) := by decide +kernel
theorem dX12_fault_5 : decode cX12_fault 5 = .ok (.aload_n 0, 1) := by decide +kernel
theorem dX12_fault_6 : decode cX12_fault 6 = .ok (.getfield 66, 3) := by decide +kernel
theorem dX12_fault_9 : decode cX12_fault 9 = .ok (.ireturn, 1) := by decide +kernel
theorem dX11_isMaid_0 : decode cX11_isMaid 0 = .ok (.iload_n 1, 1) := by decide +kernel
theorem dX11_isMaid_1 : decode cX11_isMaid 1 = .ok (.ifCond .lt 18, 3) := by decide +kernel
theorem dX11_isMaid_19 : decode cX11_isMaid 19 = .ok (.iconst 0, 1) := by decide +kernel
theorem dX11_isMaid_20 : decode cX11_isMaid 20 = .ok (.ireturn, 1) := by decide +kernel
theorem dX11_isMaid_4 : decode cX11_isMaid 4 = .ok (.iload_n 1, 1) := by decide +kernel
theorem dX11_isMaid_5 : decode cX11_isMaid 5 = .ok (.aload_n 0, 1) := by decide +kernel
theorem dX11_isMaid_6 : decode cX11_isMaid 6 = .ok (.getfield 74, 3) := by decide +kernel
theorem dX11_isMaid_9 : decode cX11_isMaid 9 = .ok (.getfield 295, 3) := by decide +kernel
theorem N395 : Cond.fieldLinkNest "HookedCity" 295 "HookedCity$Town" "maids" "I" "HookedCity" ∈ lw_tbl := List.mem_of_getElem? (i := 395) (by decide +kernel)
theorem dX11_isMaid_12 : decode cX11_isMaid 12 = .ok (.if_icmp .ge 7, 3) := by decide +kernel
theorem dX11_maid_0 : decode cX11_maid 0 = .ok (.aload_n 0, 1) := by decide +kernel
theorem dX11_maid_1 : decode cX11_maid 1 = .ok (.iload_n 1, 1) := by decide +kernel
theorem dX11_maid_2 : decode cX11_maid 2 = .ok (.invokevirtual 166, 3) := by decide +kernel
theorem G814 : Cond.code ⟨"HookedCity", "isMaid", "(I)Z"⟩ prog_1_method_40_code 2 (some .boolean) ∈ GW := gw_i 814 (by decide +kernel) rfl
theorem G811 : Cond.methodLink "HookedCity" 166 ⟨"HookedCity", "isMaid", "(I)Z"⟩ ∈ GW := gw_i 811 (by decide +kernel) rfl
theorem G119 : Cond.initialized "HookedCity" ∈ GW := gw_i 119 (by decide +kernel) rfl
theorem V_HookedCity_166 : VL "HookedCity" 166 yX11_isMaid cX11_isMaid 2 (some .boolean) 1 := ⟨G814, G811, G119, by decide +kernel, by decide +kernel, by decide +kernel⟩
theorem G813 : Cond.instanceMethod ⟨"HookedCity", "isMaid", "(I)Z"⟩ ∈ GW := gw_i 813 (by decide +kernel) rfl
theorem G15 : Cond.selects "HookedCity" ⟨"HookedCity", "isMaid", "(I)Z"⟩ ⟨"HookedCity", "isMaid", "(I)Z"⟩ ∈ GW := gw_i 15 (by decide +kernel) rfl
theorem dX11_maid_5 : decode cX11_maid 5 = .ok (.ifCond .eq 12, 3) := by decide +kernel
theorem dX11_maid_17 : decode cX11_maid 17 = .ok (.iconst (-1), 1) := by decide +kernel
theorem dX11_maid_18 : decode cX11_maid 18 = .ok (.ireturn, 1) := by decide +kernel
theorem dX12_isIn_0 : decode cX12_isIn 0 = .ok (.iload_n 0, 1) := by decide +kernel
theorem dX12_isIn_1 : decode cX12_isIn 1 = .ok (.iload_n 1, 1) := by decide +kernel
theorem dX12_isIn_2 : decode cX12_isIn 2 = .ok (.if_icmp .lt 12, 3) := by decide +kernel
theorem dX12_isIn_14 : decode cX12_isIn 14 = .ok (.iconst 0, 1) := by decide +kernel
theorem dX12_isIn_15 : decode cX12_isIn 15 = .ok (.ireturn, 1) := by decide +kernel
theorem dX12_isIn_5 : decode cX12_isIn 5 = .ok (.iload_n 0, 1) := by decide +kernel
theorem dX12_isIn_6 : decode cX12_isIn 6 = .ok (.iload_n 2, 1) := by decide +kernel
theorem dX12_isIn_7 : decode cX12_isIn 7 = .ok (.if_icmp .gt 7, 3) := by decide +kernel
theorem dX12_isMaid_0 : decode cX12_isMaid 0 = .ok (.iload_n 1, 1) := by decide +kernel
theorem dX12_isMaid_1 : decode cX12_isMaid 1 = .ok (.iconst 0, 1) := by decide +kernel
theorem dX12_isMaid_2 : decode cX12_isMaid 2 = .ok (.aload_n 0, 1) := by decide +kernel
theorem dX12_isMaid_3 : decode cX12_isMaid 3 = .ok (.getfield 98, 3) := by decide +kernel
theorem dX12_isMaid_6 : decode cX12_isMaid 6 = .ok (.iconst 1, 1) := by decide +kernel
theorem dX12_isMaid_7 : decode cX12_isMaid 7 = .ok (.iaload, 1) := by decide +kernel
theorem dX12_isMaid_8 : decode cX12_isMaid 8 = .ok (.iconst 1, 1) := by decide +kernel
theorem dX12_isMaid_9 : decode cX12_isMaid 9 = .ok (.isub, 1) := by decide +kernel
theorem dX12_isMaid_10 : decode cX12_isMaid 10 = .ok (.invokestatic 75, 3) := by decide +kernel
theorem G1698 : Cond.code ⟨"HookedCityModel", "isIn", "(III)Z"⟩ prog_14_method_7_code 3 (some .boolean) ∈ GW := gw_i 1698 (by decide +kernel) rfl
theorem G1696 : Cond.methodLink "HookedCityModel" 75 ⟨"HookedCityModel", "isIn", "(III)Z"⟩ ∈ GW := gw_i 1696 (by decide +kernel) rfl
theorem V_HookedCityModel_75 : VL "HookedCityModel" 75 yX12_isIn cX12_isIn 3 (some .boolean) 3 := ⟨G1698, G1696, G131, by decide +kernel, by decide +kernel, by decide +kernel⟩
theorem G1697 : Cond.static ⟨"HookedCityModel", "isIn", "(III)Z"⟩ ∈ GW := gw_i 1697 (by decide +kernel) rfl
theorem dX12_isMaid_13 : decode cX12_isMaid 13 = .ok (.ireturn, 1) := by decide +kernel
theorem dX12_maid_0 : decode cX12_maid 0 = .ok (.aload_n 0, 1) := by decide +kernel
theorem dX12_maid_1 : decode cX12_maid 1 = .ok (.iconst 0, 1) := by decide +kernel
theorem dX12_maid_2 : decode cX12_maid 2 = .ok (.putfield 1, 3) := by decide +kernel
theorem dX12_maid_5 : decode cX12_maid 5 = .ok (.aload_n 0, 1) := by decide +kernel
theorem dX12_maid_6 : decode cX12_maid 6 = .ok (.iload_n 1, 1) := by decide +kernel
theorem dX12_maid_7 : decode cX12_maid 7 = .ok (.invokevirtual 252, 3) := by decide +kernel
theorem G1761 : Cond.code ⟨"HookedCityModel", "isMaid", "(I)Z"⟩ prog_14_method_44_code 2 (some .boolean) ∈ GW := gw_i 1761 (by decide +kernel) rfl
theorem G1758 : Cond.methodLink "HookedCityModel" 252 ⟨"HookedCityModel", "isMaid", "(I)Z"⟩ ∈ GW := gw_i 1758 (by decide +kernel) rfl
theorem V_HookedCityModel_252 : VL "HookedCityModel" 252 yX12_isMaid cX12_isMaid 2 (some .boolean) 1 := ⟨G1761, G1758, G131, by decide +kernel, by decide +kernel, by decide +kernel⟩
theorem G1760 : Cond.instanceMethod ⟨"HookedCityModel", "isMaid", "(I)Z"⟩ ∈ GW := gw_i 1760 (by decide +kernel) rfl
theorem G72 : Cond.selects "HookedCityModel" ⟨"HookedCityModel", "isMaid", "(I)Z"⟩ ⟨"HookedCityModel", "isMaid", "(I)Z"⟩ ∈ GW := gw_i 72 (by decide +kernel) rfl
theorem dX12_maid_10 : decode cX12_maid 10 = .ok (.ifCond .eq 33, 3) := by decide +kernel
theorem dX12_maid_43 : decode cX12_maid 43 = .ok (.iconst (-1), 1) := by decide +kernel
theorem dX12_maid_44 : decode cX12_maid 44 = .ok (.ireturn, 1) := by decide +kernel
theorem dX7_openOnes_0 : decode cX7_openOnes 0 = .ok (.iconst 0, 1) := by decide +kernel
theorem dX7_openOnes_1 : decode cX7_openOnes 1 = .ok (.istore_n 2, 1) := by decide +kernel
theorem dX7_openOnes_2 : decode cX7_openOnes 2 = .ok (.iconst 0, 1) := by decide +kernel
theorem dX7_openOnes_3 : decode cX7_openOnes 3 = .ok (.istore_n 3, 1) := by decide +kernel
theorem dX7_openOnes_4 : decode cX7_openOnes 4 = .ok (.iload_n 3, 1) := by decide +kernel
theorem dX7_openOnes_5 : decode cX7_openOnes 5 = .ok (.aload_n 1, 1) := by decide +kernel
theorem dX7_openOnes_6 : decode cX7_openOnes 6 = .ok (.getfield 85, 3) := by decide +kernel
theorem N390 : Cond.fieldLinkNest "HookedCity$State" 85 "HookedCity$Town" "persons" "I" "HookedCity" ∈ lw_tbl := List.mem_of_getElem? (i := 390) (by decide +kernel)
theorem dX7_openOnes_9 : decode cX7_openOnes 9 = .ok (.if_icmp .ge 29, 3) := by decide +kernel
theorem dX7_openOnes_38 : decode cX7_openOnes 38 = .ok (.iload_n 2, 1) := by decide +kernel
theorem dX7_openOnes_39 : decode cX7_openOnes 39 = .ok (.ireturn, 1) := by decide +kernel
theorem dX7_bareOnes_0 : decode cX7_bareOnes 0 = .ok (.iconst 0, 1) := by decide +kernel
theorem dX7_bareOnes_1 : decode cX7_bareOnes 1 = .ok (.istore_n 2, 1) := by decide +kernel
theorem dX7_bareOnes_2 : decode cX7_bareOnes 2 = .ok (.iconst 0, 1) := by decide +kernel
theorem dX7_bareOnes_3 : decode cX7_bareOnes 3 = .ok (.istore_n 3, 1) := by decide +kernel
theorem dX7_bareOnes_4 : decode cX7_bareOnes 4 = .ok (.iload_n 3, 1) := by decide +kernel
theorem dX7_bareOnes_5 : decode cX7_bareOnes 5 = .ok (.aload_n 1, 1) := by decide +kernel
theorem dX7_bareOnes_6 : decode cX7_bareOnes 6 = .ok (.getfield 85, 3) := by decide +kernel
theorem dX7_bareOnes_9 : decode cX7_bareOnes 9 = .ok (.if_icmp .ge 29, 3) := by decide +kernel
theorem dX7_bareOnes_38 : decode cX7_bareOnes 38 = .ok (.iload_n 2, 1) := by decide +kernel
theorem dX7_bareOnes_39 : decode cX7_bareOnes 39 = .ok (.ireturn, 1) := by decide +kernel
theorem dX7_tornOnes_0 : decode cX7_tornOnes 0 = .ok (.iconst 0, 1) := by decide +kernel
theorem dX7_tornOnes_1 : decode cX7_tornOnes 1 = .ok (.istore_n 2, 1) := by decide +kernel
theorem dX7_tornOnes_2 : decode cX7_tornOnes 2 = .ok (.iconst 0, 1) := by decide +kernel
theorem dX7_tornOnes_3 : decode cX7_tornOnes 3 = .ok (.istore_n 3, 1) := by decide +kernel
theorem dX7_tornOnes_4 : decode cX7_tornOnes 4 = .ok (.iload_n 3, 1) := by decide +kernel
theorem dX7_tornOnes_5 : decode cX7_tornOnes 5 = .ok (.aload_n 1, 1) := by decide +kernel
theorem dX7_tornOnes_6 : decode cX7_tornOnes 6 = .ok (.getfield 85, 3) := by decide +kernel
theorem dX7_tornOnes_9 : decode cX7_tornOnes 9 = .ok (.if_icmp .ge 28, 3) := by decide +kernel
theorem dX7_tornOnes_37 : decode cX7_tornOnes 37 = .ok (.iload_n 2, 1) := by decide +kernel
theorem dX7_tornOnes_38 : decode cX7_tornOnes 38 = .ok (.ireturn, 1) := by decide +kernel
theorem dX9_wearsOn_0 : decode cX9_wearsOn 0 = .ok (.iload_n 1, 1) := by decide +kernel
theorem dX9_wearsOn_1 : decode cX9_wearsOn 1 = .ok (.sipush 400, 3) := by decide +kernel
theorem dX9_wearsOn_4 : decode cX9_wearsOn 4 = .ok (.if_icmp .ge 27, 3) := by decide +kernel
theorem dX9_wearsOn_7 : decode cX9_wearsOn 7 = .ok (.aload_n 0, 1) := by decide +kernel
theorem dX9_wearsOn_8 : decode cX9_wearsOn 8 = .ok (.getfield 53, 3) := by decide +kernel
theorem dX9_wearsOn_11 : decode cX9_wearsOn 11 = .ok (.ifCond .le 20, 3) := by decide +kernel
theorem dX9_wearsOn_14 : decode cX9_wearsOn 14 = .ok (.iload_n 1, 1) := by decide +kernel
theorem dX9_wearsOn_15 : decode cX9_wearsOn 15 = .ok (.aload_n 0, 1) := by decide +kernel
theorem dX9_wearsOn_16 : decode cX9_wearsOn 16 = .ok (.getfield 53, 3) := by decide +kernel
theorem dX9_wearsOn_19 : decode cX9_wearsOn 19 = .ok (.irem, 1) := by decide +kernel
theorem dX9_wearsOn_20 : decode cX9_wearsOn 20 = .ok (.aload_n 0, 1) := by decide +kernel
theorem dX9_wearsOn_21 : decode cX9_wearsOn 21 = .ok (.getfield 56, 3) := by decide +kernel
theorem dX9_wearsOn_24 : decode cX9_wearsOn 24 = .ok (.if_icmp .ge 7, 3) := by decide +kernel
theorem dX9_wearsOn_27 : decode cX9_wearsOn 27 = .ok (.iconst 1, 1) := by decide +kernel
theorem dX9_wearsOn_28 : decode cX9_wearsOn 28 = .ok (.goto 4, 3) := by decide +kernel
theorem dX9_wearsOn_32 : decode cX9_wearsOn 32 = .ok (.ireturn, 1) := by decide +kernel
theorem dX11_now_0 : decode cX11_now 0 = .ok (.iload_n 1, 1) := by decide +kernel
theorem dX11_now_1 : decode cX11_now 1 = .ok (.tableswitch 138 0 7 #[47, 55, 67, 79, 91, 99, 107, 115], 47) := by decide +kernel
theorem dX11_now_48 : decode cX11_now 48 = .ok (.aload_n 0, 1) := by decide +kernel
theorem dX11_now_49 : decode cX11_now 49 = .ok (.getfield 19, 3) := by decide +kernel
theorem dX11_now_52 : decode cX11_now 52 = .ok (.getfield 175, 3) := by decide +kernel
theorem N231 : Cond.fieldLinkNest "HookedCity" 175 "HookedCity$State" "day" "I" "HookedCity" ∈ lw_tbl := List.mem_of_getElem? (i := 231) (by decide +kernel)
theorem dX11_now_55 : decode cX11_now 55 = .ok (.ireturn, 1) := by decide +kernel
theorem dX11_now_56 : decode cX11_now 56 = .ok (.aload_n 0, 1) := by decide +kernel
theorem dX11_now_57 : decode cX11_now 57 = .ok (.getfield 19, 3) := by decide +kernel
theorem dX11_now_60 : decode cX11_now 60 = .ok (.aload_n 0, 1) := by decide +kernel
theorem dX11_now_61 : decode cX11_now 61 = .ok (.getfield 74, 3) := by decide +kernel
theorem dX11_now_64 : decode cX11_now 64 = .ok (.invokevirtual 178, 3) := by decide +kernel
theorem G822 : Cond.code ⟨"HookedCity$State", "openOnes", "(LHookedCity$Town;)I"⟩ prog_9_method_24_code 4 (some .int) ∈ GW := gw_i 822 (by decide +kernel) rfl
theorem G819 : Cond.methodLink "HookedCity" 178 ⟨"HookedCity$State", "openOnes", "(LHookedCity$Town;)I"⟩ ∈ GW := gw_i 819 (by decide +kernel) rfl
theorem V_HookedCity_178 : VL "HookedCity" 178 yX7_openOnes cX7_openOnes 4 (some .int) 1 := ⟨G822, G819, G121, by decide +kernel, by decide +kernel, by decide +kernel⟩
theorem G820 : Cond.instanceMethod ⟨"HookedCity$State", "openOnes", "(LHookedCity$Town;)I"⟩ ∈ GW := gw_i 820 (by decide +kernel) rfl
theorem G821 : Cond.selects "HookedCity$State" ⟨"HookedCity$State", "openOnes", "(LHookedCity$Town;)I"⟩ ⟨"HookedCity$State", "openOnes", "(LHookedCity$Town;)I"⟩ ∈ GW := gw_i 821 (by decide +kernel) rfl
theorem dX11_now_67 : decode cX11_now 67 = .ok (.ireturn, 1) := by decide +kernel
theorem dX11_now_68 : decode cX11_now 68 = .ok (.aload_n 0, 1) := by decide +kernel
theorem dX11_now_69 : decode cX11_now 69 = .ok (.getfield 19, 3) := by decide +kernel
theorem dX11_now_72 : decode cX11_now 72 = .ok (.aload_n 0, 1) := by decide +kernel
theorem dX11_now_73 : decode cX11_now 73 = .ok (.getfield 74, 3) := by decide +kernel
theorem dX11_now_76 : decode cX11_now 76 = .ok (.invokevirtual 182, 3) := by decide +kernel
theorem G826 : Cond.code ⟨"HookedCity$State", "bareOnes", "(LHookedCity$Town;)I"⟩ prog_9_method_25_code 4 (some .int) ∈ GW := gw_i 826 (by decide +kernel) rfl
theorem G823 : Cond.methodLink "HookedCity" 182 ⟨"HookedCity$State", "bareOnes", "(LHookedCity$Town;)I"⟩ ∈ GW := gw_i 823 (by decide +kernel) rfl
theorem V_HookedCity_182 : VL "HookedCity" 182 yX7_bareOnes cX7_bareOnes 4 (some .int) 1 := ⟨G826, G823, G121, by decide +kernel, by decide +kernel, by decide +kernel⟩
theorem G824 : Cond.instanceMethod ⟨"HookedCity$State", "bareOnes", "(LHookedCity$Town;)I"⟩ ∈ GW := gw_i 824 (by decide +kernel) rfl
theorem G825 : Cond.selects "HookedCity$State" ⟨"HookedCity$State", "bareOnes", "(LHookedCity$Town;)I"⟩ ⟨"HookedCity$State", "bareOnes", "(LHookedCity$Town;)I"⟩ ∈ GW := gw_i 825 (by decide +kernel) rfl
theorem dX11_now_79 : decode cX11_now 79 = .ok (.ireturn, 1) := by decide +kernel
theorem dX11_now_80 : decode cX11_now 80 = .ok (.aload_n 0, 1) := by decide +kernel
theorem dX11_now_81 : decode cX11_now 81 = .ok (.getfield 19, 3) := by decide +kernel
theorem dX11_now_84 : decode cX11_now 84 = .ok (.aload_n 0, 1) := by decide +kernel
theorem dX11_now_85 : decode cX11_now 85 = .ok (.getfield 74, 3) := by decide +kernel
theorem dX11_now_88 : decode cX11_now 88 = .ok (.invokevirtual 185, 3) := by decide +kernel
theorem G830 : Cond.code ⟨"HookedCity$State", "tornOnes", "(LHookedCity$Town;)I"⟩ prog_9_method_26_code 4 (some .int) ∈ GW := gw_i 830 (by decide +kernel) rfl
theorem G827 : Cond.methodLink "HookedCity" 185 ⟨"HookedCity$State", "tornOnes", "(LHookedCity$Town;)I"⟩ ∈ GW := gw_i 827 (by decide +kernel) rfl
theorem V_HookedCity_185 : VL "HookedCity" 185 yX7_tornOnes cX7_tornOnes 4 (some .int) 1 := ⟨G830, G827, G121, by decide +kernel, by decide +kernel, by decide +kernel⟩
theorem G828 : Cond.instanceMethod ⟨"HookedCity$State", "tornOnes", "(LHookedCity$Town;)I"⟩ ∈ GW := gw_i 828 (by decide +kernel) rfl
theorem G829 : Cond.selects "HookedCity$State" ⟨"HookedCity$State", "tornOnes", "(LHookedCity$Town;)I"⟩ ⟨"HookedCity$State", "tornOnes", "(LHookedCity$Town;)I"⟩ ∈ GW := gw_i 829 (by decide +kernel) rfl
theorem dX11_now_91 : decode cX11_now 91 = .ok (.ireturn, 1) := by decide +kernel
theorem dX11_now_92 : decode cX11_now 92 = .ok (.aload_n 0, 1) := by decide +kernel
theorem dX11_now_93 : decode cX11_now 93 = .ok (.getfield 19, 3) := by decide +kernel
theorem dX11_now_96 : decode cX11_now 96 = .ok (.getfield 188, 3) := by decide +kernel
theorem N233 : Cond.fieldLinkNest "HookedCity" 188 "HookedCity$State" "spares" "I" "HookedCity" ∈ lw_tbl := List.mem_of_getElem? (i := 233) (by decide +kernel)
theorem dX11_now_99 : decode cX11_now 99 = .ok (.ireturn, 1) := by decide +kernel
theorem dX11_now_100 : decode cX11_now 100 = .ok (.aload_n 0, 1) := by decide +kernel
theorem dX11_now_101 : decode cX11_now 101 = .ok (.getfield 19, 3) := by decide +kernel
theorem dX11_now_104 : decode cX11_now 104 = .ok (.getfield 191, 3) := by decide +kernel
theorem N235 : Cond.fieldLinkNest "HookedCity" 191 "HookedCity$State" "buttoned" "I" "HookedCity" ∈ lw_tbl := List.mem_of_getElem? (i := 235) (by decide +kernel)
theorem dX11_now_107 : decode cX11_now 107 = .ok (.ireturn, 1) := by decide +kernel
theorem dX11_now_108 : decode cX11_now 108 = .ok (.aload_n 0, 1) := by decide +kernel
theorem dX11_now_109 : decode cX11_now 109 = .ok (.getfield 19, 3) := by decide +kernel
theorem dX11_now_112 : decode cX11_now 112 = .ok (.getfield 194, 3) := by decide +kernel
theorem N237 : Cond.fieldLinkNest "HookedCity" 194 "HookedCity$State" "perished" "I" "HookedCity" ∈ lw_tbl := List.mem_of_getElem? (i := 237) (by decide +kernel)
theorem dX11_now_115 : decode cX11_now 115 = .ok (.ireturn, 1) := by decide +kernel
theorem dX11_now_116 : decode cX11_now 116 = .ok (.aload_n 0, 1) := by decide +kernel
theorem dX11_now_117 : decode cX11_now 117 = .ok (.getfield 74, 3) := by decide +kernel
theorem dX11_now_120 : decode cX11_now 120 = .ok (.aload_n 0, 1) := by decide +kernel
theorem dX11_now_121 : decode cX11_now 121 = .ok (.getfield 19, 3) := by decide +kernel
theorem dX11_now_124 : decode cX11_now 124 = .ok (.getfield 175, 3) := by decide +kernel
theorem dX11_now_127 : decode cX11_now 127 = .ok (.invokevirtual 197, 3) := by decide +kernel
theorem G834 : Cond.code ⟨"HookedCity$Town", "wearsOn", "(I)Z"⟩ prog_11_method_24_code 2 (some .boolean) ∈ GW := gw_i 834 (by decide +kernel) rfl
theorem G831 : Cond.methodLink "HookedCity" 197 ⟨"HookedCity$Town", "wearsOn", "(I)Z"⟩ ∈ GW := gw_i 831 (by decide +kernel) rfl
theorem V_HookedCity_197 : VL "HookedCity" 197 yX9_wearsOn cX9_wearsOn 2 (some .boolean) 1 := ⟨G834, G831, G128, by decide +kernel, by decide +kernel, by decide +kernel⟩
theorem G832 : Cond.instanceMethod ⟨"HookedCity$Town", "wearsOn", "(I)Z"⟩ ∈ GW := gw_i 832 (by decide +kernel) rfl
theorem G833 : Cond.selects "HookedCity$Town" ⟨"HookedCity$Town", "wearsOn", "(I)Z"⟩ ⟨"HookedCity$Town", "wearsOn", "(I)Z"⟩ ∈ GW := gw_i 833 (by decide +kernel) rfl
theorem dX11_now_130 : decode cX11_now 130 = .ok (.ifCond .eq 7, 3) := by decide +kernel
theorem dX11_now_133 : decode cX11_now 133 = .ok (.iconst 1, 1) := by decide +kernel
theorem dX11_now_134 : decode cX11_now 134 = .ok (.goto 4, 3) := by decide +kernel
theorem dX11_now_138 : decode cX11_now 138 = .ok (.ireturn, 1) := by decide +kernel
theorem dX11_now_139 : decode cX11_now 139 = .ok (.iconst (-1), 1) := by decide +kernel
theorem dX11_now_140 : decode cX11_now 140 = .ok (.ireturn, 1) := by decide +kernel
theorem dX12_opens_0 : decode cX12_opens 0 = .ok (.iconst 0, 1) := by decide +kernel
theorem dX12_opens_1 : decode cX12_opens 1 = .ok (.istore_n 1, 1) := by decide +kernel
theorem dX12_opens_2 : decode cX12_opens 2 = .ok (.iconst 0, 1) := by decide +kernel
theorem dX12_opens_3 : decode cX12_opens 3 = .ok (.istore_n 2, 1) := by decide +kernel
theorem dX12_opens_4 : decode cX12_opens 4 = .ok (.iload_n 2, 1) := by decide +kernel
theorem dX12_opens_5 : decode cX12_opens 5 = .ok (.aload_n 0, 1) := by decide +kernel
theorem dX12_opens_6 : decode cX12_opens 6 = .ok (.getfield 98, 3) := by decide +kernel
theorem dX12_opens_9 : decode cX12_opens 9 = .ok (.iconst 0, 1) := by decide +kernel
theorem dX12_opens_10 : decode cX12_opens 10 = .ok (.iaload, 1) := by decide +kernel
theorem dX12_opens_11 : decode cX12_opens 11 = .ok (.if_icmp .ge 23, 3) := by decide +kernel
theorem dX12_opens_34 : decode cX12_opens 34 = .ok (.iload_n 1, 1) := by decide +kernel
theorem dX12_opens_35 : decode cX12_opens 35 = .ok (.ireturn, 1) := by decide +kernel
theorem dX12_isJuly_0 : decode cX12_isJuly 0 = .ok (.aload_n 0, 1) := by decide +kernel
theorem dX12_isJuly_1 : decode cX12_isJuly 1 = .ok (.getfield 98, 3) := by decide +kernel
theorem dX12_isJuly_4 : decode cX12_isJuly 4 = .ok (.bipush 53, 2) := by decide +kernel
theorem dX12_isJuly_6 : decode cX12_isJuly 6 = .ok (.iaload, 1) := by decide +kernel
theorem dX12_isJuly_7 : decode cX12_isJuly 7 = .ok (.aload_n 0, 1) := by decide +kernel
theorem dX12_isJuly_8 : decode cX12_isJuly 8 = .ok (.getfield 98, 3) := by decide +kernel
theorem dX12_isJuly_11 : decode cX12_isJuly 11 = .ok (.iconst 3, 1) := by decide +kernel
theorem dX12_isJuly_12 : decode cX12_isJuly 12 = .ok (.iaload, 1) := by decide +kernel
theorem dX12_isJuly_13 : decode cX12_isJuly 13 = .ok (.irem, 1) := by decide +kernel
theorem dX12_isJuly_14 : decode cX12_isJuly 14 = .ok (.aload_n 0, 1) := by decide +kernel
theorem dX12_isJuly_15 : decode cX12_isJuly 15 = .ok (.getfield 98, 3) := by decide +kernel
theorem dX12_isJuly_18 : decode cX12_isJuly 18 = .ok (.iconst 4, 1) := by decide +kernel
theorem dX12_isJuly_19 : decode cX12_isJuly 19 = .ok (.iaload, 1) := by decide +kernel
theorem dX12_isJuly_20 : decode cX12_isJuly 20 = .ok (.if_icmp .ge 7, 3) := by decide +kernel
theorem dX12_isJuly_23 : decode cX12_isJuly 23 = .ok (.iconst 1, 1) := by decide +kernel
theorem dX12_isJuly_24 : decode cX12_isJuly 24 = .ok (.goto 4, 3) := by decide +kernel
theorem dX12_isJuly_28 : decode cX12_isJuly 28 = .ok (.ireturn, 1) := by decide +kernel
theorem dX12_now_0 : decode cX12_now 0 = .ok (.aload_n 0, 1) := by decide +kernel
theorem dX12_now_1 : decode cX12_now 1 = .ok (.iconst 0, 1) := by decide +kernel
theorem dX12_now_2 : decode cX12_now 2 = .ok (.putfield 1, 3) := by decide +kernel
theorem dX12_now_5 : decode cX12_now 5 = .ok (.iconst 0, 1) := by decide +kernel
theorem dX12_now_6 : decode cX12_now 6 = .ok (.istore_n 2, 1) := by decide +kernel
theorem dX12_now_7 : decode cX12_now 7 = .ok (.iload_n 1, 1) := by decide +kernel
theorem dX12_now_8 : decode cX12_now 8 = .ok (.tableswitch 166 0 7 #[48, 56, 61, 95, 129, 137, 145, 153], 48) := by decide +kernel
theorem dX12_now_56 : decode cX12_now 56 = .ok (.aload_n 0, 1) := by decide +kernel
theorem dX12_now_57 : decode cX12_now 57 = .ok (.getfield 98, 3) := by decide +kernel
theorem dX12_now_60 : decode cX12_now 60 = .ok (.bipush 53, 2) := by decide +kernel
theorem dX12_now_62 : decode cX12_now 62 = .ok (.iaload, 1) := by decide +kernel
theorem dX12_now_63 : decode cX12_now 63 = .ok (.ireturn, 1) := by decide +kernel
theorem dX12_now_64 : decode cX12_now 64 = .ok (.aload_n 0, 1) := by decide +kernel
theorem dX12_now_65 : decode cX12_now 65 = .ok (.invokevirtual 258, 3) := by decide +kernel
theorem G1769 : Cond.code ⟨"HookedCityModel", "opens", "()I"⟩ prog_14_method_53_code 3 (some .int) ∈ GW := gw_i 1769 (by decide +kernel) rfl
theorem G1766 : Cond.methodLink "HookedCityModel" 258 ⟨"HookedCityModel", "opens", "()I"⟩ ∈ GW := gw_i 1766 (by decide +kernel) rfl
theorem V_HookedCityModel_258 : VL "HookedCityModel" 258 yX12_opens cX12_opens 3 (some .int) 0 := ⟨G1769, G1766, G131, by decide +kernel, by decide +kernel, by decide +kernel⟩
theorem G1768 : Cond.instanceMethod ⟨"HookedCityModel", "opens", "()I"⟩ ∈ GW := gw_i 1768 (by decide +kernel) rfl
theorem G73 : Cond.selects "HookedCityModel" ⟨"HookedCityModel", "opens", "()I"⟩ ⟨"HookedCityModel", "opens", "()I"⟩ ∈ GW := gw_i 73 (by decide +kernel) rfl
theorem dX12_now_68 : decode cX12_now 68 = .ok (.ireturn, 1) := by decide +kernel
theorem dX12_now_69 : decode cX12_now 69 = .ok (.iconst 0, 1) := by decide +kernel
theorem dX12_now_70 : decode cX12_now 70 = .ok (.istore_n 3, 1) := by decide +kernel
theorem dX12_now_71 : decode cX12_now 71 = .ok (.iload_n 3, 1) := by decide +kernel
theorem dX12_now_72 : decode cX12_now 72 = .ok (.aload_n 0, 1) := by decide +kernel
theorem dX12_now_73 : decode cX12_now 73 = .ok (.getfield 98, 3) := by decide +kernel
theorem dX12_now_76 : decode cX12_now 76 = .ok (.iconst 0, 1) := by decide +kernel
theorem dX12_now_77 : decode cX12_now 77 = .ok (.iaload, 1) := by decide +kernel
theorem dX12_now_78 : decode cX12_now 78 = .ok (.if_icmp .ge 23, 3) := by decide +kernel
theorem dX12_now_101 : decode cX12_now 101 = .ok (.iload_n 2, 1) := by decide +kernel
theorem dX12_now_102 : decode cX12_now 102 = .ok (.ireturn, 1) := by decide +kernel
theorem dX12_now_103 : decode cX12_now 103 = .ok (.iconst 0, 1) := by decide +kernel
theorem dX12_now_104 : decode cX12_now 104 = .ok (.istore_n 3, 1) := by decide +kernel
theorem dX12_now_105 : decode cX12_now 105 = .ok (.iload_n 3, 1) := by decide +kernel
theorem dX12_now_106 : decode cX12_now 106 = .ok (.aload_n 0, 1) := by decide +kernel
theorem dX12_now_107 : decode cX12_now 107 = .ok (.getfield 98, 3) := by decide +kernel
theorem dX12_now_110 : decode cX12_now 110 = .ok (.iconst 0, 1) := by decide +kernel
theorem dX12_now_111 : decode cX12_now 111 = .ok (.iaload, 1) := by decide +kernel
theorem dX12_now_112 : decode cX12_now 112 = .ok (.if_icmp .ge 23, 3) := by decide +kernel
theorem dX12_now_135 : decode cX12_now 135 = .ok (.iload_n 2, 1) := by decide +kernel
theorem dX12_now_136 : decode cX12_now 136 = .ok (.ireturn, 1) := by decide +kernel
theorem dX12_now_137 : decode cX12_now 137 = .ok (.aload_n 0, 1) := by decide +kernel
theorem dX12_now_138 : decode cX12_now 138 = .ok (.getfield 98, 3) := by decide +kernel
theorem dX12_now_141 : decode cX12_now 141 = .ok (.bipush 54, 2) := by decide +kernel
theorem dX12_now_143 : decode cX12_now 143 = .ok (.iaload, 1) := by decide +kernel
theorem dX12_now_144 : decode cX12_now 144 = .ok (.ireturn, 1) := by decide +kernel
theorem dX12_now_145 : decode cX12_now 145 = .ok (.aload_n 0, 1) := by decide +kernel
theorem dX12_now_146 : decode cX12_now 146 = .ok (.getfield 98, 3) := by decide +kernel
theorem dX12_now_149 : decode cX12_now 149 = .ok (.bipush 55, 2) := by decide +kernel
theorem dX12_now_151 : decode cX12_now 151 = .ok (.iaload, 1) := by decide +kernel
theorem dX12_now_152 : decode cX12_now 152 = .ok (.ireturn, 1) := by decide +kernel
theorem dX12_now_153 : decode cX12_now 153 = .ok (.aload_n 0, 1) := by decide +kernel
theorem dX12_now_154 : decode cX12_now 154 = .ok (.getfield 98, 3) := by decide +kernel
theorem dX12_now_157 : decode cX12_now 157 = .ok (.bipush 56, 2) := by decide +kernel
theorem dX12_now_159 : decode cX12_now 159 = .ok (.iaload, 1) := by decide +kernel
theorem dX12_now_160 : decode cX12_now 160 = .ok (.ireturn, 1) := by decide +kernel
theorem dX12_now_161 : decode cX12_now 161 = .ok (.aload_n 0, 1) := by decide +kernel
theorem dX12_now_162 : decode cX12_now 162 = .ok (.invokevirtual 267, 3) := by decide +kernel
theorem G1785 : Cond.code ⟨"HookedCityModel", "isJuly", "()Z"⟩ prog_14_method_54_code 1 (some .boolean) ∈ GW := gw_i 1785 (by decide +kernel) rfl
theorem G1782 : Cond.methodLink "HookedCityModel" 267 ⟨"HookedCityModel", "isJuly", "()Z"⟩ ∈ GW := gw_i 1782 (by decide +kernel) rfl
theorem V_HookedCityModel_267 : VL "HookedCityModel" 267 yX12_isJuly cX12_isJuly 1 (some .boolean) 0 := ⟨G1785, G1782, G131, by decide +kernel, by decide +kernel, by decide +kernel⟩
theorem G1784 : Cond.instanceMethod ⟨"HookedCityModel", "isJuly", "()Z"⟩ ∈ GW := gw_i 1784 (by decide +kernel) rfl
theorem G77 : Cond.selects "HookedCityModel" ⟨"HookedCityModel", "isJuly", "()Z"⟩ ⟨"HookedCityModel", "isJuly", "()Z"⟩ ∈ GW := gw_i 77 (by decide +kernel) rfl
theorem dX12_now_165 : decode cX12_now 165 = .ok (.ifCond .eq 7, 3) := by decide +kernel
theorem dX12_now_168 : decode cX12_now 168 = .ok (.iconst 1, 1) := by decide +kernel
theorem dX12_now_169 : decode cX12_now 169 = .ok (.goto 4, 3) := by decide +kernel
theorem dX12_now_173 : decode cX12_now 173 = .ok (.ireturn, 1) := by decide +kernel
theorem dX12_now_174 : decode cX12_now 174 = .ok (.iconst (-1), 1) := by decide +kernel
theorem dX12_now_175 : decode cX12_now 175 = .ok (.ireturn, 1) := by decide +kernel
set_option maxRecDepth 100000 in
set_option maxHeartbeats 4000000 in
theorem c16_X8_append (l : Launch) (D : va_G) (T : Nat → ClassId) (sz : Nat) (a0 a1 : Nat) (x0 : Int32) : Met l yX8_append (Cond.code yX8_append cX8_append 3 none :: GW) (Rm 0 0 0) (cPre [.ref a0, .int x0] D T [(a0, .inr (8, [.ref a1, .int 0, .int 0, .int 0, .int 0, .int 0, .null, .long 0, .int 0, .int 0, .int 0, .int 0])), (a1, .inl (T 0, 940, .inl (fun _ => 0)))] sz) (qV D [(a0, .inr (8, [.ref a1, .int 0, .int 0, .int 0, .int 0, .int 0, .null, .long 0, .int 0, .int 0, .int 0, .int 0])), (a1, .inl (T 0, 940, .inl (fun _ => 0)))] sz (fun (u : Unit) => True) (fun u => [(a0, .inr (8, [.ref a1, .int 4, .int 0, .int 0, .int 0, .int 0, .null, .long 0, .int 0, .int 0, .int 0, .int 0])), (a1, .inl (T 0, 940, .inl (upd (upd (upd (upd (fun _ => 0) (Int32.toNatClampNeg (0 : Int32)) ((Int32.toUInt32 x0 >>> (Int32.toUInt32 (24 : Int32) &&& Int32.toUInt32 31)).toInt32 &&& (255 : Int32))) (Int32.toNatClampNeg (1 : Int32)) ((Int32.toUInt32 x0 >>> (Int32.toUInt32 (16 : Int32) &&& Int32.toUInt32 31)).toInt32 &&& (255 : Int32))) (Int32.toNatClampNeg (2 : Int32)) ((Int32.toUInt32 x0 >>> (Int32.toUInt32 (8 : Int32) &&& Int32.toUInt32 31)).toInt32 &&& (255 : Int32))) (Int32.toNatClampNeg (3 : Int32)) ((Int32.toUInt32 x0 >>> (Int32.toUInt32 (0 : Int32) &&& Int32.toUInt32 31)).toInt32 &&& (255 : Int32)))))])) 0 0 (va_A [(a0, .inr (8, [.ref a1, .int 0, .int 0, .int 0, .int 0, .int 0, .null, .long 0, .int 0, .int 0, .int 0, .int 0])), (a1, .inl (T 0, 940, .inl (fun _ => 0)))] sz) := by
  refine e_V (by decide) (Nat.le_of_ble_eq_true rfl) ?_
  intro p e s m args below meth c A Q ls M hin w ret hl
  have hx := M.1.1
  have hb := M.1.2.1
  have hl : lv_has ls 3 [(0, .ref a0), (1, .int x0)] := hl
  refine lv_bipush (v := 24) hx hb dX8_append_0 (by decide) ?_
  refine lv_istore_n (lv' := [(2, .int 24), (0, .ref a0), (1, .int x0)]) hx hb dX8_append_2 rfl hl (by decide) rfl (fun ls hl => ?_)
  refine lv_iload_n hx hb dX8_append_3 rfl (lv_at hl 0 rfl) ?_
  refine lv_if_lt (tgt := 49) hx hb dX8_append_4 (by decide) (fun c => absurd c (by decide +kernel)) (fun _ => ?_)
  refine lv_aload_n hx hb dX8_append_7 rfl (lv_at hl 1 rfl) ?_
  refine r_get (v := .int 0) M w 0 1 clX8 rfl (by decide) G162 rfl rfl dX8_append_8 ?_
  refine lv_sipush (v := 940) hx hb dX8_append_11 (by decide) ?_
  refine lv_icmp_ge (tgt := 49) hx hb dX8_append_14 (by decide) (fun c => absurd c (by decide +kernel)) (fun _ => ?_)
  refine lv_aload_n hx hb dX8_append_17 rfl (lv_at hl 1 rfl) ?_
  refine r_get (v := .ref a1) M w 0 0 clX8 rfl (by decide) G160 rfl rfl dX8_append_18 ?_
  refine lv_aload_n hx hb dX8_append_21 rfl (lv_at hl 1 rfl) ?_
  refine r_get (v := .int 0) M w 0 1 clX8 rfl (by decide) G162 rfl rfl dX8_append_22 ?_
  refine lv_iload_n hx hb dX8_append_25 rfl (lv_at hl 2 rfl) ?_
  refine lv_iload_n hx hb dX8_append_26 rfl (lv_at hl 0 rfl) ?_
  refine r_iushr (v := (Int32.toUInt32 x0 >>> (Int32.toUInt32 (24 : Int32) &&& Int32.toUInt32 31)).toInt32) M rfl dX8_append_27 ?_
  refine lv_sipush (v := 255) hx hb dX8_append_28 (by decide) ?_
  refine r_iand (v := ((Int32.toUInt32 x0 >>> (Int32.toUInt32 (24 : Int32) &&& Int32.toUInt32 31)).toInt32 &&& (255 : Int32))) M rfl dX8_append_31 ?_
  refine r_iast (ws' := [(a0, .inr (8, [.ref a1, .int 0, .int 0, .int 0, .int 0, .int 0, .null, .long 0, .int 0, .int 0, .int 0, .int 0])), (a1, .inl (T 0, 940, .inl (upd (fun _ => 0) (Int32.toNatClampNeg (0 : Int32)) ((Int32.toUInt32 x0 >>> (Int32.toUInt32 (24 : Int32) &&& Int32.toUInt32 31)).toInt32 &&& (255 : Int32)))))]) M w 1 rfl (vin (by decide +kernel)) rfl dX8_append_32 (fun H locs w => ?_)
  refine lv_aload_n hx hb dX8_append_33 rfl (lv_at hl 1 rfl) ?_
  refine lv_dup hx hb dX8_append_34 rfl ?_
  refine r_get (v := .int 0) M w 0 1 clX8 rfl (by decide) G162 rfl rfl dX8_append_35 ?_
  refine lv_iconst (v := 1) hx hb dX8_append_38 (by decide) ?_
  refine r_iadd (v := (1 : Int32)) M (by decide +kernel) dX8_append_39 ?_
  refine r_put (ws' := [(a0, .inr (8, [.ref a1, .int 1, .int 0, .int 0, .int 0, .int 0, .null, .long 0, .int 0, .int 0, .int 0, .int 0])), (a1, .inl (T 0, 940, .inl (upd (fun _ => 0) (Int32.toNatClampNeg (0 : Int32)) ((Int32.toUInt32 x0 >>> (Int32.toUInt32 (24 : Int32) &&& Int32.toUInt32 31)).toInt32 &&& (255 : Int32)))))]) M w 0 1 clX8 rfl (by decide) G162 rfl rfl rfl rfl (Nat.le_of_ble_eq_true rfl) rfl dX8_append_40 (fun H locs w => ?_)
  refine lv_iinc (v := (16 : Int32)) (lv' := [(2, .int 16), (0, .ref a0), (1, .int x0)]) hx hb dX8_append_43 hl (k := 0) rfl (by decide +kernel) (by decide) rfl (fun ls hl => ?_)
  refine lv_goto (tgt := 3) hx hb dX8_append_46 (by decide) ?_
  refine lv_iload_n hx hb dX8_append_3 rfl (lv_at hl 0 rfl) ?_
  refine lv_if_lt (tgt := 49) hx hb dX8_append_4 (by decide) (fun c => absurd c (by decide +kernel)) (fun _ => ?_)
  refine lv_aload_n hx hb dX8_append_7 rfl (lv_at hl 1 rfl) ?_
  refine r_get (v := .int 1) M w 0 1 clX8 rfl (by decide) G162 rfl rfl dX8_append_8 ?_
  refine lv_sipush (v := 940) hx hb dX8_append_11 (by decide) ?_
  refine lv_icmp_ge (tgt := 49) hx hb dX8_append_14 (by decide) (fun c => absurd c (by decide +kernel)) (fun _ => ?_)
  refine lv_aload_n hx hb dX8_append_17 rfl (lv_at hl 1 rfl) ?_
  refine r_get (v := .ref a1) M w 0 0 clX8 rfl (by decide) G160 rfl rfl dX8_append_18 ?_
  refine lv_aload_n hx hb dX8_append_21 rfl (lv_at hl 1 rfl) ?_
  refine r_get (v := .int 1) M w 0 1 clX8 rfl (by decide) G162 rfl rfl dX8_append_22 ?_
  refine lv_iload_n hx hb dX8_append_25 rfl (lv_at hl 2 rfl) ?_
  refine lv_iload_n hx hb dX8_append_26 rfl (lv_at hl 0 rfl) ?_
  refine r_iushr (v := (Int32.toUInt32 x0 >>> (Int32.toUInt32 (16 : Int32) &&& Int32.toUInt32 31)).toInt32) M rfl dX8_append_27 ?_
  refine lv_sipush (v := 255) hx hb dX8_append_28 (by decide) ?_
  refine r_iand (v := ((Int32.toUInt32 x0 >>> (Int32.toUInt32 (16 : Int32) &&& Int32.toUInt32 31)).toInt32 &&& (255 : Int32))) M rfl dX8_append_31 ?_
  refine r_iast (ws' := [(a0, .inr (8, [.ref a1, .int 1, .int 0, .int 0, .int 0, .int 0, .null, .long 0, .int 0, .int 0, .int 0, .int 0])), (a1, .inl (T 0, 940, .inl (upd (upd (fun _ => 0) (Int32.toNatClampNeg (0 : Int32)) ((Int32.toUInt32 x0 >>> (Int32.toUInt32 (24 : Int32) &&& Int32.toUInt32 31)).toInt32 &&& (255 : Int32))) (Int32.toNatClampNeg (1 : Int32)) ((Int32.toUInt32 x0 >>> (Int32.toUInt32 (16 : Int32) &&& Int32.toUInt32 31)).toInt32 &&& (255 : Int32)))))]) M w 1 rfl (vin (by decide +kernel)) rfl dX8_append_32 (fun H locs w => ?_)
  refine lv_aload_n hx hb dX8_append_33 rfl (lv_at hl 1 rfl) ?_
  refine lv_dup hx hb dX8_append_34 rfl ?_
  refine r_get (v := .int 1) M w 0 1 clX8 rfl (by decide) G162 rfl rfl dX8_append_35 ?_
  refine lv_iconst (v := 1) hx hb dX8_append_38 (by decide) ?_
  refine r_iadd (v := (2 : Int32)) M (by decide +kernel) dX8_append_39 ?_
  refine r_put (ws' := [(a0, .inr (8, [.ref a1, .int 2, .int 0, .int 0, .int 0, .int 0, .null, .long 0, .int 0, .int 0, .int 0, .int 0])), (a1, .inl (T 0, 940, .inl (upd (upd (fun _ => 0) (Int32.toNatClampNeg (0 : Int32)) ((Int32.toUInt32 x0 >>> (Int32.toUInt32 (24 : Int32) &&& Int32.toUInt32 31)).toInt32 &&& (255 : Int32))) (Int32.toNatClampNeg (1 : Int32)) ((Int32.toUInt32 x0 >>> (Int32.toUInt32 (16 : Int32) &&& Int32.toUInt32 31)).toInt32 &&& (255 : Int32)))))]) M w 0 1 clX8 rfl (by decide) G162 rfl rfl rfl rfl (Nat.le_of_ble_eq_true rfl) rfl dX8_append_40 (fun H locs w => ?_)
  refine lv_iinc (v := (8 : Int32)) (lv' := [(2, .int 8), (0, .ref a0), (1, .int x0)]) hx hb dX8_append_43 hl (k := 0) rfl (by decide +kernel) (by decide) rfl (fun ls hl => ?_)
  refine lv_goto (tgt := 3) hx hb dX8_append_46 (by decide) ?_
  refine lv_iload_n hx hb dX8_append_3 rfl (lv_at hl 0 rfl) ?_
  refine lv_if_lt (tgt := 49) hx hb dX8_append_4 (by decide) (fun c => absurd c (by decide +kernel)) (fun _ => ?_)
  refine lv_aload_n hx hb dX8_append_7 rfl (lv_at hl 1 rfl) ?_
  refine r_get (v := .int 2) M w 0 1 clX8 rfl (by decide) G162 rfl rfl dX8_append_8 ?_
  refine lv_sipush (v := 940) hx hb dX8_append_11 (by decide) ?_
  refine lv_icmp_ge (tgt := 49) hx hb dX8_append_14 (by decide) (fun c => absurd c (by decide +kernel)) (fun _ => ?_)
  refine lv_aload_n hx hb dX8_append_17 rfl (lv_at hl 1 rfl) ?_
  refine r_get (v := .ref a1) M w 0 0 clX8 rfl (by decide) G160 rfl rfl dX8_append_18 ?_
  refine lv_aload_n hx hb dX8_append_21 rfl (lv_at hl 1 rfl) ?_
  refine r_get (v := .int 2) M w 0 1 clX8 rfl (by decide) G162 rfl rfl dX8_append_22 ?_
  refine lv_iload_n hx hb dX8_append_25 rfl (lv_at hl 2 rfl) ?_
  refine lv_iload_n hx hb dX8_append_26 rfl (lv_at hl 0 rfl) ?_
  refine r_iushr (v := (Int32.toUInt32 x0 >>> (Int32.toUInt32 (8 : Int32) &&& Int32.toUInt32 31)).toInt32) M rfl dX8_append_27 ?_
  refine lv_sipush (v := 255) hx hb dX8_append_28 (by decide) ?_
  refine r_iand (v := ((Int32.toUInt32 x0 >>> (Int32.toUInt32 (8 : Int32) &&& Int32.toUInt32 31)).toInt32 &&& (255 : Int32))) M rfl dX8_append_31 ?_
  refine r_iast (ws' := [(a0, .inr (8, [.ref a1, .int 2, .int 0, .int 0, .int 0, .int 0, .null, .long 0, .int 0, .int 0, .int 0, .int 0])), (a1, .inl (T 0, 940, .inl (upd (upd (upd (fun _ => 0) (Int32.toNatClampNeg (0 : Int32)) ((Int32.toUInt32 x0 >>> (Int32.toUInt32 (24 : Int32) &&& Int32.toUInt32 31)).toInt32 &&& (255 : Int32))) (Int32.toNatClampNeg (1 : Int32)) ((Int32.toUInt32 x0 >>> (Int32.toUInt32 (16 : Int32) &&& Int32.toUInt32 31)).toInt32 &&& (255 : Int32))) (Int32.toNatClampNeg (2 : Int32)) ((Int32.toUInt32 x0 >>> (Int32.toUInt32 (8 : Int32) &&& Int32.toUInt32 31)).toInt32 &&& (255 : Int32)))))]) M w 1 rfl (vin (by decide +kernel)) rfl dX8_append_32 (fun H locs w => ?_)
  refine lv_aload_n hx hb dX8_append_33 rfl (lv_at hl 1 rfl) ?_
  refine lv_dup hx hb dX8_append_34 rfl ?_
  refine r_get (v := .int 2) M w 0 1 clX8 rfl (by decide) G162 rfl rfl dX8_append_35 ?_
  refine lv_iconst (v := 1) hx hb dX8_append_38 (by decide) ?_
  refine r_iadd (v := (3 : Int32)) M (by decide +kernel) dX8_append_39 ?_
  refine r_put (ws' := [(a0, .inr (8, [.ref a1, .int 3, .int 0, .int 0, .int 0, .int 0, .null, .long 0, .int 0, .int 0, .int 0, .int 0])), (a1, .inl (T 0, 940, .inl (upd (upd (upd (fun _ => 0) (Int32.toNatClampNeg (0 : Int32)) ((Int32.toUInt32 x0 >>> (Int32.toUInt32 (24 : Int32) &&& Int32.toUInt32 31)).toInt32 &&& (255 : Int32))) (Int32.toNatClampNeg (1 : Int32)) ((Int32.toUInt32 x0 >>> (Int32.toUInt32 (16 : Int32) &&& Int32.toUInt32 31)).toInt32 &&& (255 : Int32))) (Int32.toNatClampNeg (2 : Int32)) ((Int32.toUInt32 x0 >>> (Int32.toUInt32 (8 : Int32) &&& Int32.toUInt32 31)).toInt32 &&& (255 : Int32)))))]) M w 0 1 clX8 rfl (by decide) G162 rfl rfl rfl rfl (Nat.le_of_ble_eq_true rfl) rfl dX8_append_40 (fun H locs w => ?_)
  refine lv_iinc (v := (0 : Int32)) (lv' := [(2, .int 0), (0, .ref a0), (1, .int x0)]) hx hb dX8_append_43 hl (k := 0) rfl (by decide +kernel) (by decide) rfl (fun ls hl => ?_)
  refine lv_goto (tgt := 3) hx hb dX8_append_46 (by decide) ?_
  refine lv_iload_n hx hb dX8_append_3 rfl (lv_at hl 0 rfl) ?_
  refine lv_if_lt (tgt := 49) hx hb dX8_append_4 (by decide) (fun c => absurd c (by decide +kernel)) (fun _ => ?_)
  refine lv_aload_n hx hb dX8_append_7 rfl (lv_at hl 1 rfl) ?_
  refine r_get (v := .int 3) M w 0 1 clX8 rfl (by decide) G162 rfl rfl dX8_append_8 ?_
  refine lv_sipush (v := 940) hx hb dX8_append_11 (by decide) ?_
  refine lv_icmp_ge (tgt := 49) hx hb dX8_append_14 (by decide) (fun c => absurd c (by decide +kernel)) (fun _ => ?_)
  refine lv_aload_n hx hb dX8_append_17 rfl (lv_at hl 1 rfl) ?_
  refine r_get (v := .ref a1) M w 0 0 clX8 rfl (by decide) G160 rfl rfl dX8_append_18 ?_
  refine lv_aload_n hx hb dX8_append_21 rfl (lv_at hl 1 rfl) ?_
  refine r_get (v := .int 3) M w 0 1 clX8 rfl (by decide) G162 rfl rfl dX8_append_22 ?_
  refine lv_iload_n hx hb dX8_append_25 rfl (lv_at hl 2 rfl) ?_
  refine lv_iload_n hx hb dX8_append_26 rfl (lv_at hl 0 rfl) ?_
  refine r_iushr (v := (Int32.toUInt32 x0 >>> (Int32.toUInt32 (0 : Int32) &&& Int32.toUInt32 31)).toInt32) M rfl dX8_append_27 ?_
  refine lv_sipush (v := 255) hx hb dX8_append_28 (by decide) ?_
  refine r_iand (v := ((Int32.toUInt32 x0 >>> (Int32.toUInt32 (0 : Int32) &&& Int32.toUInt32 31)).toInt32 &&& (255 : Int32))) M rfl dX8_append_31 ?_
  refine r_iast (ws' := [(a0, .inr (8, [.ref a1, .int 3, .int 0, .int 0, .int 0, .int 0, .null, .long 0, .int 0, .int 0, .int 0, .int 0])), (a1, .inl (T 0, 940, .inl (upd (upd (upd (upd (fun _ => 0) (Int32.toNatClampNeg (0 : Int32)) ((Int32.toUInt32 x0 >>> (Int32.toUInt32 (24 : Int32) &&& Int32.toUInt32 31)).toInt32 &&& (255 : Int32))) (Int32.toNatClampNeg (1 : Int32)) ((Int32.toUInt32 x0 >>> (Int32.toUInt32 (16 : Int32) &&& Int32.toUInt32 31)).toInt32 &&& (255 : Int32))) (Int32.toNatClampNeg (2 : Int32)) ((Int32.toUInt32 x0 >>> (Int32.toUInt32 (8 : Int32) &&& Int32.toUInt32 31)).toInt32 &&& (255 : Int32))) (Int32.toNatClampNeg (3 : Int32)) ((Int32.toUInt32 x0 >>> (Int32.toUInt32 (0 : Int32) &&& Int32.toUInt32 31)).toInt32 &&& (255 : Int32)))))]) M w 1 rfl (vin (by decide +kernel)) rfl dX8_append_32 (fun H locs w => ?_)
  refine lv_aload_n hx hb dX8_append_33 rfl (lv_at hl 1 rfl) ?_
  refine lv_dup hx hb dX8_append_34 rfl ?_
  refine r_get (v := .int 3) M w 0 1 clX8 rfl (by decide) G162 rfl rfl dX8_append_35 ?_
  refine lv_iconst (v := 1) hx hb dX8_append_38 (by decide) ?_
  refine r_iadd (v := (4 : Int32)) M (by decide +kernel) dX8_append_39 ?_
  refine r_put (ws' := [(a0, .inr (8, [.ref a1, .int 4, .int 0, .int 0, .int 0, .int 0, .null, .long 0, .int 0, .int 0, .int 0, .int 0])), (a1, .inl (T 0, 940, .inl (upd (upd (upd (upd (fun _ => 0) (Int32.toNatClampNeg (0 : Int32)) ((Int32.toUInt32 x0 >>> (Int32.toUInt32 (24 : Int32) &&& Int32.toUInt32 31)).toInt32 &&& (255 : Int32))) (Int32.toNatClampNeg (1 : Int32)) ((Int32.toUInt32 x0 >>> (Int32.toUInt32 (16 : Int32) &&& Int32.toUInt32 31)).toInt32 &&& (255 : Int32))) (Int32.toNatClampNeg (2 : Int32)) ((Int32.toUInt32 x0 >>> (Int32.toUInt32 (8 : Int32) &&& Int32.toUInt32 31)).toInt32 &&& (255 : Int32))) (Int32.toNatClampNeg (3 : Int32)) ((Int32.toUInt32 x0 >>> (Int32.toUInt32 (0 : Int32) &&& Int32.toUInt32 31)).toInt32 &&& (255 : Int32)))))]) M w 0 1 clX8 rfl (by decide) G162 rfl rfl rfl rfl (Nat.le_of_ble_eq_true rfl) rfl dX8_append_40 (fun H locs w => ?_)
  refine lv_iinc (v := (-8 : Int32)) (lv' := [(2, .int (-8)), (0, .ref a0), (1, .int x0)]) hx hb dX8_append_43 hl (k := 0) rfl (by decide +kernel) (by decide) rfl (fun ls hl => ?_)
  refine lv_goto (tgt := 3) hx hb dX8_append_46 (by decide) ?_
  refine lv_iload_n hx hb dX8_append_3 rfl (lv_at hl 0 rfl) ?_
  refine lv_if_lt (tgt := 49) hx hb dX8_append_4 (by decide) (fun _ => ?_) (fun c => absurd (by decide +kernel) c)
  exact ret () _ _ _ _ _ [0, 1] dX8_append_49 trivial w (by decide) rfl
set_option maxRecDepth 100000 in
set_option maxHeartbeats 4000000 in
theorem c17_X8_append (l : Launch) (D : va_G) (T : Nat → ClassId) (sz : Nat) (a0 a1 : Nat) (x0 : Int32) (f0 : Nat → Int32) : Met l yX8_append (Cond.code yX8_append cX8_append 3 none :: GW) (Rm 0 0 0) (cPre [.ref a0, .int x0] D T [(a0, .inr (8, [.ref a1, .int 4, .int 0, .int 0, .int 0, .int 0, .null, .long 0, .int 0, .int 0, .int 0, .int 0])), (a1, .inl (T 0, 940, .inl f0))] sz) (qV D [(a0, .inr (8, [.ref a1, .int 4, .int 0, .int 0, .int 0, .int 0, .null, .long 0, .int 0, .int 0, .int 0, .int 0])), (a1, .inl (T 0, 940, .inl f0))] sz (fun (u : Unit) => True) (fun u => [(a0, .inr (8, [.ref a1, .int 8, .int 0, .int 0, .int 0, .int 0, .null, .long 0, .int 0, .int 0, .int 0, .int 0])), (a1, .inl (T 0, 940, .inl (upd (upd (upd (upd f0 (Int32.toNatClampNeg (4 : Int32)) ((Int32.toUInt32 x0 >>> (Int32.toUInt32 (24 : Int32) &&& Int32.toUInt32 31)).toInt32 &&& (255 : Int32))) (Int32.toNatClampNeg (5 : Int32)) ((Int32.toUInt32 x0 >>> (Int32.toUInt32 (16 : Int32) &&& Int32.toUInt32 31)).toInt32 &&& (255 : Int32))) (Int32.toNatClampNeg (6 : Int32)) ((Int32.toUInt32 x0 >>> (Int32.toUInt32 (8 : Int32) &&& Int32.toUInt32 31)).toInt32 &&& (255 : Int32))) (Int32.toNatClampNeg (7 : Int32)) ((Int32.toUInt32 x0 >>> (Int32.toUInt32 (0 : Int32) &&& Int32.toUInt32 31)).toInt32 &&& (255 : Int32)))))])) 0 0 (va_A [(a0, .inr (8, [.ref a1, .int 4, .int 0, .int 0, .int 0, .int 0, .null, .long 0, .int 0, .int 0, .int 0, .int 0])), (a1, .inl (T 0, 940, .inl f0))] sz) := by
  refine e_V (by decide) (Nat.le_of_ble_eq_true rfl) ?_
  intro p e s m args below meth c A Q ls M hin w ret hl
  have hx := M.1.1
  have hb := M.1.2.1
  have hl : lv_has ls 3 [(0, .ref a0), (1, .int x0)] := hl
  refine lv_bipush (v := 24) hx hb dX8_append_0 (by decide) ?_
  refine lv_istore_n (lv' := [(2, .int 24), (0, .ref a0), (1, .int x0)]) hx hb dX8_append_2 rfl hl (by decide) rfl (fun ls hl => ?_)
  refine lv_iload_n hx hb dX8_append_3 rfl (lv_at hl 0 rfl) ?_
  refine lv_if_lt (tgt := 49) hx hb dX8_append_4 (by decide) (fun c => absurd c (by decide +kernel)) (fun _ => ?_)
  refine lv_aload_n hx hb dX8_append_7 rfl (lv_at hl 1 rfl) ?_
  refine r_get (v := .int 4) M w 0 1 clX8 rfl (by decide) G162 rfl rfl dX8_append_8 ?_
  refine lv_sipush (v := 940) hx hb dX8_append_11 (by decide) ?_
  refine lv_icmp_ge (tgt := 49) hx hb dX8_append_14 (by decide) (fun c => absurd c (by decide +kernel)) (fun _ => ?_)
  refine lv_aload_n hx hb dX8_append_17 rfl (lv_at hl 1 rfl) ?_
  refine r_get (v := .ref a1) M w 0 0 clX8 rfl (by decide) G160 rfl rfl dX8_append_18 ?_
  refine lv_aload_n hx hb dX8_append_21 rfl (lv_at hl 1 rfl) ?_
  refine r_get (v := .int 4) M w 0 1 clX8 rfl (by decide) G162 rfl rfl dX8_append_22 ?_
  refine lv_iload_n hx hb dX8_append_25 rfl (lv_at hl 2 rfl) ?_
  refine lv_iload_n hx hb dX8_append_26 rfl (lv_at hl 0 rfl) ?_
  refine r_iushr (v := (Int32.toUInt32 x0 >>> (Int32.toUInt32 (24 : Int32) &&& Int32.toUInt32 31)).toInt32) M rfl dX8_append_27 ?_
  refine lv_sipush (v := 255) hx hb dX8_append_28 (by decide) ?_
  refine r_iand (v := ((Int32.toUInt32 x0 >>> (Int32.toUInt32 (24 : Int32) &&& Int32.toUInt32 31)).toInt32 &&& (255 : Int32))) M rfl dX8_append_31 ?_
  refine r_iast (ws' := [(a0, .inr (8, [.ref a1, .int 4, .int 0, .int 0, .int 0, .int 0, .null, .long 0, .int 0, .int 0, .int 0, .int 0])), (a1, .inl (T 0, 940, .inl (upd f0 (Int32.toNatClampNeg (4 : Int32)) ((Int32.toUInt32 x0 >>> (Int32.toUInt32 (24 : Int32) &&& Int32.toUInt32 31)).toInt32 &&& (255 : Int32)))))]) M w 1 rfl (vin (by decide +kernel)) rfl dX8_append_32 (fun H locs w => ?_)
  refine lv_aload_n hx hb dX8_append_33 rfl (lv_at hl 1 rfl) ?_
  refine lv_dup hx hb dX8_append_34 rfl ?_
  refine r_get (v := .int 4) M w 0 1 clX8 rfl (by decide) G162 rfl rfl dX8_append_35 ?_
  refine lv_iconst (v := 1) hx hb dX8_append_38 (by decide) ?_
  refine r_iadd (v := (5 : Int32)) M (by decide +kernel) dX8_append_39 ?_
  refine r_put (ws' := [(a0, .inr (8, [.ref a1, .int 5, .int 0, .int 0, .int 0, .int 0, .null, .long 0, .int 0, .int 0, .int 0, .int 0])), (a1, .inl (T 0, 940, .inl (upd f0 (Int32.toNatClampNeg (4 : Int32)) ((Int32.toUInt32 x0 >>> (Int32.toUInt32 (24 : Int32) &&& Int32.toUInt32 31)).toInt32 &&& (255 : Int32)))))]) M w 0 1 clX8 rfl (by decide) G162 rfl rfl rfl rfl (Nat.le_of_ble_eq_true rfl) rfl dX8_append_40 (fun H locs w => ?_)
  refine lv_iinc (v := (16 : Int32)) (lv' := [(2, .int 16), (0, .ref a0), (1, .int x0)]) hx hb dX8_append_43 hl (k := 0) rfl (by decide +kernel) (by decide) rfl (fun ls hl => ?_)
  refine lv_goto (tgt := 3) hx hb dX8_append_46 (by decide) ?_
  refine lv_iload_n hx hb dX8_append_3 rfl (lv_at hl 0 rfl) ?_
  refine lv_if_lt (tgt := 49) hx hb dX8_append_4 (by decide) (fun c => absurd c (by decide +kernel)) (fun _ => ?_)
  refine lv_aload_n hx hb dX8_append_7 rfl (lv_at hl 1 rfl) ?_
  refine r_get (v := .int 5) M w 0 1 clX8 rfl (by decide) G162 rfl rfl dX8_append_8 ?_
  refine lv_sipush (v := 940) hx hb dX8_append_11 (by decide) ?_
  refine lv_icmp_ge (tgt := 49) hx hb dX8_append_14 (by decide) (fun c => absurd c (by decide +kernel)) (fun _ => ?_)
  refine lv_aload_n hx hb dX8_append_17 rfl (lv_at hl 1 rfl) ?_
  refine r_get (v := .ref a1) M w 0 0 clX8 rfl (by decide) G160 rfl rfl dX8_append_18 ?_
  refine lv_aload_n hx hb dX8_append_21 rfl (lv_at hl 1 rfl) ?_
  refine r_get (v := .int 5) M w 0 1 clX8 rfl (by decide) G162 rfl rfl dX8_append_22 ?_
  refine lv_iload_n hx hb dX8_append_25 rfl (lv_at hl 2 rfl) ?_
  refine lv_iload_n hx hb dX8_append_26 rfl (lv_at hl 0 rfl) ?_
  refine r_iushr (v := (Int32.toUInt32 x0 >>> (Int32.toUInt32 (16 : Int32) &&& Int32.toUInt32 31)).toInt32) M rfl dX8_append_27 ?_
  refine lv_sipush (v := 255) hx hb dX8_append_28 (by decide) ?_
  refine r_iand (v := ((Int32.toUInt32 x0 >>> (Int32.toUInt32 (16 : Int32) &&& Int32.toUInt32 31)).toInt32 &&& (255 : Int32))) M rfl dX8_append_31 ?_
  refine r_iast (ws' := [(a0, .inr (8, [.ref a1, .int 5, .int 0, .int 0, .int 0, .int 0, .null, .long 0, .int 0, .int 0, .int 0, .int 0])), (a1, .inl (T 0, 940, .inl (upd (upd f0 (Int32.toNatClampNeg (4 : Int32)) ((Int32.toUInt32 x0 >>> (Int32.toUInt32 (24 : Int32) &&& Int32.toUInt32 31)).toInt32 &&& (255 : Int32))) (Int32.toNatClampNeg (5 : Int32)) ((Int32.toUInt32 x0 >>> (Int32.toUInt32 (16 : Int32) &&& Int32.toUInt32 31)).toInt32 &&& (255 : Int32)))))]) M w 1 rfl (vin (by decide +kernel)) rfl dX8_append_32 (fun H locs w => ?_)
  refine lv_aload_n hx hb dX8_append_33 rfl (lv_at hl 1 rfl) ?_
  refine lv_dup hx hb dX8_append_34 rfl ?_
  refine r_get (v := .int 5) M w 0 1 clX8 rfl (by decide) G162 rfl rfl dX8_append_35 ?_
  refine lv_iconst (v := 1) hx hb dX8_append_38 (by decide) ?_
  refine r_iadd (v := (6 : Int32)) M (by decide +kernel) dX8_append_39 ?_
  refine r_put (ws' := [(a0, .inr (8, [.ref a1, .int 6, .int 0, .int 0, .int 0, .int 0, .null, .long 0, .int 0, .int 0, .int 0, .int 0])), (a1, .inl (T 0, 940, .inl (upd (upd f0 (Int32.toNatClampNeg (4 : Int32)) ((Int32.toUInt32 x0 >>> (Int32.toUInt32 (24 : Int32) &&& Int32.toUInt32 31)).toInt32 &&& (255 : Int32))) (Int32.toNatClampNeg (5 : Int32)) ((Int32.toUInt32 x0 >>> (Int32.toUInt32 (16 : Int32) &&& Int32.toUInt32 31)).toInt32 &&& (255 : Int32)))))]) M w 0 1 clX8 rfl (by decide) G162 rfl rfl rfl rfl (Nat.le_of_ble_eq_true rfl) rfl dX8_append_40 (fun H locs w => ?_)
  refine lv_iinc (v := (8 : Int32)) (lv' := [(2, .int 8), (0, .ref a0), (1, .int x0)]) hx hb dX8_append_43 hl (k := 0) rfl (by decide +kernel) (by decide) rfl (fun ls hl => ?_)
  refine lv_goto (tgt := 3) hx hb dX8_append_46 (by decide) ?_
  refine lv_iload_n hx hb dX8_append_3 rfl (lv_at hl 0 rfl) ?_
  refine lv_if_lt (tgt := 49) hx hb dX8_append_4 (by decide) (fun c => absurd c (by decide +kernel)) (fun _ => ?_)
  refine lv_aload_n hx hb dX8_append_7 rfl (lv_at hl 1 rfl) ?_
  refine r_get (v := .int 6) M w 0 1 clX8 rfl (by decide) G162 rfl rfl dX8_append_8 ?_
  refine lv_sipush (v := 940) hx hb dX8_append_11 (by decide) ?_
  refine lv_icmp_ge (tgt := 49) hx hb dX8_append_14 (by decide) (fun c => absurd c (by decide +kernel)) (fun _ => ?_)
  refine lv_aload_n hx hb dX8_append_17 rfl (lv_at hl 1 rfl) ?_
  refine r_get (v := .ref a1) M w 0 0 clX8 rfl (by decide) G160 rfl rfl dX8_append_18 ?_
  refine lv_aload_n hx hb dX8_append_21 rfl (lv_at hl 1 rfl) ?_
  refine r_get (v := .int 6) M w 0 1 clX8 rfl (by decide) G162 rfl rfl dX8_append_22 ?_
  refine lv_iload_n hx hb dX8_append_25 rfl (lv_at hl 2 rfl) ?_
  refine lv_iload_n hx hb dX8_append_26 rfl (lv_at hl 0 rfl) ?_
  refine r_iushr (v := (Int32.toUInt32 x0 >>> (Int32.toUInt32 (8 : Int32) &&& Int32.toUInt32 31)).toInt32) M rfl dX8_append_27 ?_
  refine lv_sipush (v := 255) hx hb dX8_append_28 (by decide) ?_
  refine r_iand (v := ((Int32.toUInt32 x0 >>> (Int32.toUInt32 (8 : Int32) &&& Int32.toUInt32 31)).toInt32 &&& (255 : Int32))) M rfl dX8_append_31 ?_
  refine r_iast (ws' := [(a0, .inr (8, [.ref a1, .int 6, .int 0, .int 0, .int 0, .int 0, .null, .long 0, .int 0, .int 0, .int 0, .int 0])), (a1, .inl (T 0, 940, .inl (upd (upd (upd f0 (Int32.toNatClampNeg (4 : Int32)) ((Int32.toUInt32 x0 >>> (Int32.toUInt32 (24 : Int32) &&& Int32.toUInt32 31)).toInt32 &&& (255 : Int32))) (Int32.toNatClampNeg (5 : Int32)) ((Int32.toUInt32 x0 >>> (Int32.toUInt32 (16 : Int32) &&& Int32.toUInt32 31)).toInt32 &&& (255 : Int32))) (Int32.toNatClampNeg (6 : Int32)) ((Int32.toUInt32 x0 >>> (Int32.toUInt32 (8 : Int32) &&& Int32.toUInt32 31)).toInt32 &&& (255 : Int32)))))]) M w 1 rfl (vin (by decide +kernel)) rfl dX8_append_32 (fun H locs w => ?_)
  refine lv_aload_n hx hb dX8_append_33 rfl (lv_at hl 1 rfl) ?_
  refine lv_dup hx hb dX8_append_34 rfl ?_
  refine r_get (v := .int 6) M w 0 1 clX8 rfl (by decide) G162 rfl rfl dX8_append_35 ?_
  refine lv_iconst (v := 1) hx hb dX8_append_38 (by decide) ?_
  refine r_iadd (v := (7 : Int32)) M (by decide +kernel) dX8_append_39 ?_
  refine r_put (ws' := [(a0, .inr (8, [.ref a1, .int 7, .int 0, .int 0, .int 0, .int 0, .null, .long 0, .int 0, .int 0, .int 0, .int 0])), (a1, .inl (T 0, 940, .inl (upd (upd (upd f0 (Int32.toNatClampNeg (4 : Int32)) ((Int32.toUInt32 x0 >>> (Int32.toUInt32 (24 : Int32) &&& Int32.toUInt32 31)).toInt32 &&& (255 : Int32))) (Int32.toNatClampNeg (5 : Int32)) ((Int32.toUInt32 x0 >>> (Int32.toUInt32 (16 : Int32) &&& Int32.toUInt32 31)).toInt32 &&& (255 : Int32))) (Int32.toNatClampNeg (6 : Int32)) ((Int32.toUInt32 x0 >>> (Int32.toUInt32 (8 : Int32) &&& Int32.toUInt32 31)).toInt32 &&& (255 : Int32)))))]) M w 0 1 clX8 rfl (by decide) G162 rfl rfl rfl rfl (Nat.le_of_ble_eq_true rfl) rfl dX8_append_40 (fun H locs w => ?_)
  refine lv_iinc (v := (0 : Int32)) (lv' := [(2, .int 0), (0, .ref a0), (1, .int x0)]) hx hb dX8_append_43 hl (k := 0) rfl (by decide +kernel) (by decide) rfl (fun ls hl => ?_)
  refine lv_goto (tgt := 3) hx hb dX8_append_46 (by decide) ?_
  refine lv_iload_n hx hb dX8_append_3 rfl (lv_at hl 0 rfl) ?_
  refine lv_if_lt (tgt := 49) hx hb dX8_append_4 (by decide) (fun c => absurd c (by decide +kernel)) (fun _ => ?_)
  refine lv_aload_n hx hb dX8_append_7 rfl (lv_at hl 1 rfl) ?_
  refine r_get (v := .int 7) M w 0 1 clX8 rfl (by decide) G162 rfl rfl dX8_append_8 ?_
  refine lv_sipush (v := 940) hx hb dX8_append_11 (by decide) ?_
  refine lv_icmp_ge (tgt := 49) hx hb dX8_append_14 (by decide) (fun c => absurd c (by decide +kernel)) (fun _ => ?_)
  refine lv_aload_n hx hb dX8_append_17 rfl (lv_at hl 1 rfl) ?_
  refine r_get (v := .ref a1) M w 0 0 clX8 rfl (by decide) G160 rfl rfl dX8_append_18 ?_
  refine lv_aload_n hx hb dX8_append_21 rfl (lv_at hl 1 rfl) ?_
  refine r_get (v := .int 7) M w 0 1 clX8 rfl (by decide) G162 rfl rfl dX8_append_22 ?_
  refine lv_iload_n hx hb dX8_append_25 rfl (lv_at hl 2 rfl) ?_
  refine lv_iload_n hx hb dX8_append_26 rfl (lv_at hl 0 rfl) ?_
  refine r_iushr (v := (Int32.toUInt32 x0 >>> (Int32.toUInt32 (0 : Int32) &&& Int32.toUInt32 31)).toInt32) M rfl dX8_append_27 ?_
  refine lv_sipush (v := 255) hx hb dX8_append_28 (by decide) ?_
  refine r_iand (v := ((Int32.toUInt32 x0 >>> (Int32.toUInt32 (0 : Int32) &&& Int32.toUInt32 31)).toInt32 &&& (255 : Int32))) M rfl dX8_append_31 ?_
  refine r_iast (ws' := [(a0, .inr (8, [.ref a1, .int 7, .int 0, .int 0, .int 0, .int 0, .null, .long 0, .int 0, .int 0, .int 0, .int 0])), (a1, .inl (T 0, 940, .inl (upd (upd (upd (upd f0 (Int32.toNatClampNeg (4 : Int32)) ((Int32.toUInt32 x0 >>> (Int32.toUInt32 (24 : Int32) &&& Int32.toUInt32 31)).toInt32 &&& (255 : Int32))) (Int32.toNatClampNeg (5 : Int32)) ((Int32.toUInt32 x0 >>> (Int32.toUInt32 (16 : Int32) &&& Int32.toUInt32 31)).toInt32 &&& (255 : Int32))) (Int32.toNatClampNeg (6 : Int32)) ((Int32.toUInt32 x0 >>> (Int32.toUInt32 (8 : Int32) &&& Int32.toUInt32 31)).toInt32 &&& (255 : Int32))) (Int32.toNatClampNeg (7 : Int32)) ((Int32.toUInt32 x0 >>> (Int32.toUInt32 (0 : Int32) &&& Int32.toUInt32 31)).toInt32 &&& (255 : Int32)))))]) M w 1 rfl (vin (by decide +kernel)) rfl dX8_append_32 (fun H locs w => ?_)
  refine lv_aload_n hx hb dX8_append_33 rfl (lv_at hl 1 rfl) ?_
  refine lv_dup hx hb dX8_append_34 rfl ?_
  refine r_get (v := .int 7) M w 0 1 clX8 rfl (by decide) G162 rfl rfl dX8_append_35 ?_
  refine lv_iconst (v := 1) hx hb dX8_append_38 (by decide) ?_
  refine r_iadd (v := (8 : Int32)) M (by decide +kernel) dX8_append_39 ?_
  refine r_put (ws' := [(a0, .inr (8, [.ref a1, .int 8, .int 0, .int 0, .int 0, .int 0, .null, .long 0, .int 0, .int 0, .int 0, .int 0])), (a1, .inl (T 0, 940, .inl (upd (upd (upd (upd f0 (Int32.toNatClampNeg (4 : Int32)) ((Int32.toUInt32 x0 >>> (Int32.toUInt32 (24 : Int32) &&& Int32.toUInt32 31)).toInt32 &&& (255 : Int32))) (Int32.toNatClampNeg (5 : Int32)) ((Int32.toUInt32 x0 >>> (Int32.toUInt32 (16 : Int32) &&& Int32.toUInt32 31)).toInt32 &&& (255 : Int32))) (Int32.toNatClampNeg (6 : Int32)) ((Int32.toUInt32 x0 >>> (Int32.toUInt32 (8 : Int32) &&& Int32.toUInt32 31)).toInt32 &&& (255 : Int32))) (Int32.toNatClampNeg (7 : Int32)) ((Int32.toUInt32 x0 >>> (Int32.toUInt32 (0 : Int32) &&& Int32.toUInt32 31)).toInt32 &&& (255 : Int32)))))]) M w 0 1 clX8 rfl (by decide) G162 rfl rfl rfl rfl (Nat.le_of_ble_eq_true rfl) rfl dX8_append_40 (fun H locs w => ?_)
  refine lv_iinc (v := (-8 : Int32)) (lv' := [(2, .int (-8)), (0, .ref a0), (1, .int x0)]) hx hb dX8_append_43 hl (k := 0) rfl (by decide +kernel) (by decide) rfl (fun ls hl => ?_)
  refine lv_goto (tgt := 3) hx hb dX8_append_46 (by decide) ?_
  refine lv_iload_n hx hb dX8_append_3 rfl (lv_at hl 0 rfl) ?_
  refine lv_if_lt (tgt := 49) hx hb dX8_append_4 (by decide) (fun _ => ?_) (fun c => absurd (by decide +kernel) c)
  exact ret () _ _ _ _ _ [0, 1] dX8_append_49 trivial w (by decide) rfl
set_option maxRecDepth 100000 in
set_option maxHeartbeats 4000000 in
theorem c18_X8_append (l : Launch) (D : va_G) (T : Nat → ClassId) (sz : Nat) (a0 a1 : Nat) (x0 : Int32) (f0 : Nat → Int32) : Met l yX8_append (Cond.code yX8_append cX8_append 3 none :: GW) (Rm 0 0 0) (cPre [.ref a0, .int x0] D T [(a0, .inr (8, [.ref a1, .int 8, .int 0, .int 0, .int 0, .int 0, .null, .long 0, .int 0, .int 0, .int 0, .int 0])), (a1, .inl (T 0, 940, .inl f0))] sz) (qV D [(a0, .inr (8, [.ref a1, .int 8, .int 0, .int 0, .int 0, .int 0, .null, .long 0, .int 0, .int 0, .int 0, .int 0])), (a1, .inl (T 0, 940, .inl f0))] sz (fun (u : Unit) => True) (fun u => [(a0, .inr (8, [.ref a1, .int 12, .int 0, .int 0, .int 0, .int 0, .null, .long 0, .int 0, .int 0, .int 0, .int 0])), (a1, .inl (T 0, 940, .inl (upd (upd (upd (upd f0 (Int32.toNatClampNeg (8 : Int32)) ((Int32.toUInt32 x0 >>> (Int32.toUInt32 (24 : Int32) &&& Int32.toUInt32 31)).toInt32 &&& (255 : Int32))) (Int32.toNatClampNeg (9 : Int32)) ((Int32.toUInt32 x0 >>> (Int32.toUInt32 (16 : Int32) &&& Int32.toUInt32 31)).toInt32 &&& (255 : Int32))) (Int32.toNatClampNeg (10 : Int32)) ((Int32.toUInt32 x0 >>> (Int32.toUInt32 (8 : Int32) &&& Int32.toUInt32 31)).toInt32 &&& (255 : Int32))) (Int32.toNatClampNeg (11 : Int32)) ((Int32.toUInt32 x0 >>> (Int32.toUInt32 (0 : Int32) &&& Int32.toUInt32 31)).toInt32 &&& (255 : Int32)))))])) 0 0 (va_A [(a0, .inr (8, [.ref a1, .int 8, .int 0, .int 0, .int 0, .int 0, .null, .long 0, .int 0, .int 0, .int 0, .int 0])), (a1, .inl (T 0, 940, .inl f0))] sz) := by
  refine e_V (by decide) (Nat.le_of_ble_eq_true rfl) ?_
  intro p e s m args below meth c A Q ls M hin w ret hl
  have hx := M.1.1
  have hb := M.1.2.1
  have hl : lv_has ls 3 [(0, .ref a0), (1, .int x0)] := hl
  refine lv_bipush (v := 24) hx hb dX8_append_0 (by decide) ?_
  refine lv_istore_n (lv' := [(2, .int 24), (0, .ref a0), (1, .int x0)]) hx hb dX8_append_2 rfl hl (by decide) rfl (fun ls hl => ?_)
  refine lv_iload_n hx hb dX8_append_3 rfl (lv_at hl 0 rfl) ?_
  refine lv_if_lt (tgt := 49) hx hb dX8_append_4 (by decide) (fun c => absurd c (by decide +kernel)) (fun _ => ?_)
  refine lv_aload_n hx hb dX8_append_7 rfl (lv_at hl 1 rfl) ?_
  refine r_get (v := .int 8) M w 0 1 clX8 rfl (by decide) G162 rfl rfl dX8_append_8 ?_
  refine lv_sipush (v := 940) hx hb dX8_append_11 (by decide) ?_
  refine lv_icmp_ge (tgt := 49) hx hb dX8_append_14 (by decide) (fun c => absurd c (by decide +kernel)) (fun _ => ?_)
  refine lv_aload_n hx hb dX8_append_17 rfl (lv_at hl 1 rfl) ?_
  refine r_get (v := .ref a1) M w 0 0 clX8 rfl (by decide) G160 rfl rfl dX8_append_18 ?_
  refine lv_aload_n hx hb dX8_append_21 rfl (lv_at hl 1 rfl) ?_
  refine r_get (v := .int 8) M w 0 1 clX8 rfl (by decide) G162 rfl rfl dX8_append_22 ?_
  refine lv_iload_n hx hb dX8_append_25 rfl (lv_at hl 2 rfl) ?_
  refine lv_iload_n hx hb dX8_append_26 rfl (lv_at hl 0 rfl) ?_
  refine r_iushr (v := (Int32.toUInt32 x0 >>> (Int32.toUInt32 (24 : Int32) &&& Int32.toUInt32 31)).toInt32) M rfl dX8_append_27 ?_
  refine lv_sipush (v := 255) hx hb dX8_append_28 (by decide) ?_
  refine r_iand (v := ((Int32.toUInt32 x0 >>> (Int32.toUInt32 (24 : Int32) &&& Int32.toUInt32 31)).toInt32 &&& (255 : Int32))) M rfl dX8_append_31 ?_
  refine r_iast (ws' := [(a0, .inr (8, [.ref a1, .int 8, .int 0, .int 0, .int 0, .int 0, .null, .long 0, .int 0, .int 0, .int 0, .int 0])), (a1, .inl (T 0, 940, .inl (upd f0 (Int32.toNatClampNeg (8 : Int32)) ((Int32.toUInt32 x0 >>> (Int32.toUInt32 (24 : Int32) &&& Int32.toUInt32 31)).toInt32 &&& (255 : Int32)))))]) M w 1 rfl (vin (by decide +kernel)) rfl dX8_append_32 (fun H locs w => ?_)
  refine lv_aload_n hx hb dX8_append_33 rfl (lv_at hl 1 rfl) ?_
  refine lv_dup hx hb dX8_append_34 rfl ?_
  refine r_get (v := .int 8) M w 0 1 clX8 rfl (by decide) G162 rfl rfl dX8_append_35 ?_
  refine lv_iconst (v := 1) hx hb dX8_append_38 (by decide) ?_
  refine r_iadd (v := (9 : Int32)) M (by decide +kernel) dX8_append_39 ?_
  refine r_put (ws' := [(a0, .inr (8, [.ref a1, .int 9, .int 0, .int 0, .int 0, .int 0, .null, .long 0, .int 0, .int 0, .int 0, .int 0])), (a1, .inl (T 0, 940, .inl (upd f0 (Int32.toNatClampNeg (8 : Int32)) ((Int32.toUInt32 x0 >>> (Int32.toUInt32 (24 : Int32) &&& Int32.toUInt32 31)).toInt32 &&& (255 : Int32)))))]) M w 0 1 clX8 rfl (by decide) G162 rfl rfl rfl rfl (Nat.le_of_ble_eq_true rfl) rfl dX8_append_40 (fun H locs w => ?_)
  refine lv_iinc (v := (16 : Int32)) (lv' := [(2, .int 16), (0, .ref a0), (1, .int x0)]) hx hb dX8_append_43 hl (k := 0) rfl (by decide +kernel) (by decide) rfl (fun ls hl => ?_)
  refine lv_goto (tgt := 3) hx hb dX8_append_46 (by decide) ?_
  refine lv_iload_n hx hb dX8_append_3 rfl (lv_at hl 0 rfl) ?_
  refine lv_if_lt (tgt := 49) hx hb dX8_append_4 (by decide) (fun c => absurd c (by decide +kernel)) (fun _ => ?_)
  refine lv_aload_n hx hb dX8_append_7 rfl (lv_at hl 1 rfl) ?_
  refine r_get (v := .int 9) M w 0 1 clX8 rfl (by decide) G162 rfl rfl dX8_append_8 ?_
  refine lv_sipush (v := 940) hx hb dX8_append_11 (by decide) ?_
  refine lv_icmp_ge (tgt := 49) hx hb dX8_append_14 (by decide) (fun c => absurd c (by decide +kernel)) (fun _ => ?_)
  refine lv_aload_n hx hb dX8_append_17 rfl (lv_at hl 1 rfl) ?_
  refine r_get (v := .ref a1) M w 0 0 clX8 rfl (by decide) G160 rfl rfl dX8_append_18 ?_
  refine lv_aload_n hx hb dX8_append_21 rfl (lv_at hl 1 rfl) ?_
  refine r_get (v := .int 9) M w 0 1 clX8 rfl (by decide) G162 rfl rfl dX8_append_22 ?_
  refine lv_iload_n hx hb dX8_append_25 rfl (lv_at hl 2 rfl) ?_
  refine lv_iload_n hx hb dX8_append_26 rfl (lv_at hl 0 rfl) ?_
  refine r_iushr (v := (Int32.toUInt32 x0 >>> (Int32.toUInt32 (16 : Int32) &&& Int32.toUInt32 31)).toInt32) M rfl dX8_append_27 ?_
  refine lv_sipush (v := 255) hx hb dX8_append_28 (by decide) ?_
  refine r_iand (v := ((Int32.toUInt32 x0 >>> (Int32.toUInt32 (16 : Int32) &&& Int32.toUInt32 31)).toInt32 &&& (255 : Int32))) M rfl dX8_append_31 ?_
  refine r_iast (ws' := [(a0, .inr (8, [.ref a1, .int 9, .int 0, .int 0, .int 0, .int 0, .null, .long 0, .int 0, .int 0, .int 0, .int 0])), (a1, .inl (T 0, 940, .inl (upd (upd f0 (Int32.toNatClampNeg (8 : Int32)) ((Int32.toUInt32 x0 >>> (Int32.toUInt32 (24 : Int32) &&& Int32.toUInt32 31)).toInt32 &&& (255 : Int32))) (Int32.toNatClampNeg (9 : Int32)) ((Int32.toUInt32 x0 >>> (Int32.toUInt32 (16 : Int32) &&& Int32.toUInt32 31)).toInt32 &&& (255 : Int32)))))]) M w 1 rfl (vin (by decide +kernel)) rfl dX8_append_32 (fun H locs w => ?_)
  refine lv_aload_n hx hb dX8_append_33 rfl (lv_at hl 1 rfl) ?_
  refine lv_dup hx hb dX8_append_34 rfl ?_
  refine r_get (v := .int 9) M w 0 1 clX8 rfl (by decide) G162 rfl rfl dX8_append_35 ?_
  refine lv_iconst (v := 1) hx hb dX8_append_38 (by decide) ?_
  refine r_iadd (v := (10 : Int32)) M (by decide +kernel) dX8_append_39 ?_
  refine r_put (ws' := [(a0, .inr (8, [.ref a1, .int 10, .int 0, .int 0, .int 0, .int 0, .null, .long 0, .int 0, .int 0, .int 0, .int 0])), (a1, .inl (T 0, 940, .inl (upd (upd f0 (Int32.toNatClampNeg (8 : Int32)) ((Int32.toUInt32 x0 >>> (Int32.toUInt32 (24 : Int32) &&& Int32.toUInt32 31)).toInt32 &&& (255 : Int32))) (Int32.toNatClampNeg (9 : Int32)) ((Int32.toUInt32 x0 >>> (Int32.toUInt32 (16 : Int32) &&& Int32.toUInt32 31)).toInt32 &&& (255 : Int32)))))]) M w 0 1 clX8 rfl (by decide) G162 rfl rfl rfl rfl (Nat.le_of_ble_eq_true rfl) rfl dX8_append_40 (fun H locs w => ?_)
  refine lv_iinc (v := (8 : Int32)) (lv' := [(2, .int 8), (0, .ref a0), (1, .int x0)]) hx hb dX8_append_43 hl (k := 0) rfl (by decide +kernel) (by decide) rfl (fun ls hl => ?_)
  refine lv_goto (tgt := 3) hx hb dX8_append_46 (by decide) ?_
  refine lv_iload_n hx hb dX8_append_3 rfl (lv_at hl 0 rfl) ?_
  refine lv_if_lt (tgt := 49) hx hb dX8_append_4 (by decide) (fun c => absurd c (by decide +kernel)) (fun _ => ?_)
  refine lv_aload_n hx hb dX8_append_7 rfl (lv_at hl 1 rfl) ?_
  refine r_get (v := .int 10) M w 0 1 clX8 rfl (by decide) G162 rfl rfl dX8_append_8 ?_
  refine lv_sipush (v := 940) hx hb dX8_append_11 (by decide) ?_
  refine lv_icmp_ge (tgt := 49) hx hb dX8_append_14 (by decide) (fun c => absurd c (by decide +kernel)) (fun _ => ?_)
  refine lv_aload_n hx hb dX8_append_17 rfl (lv_at hl 1 rfl) ?_
  refine r_get (v := .ref a1) M w 0 0 clX8 rfl (by decide) G160 rfl rfl dX8_append_18 ?_
  refine lv_aload_n hx hb dX8_append_21 rfl (lv_at hl 1 rfl) ?_
  refine r_get (v := .int 10) M w 0 1 clX8 rfl (by decide) G162 rfl rfl dX8_append_22 ?_
  refine lv_iload_n hx hb dX8_append_25 rfl (lv_at hl 2 rfl) ?_
  refine lv_iload_n hx hb dX8_append_26 rfl (lv_at hl 0 rfl) ?_
  refine r_iushr (v := (Int32.toUInt32 x0 >>> (Int32.toUInt32 (8 : Int32) &&& Int32.toUInt32 31)).toInt32) M rfl dX8_append_27 ?_
  refine lv_sipush (v := 255) hx hb dX8_append_28 (by decide) ?_
  refine r_iand (v := ((Int32.toUInt32 x0 >>> (Int32.toUInt32 (8 : Int32) &&& Int32.toUInt32 31)).toInt32 &&& (255 : Int32))) M rfl dX8_append_31 ?_
  refine r_iast (ws' := [(a0, .inr (8, [.ref a1, .int 10, .int 0, .int 0, .int 0, .int 0, .null, .long 0, .int 0, .int 0, .int 0, .int 0])), (a1, .inl (T 0, 940, .inl (upd (upd (upd f0 (Int32.toNatClampNeg (8 : Int32)) ((Int32.toUInt32 x0 >>> (Int32.toUInt32 (24 : Int32) &&& Int32.toUInt32 31)).toInt32 &&& (255 : Int32))) (Int32.toNatClampNeg (9 : Int32)) ((Int32.toUInt32 x0 >>> (Int32.toUInt32 (16 : Int32) &&& Int32.toUInt32 31)).toInt32 &&& (255 : Int32))) (Int32.toNatClampNeg (10 : Int32)) ((Int32.toUInt32 x0 >>> (Int32.toUInt32 (8 : Int32) &&& Int32.toUInt32 31)).toInt32 &&& (255 : Int32)))))]) M w 1 rfl (vin (by decide +kernel)) rfl dX8_append_32 (fun H locs w => ?_)
  refine lv_aload_n hx hb dX8_append_33 rfl (lv_at hl 1 rfl) ?_
  refine lv_dup hx hb dX8_append_34 rfl ?_
  refine r_get (v := .int 10) M w 0 1 clX8 rfl (by decide) G162 rfl rfl dX8_append_35 ?_
  refine lv_iconst (v := 1) hx hb dX8_append_38 (by decide) ?_
  refine r_iadd (v := (11 : Int32)) M (by decide +kernel) dX8_append_39 ?_
  refine r_put (ws' := [(a0, .inr (8, [.ref a1, .int 11, .int 0, .int 0, .int 0, .int 0, .null, .long 0, .int 0, .int 0, .int 0, .int 0])), (a1, .inl (T 0, 940, .inl (upd (upd (upd f0 (Int32.toNatClampNeg (8 : Int32)) ((Int32.toUInt32 x0 >>> (Int32.toUInt32 (24 : Int32) &&& Int32.toUInt32 31)).toInt32 &&& (255 : Int32))) (Int32.toNatClampNeg (9 : Int32)) ((Int32.toUInt32 x0 >>> (Int32.toUInt32 (16 : Int32) &&& Int32.toUInt32 31)).toInt32 &&& (255 : Int32))) (Int32.toNatClampNeg (10 : Int32)) ((Int32.toUInt32 x0 >>> (Int32.toUInt32 (8 : Int32) &&& Int32.toUInt32 31)).toInt32 &&& (255 : Int32)))))]) M w 0 1 clX8 rfl (by decide) G162 rfl rfl rfl rfl (Nat.le_of_ble_eq_true rfl) rfl dX8_append_40 (fun H locs w => ?_)
  refine lv_iinc (v := (0 : Int32)) (lv' := [(2, .int 0), (0, .ref a0), (1, .int x0)]) hx hb dX8_append_43 hl (k := 0) rfl (by decide +kernel) (by decide) rfl (fun ls hl => ?_)
  refine lv_goto (tgt := 3) hx hb dX8_append_46 (by decide) ?_
  refine lv_iload_n hx hb dX8_append_3 rfl (lv_at hl 0 rfl) ?_
  refine lv_if_lt (tgt := 49) hx hb dX8_append_4 (by decide) (fun c => absurd c (by decide +kernel)) (fun _ => ?_)
  refine lv_aload_n hx hb dX8_append_7 rfl (lv_at hl 1 rfl) ?_
  refine r_get (v := .int 11) M w 0 1 clX8 rfl (by decide) G162 rfl rfl dX8_append_8 ?_
  refine lv_sipush (v := 940) hx hb dX8_append_11 (by decide) ?_
  refine lv_icmp_ge (tgt := 49) hx hb dX8_append_14 (by decide) (fun c => absurd c (by decide +kernel)) (fun _ => ?_)
  refine lv_aload_n hx hb dX8_append_17 rfl (lv_at hl 1 rfl) ?_
  refine r_get (v := .ref a1) M w 0 0 clX8 rfl (by decide) G160 rfl rfl dX8_append_18 ?_
  refine lv_aload_n hx hb dX8_append_21 rfl (lv_at hl 1 rfl) ?_
  refine r_get (v := .int 11) M w 0 1 clX8 rfl (by decide) G162 rfl rfl dX8_append_22 ?_
  refine lv_iload_n hx hb dX8_append_25 rfl (lv_at hl 2 rfl) ?_
  refine lv_iload_n hx hb dX8_append_26 rfl (lv_at hl 0 rfl) ?_
  refine r_iushr (v := (Int32.toUInt32 x0 >>> (Int32.toUInt32 (0 : Int32) &&& Int32.toUInt32 31)).toInt32) M rfl dX8_append_27 ?_
  refine lv_sipush (v := 255) hx hb dX8_append_28 (by decide) ?_
  refine r_iand (v := ((Int32.toUInt32 x0 >>> (Int32.toUInt32 (0 : Int32) &&& Int32.toUInt32 31)).toInt32 &&& (255 : Int32))) M rfl dX8_append_31 ?_
  refine r_iast (ws' := [(a0, .inr (8, [.ref a1, .int 11, .int 0, .int 0, .int 0, .int 0, .null, .long 0, .int 0, .int 0, .int 0, .int 0])), (a1, .inl (T 0, 940, .inl (upd (upd (upd (upd f0 (Int32.toNatClampNeg (8 : Int32)) ((Int32.toUInt32 x0 >>> (Int32.toUInt32 (24 : Int32) &&& Int32.toUInt32 31)).toInt32 &&& (255 : Int32))) (Int32.toNatClampNeg (9 : Int32)) ((Int32.toUInt32 x0 >>> (Int32.toUInt32 (16 : Int32) &&& Int32.toUInt32 31)).toInt32 &&& (255 : Int32))) (Int32.toNatClampNeg (10 : Int32)) ((Int32.toUInt32 x0 >>> (Int32.toUInt32 (8 : Int32) &&& Int32.toUInt32 31)).toInt32 &&& (255 : Int32))) (Int32.toNatClampNeg (11 : Int32)) ((Int32.toUInt32 x0 >>> (Int32.toUInt32 (0 : Int32) &&& Int32.toUInt32 31)).toInt32 &&& (255 : Int32)))))]) M w 1 rfl (vin (by decide +kernel)) rfl dX8_append_32 (fun H locs w => ?_)
  refine lv_aload_n hx hb dX8_append_33 rfl (lv_at hl 1 rfl) ?_
  refine lv_dup hx hb dX8_append_34 rfl ?_
  refine r_get (v := .int 11) M w 0 1 clX8 rfl (by decide) G162 rfl rfl dX8_append_35 ?_
  refine lv_iconst (v := 1) hx hb dX8_append_38 (by decide) ?_
  refine r_iadd (v := (12 : Int32)) M (by decide +kernel) dX8_append_39 ?_
  refine r_put (ws' := [(a0, .inr (8, [.ref a1, .int 12, .int 0, .int 0, .int 0, .int 0, .null, .long 0, .int 0, .int 0, .int 0, .int 0])), (a1, .inl (T 0, 940, .inl (upd (upd (upd (upd f0 (Int32.toNatClampNeg (8 : Int32)) ((Int32.toUInt32 x0 >>> (Int32.toUInt32 (24 : Int32) &&& Int32.toUInt32 31)).toInt32 &&& (255 : Int32))) (Int32.toNatClampNeg (9 : Int32)) ((Int32.toUInt32 x0 >>> (Int32.toUInt32 (16 : Int32) &&& Int32.toUInt32 31)).toInt32 &&& (255 : Int32))) (Int32.toNatClampNeg (10 : Int32)) ((Int32.toUInt32 x0 >>> (Int32.toUInt32 (8 : Int32) &&& Int32.toUInt32 31)).toInt32 &&& (255 : Int32))) (Int32.toNatClampNeg (11 : Int32)) ((Int32.toUInt32 x0 >>> (Int32.toUInt32 (0 : Int32) &&& Int32.toUInt32 31)).toInt32 &&& (255 : Int32)))))]) M w 0 1 clX8 rfl (by decide) G162 rfl rfl rfl rfl (Nat.le_of_ble_eq_true rfl) rfl dX8_append_40 (fun H locs w => ?_)
  refine lv_iinc (v := (-8 : Int32)) (lv' := [(2, .int (-8)), (0, .ref a0), (1, .int x0)]) hx hb dX8_append_43 hl (k := 0) rfl (by decide +kernel) (by decide) rfl (fun ls hl => ?_)
  refine lv_goto (tgt := 3) hx hb dX8_append_46 (by decide) ?_
  refine lv_iload_n hx hb dX8_append_3 rfl (lv_at hl 0 rfl) ?_
  refine lv_if_lt (tgt := 49) hx hb dX8_append_4 (by decide) (fun _ => ?_) (fun c => absurd (by decide +kernel) c)
  exact ret () _ _ _ _ _ [0, 1] dX8_append_49 trivial w (by decide) rfl
set_option maxRecDepth 100000 in
set_option maxHeartbeats 4000000 in
theorem c19_X8_append (l : Launch) (D : va_G) (T : Nat → ClassId) (sz : Nat) (a0 a1 : Nat) (x0 : Int32) (f0 : Nat → Int32) : Met l yX8_append (Cond.code yX8_append cX8_append 3 none :: GW) (Rm 0 0 0) (cPre [.ref a0, .int x0] D T [(a0, .inr (8, [.ref a1, .int 12, .int 0, .int 0, .int 0, .int 0, .null, .long 0, .int 0, .int 0, .int 0, .int 0])), (a1, .inl (T 0, 940, .inl f0))] sz) (qV D [(a0, .inr (8, [.ref a1, .int 12, .int 0, .int 0, .int 0, .int 0, .null, .long 0, .int 0, .int 0, .int 0, .int 0])), (a1, .inl (T 0, 940, .inl f0))] sz (fun (u : Unit) => True) (fun u => [(a0, .inr (8, [.ref a1, .int 16, .int 0, .int 0, .int 0, .int 0, .null, .long 0, .int 0, .int 0, .int 0, .int 0])), (a1, .inl (T 0, 940, .inl (upd (upd (upd (upd f0 (Int32.toNatClampNeg (12 : Int32)) ((Int32.toUInt32 x0 >>> (Int32.toUInt32 (24 : Int32) &&& Int32.toUInt32 31)).toInt32 &&& (255 : Int32))) (Int32.toNatClampNeg (13 : Int32)) ((Int32.toUInt32 x0 >>> (Int32.toUInt32 (16 : Int32) &&& Int32.toUInt32 31)).toInt32 &&& (255 : Int32))) (Int32.toNatClampNeg (14 : Int32)) ((Int32.toUInt32 x0 >>> (Int32.toUInt32 (8 : Int32) &&& Int32.toUInt32 31)).toInt32 &&& (255 : Int32))) (Int32.toNatClampNeg (15 : Int32)) ((Int32.toUInt32 x0 >>> (Int32.toUInt32 (0 : Int32) &&& Int32.toUInt32 31)).toInt32 &&& (255 : Int32)))))])) 0 0 (va_A [(a0, .inr (8, [.ref a1, .int 12, .int 0, .int 0, .int 0, .int 0, .null, .long 0, .int 0, .int 0, .int 0, .int 0])), (a1, .inl (T 0, 940, .inl f0))] sz) := by
  refine e_V (by decide) (Nat.le_of_ble_eq_true rfl) ?_
  intro p e s m args below meth c A Q ls M hin w ret hl
  have hx := M.1.1
  have hb := M.1.2.1
  have hl : lv_has ls 3 [(0, .ref a0), (1, .int x0)] := hl
  refine lv_bipush (v := 24) hx hb dX8_append_0 (by decide) ?_
  refine lv_istore_n (lv' := [(2, .int 24), (0, .ref a0), (1, .int x0)]) hx hb dX8_append_2 rfl hl (by decide) rfl (fun ls hl => ?_)
  refine lv_iload_n hx hb dX8_append_3 rfl (lv_at hl 0 rfl) ?_
  refine lv_if_lt (tgt := 49) hx hb dX8_append_4 (by decide) (fun c => absurd c (by decide +kernel)) (fun _ => ?_)
  refine lv_aload_n hx hb dX8_append_7 rfl (lv_at hl 1 rfl) ?_
  refine r_get (v := .int 12) M w 0 1 clX8 rfl (by decide) G162 rfl rfl dX8_append_8 ?_
  refine lv_sipush (v := 940) hx hb dX8_append_11 (by decide) ?_
  refine lv_icmp_ge (tgt := 49) hx hb dX8_append_14 (by decide) (fun c => absurd c (by decide +kernel)) (fun _ => ?_)
  refine lv_aload_n hx hb dX8_append_17 rfl (lv_at hl 1 rfl) ?_
  refine r_get (v := .ref a1) M w 0 0 clX8 rfl (by decide) G160 rfl rfl dX8_append_18 ?_
  refine lv_aload_n hx hb dX8_append_21 rfl (lv_at hl 1 rfl) ?_
  refine r_get (v := .int 12) M w 0 1 clX8 rfl (by decide) G162 rfl rfl dX8_append_22 ?_
  refine lv_iload_n hx hb dX8_append_25 rfl (lv_at hl 2 rfl) ?_
  refine lv_iload_n hx hb dX8_append_26 rfl (lv_at hl 0 rfl) ?_
  refine r_iushr (v := (Int32.toUInt32 x0 >>> (Int32.toUInt32 (24 : Int32) &&& Int32.toUInt32 31)).toInt32) M rfl dX8_append_27 ?_
  refine lv_sipush (v := 255) hx hb dX8_append_28 (by decide) ?_
  refine r_iand (v := ((Int32.toUInt32 x0 >>> (Int32.toUInt32 (24 : Int32) &&& Int32.toUInt32 31)).toInt32 &&& (255 : Int32))) M rfl dX8_append_31 ?_
  refine r_iast (ws' := [(a0, .inr (8, [.ref a1, .int 12, .int 0, .int 0, .int 0, .int 0, .null, .long 0, .int 0, .int 0, .int 0, .int 0])), (a1, .inl (T 0, 940, .inl (upd f0 (Int32.toNatClampNeg (12 : Int32)) ((Int32.toUInt32 x0 >>> (Int32.toUInt32 (24 : Int32) &&& Int32.toUInt32 31)).toInt32 &&& (255 : Int32)))))]) M w 1 rfl (vin (by decide +kernel)) rfl dX8_append_32 (fun H locs w => ?_)
  refine lv_aload_n hx hb dX8_append_33 rfl (lv_at hl 1 rfl) ?_
  refine lv_dup hx hb dX8_append_34 rfl ?_
  refine r_get (v := .int 12) M w 0 1 clX8 rfl (by decide) G162 rfl rfl dX8_append_35 ?_
  refine lv_iconst (v := 1) hx hb dX8_append_38 (by decide) ?_
  refine r_iadd (v := (13 : Int32)) M (by decide +kernel) dX8_append_39 ?_
  refine r_put (ws' := [(a0, .inr (8, [.ref a1, .int 13, .int 0, .int 0, .int 0, .int 0, .null, .long 0, .int 0, .int 0, .int 0, .int 0])), (a1, .inl (T 0, 940, .inl (upd f0 (Int32.toNatClampNeg (12 : Int32)) ((Int32.toUInt32 x0 >>> (Int32.toUInt32 (24 : Int32) &&& Int32.toUInt32 31)).toInt32 &&& (255 : Int32)))))]) M w 0 1 clX8 rfl (by decide) G162 rfl rfl rfl rfl (Nat.le_of_ble_eq_true rfl) rfl dX8_append_40 (fun H locs w => ?_)
  refine lv_iinc (v := (16 : Int32)) (lv' := [(2, .int 16), (0, .ref a0), (1, .int x0)]) hx hb dX8_append_43 hl (k := 0) rfl (by decide +kernel) (by decide) rfl (fun ls hl => ?_)
  refine lv_goto (tgt := 3) hx hb dX8_append_46 (by decide) ?_
  refine lv_iload_n hx hb dX8_append_3 rfl (lv_at hl 0 rfl) ?_
  refine lv_if_lt (tgt := 49) hx hb dX8_append_4 (by decide) (fun c => absurd c (by decide +kernel)) (fun _ => ?_)
  refine lv_aload_n hx hb dX8_append_7 rfl (lv_at hl 1 rfl) ?_
  refine r_get (v := .int 13) M w 0 1 clX8 rfl (by decide) G162 rfl rfl dX8_append_8 ?_
  refine lv_sipush (v := 940) hx hb dX8_append_11 (by decide) ?_
  refine lv_icmp_ge (tgt := 49) hx hb dX8_append_14 (by decide) (fun c => absurd c (by decide +kernel)) (fun _ => ?_)
  refine lv_aload_n hx hb dX8_append_17 rfl (lv_at hl 1 rfl) ?_
  refine r_get (v := .ref a1) M w 0 0 clX8 rfl (by decide) G160 rfl rfl dX8_append_18 ?_
  refine lv_aload_n hx hb dX8_append_21 rfl (lv_at hl 1 rfl) ?_
  refine r_get (v := .int 13) M w 0 1 clX8 rfl (by decide) G162 rfl rfl dX8_append_22 ?_
  refine lv_iload_n hx hb dX8_append_25 rfl (lv_at hl 2 rfl) ?_
  refine lv_iload_n hx hb dX8_append_26 rfl (lv_at hl 0 rfl) ?_
  refine r_iushr (v := (Int32.toUInt32 x0 >>> (Int32.toUInt32 (16 : Int32) &&& Int32.toUInt32 31)).toInt32) M rfl dX8_append_27 ?_
  refine lv_sipush (v := 255) hx hb dX8_append_28 (by decide) ?_
  refine r_iand (v := ((Int32.toUInt32 x0 >>> (Int32.toUInt32 (16 : Int32) &&& Int32.toUInt32 31)).toInt32 &&& (255 : Int32))) M rfl dX8_append_31 ?_
  refine r_iast (ws' := [(a0, .inr (8, [.ref a1, .int 13, .int 0, .int 0, .int 0, .int 0, .null, .long 0, .int 0, .int 0, .int 0, .int 0])), (a1, .inl (T 0, 940, .inl (upd (upd f0 (Int32.toNatClampNeg (12 : Int32)) ((Int32.toUInt32 x0 >>> (Int32.toUInt32 (24 : Int32) &&& Int32.toUInt32 31)).toInt32 &&& (255 : Int32))) (Int32.toNatClampNeg (13 : Int32)) ((Int32.toUInt32 x0 >>> (Int32.toUInt32 (16 : Int32) &&& Int32.toUInt32 31)).toInt32 &&& (255 : Int32)))))]) M w 1 rfl (vin (by decide +kernel)) rfl dX8_append_32 (fun H locs w => ?_)
  refine lv_aload_n hx hb dX8_append_33 rfl (lv_at hl 1 rfl) ?_
  refine lv_dup hx hb dX8_append_34 rfl ?_
  refine r_get (v := .int 13) M w 0 1 clX8 rfl (by decide) G162 rfl rfl dX8_append_35 ?_
  refine lv_iconst (v := 1) hx hb dX8_append_38 (by decide) ?_
  refine r_iadd (v := (14 : Int32)) M (by decide +kernel) dX8_append_39 ?_
  refine r_put (ws' := [(a0, .inr (8, [.ref a1, .int 14, .int 0, .int 0, .int 0, .int 0, .null, .long 0, .int 0, .int 0, .int 0, .int 0])), (a1, .inl (T 0, 940, .inl (upd (upd f0 (Int32.toNatClampNeg (12 : Int32)) ((Int32.toUInt32 x0 >>> (Int32.toUInt32 (24 : Int32) &&& Int32.toUInt32 31)).toInt32 &&& (255 : Int32))) (Int32.toNatClampNeg (13 : Int32)) ((Int32.toUInt32 x0 >>> (Int32.toUInt32 (16 : Int32) &&& Int32.toUInt32 31)).toInt32 &&& (255 : Int32)))))]) M w 0 1 clX8 rfl (by decide) G162 rfl rfl rfl rfl (Nat.le_of_ble_eq_true rfl) rfl dX8_append_40 (fun H locs w => ?_)
  refine lv_iinc (v := (8 : Int32)) (lv' := [(2, .int 8), (0, .ref a0), (1, .int x0)]) hx hb dX8_append_43 hl (k := 0) rfl (by decide +kernel) (by decide) rfl (fun ls hl => ?_)
  refine lv_goto (tgt := 3) hx hb dX8_append_46 (by decide) ?_
  refine lv_iload_n hx hb dX8_append_3 rfl (lv_at hl 0 rfl) ?_
  refine lv_if_lt (tgt := 49) hx hb dX8_append_4 (by decide) (fun c => absurd c (by decide +kernel)) (fun _ => ?_)
  refine lv_aload_n hx hb dX8_append_7 rfl (lv_at hl 1 rfl) ?_
  refine r_get (v := .int 14) M w 0 1 clX8 rfl (by decide) G162 rfl rfl dX8_append_8 ?_
  refine lv_sipush (v := 940) hx hb dX8_append_11 (by decide) ?_
  refine lv_icmp_ge (tgt := 49) hx hb dX8_append_14 (by decide) (fun c => absurd c (by decide +kernel)) (fun _ => ?_)
  refine lv_aload_n hx hb dX8_append_17 rfl (lv_at hl 1 rfl) ?_
  refine r_get (v := .ref a1) M w 0 0 clX8 rfl (by decide) G160 rfl rfl dX8_append_18 ?_
  refine lv_aload_n hx hb dX8_append_21 rfl (lv_at hl 1 rfl) ?_
  refine r_get (v := .int 14) M w 0 1 clX8 rfl (by decide) G162 rfl rfl dX8_append_22 ?_
  refine lv_iload_n hx hb dX8_append_25 rfl (lv_at hl 2 rfl) ?_
  refine lv_iload_n hx hb dX8_append_26 rfl (lv_at hl 0 rfl) ?_
  refine r_iushr (v := (Int32.toUInt32 x0 >>> (Int32.toUInt32 (8 : Int32) &&& Int32.toUInt32 31)).toInt32) M rfl dX8_append_27 ?_
  refine lv_sipush (v := 255) hx hb dX8_append_28 (by decide) ?_
  refine r_iand (v := ((Int32.toUInt32 x0 >>> (Int32.toUInt32 (8 : Int32) &&& Int32.toUInt32 31)).toInt32 &&& (255 : Int32))) M rfl dX8_append_31 ?_
  refine r_iast (ws' := [(a0, .inr (8, [.ref a1, .int 14, .int 0, .int 0, .int 0, .int 0, .null, .long 0, .int 0, .int 0, .int 0, .int 0])), (a1, .inl (T 0, 940, .inl (upd (upd (upd f0 (Int32.toNatClampNeg (12 : Int32)) ((Int32.toUInt32 x0 >>> (Int32.toUInt32 (24 : Int32) &&& Int32.toUInt32 31)).toInt32 &&& (255 : Int32))) (Int32.toNatClampNeg (13 : Int32)) ((Int32.toUInt32 x0 >>> (Int32.toUInt32 (16 : Int32) &&& Int32.toUInt32 31)).toInt32 &&& (255 : Int32))) (Int32.toNatClampNeg (14 : Int32)) ((Int32.toUInt32 x0 >>> (Int32.toUInt32 (8 : Int32) &&& Int32.toUInt32 31)).toInt32 &&& (255 : Int32)))))]) M w 1 rfl (vin (by decide +kernel)) rfl dX8_append_32 (fun H locs w => ?_)
  refine lv_aload_n hx hb dX8_append_33 rfl (lv_at hl 1 rfl) ?_
  refine lv_dup hx hb dX8_append_34 rfl ?_
  refine r_get (v := .int 14) M w 0 1 clX8 rfl (by decide) G162 rfl rfl dX8_append_35 ?_
  refine lv_iconst (v := 1) hx hb dX8_append_38 (by decide) ?_
  refine r_iadd (v := (15 : Int32)) M (by decide +kernel) dX8_append_39 ?_
  refine r_put (ws' := [(a0, .inr (8, [.ref a1, .int 15, .int 0, .int 0, .int 0, .int 0, .null, .long 0, .int 0, .int 0, .int 0, .int 0])), (a1, .inl (T 0, 940, .inl (upd (upd (upd f0 (Int32.toNatClampNeg (12 : Int32)) ((Int32.toUInt32 x0 >>> (Int32.toUInt32 (24 : Int32) &&& Int32.toUInt32 31)).toInt32 &&& (255 : Int32))) (Int32.toNatClampNeg (13 : Int32)) ((Int32.toUInt32 x0 >>> (Int32.toUInt32 (16 : Int32) &&& Int32.toUInt32 31)).toInt32 &&& (255 : Int32))) (Int32.toNatClampNeg (14 : Int32)) ((Int32.toUInt32 x0 >>> (Int32.toUInt32 (8 : Int32) &&& Int32.toUInt32 31)).toInt32 &&& (255 : Int32)))))]) M w 0 1 clX8 rfl (by decide) G162 rfl rfl rfl rfl (Nat.le_of_ble_eq_true rfl) rfl dX8_append_40 (fun H locs w => ?_)
  refine lv_iinc (v := (0 : Int32)) (lv' := [(2, .int 0), (0, .ref a0), (1, .int x0)]) hx hb dX8_append_43 hl (k := 0) rfl (by decide +kernel) (by decide) rfl (fun ls hl => ?_)
  refine lv_goto (tgt := 3) hx hb dX8_append_46 (by decide) ?_
  refine lv_iload_n hx hb dX8_append_3 rfl (lv_at hl 0 rfl) ?_
  refine lv_if_lt (tgt := 49) hx hb dX8_append_4 (by decide) (fun c => absurd c (by decide +kernel)) (fun _ => ?_)
  refine lv_aload_n hx hb dX8_append_7 rfl (lv_at hl 1 rfl) ?_
  refine r_get (v := .int 15) M w 0 1 clX8 rfl (by decide) G162 rfl rfl dX8_append_8 ?_
  refine lv_sipush (v := 940) hx hb dX8_append_11 (by decide) ?_
  refine lv_icmp_ge (tgt := 49) hx hb dX8_append_14 (by decide) (fun c => absurd c (by decide +kernel)) (fun _ => ?_)
  refine lv_aload_n hx hb dX8_append_17 rfl (lv_at hl 1 rfl) ?_
  refine r_get (v := .ref a1) M w 0 0 clX8 rfl (by decide) G160 rfl rfl dX8_append_18 ?_
  refine lv_aload_n hx hb dX8_append_21 rfl (lv_at hl 1 rfl) ?_
  refine r_get (v := .int 15) M w 0 1 clX8 rfl (by decide) G162 rfl rfl dX8_append_22 ?_
  refine lv_iload_n hx hb dX8_append_25 rfl (lv_at hl 2 rfl) ?_
  refine lv_iload_n hx hb dX8_append_26 rfl (lv_at hl 0 rfl) ?_
  refine r_iushr (v := (Int32.toUInt32 x0 >>> (Int32.toUInt32 (0 : Int32) &&& Int32.toUInt32 31)).toInt32) M rfl dX8_append_27 ?_
  refine lv_sipush (v := 255) hx hb dX8_append_28 (by decide) ?_
  refine r_iand (v := ((Int32.toUInt32 x0 >>> (Int32.toUInt32 (0 : Int32) &&& Int32.toUInt32 31)).toInt32 &&& (255 : Int32))) M rfl dX8_append_31 ?_
  refine r_iast (ws' := [(a0, .inr (8, [.ref a1, .int 15, .int 0, .int 0, .int 0, .int 0, .null, .long 0, .int 0, .int 0, .int 0, .int 0])), (a1, .inl (T 0, 940, .inl (upd (upd (upd (upd f0 (Int32.toNatClampNeg (12 : Int32)) ((Int32.toUInt32 x0 >>> (Int32.toUInt32 (24 : Int32) &&& Int32.toUInt32 31)).toInt32 &&& (255 : Int32))) (Int32.toNatClampNeg (13 : Int32)) ((Int32.toUInt32 x0 >>> (Int32.toUInt32 (16 : Int32) &&& Int32.toUInt32 31)).toInt32 &&& (255 : Int32))) (Int32.toNatClampNeg (14 : Int32)) ((Int32.toUInt32 x0 >>> (Int32.toUInt32 (8 : Int32) &&& Int32.toUInt32 31)).toInt32 &&& (255 : Int32))) (Int32.toNatClampNeg (15 : Int32)) ((Int32.toUInt32 x0 >>> (Int32.toUInt32 (0 : Int32) &&& Int32.toUInt32 31)).toInt32 &&& (255 : Int32)))))]) M w 1 rfl (vin (by decide +kernel)) rfl dX8_append_32 (fun H locs w => ?_)
  refine lv_aload_n hx hb dX8_append_33 rfl (lv_at hl 1 rfl) ?_
  refine lv_dup hx hb dX8_append_34 rfl ?_
  refine r_get (v := .int 15) M w 0 1 clX8 rfl (by decide) G162 rfl rfl dX8_append_35 ?_
  refine lv_iconst (v := 1) hx hb dX8_append_38 (by decide) ?_
  refine r_iadd (v := (16 : Int32)) M (by decide +kernel) dX8_append_39 ?_
  refine r_put (ws' := [(a0, .inr (8, [.ref a1, .int 16, .int 0, .int 0, .int 0, .int 0, .null, .long 0, .int 0, .int 0, .int 0, .int 0])), (a1, .inl (T 0, 940, .inl (upd (upd (upd (upd f0 (Int32.toNatClampNeg (12 : Int32)) ((Int32.toUInt32 x0 >>> (Int32.toUInt32 (24 : Int32) &&& Int32.toUInt32 31)).toInt32 &&& (255 : Int32))) (Int32.toNatClampNeg (13 : Int32)) ((Int32.toUInt32 x0 >>> (Int32.toUInt32 (16 : Int32) &&& Int32.toUInt32 31)).toInt32 &&& (255 : Int32))) (Int32.toNatClampNeg (14 : Int32)) ((Int32.toUInt32 x0 >>> (Int32.toUInt32 (8 : Int32) &&& Int32.toUInt32 31)).toInt32 &&& (255 : Int32))) (Int32.toNatClampNeg (15 : Int32)) ((Int32.toUInt32 x0 >>> (Int32.toUInt32 (0 : Int32) &&& Int32.toUInt32 31)).toInt32 &&& (255 : Int32)))))]) M w 0 1 clX8 rfl (by decide) G162 rfl rfl rfl rfl (Nat.le_of_ble_eq_true rfl) rfl dX8_append_40 (fun H locs w => ?_)
  refine lv_iinc (v := (-8 : Int32)) (lv' := [(2, .int (-8)), (0, .ref a0), (1, .int x0)]) hx hb dX8_append_43 hl (k := 0) rfl (by decide +kernel) (by decide) rfl (fun ls hl => ?_)
  refine lv_goto (tgt := 3) hx hb dX8_append_46 (by decide) ?_
  refine lv_iload_n hx hb dX8_append_3 rfl (lv_at hl 0 rfl) ?_
  refine lv_if_lt (tgt := 49) hx hb dX8_append_4 (by decide) (fun _ => ?_) (fun c => absurd (by decide +kernel) c)
  exact ret () _ _ _ _ _ [0, 1] dX8_append_49 trivial w (by decide) rfl
set_option maxRecDepth 100000 in
set_option maxHeartbeats 4000000 in
theorem c20_X8_append (l : Launch) (D : va_G) (T : Nat → ClassId) (sz : Nat) (a0 a1 : Nat) (x0 : Int32) (f0 : Nat → Int32) : Met l yX8_append (Cond.code yX8_append cX8_append 3 none :: GW) (Rm 0 0 0) (cPre [.ref a0, .int x0] D T [(a0, .inr (8, [.ref a1, .int 16, .int 0, .int 0, .int 0, .int 0, .null, .long 0, .int 0, .int 0, .int 0, .int 0])), (a1, .inl (T 0, 940, .inl f0))] sz) (qV D [(a0, .inr (8, [.ref a1, .int 16, .int 0, .int 0, .int 0, .int 0, .null, .long 0, .int 0, .int 0, .int 0, .int 0])), (a1, .inl (T 0, 940, .inl f0))] sz (fun (u : Unit) => True) (fun u => [(a0, .inr (8, [.ref a1, .int 20, .int 0, .int 0, .int 0, .int 0, .null, .long 0, .int 0, .int 0, .int 0, .int 0])), (a1, .inl (T 0, 940, .inl (upd (upd (upd (upd f0 (Int32.toNatClampNeg (16 : Int32)) ((Int32.toUInt32 x0 >>> (Int32.toUInt32 (24 : Int32) &&& Int32.toUInt32 31)).toInt32 &&& (255 : Int32))) (Int32.toNatClampNeg (17 : Int32)) ((Int32.toUInt32 x0 >>> (Int32.toUInt32 (16 : Int32) &&& Int32.toUInt32 31)).toInt32 &&& (255 : Int32))) (Int32.toNatClampNeg (18 : Int32)) ((Int32.toUInt32 x0 >>> (Int32.toUInt32 (8 : Int32) &&& Int32.toUInt32 31)).toInt32 &&& (255 : Int32))) (Int32.toNatClampNeg (19 : Int32)) ((Int32.toUInt32 x0 >>> (Int32.toUInt32 (0 : Int32) &&& Int32.toUInt32 31)).toInt32 &&& (255 : Int32)))))])) 0 0 (va_A [(a0, .inr (8, [.ref a1, .int 16, .int 0, .int 0, .int 0, .int 0, .null, .long 0, .int 0, .int 0, .int 0, .int 0])), (a1, .inl (T 0, 940, .inl f0))] sz) := by
  refine e_V (by decide) (Nat.le_of_ble_eq_true rfl) ?_
  intro p e s m args below meth c A Q ls M hin w ret hl
  have hx := M.1.1
  have hb := M.1.2.1
  have hl : lv_has ls 3 [(0, .ref a0), (1, .int x0)] := hl
  refine lv_bipush (v := 24) hx hb dX8_append_0 (by decide) ?_
  refine lv_istore_n (lv' := [(2, .int 24), (0, .ref a0), (1, .int x0)]) hx hb dX8_append_2 rfl hl (by decide) rfl (fun ls hl => ?_)
  refine lv_iload_n hx hb dX8_append_3 rfl (lv_at hl 0 rfl) ?_
  refine lv_if_lt (tgt := 49) hx hb dX8_append_4 (by decide) (fun c => absurd c (by decide +kernel)) (fun _ => ?_)
  refine lv_aload_n hx hb dX8_append_7 rfl (lv_at hl 1 rfl) ?_
  refine r_get (v := .int 16) M w 0 1 clX8 rfl (by decide) G162 rfl rfl dX8_append_8 ?_
  refine lv_sipush (v := 940) hx hb dX8_append_11 (by decide) ?_
  refine lv_icmp_ge (tgt := 49) hx hb dX8_append_14 (by decide) (fun c => absurd c (by decide +kernel)) (fun _ => ?_)
  refine lv_aload_n hx hb dX8_append_17 rfl (lv_at hl 1 rfl) ?_
  refine r_get (v := .ref a1) M w 0 0 clX8 rfl (by decide) G160 rfl rfl dX8_append_18 ?_
  refine lv_aload_n hx hb dX8_append_21 rfl (lv_at hl 1 rfl) ?_
  refine r_get (v := .int 16) M w 0 1 clX8 rfl (by decide) G162 rfl rfl dX8_append_22 ?_
  refine lv_iload_n hx hb dX8_append_25 rfl (lv_at hl 2 rfl) ?_
  refine lv_iload_n hx hb dX8_append_26 rfl (lv_at hl 0 rfl) ?_
  refine r_iushr (v := (Int32.toUInt32 x0 >>> (Int32.toUInt32 (24 : Int32) &&& Int32.toUInt32 31)).toInt32) M rfl dX8_append_27 ?_
  refine lv_sipush (v := 255) hx hb dX8_append_28 (by decide) ?_
  refine r_iand (v := ((Int32.toUInt32 x0 >>> (Int32.toUInt32 (24 : Int32) &&& Int32.toUInt32 31)).toInt32 &&& (255 : Int32))) M rfl dX8_append_31 ?_
  refine r_iast (ws' := [(a0, .inr (8, [.ref a1, .int 16, .int 0, .int 0, .int 0, .int 0, .null, .long 0, .int 0, .int 0, .int 0, .int 0])), (a1, .inl (T 0, 940, .inl (upd f0 (Int32.toNatClampNeg (16 : Int32)) ((Int32.toUInt32 x0 >>> (Int32.toUInt32 (24 : Int32) &&& Int32.toUInt32 31)).toInt32 &&& (255 : Int32)))))]) M w 1 rfl (vin (by decide +kernel)) rfl dX8_append_32 (fun H locs w => ?_)
  refine lv_aload_n hx hb dX8_append_33 rfl (lv_at hl 1 rfl) ?_
  refine lv_dup hx hb dX8_append_34 rfl ?_
  refine r_get (v := .int 16) M w 0 1 clX8 rfl (by decide) G162 rfl rfl dX8_append_35 ?_
  refine lv_iconst (v := 1) hx hb dX8_append_38 (by decide) ?_
  refine r_iadd (v := (17 : Int32)) M (by decide +kernel) dX8_append_39 ?_
  refine r_put (ws' := [(a0, .inr (8, [.ref a1, .int 17, .int 0, .int 0, .int 0, .int 0, .null, .long 0, .int 0, .int 0, .int 0, .int 0])), (a1, .inl (T 0, 940, .inl (upd f0 (Int32.toNatClampNeg (16 : Int32)) ((Int32.toUInt32 x0 >>> (Int32.toUInt32 (24 : Int32) &&& Int32.toUInt32 31)).toInt32 &&& (255 : Int32)))))]) M w 0 1 clX8 rfl (by decide) G162 rfl rfl rfl rfl (Nat.le_of_ble_eq_true rfl) rfl dX8_append_40 (fun H locs w => ?_)
  refine lv_iinc (v := (16 : Int32)) (lv' := [(2, .int 16), (0, .ref a0), (1, .int x0)]) hx hb dX8_append_43 hl (k := 0) rfl (by decide +kernel) (by decide) rfl (fun ls hl => ?_)
  refine lv_goto (tgt := 3) hx hb dX8_append_46 (by decide) ?_
  refine lv_iload_n hx hb dX8_append_3 rfl (lv_at hl 0 rfl) ?_
  refine lv_if_lt (tgt := 49) hx hb dX8_append_4 (by decide) (fun c => absurd c (by decide +kernel)) (fun _ => ?_)
  refine lv_aload_n hx hb dX8_append_7 rfl (lv_at hl 1 rfl) ?_
  refine r_get (v := .int 17) M w 0 1 clX8 rfl (by decide) G162 rfl rfl dX8_append_8 ?_
  refine lv_sipush (v := 940) hx hb dX8_append_11 (by decide) ?_
  refine lv_icmp_ge (tgt := 49) hx hb dX8_append_14 (by decide) (fun c => absurd c (by decide +kernel)) (fun _ => ?_)
  refine lv_aload_n hx hb dX8_append_17 rfl (lv_at hl 1 rfl) ?_
  refine r_get (v := .ref a1) M w 0 0 clX8 rfl (by decide) G160 rfl rfl dX8_append_18 ?_
  refine lv_aload_n hx hb dX8_append_21 rfl (lv_at hl 1 rfl) ?_
  refine r_get (v := .int 17) M w 0 1 clX8 rfl (by decide) G162 rfl rfl dX8_append_22 ?_
  refine lv_iload_n hx hb dX8_append_25 rfl (lv_at hl 2 rfl) ?_
  refine lv_iload_n hx hb dX8_append_26 rfl (lv_at hl 0 rfl) ?_
  refine r_iushr (v := (Int32.toUInt32 x0 >>> (Int32.toUInt32 (16 : Int32) &&& Int32.toUInt32 31)).toInt32) M rfl dX8_append_27 ?_
  refine lv_sipush (v := 255) hx hb dX8_append_28 (by decide) ?_
  refine r_iand (v := ((Int32.toUInt32 x0 >>> (Int32.toUInt32 (16 : Int32) &&& Int32.toUInt32 31)).toInt32 &&& (255 : Int32))) M rfl dX8_append_31 ?_
  refine r_iast (ws' := [(a0, .inr (8, [.ref a1, .int 17, .int 0, .int 0, .int 0, .int 0, .null, .long 0, .int 0, .int 0, .int 0, .int 0])), (a1, .inl (T 0, 940, .inl (upd (upd f0 (Int32.toNatClampNeg (16 : Int32)) ((Int32.toUInt32 x0 >>> (Int32.toUInt32 (24 : Int32) &&& Int32.toUInt32 31)).toInt32 &&& (255 : Int32))) (Int32.toNatClampNeg (17 : Int32)) ((Int32.toUInt32 x0 >>> (Int32.toUInt32 (16 : Int32) &&& Int32.toUInt32 31)).toInt32 &&& (255 : Int32)))))]) M w 1 rfl (vin (by decide +kernel)) rfl dX8_append_32 (fun H locs w => ?_)
  refine lv_aload_n hx hb dX8_append_33 rfl (lv_at hl 1 rfl) ?_
  refine lv_dup hx hb dX8_append_34 rfl ?_
  refine r_get (v := .int 17) M w 0 1 clX8 rfl (by decide) G162 rfl rfl dX8_append_35 ?_
  refine lv_iconst (v := 1) hx hb dX8_append_38 (by decide) ?_
  refine r_iadd (v := (18 : Int32)) M (by decide +kernel) dX8_append_39 ?_
  refine r_put (ws' := [(a0, .inr (8, [.ref a1, .int 18, .int 0, .int 0, .int 0, .int 0, .null, .long 0, .int 0, .int 0, .int 0, .int 0])), (a1, .inl (T 0, 940, .inl (upd (upd f0 (Int32.toNatClampNeg (16 : Int32)) ((Int32.toUInt32 x0 >>> (Int32.toUInt32 (24 : Int32) &&& Int32.toUInt32 31)).toInt32 &&& (255 : Int32))) (Int32.toNatClampNeg (17 : Int32)) ((Int32.toUInt32 x0 >>> (Int32.toUInt32 (16 : Int32) &&& Int32.toUInt32 31)).toInt32 &&& (255 : Int32)))))]) M w 0 1 clX8 rfl (by decide) G162 rfl rfl rfl rfl (Nat.le_of_ble_eq_true rfl) rfl dX8_append_40 (fun H locs w => ?_)
  refine lv_iinc (v := (8 : Int32)) (lv' := [(2, .int 8), (0, .ref a0), (1, .int x0)]) hx hb dX8_append_43 hl (k := 0) rfl (by decide +kernel) (by decide) rfl (fun ls hl => ?_)
  refine lv_goto (tgt := 3) hx hb dX8_append_46 (by decide) ?_
  refine lv_iload_n hx hb dX8_append_3 rfl (lv_at hl 0 rfl) ?_
  refine lv_if_lt (tgt := 49) hx hb dX8_append_4 (by decide) (fun c => absurd c (by decide +kernel)) (fun _ => ?_)
  refine lv_aload_n hx hb dX8_append_7 rfl (lv_at hl 1 rfl) ?_
  refine r_get (v := .int 18) M w 0 1 clX8 rfl (by decide) G162 rfl rfl dX8_append_8 ?_
  refine lv_sipush (v := 940) hx hb dX8_append_11 (by decide) ?_
  refine lv_icmp_ge (tgt := 49) hx hb dX8_append_14 (by decide) (fun c => absurd c (by decide +kernel)) (fun _ => ?_)
  refine lv_aload_n hx hb dX8_append_17 rfl (lv_at hl 1 rfl) ?_
  refine r_get (v := .ref a1) M w 0 0 clX8 rfl (by decide) G160 rfl rfl dX8_append_18 ?_
  refine lv_aload_n hx hb dX8_append_21 rfl (lv_at hl 1 rfl) ?_
  refine r_get (v := .int 18) M w 0 1 clX8 rfl (by decide) G162 rfl rfl dX8_append_22 ?_
  refine lv_iload_n hx hb dX8_append_25 rfl (lv_at hl 2 rfl) ?_
  refine lv_iload_n hx hb dX8_append_26 rfl (lv_at hl 0 rfl) ?_
  refine r_iushr (v := (Int32.toUInt32 x0 >>> (Int32.toUInt32 (8 : Int32) &&& Int32.toUInt32 31)).toInt32) M rfl dX8_append_27 ?_
  refine lv_sipush (v := 255) hx hb dX8_append_28 (by decide) ?_
  refine r_iand (v := ((Int32.toUInt32 x0 >>> (Int32.toUInt32 (8 : Int32) &&& Int32.toUInt32 31)).toInt32 &&& (255 : Int32))) M rfl dX8_append_31 ?_
  refine r_iast (ws' := [(a0, .inr (8, [.ref a1, .int 18, .int 0, .int 0, .int 0, .int 0, .null, .long 0, .int 0, .int 0, .int 0, .int 0])), (a1, .inl (T 0, 940, .inl (upd (upd (upd f0 (Int32.toNatClampNeg (16 : Int32)) ((Int32.toUInt32 x0 >>> (Int32.toUInt32 (24 : Int32) &&& Int32.toUInt32 31)).toInt32 &&& (255 : Int32))) (Int32.toNatClampNeg (17 : Int32)) ((Int32.toUInt32 x0 >>> (Int32.toUInt32 (16 : Int32) &&& Int32.toUInt32 31)).toInt32 &&& (255 : Int32))) (Int32.toNatClampNeg (18 : Int32)) ((Int32.toUInt32 x0 >>> (Int32.toUInt32 (8 : Int32) &&& Int32.toUInt32 31)).toInt32 &&& (255 : Int32)))))]) M w 1 rfl (vin (by decide +kernel)) rfl dX8_append_32 (fun H locs w => ?_)
  refine lv_aload_n hx hb dX8_append_33 rfl (lv_at hl 1 rfl) ?_
  refine lv_dup hx hb dX8_append_34 rfl ?_
  refine r_get (v := .int 18) M w 0 1 clX8 rfl (by decide) G162 rfl rfl dX8_append_35 ?_
  refine lv_iconst (v := 1) hx hb dX8_append_38 (by decide) ?_
  refine r_iadd (v := (19 : Int32)) M (by decide +kernel) dX8_append_39 ?_
  refine r_put (ws' := [(a0, .inr (8, [.ref a1, .int 19, .int 0, .int 0, .int 0, .int 0, .null, .long 0, .int 0, .int 0, .int 0, .int 0])), (a1, .inl (T 0, 940, .inl (upd (upd (upd f0 (Int32.toNatClampNeg (16 : Int32)) ((Int32.toUInt32 x0 >>> (Int32.toUInt32 (24 : Int32) &&& Int32.toUInt32 31)).toInt32 &&& (255 : Int32))) (Int32.toNatClampNeg (17 : Int32)) ((Int32.toUInt32 x0 >>> (Int32.toUInt32 (16 : Int32) &&& Int32.toUInt32 31)).toInt32 &&& (255 : Int32))) (Int32.toNatClampNeg (18 : Int32)) ((Int32.toUInt32 x0 >>> (Int32.toUInt32 (8 : Int32) &&& Int32.toUInt32 31)).toInt32 &&& (255 : Int32)))))]) M w 0 1 clX8 rfl (by decide) G162 rfl rfl rfl rfl (Nat.le_of_ble_eq_true rfl) rfl dX8_append_40 (fun H locs w => ?_)
  refine lv_iinc (v := (0 : Int32)) (lv' := [(2, .int 0), (0, .ref a0), (1, .int x0)]) hx hb dX8_append_43 hl (k := 0) rfl (by decide +kernel) (by decide) rfl (fun ls hl => ?_)
  refine lv_goto (tgt := 3) hx hb dX8_append_46 (by decide) ?_
  refine lv_iload_n hx hb dX8_append_3 rfl (lv_at hl 0 rfl) ?_
  refine lv_if_lt (tgt := 49) hx hb dX8_append_4 (by decide) (fun c => absurd c (by decide +kernel)) (fun _ => ?_)
  refine lv_aload_n hx hb dX8_append_7 rfl (lv_at hl 1 rfl) ?_
  refine r_get (v := .int 19) M w 0 1 clX8 rfl (by decide) G162 rfl rfl dX8_append_8 ?_
  refine lv_sipush (v := 940) hx hb dX8_append_11 (by decide) ?_
  refine lv_icmp_ge (tgt := 49) hx hb dX8_append_14 (by decide) (fun c => absurd c (by decide +kernel)) (fun _ => ?_)
  refine lv_aload_n hx hb dX8_append_17 rfl (lv_at hl 1 rfl) ?_
  refine r_get (v := .ref a1) M w 0 0 clX8 rfl (by decide) G160 rfl rfl dX8_append_18 ?_
  refine lv_aload_n hx hb dX8_append_21 rfl (lv_at hl 1 rfl) ?_
  refine r_get (v := .int 19) M w 0 1 clX8 rfl (by decide) G162 rfl rfl dX8_append_22 ?_
  refine lv_iload_n hx hb dX8_append_25 rfl (lv_at hl 2 rfl) ?_
  refine lv_iload_n hx hb dX8_append_26 rfl (lv_at hl 0 rfl) ?_
  refine r_iushr (v := (Int32.toUInt32 x0 >>> (Int32.toUInt32 (0 : Int32) &&& Int32.toUInt32 31)).toInt32) M rfl dX8_append_27 ?_
  refine lv_sipush (v := 255) hx hb dX8_append_28 (by decide) ?_
  refine r_iand (v := ((Int32.toUInt32 x0 >>> (Int32.toUInt32 (0 : Int32) &&& Int32.toUInt32 31)).toInt32 &&& (255 : Int32))) M rfl dX8_append_31 ?_
  refine r_iast (ws' := [(a0, .inr (8, [.ref a1, .int 19, .int 0, .int 0, .int 0, .int 0, .null, .long 0, .int 0, .int 0, .int 0, .int 0])), (a1, .inl (T 0, 940, .inl (upd (upd (upd (upd f0 (Int32.toNatClampNeg (16 : Int32)) ((Int32.toUInt32 x0 >>> (Int32.toUInt32 (24 : Int32) &&& Int32.toUInt32 31)).toInt32 &&& (255 : Int32))) (Int32.toNatClampNeg (17 : Int32)) ((Int32.toUInt32 x0 >>> (Int32.toUInt32 (16 : Int32) &&& Int32.toUInt32 31)).toInt32 &&& (255 : Int32))) (Int32.toNatClampNeg (18 : Int32)) ((Int32.toUInt32 x0 >>> (Int32.toUInt32 (8 : Int32) &&& Int32.toUInt32 31)).toInt32 &&& (255 : Int32))) (Int32.toNatClampNeg (19 : Int32)) ((Int32.toUInt32 x0 >>> (Int32.toUInt32 (0 : Int32) &&& Int32.toUInt32 31)).toInt32 &&& (255 : Int32)))))]) M w 1 rfl (vin (by decide +kernel)) rfl dX8_append_32 (fun H locs w => ?_)
  refine lv_aload_n hx hb dX8_append_33 rfl (lv_at hl 1 rfl) ?_
  refine lv_dup hx hb dX8_append_34 rfl ?_
  refine r_get (v := .int 19) M w 0 1 clX8 rfl (by decide) G162 rfl rfl dX8_append_35 ?_
  refine lv_iconst (v := 1) hx hb dX8_append_38 (by decide) ?_
  refine r_iadd (v := (20 : Int32)) M (by decide +kernel) dX8_append_39 ?_
  refine r_put (ws' := [(a0, .inr (8, [.ref a1, .int 20, .int 0, .int 0, .int 0, .int 0, .null, .long 0, .int 0, .int 0, .int 0, .int 0])), (a1, .inl (T 0, 940, .inl (upd (upd (upd (upd f0 (Int32.toNatClampNeg (16 : Int32)) ((Int32.toUInt32 x0 >>> (Int32.toUInt32 (24 : Int32) &&& Int32.toUInt32 31)).toInt32 &&& (255 : Int32))) (Int32.toNatClampNeg (17 : Int32)) ((Int32.toUInt32 x0 >>> (Int32.toUInt32 (16 : Int32) &&& Int32.toUInt32 31)).toInt32 &&& (255 : Int32))) (Int32.toNatClampNeg (18 : Int32)) ((Int32.toUInt32 x0 >>> (Int32.toUInt32 (8 : Int32) &&& Int32.toUInt32 31)).toInt32 &&& (255 : Int32))) (Int32.toNatClampNeg (19 : Int32)) ((Int32.toUInt32 x0 >>> (Int32.toUInt32 (0 : Int32) &&& Int32.toUInt32 31)).toInt32 &&& (255 : Int32)))))]) M w 0 1 clX8 rfl (by decide) G162 rfl rfl rfl rfl (Nat.le_of_ble_eq_true rfl) rfl dX8_append_40 (fun H locs w => ?_)
  refine lv_iinc (v := (-8 : Int32)) (lv' := [(2, .int (-8)), (0, .ref a0), (1, .int x0)]) hx hb dX8_append_43 hl (k := 0) rfl (by decide +kernel) (by decide) rfl (fun ls hl => ?_)
  refine lv_goto (tgt := 3) hx hb dX8_append_46 (by decide) ?_
  refine lv_iload_n hx hb dX8_append_3 rfl (lv_at hl 0 rfl) ?_
  refine lv_if_lt (tgt := 49) hx hb dX8_append_4 (by decide) (fun _ => ?_) (fun c => absurd (by decide +kernel) c)
  exact ret () _ _ _ _ _ [0, 1] dX8_append_49 trivial w (by decide) rfl
set_option maxRecDepth 100000 in
set_option maxHeartbeats 4000000 in
theorem c21_X8_take (l : Launch) (D : va_G) (T : Nat → ClassId) (sz : Nat) (a0 a1 : Nat) (x0 : Int32) (x1 : Int32) (x2 : Int32) (x3 : Int32) (x4 : Int32) : Met l yX8_take (Cond.code yX8_take cX8_take 6 (some .int) :: GW) (Rm 1 0 0) (cPre [.ref a0, .int x0, .int x1, .int x2, .int x3, .int x4] D T [(a0, .inr (8, [.ref a1, .int 0, .int 0, .int 0, .int 0, .int 0, .null, .long 0, .int 0, .int 0, .int 0, .int 0])), (a1, .inl (T 0, 940, .inl (fun _ => 0)))] sz) (qI D [(a0, .inr (8, [.ref a1, .int 0, .int 0, .int 0, .int 0, .int 0, .null, .long 0, .int 0, .int 0, .int 0, .int 0])), (a1, .inl (T 0, 940, .inl (fun _ => 0)))] sz (fun (v : Int32) (u : Unit) => (20 : Int32) = v) (fun u => [(a0, .inr (8, [.ref a1, .int 20, .int 0, .int 0, .int 0, .int 0, .null, .long 0, .int 0, .int 0, .int 0, .int 0])), (a1, .inl (T 0, 940, .inl (upd (upd (upd (upd (upd (upd (upd (upd (upd (upd (upd (upd (upd (upd (upd (upd (upd (upd (upd (upd (fun _ => 0) (Int32.toNatClampNeg (0 : Int32)) ((Int32.toUInt32 x0 >>> (Int32.toUInt32 (24 : Int32) &&& Int32.toUInt32 31)).toInt32 &&& (255 : Int32))) (Int32.toNatClampNeg (1 : Int32)) ((Int32.toUInt32 x0 >>> (Int32.toUInt32 (16 : Int32) &&& Int32.toUInt32 31)).toInt32 &&& (255 : Int32))) (Int32.toNatClampNeg (2 : Int32)) ((Int32.toUInt32 x0 >>> (Int32.toUInt32 (8 : Int32) &&& Int32.toUInt32 31)).toInt32 &&& (255 : Int32))) (Int32.toNatClampNeg (3 : Int32)) ((Int32.toUInt32 x0 >>> (Int32.toUInt32 (0 : Int32) &&& Int32.toUInt32 31)).toInt32 &&& (255 : Int32))) (Int32.toNatClampNeg (4 : Int32)) ((Int32.toUInt32 x1 >>> (Int32.toUInt32 (24 : Int32) &&& Int32.toUInt32 31)).toInt32 &&& (255 : Int32))) (Int32.toNatClampNeg (5 : Int32)) ((Int32.toUInt32 x1 >>> (Int32.toUInt32 (16 : Int32) &&& Int32.toUInt32 31)).toInt32 &&& (255 : Int32))) (Int32.toNatClampNeg (6 : Int32)) ((Int32.toUInt32 x1 >>> (Int32.toUInt32 (8 : Int32) &&& Int32.toUInt32 31)).toInt32 &&& (255 : Int32))) (Int32.toNatClampNeg (7 : Int32)) ((Int32.toUInt32 x1 >>> (Int32.toUInt32 (0 : Int32) &&& Int32.toUInt32 31)).toInt32 &&& (255 : Int32))) (Int32.toNatClampNeg (8 : Int32)) ((Int32.toUInt32 x2 >>> (Int32.toUInt32 (24 : Int32) &&& Int32.toUInt32 31)).toInt32 &&& (255 : Int32))) (Int32.toNatClampNeg (9 : Int32)) ((Int32.toUInt32 x2 >>> (Int32.toUInt32 (16 : Int32) &&& Int32.toUInt32 31)).toInt32 &&& (255 : Int32))) (Int32.toNatClampNeg (10 : Int32)) ((Int32.toUInt32 x2 >>> (Int32.toUInt32 (8 : Int32) &&& Int32.toUInt32 31)).toInt32 &&& (255 : Int32))) (Int32.toNatClampNeg (11 : Int32)) ((Int32.toUInt32 x2 >>> (Int32.toUInt32 (0 : Int32) &&& Int32.toUInt32 31)).toInt32 &&& (255 : Int32))) (Int32.toNatClampNeg (12 : Int32)) ((Int32.toUInt32 x3 >>> (Int32.toUInt32 (24 : Int32) &&& Int32.toUInt32 31)).toInt32 &&& (255 : Int32))) (Int32.toNatClampNeg (13 : Int32)) ((Int32.toUInt32 x3 >>> (Int32.toUInt32 (16 : Int32) &&& Int32.toUInt32 31)).toInt32 &&& (255 : Int32))) (Int32.toNatClampNeg (14 : Int32)) ((Int32.toUInt32 x3 >>> (Int32.toUInt32 (8 : Int32) &&& Int32.toUInt32 31)).toInt32 &&& (255 : Int32))) (Int32.toNatClampNeg (15 : Int32)) ((Int32.toUInt32 x3 >>> (Int32.toUInt32 (0 : Int32) &&& Int32.toUInt32 31)).toInt32 &&& (255 : Int32))) (Int32.toNatClampNeg (16 : Int32)) ((Int32.toUInt32 x4 >>> (Int32.toUInt32 (24 : Int32) &&& Int32.toUInt32 31)).toInt32 &&& (255 : Int32))) (Int32.toNatClampNeg (17 : Int32)) ((Int32.toUInt32 x4 >>> (Int32.toUInt32 (16 : Int32) &&& Int32.toUInt32 31)).toInt32 &&& (255 : Int32))) (Int32.toNatClampNeg (18 : Int32)) ((Int32.toUInt32 x4 >>> (Int32.toUInt32 (8 : Int32) &&& Int32.toUInt32 31)).toInt32 &&& (255 : Int32))) (Int32.toNatClampNeg (19 : Int32)) ((Int32.toUInt32 x4 >>> (Int32.toUInt32 (0 : Int32) &&& Int32.toUInt32 31)).toInt32 &&& (255 : Int32)))))])) 0 0 (va_A [(a0, .inr (8, [.ref a1, .int 0, .int 0, .int 0, .int 0, .int 0, .null, .long 0, .int 0, .int 0, .int 0, .int 0])), (a1, .inl (T 0, 940, .inl (fun _ => 0)))] sz) := by
  refine e_I (by decide) (Nat.le_of_ble_eq_true rfl) ?_
  intro p e s m args below meth c A Q ls M hin w ret hl
  have hx := M.1.1
  have hb := M.1.2.1
  have hl : lv_has ls 6 [(0, .ref a0), (1, .int x0), (2, .int x1), (3, .int x2), (4, .int x3), (5, .int x4)] := hl
  refine lv_aload_n hx hb dX8_take_0 rfl (lv_at hl 0 rfl) ?_
  refine r_get (v := .int 0) M w 0 1 clX8 rfl (by decide) G162 rfl rfl dX8_take_1 ?_
  refine lv_bipush (v := 20) hx hb dX8_take_4 (by decide) ?_
  refine r_iadd (v := (20 : Int32)) M (by decide +kernel) dX8_take_6 ?_
  refine lv_sipush (v := 940) hx hb dX8_take_7 (by decide) ?_
  refine lv_icmp_le (tgt := 15) hx hb dX8_take_10 (by decide) (fun _ => ?_) (fun c => absurd (by decide +kernel) c)
  refine lv_aload_n hx hb dX8_take_15 rfl (lv_at hl 0 rfl) ?_
  refine lv_iload_n hx hb dX8_take_16 rfl (lv_at hl 1 rfl) ?_
  refine k_V (ce := 0) (sl := 0) (rest := []) (wr := []) (r_V (f := 0) [0, 1] M w V_HookedCity_Tape_51 G559 G0 (c16_X8_append l D T _ a0 a1 x0) 0 clX8 rfl rfl (by decide) rfl hl.1 rfl (Nat.le_of_ble_eq_true rfl) dX8_take_17 (by decide) (by decide) (by decide) (by decide)) w [0, 1] [] rfl rfl (by decide) (by decide) rfl rfl (fun _ H locs hp w => ?_)
  have w : WD D A s.heap [(a0, .inr (8, [.ref a1, .int 4, .int 0, .int 0, .int 0, .int 0, .null, .long 0, .int 0, .int 0, .int 0, .int 0])), (a1, .inl (T 0, 940, .inl (upd (upd (upd (upd (fun _ => 0) (Int32.toNatClampNeg (0 : Int32)) ((Int32.toUInt32 x0 >>> (Int32.toUInt32 (24 : Int32) &&& Int32.toUInt32 31)).toInt32 &&& (255 : Int32))) (Int32.toNatClampNeg (1 : Int32)) ((Int32.toUInt32 x0 >>> (Int32.toUInt32 (16 : Int32) &&& Int32.toUInt32 31)).toInt32 &&& (255 : Int32))) (Int32.toNatClampNeg (2 : Int32)) ((Int32.toUInt32 x0 >>> (Int32.toUInt32 (8 : Int32) &&& Int32.toUInt32 31)).toInt32 &&& (255 : Int32))) (Int32.toNatClampNeg (3 : Int32)) ((Int32.toUInt32 x0 >>> (Int32.toUInt32 (0 : Int32) &&& Int32.toUInt32 31)).toInt32 &&& (255 : Int32)))))] H locs := w
  refine lv_aload_n hx hb dX8_take_20 rfl (lv_at hl 0 rfl) ?_
  refine lv_iload_n hx hb dX8_take_21 rfl (lv_at hl 2 rfl) ?_
  refine k_V (ce := 0) (sl := 0) (rest := []) (wr := []) (r_V (f := 0) [0, 1] M w V_HookedCity_Tape_51 G559 G0 (c17_X8_append l D T _ a0 a1 x1 (upd (upd (upd (upd (fun _ => 0) (Int32.toNatClampNeg (0 : Int32)) ((Int32.toUInt32 x0 >>> (Int32.toUInt32 (24 : Int32) &&& Int32.toUInt32 31)).toInt32 &&& (255 : Int32))) (Int32.toNatClampNeg (1 : Int32)) ((Int32.toUInt32 x0 >>> (Int32.toUInt32 (16 : Int32) &&& Int32.toUInt32 31)).toInt32 &&& (255 : Int32))) (Int32.toNatClampNeg (2 : Int32)) ((Int32.toUInt32 x0 >>> (Int32.toUInt32 (8 : Int32) &&& Int32.toUInt32 31)).toInt32 &&& (255 : Int32))) (Int32.toNatClampNeg (3 : Int32)) ((Int32.toUInt32 x0 >>> (Int32.toUInt32 (0 : Int32) &&& Int32.toUInt32 31)).toInt32 &&& (255 : Int32)))) 0 clX8 rfl rfl (by decide) rfl hl.1 rfl (Nat.le_of_ble_eq_true rfl) dX8_take_22 (by decide) (by decide) (by decide) (by decide)) w [0, 1] [] rfl rfl (by decide) (by decide) rfl rfl (fun _ H locs hp w => ?_)
  have w : WD D A s.heap [(a0, .inr (8, [.ref a1, .int 8, .int 0, .int 0, .int 0, .int 0, .null, .long 0, .int 0, .int 0, .int 0, .int 0])), (a1, .inl (T 0, 940, .inl (upd (upd (upd (upd (upd (upd (upd (upd (fun _ => 0) (Int32.toNatClampNeg (0 : Int32)) ((Int32.toUInt32 x0 >>> (Int32.toUInt32 (24 : Int32) &&& Int32.toUInt32 31)).toInt32 &&& (255 : Int32))) (Int32.toNatClampNeg (1 : Int32)) ((Int32.toUInt32 x0 >>> (Int32.toUInt32 (16 : Int32) &&& Int32.toUInt32 31)).toInt32 &&& (255 : Int32))) (Int32.toNatClampNeg (2 : Int32)) ((Int32.toUInt32 x0 >>> (Int32.toUInt32 (8 : Int32) &&& Int32.toUInt32 31)).toInt32 &&& (255 : Int32))) (Int32.toNatClampNeg (3 : Int32)) ((Int32.toUInt32 x0 >>> (Int32.toUInt32 (0 : Int32) &&& Int32.toUInt32 31)).toInt32 &&& (255 : Int32))) (Int32.toNatClampNeg (4 : Int32)) ((Int32.toUInt32 x1 >>> (Int32.toUInt32 (24 : Int32) &&& Int32.toUInt32 31)).toInt32 &&& (255 : Int32))) (Int32.toNatClampNeg (5 : Int32)) ((Int32.toUInt32 x1 >>> (Int32.toUInt32 (16 : Int32) &&& Int32.toUInt32 31)).toInt32 &&& (255 : Int32))) (Int32.toNatClampNeg (6 : Int32)) ((Int32.toUInt32 x1 >>> (Int32.toUInt32 (8 : Int32) &&& Int32.toUInt32 31)).toInt32 &&& (255 : Int32))) (Int32.toNatClampNeg (7 : Int32)) ((Int32.toUInt32 x1 >>> (Int32.toUInt32 (0 : Int32) &&& Int32.toUInt32 31)).toInt32 &&& (255 : Int32)))))] H locs := w
  refine lv_aload_n hx hb dX8_take_25 rfl (lv_at hl 0 rfl) ?_
  refine lv_iload_n hx hb dX8_take_26 rfl (lv_at hl 3 rfl) ?_
  refine k_V (ce := 0) (sl := 0) (rest := []) (wr := []) (r_V (f := 0) [0, 1] M w V_HookedCity_Tape_51 G559 G0 (c18_X8_append l D T _ a0 a1 x2 (upd (upd (upd (upd (upd (upd (upd (upd (fun _ => 0) (Int32.toNatClampNeg (0 : Int32)) ((Int32.toUInt32 x0 >>> (Int32.toUInt32 (24 : Int32) &&& Int32.toUInt32 31)).toInt32 &&& (255 : Int32))) (Int32.toNatClampNeg (1 : Int32)) ((Int32.toUInt32 x0 >>> (Int32.toUInt32 (16 : Int32) &&& Int32.toUInt32 31)).toInt32 &&& (255 : Int32))) (Int32.toNatClampNeg (2 : Int32)) ((Int32.toUInt32 x0 >>> (Int32.toUInt32 (8 : Int32) &&& Int32.toUInt32 31)).toInt32 &&& (255 : Int32))) (Int32.toNatClampNeg (3 : Int32)) ((Int32.toUInt32 x0 >>> (Int32.toUInt32 (0 : Int32) &&& Int32.toUInt32 31)).toInt32 &&& (255 : Int32))) (Int32.toNatClampNeg (4 : Int32)) ((Int32.toUInt32 x1 >>> (Int32.toUInt32 (24 : Int32) &&& Int32.toUInt32 31)).toInt32 &&& (255 : Int32))) (Int32.toNatClampNeg (5 : Int32)) ((Int32.toUInt32 x1 >>> (Int32.toUInt32 (16 : Int32) &&& Int32.toUInt32 31)).toInt32 &&& (255 : Int32))) (Int32.toNatClampNeg (6 : Int32)) ((Int32.toUInt32 x1 >>> (Int32.toUInt32 (8 : Int32) &&& Int32.toUInt32 31)).toInt32 &&& (255 : Int32))) (Int32.toNatClampNeg (7 : Int32)) ((Int32.toUInt32 x1 >>> (Int32.toUInt32 (0 : Int32) &&& Int32.toUInt32 31)).toInt32 &&& (255 : Int32)))) 0 clX8 rfl rfl (by decide) rfl hl.1 rfl (Nat.le_of_ble_eq_true rfl) dX8_take_27 (by decide) (by decide) (by decide) (by decide)) w [0, 1] [] rfl rfl (by decide) (by decide) rfl rfl (fun _ H locs hp w => ?_)
  have w : WD D A s.heap [(a0, .inr (8, [.ref a1, .int 12, .int 0, .int 0, .int 0, .int 0, .null, .long 0, .int 0, .int 0, .int 0, .int 0])), (a1, .inl (T 0, 940, .inl (upd (upd (upd (upd (upd (upd (upd (upd (upd (upd (upd (upd (fun _ => 0) (Int32.toNatClampNeg (0 : Int32)) ((Int32.toUInt32 x0 >>> (Int32.toUInt32 (24 : Int32) &&& Int32.toUInt32 31)).toInt32 &&& (255 : Int32))) (Int32.toNatClampNeg (1 : Int32)) ((Int32.toUInt32 x0 >>> (Int32.toUInt32 (16 : Int32) &&& Int32.toUInt32 31)).toInt32 &&& (255 : Int32))) (Int32.toNatClampNeg (2 : Int32)) ((Int32.toUInt32 x0 >>> (Int32.toUInt32 (8 : Int32) &&& Int32.toUInt32 31)).toInt32 &&& (255 : Int32))) (Int32.toNatClampNeg (3 : Int32)) ((Int32.toUInt32 x0 >>> (Int32.toUInt32 (0 : Int32) &&& Int32.toUInt32 31)).toInt32 &&& (255 : Int32))) (Int32.toNatClampNeg (4 : Int32)) ((Int32.toUInt32 x1 >>> (Int32.toUInt32 (24 : Int32) &&& Int32.toUInt32 31)).toInt32 &&& (255 : Int32))) (Int32.toNatClampNeg (5 : Int32)) ((Int32.toUInt32 x1 >>> (Int32.toUInt32 (16 : Int32) &&& Int32.toUInt32 31)).toInt32 &&& (255 : Int32))) (Int32.toNatClampNeg (6 : Int32)) ((Int32.toUInt32 x1 >>> (Int32.toUInt32 (8 : Int32) &&& Int32.toUInt32 31)).toInt32 &&& (255 : Int32))) (Int32.toNatClampNeg (7 : Int32)) ((Int32.toUInt32 x1 >>> (Int32.toUInt32 (0 : Int32) &&& Int32.toUInt32 31)).toInt32 &&& (255 : Int32))) (Int32.toNatClampNeg (8 : Int32)) ((Int32.toUInt32 x2 >>> (Int32.toUInt32 (24 : Int32) &&& Int32.toUInt32 31)).toInt32 &&& (255 : Int32))) (Int32.toNatClampNeg (9 : Int32)) ((Int32.toUInt32 x2 >>> (Int32.toUInt32 (16 : Int32) &&& Int32.toUInt32 31)).toInt32 &&& (255 : Int32))) (Int32.toNatClampNeg (10 : Int32)) ((Int32.toUInt32 x2 >>> (Int32.toUInt32 (8 : Int32) &&& Int32.toUInt32 31)).toInt32 &&& (255 : Int32))) (Int32.toNatClampNeg (11 : Int32)) ((Int32.toUInt32 x2 >>> (Int32.toUInt32 (0 : Int32) &&& Int32.toUInt32 31)).toInt32 &&& (255 : Int32)))))] H locs := w
  refine lv_aload_n hx hb dX8_take_30 rfl (lv_at hl 0 rfl) ?_
  refine lv_iload hx hb dX8_take_31 (lv_at hl 4 rfl) ?_
  refine k_V (ce := 0) (sl := 0) (rest := []) (wr := []) (r_V (f := 0) [0, 1] M w V_HookedCity_Tape_51 G559 G0 (c19_X8_append l D T _ a0 a1 x3 (upd (upd (upd (upd (upd (upd (upd (upd (upd (upd (upd (upd (fun _ => 0) (Int32.toNatClampNeg (0 : Int32)) ((Int32.toUInt32 x0 >>> (Int32.toUInt32 (24 : Int32) &&& Int32.toUInt32 31)).toInt32 &&& (255 : Int32))) (Int32.toNatClampNeg (1 : Int32)) ((Int32.toUInt32 x0 >>> (Int32.toUInt32 (16 : Int32) &&& Int32.toUInt32 31)).toInt32 &&& (255 : Int32))) (Int32.toNatClampNeg (2 : Int32)) ((Int32.toUInt32 x0 >>> (Int32.toUInt32 (8 : Int32) &&& Int32.toUInt32 31)).toInt32 &&& (255 : Int32))) (Int32.toNatClampNeg (3 : Int32)) ((Int32.toUInt32 x0 >>> (Int32.toUInt32 (0 : Int32) &&& Int32.toUInt32 31)).toInt32 &&& (255 : Int32))) (Int32.toNatClampNeg (4 : Int32)) ((Int32.toUInt32 x1 >>> (Int32.toUInt32 (24 : Int32) &&& Int32.toUInt32 31)).toInt32 &&& (255 : Int32))) (Int32.toNatClampNeg (5 : Int32)) ((Int32.toUInt32 x1 >>> (Int32.toUInt32 (16 : Int32) &&& Int32.toUInt32 31)).toInt32 &&& (255 : Int32))) (Int32.toNatClampNeg (6 : Int32)) ((Int32.toUInt32 x1 >>> (Int32.toUInt32 (8 : Int32) &&& Int32.toUInt32 31)).toInt32 &&& (255 : Int32))) (Int32.toNatClampNeg (7 : Int32)) ((Int32.toUInt32 x1 >>> (Int32.toUInt32 (0 : Int32) &&& Int32.toUInt32 31)).toInt32 &&& (255 : Int32))) (Int32.toNatClampNeg (8 : Int32)) ((Int32.toUInt32 x2 >>> (Int32.toUInt32 (24 : Int32) &&& Int32.toUInt32 31)).toInt32 &&& (255 : Int32))) (Int32.toNatClampNeg (9 : Int32)) ((Int32.toUInt32 x2 >>> (Int32.toUInt32 (16 : Int32) &&& Int32.toUInt32 31)).toInt32 &&& (255 : Int32))) (Int32.toNatClampNeg (10 : Int32)) ((Int32.toUInt32 x2 >>> (Int32.toUInt32 (8 : Int32) &&& Int32.toUInt32 31)).toInt32 &&& (255 : Int32))) (Int32.toNatClampNeg (11 : Int32)) ((Int32.toUInt32 x2 >>> (Int32.toUInt32 (0 : Int32) &&& Int32.toUInt32 31)).toInt32 &&& (255 : Int32)))) 0 clX8 rfl rfl (by decide) rfl hl.1 rfl (Nat.le_of_ble_eq_true rfl) dX8_take_33 (by decide) (by decide) (by decide) (by decide)) w [0, 1] [] rfl rfl (by decide) (by decide) rfl rfl (fun _ H locs hp w => ?_)
  have w : WD D A s.heap [(a0, .inr (8, [.ref a1, .int 16, .int 0, .int 0, .int 0, .int 0, .null, .long 0, .int 0, .int 0, .int 0, .int 0])), (a1, .inl (T 0, 940, .inl (upd (upd (upd (upd (upd (upd (upd (upd (upd (upd (upd (upd (upd (upd (upd (upd (fun _ => 0) (Int32.toNatClampNeg (0 : Int32)) ((Int32.toUInt32 x0 >>> (Int32.toUInt32 (24 : Int32) &&& Int32.toUInt32 31)).toInt32 &&& (255 : Int32))) (Int32.toNatClampNeg (1 : Int32)) ((Int32.toUInt32 x0 >>> (Int32.toUInt32 (16 : Int32) &&& Int32.toUInt32 31)).toInt32 &&& (255 : Int32))) (Int32.toNatClampNeg (2 : Int32)) ((Int32.toUInt32 x0 >>> (Int32.toUInt32 (8 : Int32) &&& Int32.toUInt32 31)).toInt32 &&& (255 : Int32))) (Int32.toNatClampNeg (3 : Int32)) ((Int32.toUInt32 x0 >>> (Int32.toUInt32 (0 : Int32) &&& Int32.toUInt32 31)).toInt32 &&& (255 : Int32))) (Int32.toNatClampNeg (4 : Int32)) ((Int32.toUInt32 x1 >>> (Int32.toUInt32 (24 : Int32) &&& Int32.toUInt32 31)).toInt32 &&& (255 : Int32))) (Int32.toNatClampNeg (5 : Int32)) ((Int32.toUInt32 x1 >>> (Int32.toUInt32 (16 : Int32) &&& Int32.toUInt32 31)).toInt32 &&& (255 : Int32))) (Int32.toNatClampNeg (6 : Int32)) ((Int32.toUInt32 x1 >>> (Int32.toUInt32 (8 : Int32) &&& Int32.toUInt32 31)).toInt32 &&& (255 : Int32))) (Int32.toNatClampNeg (7 : Int32)) ((Int32.toUInt32 x1 >>> (Int32.toUInt32 (0 : Int32) &&& Int32.toUInt32 31)).toInt32 &&& (255 : Int32))) (Int32.toNatClampNeg (8 : Int32)) ((Int32.toUInt32 x2 >>> (Int32.toUInt32 (24 : Int32) &&& Int32.toUInt32 31)).toInt32 &&& (255 : Int32))) (Int32.toNatClampNeg (9 : Int32)) ((Int32.toUInt32 x2 >>> (Int32.toUInt32 (16 : Int32) &&& Int32.toUInt32 31)).toInt32 &&& (255 : Int32))) (Int32.toNatClampNeg (10 : Int32)) ((Int32.toUInt32 x2 >>> (Int32.toUInt32 (8 : Int32) &&& Int32.toUInt32 31)).toInt32 &&& (255 : Int32))) (Int32.toNatClampNeg (11 : Int32)) ((Int32.toUInt32 x2 >>> (Int32.toUInt32 (0 : Int32) &&& Int32.toUInt32 31)).toInt32 &&& (255 : Int32))) (Int32.toNatClampNeg (12 : Int32)) ((Int32.toUInt32 x3 >>> (Int32.toUInt32 (24 : Int32) &&& Int32.toUInt32 31)).toInt32 &&& (255 : Int32))) (Int32.toNatClampNeg (13 : Int32)) ((Int32.toUInt32 x3 >>> (Int32.toUInt32 (16 : Int32) &&& Int32.toUInt32 31)).toInt32 &&& (255 : Int32))) (Int32.toNatClampNeg (14 : Int32)) ((Int32.toUInt32 x3 >>> (Int32.toUInt32 (8 : Int32) &&& Int32.toUInt32 31)).toInt32 &&& (255 : Int32))) (Int32.toNatClampNeg (15 : Int32)) ((Int32.toUInt32 x3 >>> (Int32.toUInt32 (0 : Int32) &&& Int32.toUInt32 31)).toInt32 &&& (255 : Int32)))))] H locs := w
  refine lv_aload_n hx hb dX8_take_36 rfl (lv_at hl 0 rfl) ?_
  refine lv_iload hx hb dX8_take_37 (lv_at hl 5 rfl) ?_
  refine k_V (ce := 0) (sl := 0) (rest := []) (wr := []) (r_V (f := 0) [0, 1] M w V_HookedCity_Tape_51 G559 G0 (c20_X8_append l D T _ a0 a1 x4 (upd (upd (upd (upd (upd (upd (upd (upd (upd (upd (upd (upd (upd (upd (upd (upd (fun _ => 0) (Int32.toNatClampNeg (0 : Int32)) ((Int32.toUInt32 x0 >>> (Int32.toUInt32 (24 : Int32) &&& Int32.toUInt32 31)).toInt32 &&& (255 : Int32))) (Int32.toNatClampNeg (1 : Int32)) ((Int32.toUInt32 x0 >>> (Int32.toUInt32 (16 : Int32) &&& Int32.toUInt32 31)).toInt32 &&& (255 : Int32))) (Int32.toNatClampNeg (2 : Int32)) ((Int32.toUInt32 x0 >>> (Int32.toUInt32 (8 : Int32) &&& Int32.toUInt32 31)).toInt32 &&& (255 : Int32))) (Int32.toNatClampNeg (3 : Int32)) ((Int32.toUInt32 x0 >>> (Int32.toUInt32 (0 : Int32) &&& Int32.toUInt32 31)).toInt32 &&& (255 : Int32))) (Int32.toNatClampNeg (4 : Int32)) ((Int32.toUInt32 x1 >>> (Int32.toUInt32 (24 : Int32) &&& Int32.toUInt32 31)).toInt32 &&& (255 : Int32))) (Int32.toNatClampNeg (5 : Int32)) ((Int32.toUInt32 x1 >>> (Int32.toUInt32 (16 : Int32) &&& Int32.toUInt32 31)).toInt32 &&& (255 : Int32))) (Int32.toNatClampNeg (6 : Int32)) ((Int32.toUInt32 x1 >>> (Int32.toUInt32 (8 : Int32) &&& Int32.toUInt32 31)).toInt32 &&& (255 : Int32))) (Int32.toNatClampNeg (7 : Int32)) ((Int32.toUInt32 x1 >>> (Int32.toUInt32 (0 : Int32) &&& Int32.toUInt32 31)).toInt32 &&& (255 : Int32))) (Int32.toNatClampNeg (8 : Int32)) ((Int32.toUInt32 x2 >>> (Int32.toUInt32 (24 : Int32) &&& Int32.toUInt32 31)).toInt32 &&& (255 : Int32))) (Int32.toNatClampNeg (9 : Int32)) ((Int32.toUInt32 x2 >>> (Int32.toUInt32 (16 : Int32) &&& Int32.toUInt32 31)).toInt32 &&& (255 : Int32))) (Int32.toNatClampNeg (10 : Int32)) ((Int32.toUInt32 x2 >>> (Int32.toUInt32 (8 : Int32) &&& Int32.toUInt32 31)).toInt32 &&& (255 : Int32))) (Int32.toNatClampNeg (11 : Int32)) ((Int32.toUInt32 x2 >>> (Int32.toUInt32 (0 : Int32) &&& Int32.toUInt32 31)).toInt32 &&& (255 : Int32))) (Int32.toNatClampNeg (12 : Int32)) ((Int32.toUInt32 x3 >>> (Int32.toUInt32 (24 : Int32) &&& Int32.toUInt32 31)).toInt32 &&& (255 : Int32))) (Int32.toNatClampNeg (13 : Int32)) ((Int32.toUInt32 x3 >>> (Int32.toUInt32 (16 : Int32) &&& Int32.toUInt32 31)).toInt32 &&& (255 : Int32))) (Int32.toNatClampNeg (14 : Int32)) ((Int32.toUInt32 x3 >>> (Int32.toUInt32 (8 : Int32) &&& Int32.toUInt32 31)).toInt32 &&& (255 : Int32))) (Int32.toNatClampNeg (15 : Int32)) ((Int32.toUInt32 x3 >>> (Int32.toUInt32 (0 : Int32) &&& Int32.toUInt32 31)).toInt32 &&& (255 : Int32)))) 0 clX8 rfl rfl (by decide) rfl hl.1 rfl (Nat.le_of_ble_eq_true rfl) dX8_take_39 (by decide) (by decide) (by decide) (by decide)) w [0, 1] [] rfl rfl (by decide) (by decide) rfl rfl (fun _ H locs hp w => ?_)
  have w : WD D A s.heap [(a0, .inr (8, [.ref a1, .int 20, .int 0, .int 0, .int 0, .int 0, .null, .long 0, .int 0, .int 0, .int 0, .int 0])), (a1, .inl (T 0, 940, .inl (upd (upd (upd (upd (upd (upd (upd (upd (upd (upd (upd (upd (upd (upd (upd (upd (upd (upd (upd (upd (fun _ => 0) (Int32.toNatClampNeg (0 : Int32)) ((Int32.toUInt32 x0 >>> (Int32.toUInt32 (24 : Int32) &&& Int32.toUInt32 31)).toInt32 &&& (255 : Int32))) (Int32.toNatClampNeg (1 : Int32)) ((Int32.toUInt32 x0 >>> (Int32.toUInt32 (16 : Int32) &&& Int32.toUInt32 31)).toInt32 &&& (255 : Int32))) (Int32.toNatClampNeg (2 : Int32)) ((Int32.toUInt32 x0 >>> (Int32.toUInt32 (8 : Int32) &&& Int32.toUInt32 31)).toInt32 &&& (255 : Int32))) (Int32.toNatClampNeg (3 : Int32)) ((Int32.toUInt32 x0 >>> (Int32.toUInt32 (0 : Int32) &&& Int32.toUInt32 31)).toInt32 &&& (255 : Int32))) (Int32.toNatClampNeg (4 : Int32)) ((Int32.toUInt32 x1 >>> (Int32.toUInt32 (24 : Int32) &&& Int32.toUInt32 31)).toInt32 &&& (255 : Int32))) (Int32.toNatClampNeg (5 : Int32)) ((Int32.toUInt32 x1 >>> (Int32.toUInt32 (16 : Int32) &&& Int32.toUInt32 31)).toInt32 &&& (255 : Int32))) (Int32.toNatClampNeg (6 : Int32)) ((Int32.toUInt32 x1 >>> (Int32.toUInt32 (8 : Int32) &&& Int32.toUInt32 31)).toInt32 &&& (255 : Int32))) (Int32.toNatClampNeg (7 : Int32)) ((Int32.toUInt32 x1 >>> (Int32.toUInt32 (0 : Int32) &&& Int32.toUInt32 31)).toInt32 &&& (255 : Int32))) (Int32.toNatClampNeg (8 : Int32)) ((Int32.toUInt32 x2 >>> (Int32.toUInt32 (24 : Int32) &&& Int32.toUInt32 31)).toInt32 &&& (255 : Int32))) (Int32.toNatClampNeg (9 : Int32)) ((Int32.toUInt32 x2 >>> (Int32.toUInt32 (16 : Int32) &&& Int32.toUInt32 31)).toInt32 &&& (255 : Int32))) (Int32.toNatClampNeg (10 : Int32)) ((Int32.toUInt32 x2 >>> (Int32.toUInt32 (8 : Int32) &&& Int32.toUInt32 31)).toInt32 &&& (255 : Int32))) (Int32.toNatClampNeg (11 : Int32)) ((Int32.toUInt32 x2 >>> (Int32.toUInt32 (0 : Int32) &&& Int32.toUInt32 31)).toInt32 &&& (255 : Int32))) (Int32.toNatClampNeg (12 : Int32)) ((Int32.toUInt32 x3 >>> (Int32.toUInt32 (24 : Int32) &&& Int32.toUInt32 31)).toInt32 &&& (255 : Int32))) (Int32.toNatClampNeg (13 : Int32)) ((Int32.toUInt32 x3 >>> (Int32.toUInt32 (16 : Int32) &&& Int32.toUInt32 31)).toInt32 &&& (255 : Int32))) (Int32.toNatClampNeg (14 : Int32)) ((Int32.toUInt32 x3 >>> (Int32.toUInt32 (8 : Int32) &&& Int32.toUInt32 31)).toInt32 &&& (255 : Int32))) (Int32.toNatClampNeg (15 : Int32)) ((Int32.toUInt32 x3 >>> (Int32.toUInt32 (0 : Int32) &&& Int32.toUInt32 31)).toInt32 &&& (255 : Int32))) (Int32.toNatClampNeg (16 : Int32)) ((Int32.toUInt32 x4 >>> (Int32.toUInt32 (24 : Int32) &&& Int32.toUInt32 31)).toInt32 &&& (255 : Int32))) (Int32.toNatClampNeg (17 : Int32)) ((Int32.toUInt32 x4 >>> (Int32.toUInt32 (16 : Int32) &&& Int32.toUInt32 31)).toInt32 &&& (255 : Int32))) (Int32.toNatClampNeg (18 : Int32)) ((Int32.toUInt32 x4 >>> (Int32.toUInt32 (8 : Int32) &&& Int32.toUInt32 31)).toInt32 &&& (255 : Int32))) (Int32.toNatClampNeg (19 : Int32)) ((Int32.toUInt32 x4 >>> (Int32.toUInt32 (0 : Int32) &&& Int32.toUInt32 31)).toInt32 &&& (255 : Int32)))))] H locs := w
  refine lv_aload_n hx hb dX8_take_42 rfl (lv_at hl 0 rfl) ?_
  refine r_get (v := .int 20) M w 0 1 clX8 rfl (by decide) G162 rfl rfl dX8_take_43 ?_
  exact ret _ () _ _ _ _ _ [0, 1] dX8_take_46 rfl w (by decide) rfl
set_option maxRecDepth 100000 in
set_option maxHeartbeats 4000000 in
theorem c22_X11_feed (l : Launch) (D : va_G) (T : Nat → ClassId) (sz : Nat) (a0 a1 a2 a3 a4 a5 a6 a7 a8 a9 a10 a11 a12 a13 a14 a15 : Nat) (x0 : Int32) (x1 : Int32) (x2 : Int32) (x3 : Int32) (x4 : Int32) : Met l yX11_feed (Cond.code yX11_feed cX11_feed 6 (some .int) :: GW) (Rm 2 0 0) (cPre [.ref a0, .int x0, .int x1, .int x2, .int x3, .int x4] D T [(a0, .inr (10, [.ref a1, .ref a2, .ref a3, .ref a4, .ref a5, .ref a6, .ref a7, .ref a8, .ref a9, .ref a10, .ref a11, .ref a12, .ref a13, .ref a14, .int 0, .int 0, .int 0])), (a1, .inr (8, [.ref a15, .int 0, .int 0, .int 0, .int 0, .int 0, .null, .long 0, .int 0, .int 0, .int 0, .int 0])), (a15, .inl (T 0, 940, .inl (fun _ => 0)))] sz) (qI D [(a0, .inr (10, [.ref a1, .ref a2, .ref a3, .ref a4, .ref a5, .ref a6, .ref a7, .ref a8, .ref a9, .ref a10, .ref a11, .ref a12, .ref a13, .ref a14, .int 0, .int 0, .int 0])), (a1, .inr (8, [.ref a15, .int 0, .int 0, .int 0, .int 0, .int 0, .null, .long 0, .int 0, .int 0, .int 0, .int 0])), (a15, .inl (T 0, 940, .inl (fun _ => 0)))] sz (fun (v : Int32) (u : Unit) => (20 : Int32) = v) (fun u => [])) 0 0 (va_A [(a0, .inr (10, [.ref a1, .ref a2, .ref a3, .ref a4, .ref a5, .ref a6, .ref a7, .ref a8, .ref a9, .ref a10, .ref a11, .ref a12, .ref a13, .ref a14, .int 0, .int 0, .int 0])), (a1, .inr (8, [.ref a15, .int 0, .int 0, .int 0, .int 0, .int 0, .null, .long 0, .int 0, .int 0, .int 0, .int 0])), (a15, .inl (T 0, 940, .inl (fun _ => 0)))] sz) := by
  refine e_I (by decide) (Nat.le_of_ble_eq_true rfl) ?_
  intro p e s m args below meth c A Q ls M hin w ret hl
  have hx := M.1.1
  have hb := M.1.2.1
  have hl : lv_has ls 6 [(0, .ref a0), (1, .int x0), (2, .int x1), (3, .int x2), (4, .int x3), (5, .int x4)] := hl
  refine lv_aload_n hx hb dX11_feed_0 rfl (lv_at hl 0 rfl) ?_
  refine r_get (v := .ref a1) M w 0 0 clX11 rfl (by decide) G497 rfl rfl dX11_feed_1 ?_
  refine lv_iload_n hx hb dX11_feed_4 rfl (lv_at hl 1 rfl) ?_
  refine lv_iload_n hx hb dX11_feed_5 rfl (lv_at hl 2 rfl) ?_
  refine lv_iload_n hx hb dX11_feed_6 rfl (lv_at hl 3 rfl) ?_
  refine lv_iload hx hb dX11_feed_7 (lv_at hl 4 rfl) ?_
  refine lv_iload hx hb dX11_feed_9 (lv_at hl 5 rfl) ?_
  refine k_I (ce := 0) (sl := 0) (rest := []) (wr := [(a0, .inr (10, [.ref a1, .ref a2, .ref a3, .ref a4, .ref a5, .ref a6, .ref a7, .ref a8, .ref a9, .ref a10, .ref a11, .ref a12, .ref a13, .ref a14, .int 0, .int 0, .int 0]))]) (r_V (f := 1) [1, 2] M w V_HookedCity_103 G554 G555 (c21_X8_take l D T _ a1 a15 x0 x1 x2 x3 x4) 1 clX8 rfl rfl (by decide) rfl hl.1 rfl (Nat.le_of_ble_eq_true rfl) dX11_feed_11 (by decide) (by decide) (by decide) (by decide)) w [1, 2] [0] rfl rfl (by decide) (by decide) rfl rfl (fun v _ H locs hp w => ?_)
  have hp : (20 : Int32) = v := hp
  subst hp
  have w : WD D A s.heap [(a0, .inr (10, [.ref a1, .ref a2, .ref a3, .ref a4, .ref a5, .ref a6, .ref a7, .ref a8, .ref a9, .ref a10, .ref a11, .ref a12, .ref a13, .ref a14, .int 0, .int 0, .int 0])), (a1, .inr (8, [.ref a15, .int 20, .int 0, .int 0, .int 0, .int 0, .null, .long 0, .int 0, .int 0, .int 0, .int 0])), (a15, .inl (T 0, 940, .inl (upd (upd (upd (upd (upd (upd (upd (upd (upd (upd (upd (upd (upd (upd (upd (upd (upd (upd (upd (upd (fun _ => 0) (Int32.toNatClampNeg (0 : Int32)) ((Int32.toUInt32 x0 >>> (Int32.toUInt32 (24 : Int32) &&& Int32.toUInt32 31)).toInt32 &&& (255 : Int32))) (Int32.toNatClampNeg (1 : Int32)) ((Int32.toUInt32 x0 >>> (Int32.toUInt32 (16 : Int32) &&& Int32.toUInt32 31)).toInt32 &&& (255 : Int32))) (Int32.toNatClampNeg (2 : Int32)) ((Int32.toUInt32 x0 >>> (Int32.toUInt32 (8 : Int32) &&& Int32.toUInt32 31)).toInt32 &&& (255 : Int32))) (Int32.toNatClampNeg (3 : Int32)) ((Int32.toUInt32 x0 >>> (Int32.toUInt32 (0 : Int32) &&& Int32.toUInt32 31)).toInt32 &&& (255 : Int32))) (Int32.toNatClampNeg (4 : Int32)) ((Int32.toUInt32 x1 >>> (Int32.toUInt32 (24 : Int32) &&& Int32.toUInt32 31)).toInt32 &&& (255 : Int32))) (Int32.toNatClampNeg (5 : Int32)) ((Int32.toUInt32 x1 >>> (Int32.toUInt32 (16 : Int32) &&& Int32.toUInt32 31)).toInt32 &&& (255 : Int32))) (Int32.toNatClampNeg (6 : Int32)) ((Int32.toUInt32 x1 >>> (Int32.toUInt32 (8 : Int32) &&& Int32.toUInt32 31)).toInt32 &&& (255 : Int32))) (Int32.toNatClampNeg (7 : Int32)) ((Int32.toUInt32 x1 >>> (Int32.toUInt32 (0 : Int32) &&& Int32.toUInt32 31)).toInt32 &&& (255 : Int32))) (Int32.toNatClampNeg (8 : Int32)) ((Int32.toUInt32 x2 >>> (Int32.toUInt32 (24 : Int32) &&& Int32.toUInt32 31)).toInt32 &&& (255 : Int32))) (Int32.toNatClampNeg (9 : Int32)) ((Int32.toUInt32 x2 >>> (Int32.toUInt32 (16 : Int32) &&& Int32.toUInt32 31)).toInt32 &&& (255 : Int32))) (Int32.toNatClampNeg (10 : Int32)) ((Int32.toUInt32 x2 >>> (Int32.toUInt32 (8 : Int32) &&& Int32.toUInt32 31)).toInt32 &&& (255 : Int32))) (Int32.toNatClampNeg (11 : Int32)) ((Int32.toUInt32 x2 >>> (Int32.toUInt32 (0 : Int32) &&& Int32.toUInt32 31)).toInt32 &&& (255 : Int32))) (Int32.toNatClampNeg (12 : Int32)) ((Int32.toUInt32 x3 >>> (Int32.toUInt32 (24 : Int32) &&& Int32.toUInt32 31)).toInt32 &&& (255 : Int32))) (Int32.toNatClampNeg (13 : Int32)) ((Int32.toUInt32 x3 >>> (Int32.toUInt32 (16 : Int32) &&& Int32.toUInt32 31)).toInt32 &&& (255 : Int32))) (Int32.toNatClampNeg (14 : Int32)) ((Int32.toUInt32 x3 >>> (Int32.toUInt32 (8 : Int32) &&& Int32.toUInt32 31)).toInt32 &&& (255 : Int32))) (Int32.toNatClampNeg (15 : Int32)) ((Int32.toUInt32 x3 >>> (Int32.toUInt32 (0 : Int32) &&& Int32.toUInt32 31)).toInt32 &&& (255 : Int32))) (Int32.toNatClampNeg (16 : Int32)) ((Int32.toUInt32 x4 >>> (Int32.toUInt32 (24 : Int32) &&& Int32.toUInt32 31)).toInt32 &&& (255 : Int32))) (Int32.toNatClampNeg (17 : Int32)) ((Int32.toUInt32 x4 >>> (Int32.toUInt32 (16 : Int32) &&& Int32.toUInt32 31)).toInt32 &&& (255 : Int32))) (Int32.toNatClampNeg (18 : Int32)) ((Int32.toUInt32 x4 >>> (Int32.toUInt32 (8 : Int32) &&& Int32.toUInt32 31)).toInt32 &&& (255 : Int32))) (Int32.toNatClampNeg (19 : Int32)) ((Int32.toUInt32 x4 >>> (Int32.toUInt32 (0 : Int32) &&& Int32.toUInt32 31)).toInt32 &&& (255 : Int32)))))] H locs := w
  exact ret _ () _ _ _ _ _ [] dX11_feed_14 rfl w (by decide) rfl
set_option maxRecDepth 100000 in
set_option maxHeartbeats 4000000 in
theorem c23_X12_come (l : Launch) (D : va_G) (T : Nat → ClassId) (sz : Nat) (a0 a1 a2 a3 a4 a5 a6 a7 a8 a9 a10 a11 a12 a13 a14 a15 a16 a17 a18 a19 a20 a21 a22 : Nat) (x0 : Int32) : Met l yX12_come (Cond.code yX12_come cX12_come 3 none :: GW) (Rm 0 0 0) (cPre [.ref a0, .int x0] D T [(a0, .inr (11, [.int 0, .ref a1, .int 0, .int 0, .int 0, .int 0, .int 0, .int 0, .int 0, .int 0, .int 0, .int 0, .long 0, .int 0, .ref a2, .ref a3, .ref a4, .ref a5, .ref a6, .ref a7, .ref a8, .ref a9, .ref a10, .ref a11, .int 0, .ref a12, .ref a13, .ref a14, .ref a15, .int 0, .int 0, .int 0, .ref a16, .int (-1), .int (-1), .ref a17, .ref a18, .int 0, .ref a19, .int 0, .int 0, .ref a20, .ref a21, .int 0, .int 0, .ref a22, .int 0, .int 0, .int 0, .int 0])), (a1, .inl (T 0, 940, .inl (fun _ => 0)))] sz) (qV D [(a0, .inr (11, [.int 0, .ref a1, .int 0, .int 0, .int 0, .int 0, .int 0, .int 0, .int 0, .int 0, .int 0, .int 0, .long 0, .int 0, .ref a2, .ref a3, .ref a4, .ref a5, .ref a6, .ref a7, .ref a8, .ref a9, .ref a10, .ref a11, .int 0, .ref a12, .ref a13, .ref a14, .ref a15, .int 0, .int 0, .int 0, .ref a16, .int (-1), .int (-1), .ref a17, .ref a18, .int 0, .ref a19, .int 0, .int 0, .ref a20, .ref a21, .int 0, .int 0, .ref a22, .int 0, .int 0, .int 0, .int 0])), (a1, .inl (T 0, 940, .inl (fun _ => 0)))] sz (fun (u : Unit) => True) (fun u => [(a0, .inr (11, [.int 0, .ref a1, .int 4, .int 0, .int 0, .int 0, .int 0, .int 0, .int 0, .int 0, .int 0, .int 0, .long 0, .int 0, .ref a2, .ref a3, .ref a4, .ref a5, .ref a6, .ref a7, .ref a8, .ref a9, .ref a10, .ref a11, .int 0, .ref a12, .ref a13, .ref a14, .ref a15, .int 0, .int 0, .int 0, .ref a16, .int (-1), .int (-1), .ref a17, .ref a18, .int 0, .ref a19, .int 0, .int 0, .ref a20, .ref a21, .int 0, .int 0, .ref a22, .int 0, .int 0, .int 0, .int 0])), (a1, .inl (T 0, 940, .inl (upd (upd (upd (upd (fun _ => 0) (Int32.toNatClampNeg (0 : Int32)) ((Int32.toUInt32 x0 >>> (Int32.toUInt32 (24 : Int32) &&& Int32.toUInt32 31)).toInt32 &&& (255 : Int32))) (Int32.toNatClampNeg (1 : Int32)) ((Int32.toUInt32 x0 >>> (Int32.toUInt32 (16 : Int32) &&& Int32.toUInt32 31)).toInt32 &&& (255 : Int32))) (Int32.toNatClampNeg (2 : Int32)) ((Int32.toUInt32 x0 >>> (Int32.toUInt32 (8 : Int32) &&& Int32.toUInt32 31)).toInt32 &&& (255 : Int32))) (Int32.toNatClampNeg (3 : Int32)) ((Int32.toUInt32 x0 >>> (Int32.toUInt32 (0 : Int32) &&& Int32.toUInt32 31)).toInt32 &&& (255 : Int32)))))])) 0 0 (va_A [(a0, .inr (11, [.int 0, .ref a1, .int 0, .int 0, .int 0, .int 0, .int 0, .int 0, .int 0, .int 0, .int 0, .int 0, .long 0, .int 0, .ref a2, .ref a3, .ref a4, .ref a5, .ref a6, .ref a7, .ref a8, .ref a9, .ref a10, .ref a11, .int 0, .ref a12, .ref a13, .ref a14, .ref a15, .int 0, .int 0, .int 0, .ref a16, .int (-1), .int (-1), .ref a17, .ref a18, .int 0, .ref a19, .int 0, .int 0, .ref a20, .ref a21, .int 0, .int 0, .ref a22, .int 0, .int 0, .int 0, .int 0])), (a1, .inl (T 0, 940, .inl (fun _ => 0)))] sz) := by
  refine e_V (by decide) (Nat.le_of_ble_eq_true rfl) ?_
  intro p e s m args below meth c A Q ls M hin w ret hl
  have hx := M.1.1
  have hb := M.1.2.1
  have hl : lv_has ls 3 [(0, .ref a0), (1, .int x0)] := hl
  refine lv_bipush (v := 24) hx hb dX12_come_0 (by decide) ?_
  refine lv_istore_n (lv' := [(2, .int 24), (0, .ref a0), (1, .int x0)]) hx hb dX12_come_2 rfl hl (by decide) rfl (fun ls hl => ?_)
  refine lv_iload_n hx hb dX12_come_3 rfl (lv_at hl 0 rfl) ?_
  refine lv_if_lt (tgt := 39) hx hb dX12_come_4 (by decide) (fun c => absurd c (by decide +kernel)) (fun _ => ?_)
  refine lv_aload_n hx hb dX12_come_7 rfl (lv_at hl 1 rfl) ?_
  refine r_get (v := .ref a1) M w 0 1 clX12 rfl (by decide) G1468 rfl rfl dX12_come_8 ?_
  refine lv_aload_n hx hb dX12_come_11 rfl (lv_at hl 1 rfl) ?_
  refine r_get (v := .int 0) M w 0 2 clX12 rfl (by decide) G1469 rfl rfl dX12_come_12 ?_
  refine lv_iload_n hx hb dX12_come_15 rfl (lv_at hl 2 rfl) ?_
  refine lv_iload_n hx hb dX12_come_16 rfl (lv_at hl 0 rfl) ?_
  refine r_iushr (v := (Int32.toUInt32 x0 >>> (Int32.toUInt32 (24 : Int32) &&& Int32.toUInt32 31)).toInt32) M rfl dX12_come_17 ?_
  refine lv_sipush (v := 255) hx hb dX12_come_18 (by decide) ?_
  refine r_iand (v := ((Int32.toUInt32 x0 >>> (Int32.toUInt32 (24 : Int32) &&& Int32.toUInt32 31)).toInt32 &&& (255 : Int32))) M rfl dX12_come_21 ?_
  refine r_iast (ws' := [(a0, .inr (11, [.int 0, .ref a1, .int 0, .int 0, .int 0, .int 0, .int 0, .int 0, .int 0, .int 0, .int 0, .int 0, .long 0, .int 0, .ref a2, .ref a3, .ref a4, .ref a5, .ref a6, .ref a7, .ref a8, .ref a9, .ref a10, .ref a11, .int 0, .ref a12, .ref a13, .ref a14, .ref a15, .int 0, .int 0, .int 0, .ref a16, .int (-1), .int (-1), .ref a17, .ref a18, .int 0, .ref a19, .int 0, .int 0, .ref a20, .ref a21, .int 0, .int 0, .ref a22, .int 0, .int 0, .int 0, .int 0])), (a1, .inl (T 0, 940, .inl (upd (fun _ => 0) (Int32.toNatClampNeg (0 : Int32)) ((Int32.toUInt32 x0 >>> (Int32.toUInt32 (24 : Int32) &&& Int32.toUInt32 31)).toInt32 &&& (255 : Int32)))))]) M w 1 rfl (vin (by decide +kernel)) rfl dX12_come_22 (fun H locs w => ?_)
  refine lv_aload_n hx hb dX12_come_23 rfl (lv_at hl 1 rfl) ?_
  refine lv_dup hx hb dX12_come_24 rfl ?_
  refine r_get (v := .int 0) M w 0 2 clX12 rfl (by decide) G1469 rfl rfl dX12_come_25 ?_
  refine lv_iconst (v := 1) hx hb dX12_come_28 (by decide) ?_
  refine r_iadd (v := (1 : Int32)) M (by decide +kernel) dX12_come_29 ?_
  refine r_put (ws' := [(a0, .inr (11, [.int 0, .ref a1, .int 1, .int 0, .int 0, .int 0, .int 0, .int 0, .int 0, .int 0, .int 0, .int 0, .long 0, .int 0, .ref a2, .ref a3, .ref a4, .ref a5, .ref a6, .ref a7, .ref a8, .ref a9, .ref a10, .ref a11, .int 0, .ref a12, .ref a13, .ref a14, .ref a15, .int 0, .int 0, .int 0, .ref a16, .int (-1), .int (-1), .ref a17, .ref a18, .int 0, .ref a19, .int 0, .int 0, .ref a20, .ref a21, .int 0, .int 0, .ref a22, .int 0, .int 0, .int 0, .int 0])), (a1, .inl (T 0, 940, .inl (upd (fun _ => 0) (Int32.toNatClampNeg (0 : Int32)) ((Int32.toUInt32 x0 >>> (Int32.toUInt32 (24 : Int32) &&& Int32.toUInt32 31)).toInt32 &&& (255 : Int32)))))]) M w 0 2 clX12 rfl (by decide) G1469 rfl rfl rfl rfl (Nat.le_of_ble_eq_true rfl) rfl dX12_come_30 (fun H locs w => ?_)
  refine lv_iinc (v := (16 : Int32)) (lv' := [(2, .int 16), (0, .ref a0), (1, .int x0)]) hx hb dX12_come_33 hl (k := 0) rfl (by decide +kernel) (by decide) rfl (fun ls hl => ?_)
  refine lv_goto (tgt := 3) hx hb dX12_come_36 (by decide) ?_
  refine lv_iload_n hx hb dX12_come_3 rfl (lv_at hl 0 rfl) ?_
  refine lv_if_lt (tgt := 39) hx hb dX12_come_4 (by decide) (fun c => absurd c (by decide +kernel)) (fun _ => ?_)
  refine lv_aload_n hx hb dX12_come_7 rfl (lv_at hl 1 rfl) ?_
  refine r_get (v := .ref a1) M w 0 1 clX12 rfl (by decide) G1468 rfl rfl dX12_come_8 ?_
  refine lv_aload_n hx hb dX12_come_11 rfl (lv_at hl 1 rfl) ?_
  refine r_get (v := .int 1) M w 0 2 clX12 rfl (by decide) G1469 rfl rfl dX12_come_12 ?_
  refine lv_iload_n hx hb dX12_come_15 rfl (lv_at hl 2 rfl) ?_
  refine lv_iload_n hx hb dX12_come_16 rfl (lv_at hl 0 rfl) ?_
  refine r_iushr (v := (Int32.toUInt32 x0 >>> (Int32.toUInt32 (16 : Int32) &&& Int32.toUInt32 31)).toInt32) M rfl dX12_come_17 ?_
  refine lv_sipush (v := 255) hx hb dX12_come_18 (by decide) ?_
  refine r_iand (v := ((Int32.toUInt32 x0 >>> (Int32.toUInt32 (16 : Int32) &&& Int32.toUInt32 31)).toInt32 &&& (255 : Int32))) M rfl dX12_come_21 ?_
  refine r_iast (ws' := [(a0, .inr (11, [.int 0, .ref a1, .int 1, .int 0, .int 0, .int 0, .int 0, .int 0, .int 0, .int 0, .int 0, .int 0, .long 0, .int 0, .ref a2, .ref a3, .ref a4, .ref a5, .ref a6, .ref a7, .ref a8, .ref a9, .ref a10, .ref a11, .int 0, .ref a12, .ref a13, .ref a14, .ref a15, .int 0, .int 0, .int 0, .ref a16, .int (-1), .int (-1), .ref a17, .ref a18, .int 0, .ref a19, .int 0, .int 0, .ref a20, .ref a21, .int 0, .int 0, .ref a22, .int 0, .int 0, .int 0, .int 0])), (a1, .inl (T 0, 940, .inl (upd (upd (fun _ => 0) (Int32.toNatClampNeg (0 : Int32)) ((Int32.toUInt32 x0 >>> (Int32.toUInt32 (24 : Int32) &&& Int32.toUInt32 31)).toInt32 &&& (255 : Int32))) (Int32.toNatClampNeg (1 : Int32)) ((Int32.toUInt32 x0 >>> (Int32.toUInt32 (16 : Int32) &&& Int32.toUInt32 31)).toInt32 &&& (255 : Int32)))))]) M w 1 rfl (vin (by decide +kernel)) rfl dX12_come_22 (fun H locs w => ?_)
  refine lv_aload_n hx hb dX12_come_23 rfl (lv_at hl 1 rfl) ?_
  refine lv_dup hx hb dX12_come_24 rfl ?_
  refine r_get (v := .int 1) M w 0 2 clX12 rfl (by decide) G1469 rfl rfl dX12_come_25 ?_
  refine lv_iconst (v := 1) hx hb dX12_come_28 (by decide) ?_
  refine r_iadd (v := (2 : Int32)) M (by decide +kernel) dX12_come_29 ?_
  refine r_put (ws' := [(a0, .inr (11, [.int 0, .ref a1, .int 2, .int 0, .int 0, .int 0, .int 0, .int 0, .int 0, .int 0, .int 0, .int 0, .long 0, .int 0, .ref a2, .ref a3, .ref a4, .ref a5, .ref a6, .ref a7, .ref a8, .ref a9, .ref a10, .ref a11, .int 0, .ref a12, .ref a13, .ref a14, .ref a15, .int 0, .int 0, .int 0, .ref a16, .int (-1), .int (-1), .ref a17, .ref a18, .int 0, .ref a19, .int 0, .int 0, .ref a20, .ref a21, .int 0, .int 0, .ref a22, .int 0, .int 0, .int 0, .int 0])), (a1, .inl (T 0, 940, .inl (upd (upd (fun _ => 0) (Int32.toNatClampNeg (0 : Int32)) ((Int32.toUInt32 x0 >>> (Int32.toUInt32 (24 : Int32) &&& Int32.toUInt32 31)).toInt32 &&& (255 : Int32))) (Int32.toNatClampNeg (1 : Int32)) ((Int32.toUInt32 x0 >>> (Int32.toUInt32 (16 : Int32) &&& Int32.toUInt32 31)).toInt32 &&& (255 : Int32)))))]) M w 0 2 clX12 rfl (by decide) G1469 rfl rfl rfl rfl (Nat.le_of_ble_eq_true rfl) rfl dX12_come_30 (fun H locs w => ?_)
  refine lv_iinc (v := (8 : Int32)) (lv' := [(2, .int 8), (0, .ref a0), (1, .int x0)]) hx hb dX12_come_33 hl (k := 0) rfl (by decide +kernel) (by decide) rfl (fun ls hl => ?_)
  refine lv_goto (tgt := 3) hx hb dX12_come_36 (by decide) ?_
  refine lv_iload_n hx hb dX12_come_3 rfl (lv_at hl 0 rfl) ?_
  refine lv_if_lt (tgt := 39) hx hb dX12_come_4 (by decide) (fun c => absurd c (by decide +kernel)) (fun _ => ?_)
  refine lv_aload_n hx hb dX12_come_7 rfl (lv_at hl 1 rfl) ?_
  refine r_get (v := .ref a1) M w 0 1 clX12 rfl (by decide) G1468 rfl rfl dX12_come_8 ?_
  refine lv_aload_n hx hb dX12_come_11 rfl (lv_at hl 1 rfl) ?_
  refine r_get (v := .int 2) M w 0 2 clX12 rfl (by decide) G1469 rfl rfl dX12_come_12 ?_
  refine lv_iload_n hx hb dX12_come_15 rfl (lv_at hl 2 rfl) ?_
  refine lv_iload_n hx hb dX12_come_16 rfl (lv_at hl 0 rfl) ?_
  refine r_iushr (v := (Int32.toUInt32 x0 >>> (Int32.toUInt32 (8 : Int32) &&& Int32.toUInt32 31)).toInt32) M rfl dX12_come_17 ?_
  refine lv_sipush (v := 255) hx hb dX12_come_18 (by decide) ?_
  refine r_iand (v := ((Int32.toUInt32 x0 >>> (Int32.toUInt32 (8 : Int32) &&& Int32.toUInt32 31)).toInt32 &&& (255 : Int32))) M rfl dX12_come_21 ?_
  refine r_iast (ws' := [(a0, .inr (11, [.int 0, .ref a1, .int 2, .int 0, .int 0, .int 0, .int 0, .int 0, .int 0, .int 0, .int 0, .int 0, .long 0, .int 0, .ref a2, .ref a3, .ref a4, .ref a5, .ref a6, .ref a7, .ref a8, .ref a9, .ref a10, .ref a11, .int 0, .ref a12, .ref a13, .ref a14, .ref a15, .int 0, .int 0, .int 0, .ref a16, .int (-1), .int (-1), .ref a17, .ref a18, .int 0, .ref a19, .int 0, .int 0, .ref a20, .ref a21, .int 0, .int 0, .ref a22, .int 0, .int 0, .int 0, .int 0])), (a1, .inl (T 0, 940, .inl (upd (upd (upd (fun _ => 0) (Int32.toNatClampNeg (0 : Int32)) ((Int32.toUInt32 x0 >>> (Int32.toUInt32 (24 : Int32) &&& Int32.toUInt32 31)).toInt32 &&& (255 : Int32))) (Int32.toNatClampNeg (1 : Int32)) ((Int32.toUInt32 x0 >>> (Int32.toUInt32 (16 : Int32) &&& Int32.toUInt32 31)).toInt32 &&& (255 : Int32))) (Int32.toNatClampNeg (2 : Int32)) ((Int32.toUInt32 x0 >>> (Int32.toUInt32 (8 : Int32) &&& Int32.toUInt32 31)).toInt32 &&& (255 : Int32)))))]) M w 1 rfl (vin (by decide +kernel)) rfl dX12_come_22 (fun H locs w => ?_)
  refine lv_aload_n hx hb dX12_come_23 rfl (lv_at hl 1 rfl) ?_
  refine lv_dup hx hb dX12_come_24 rfl ?_
  refine r_get (v := .int 2) M w 0 2 clX12 rfl (by decide) G1469 rfl rfl dX12_come_25 ?_
  refine lv_iconst (v := 1) hx hb dX12_come_28 (by decide) ?_
  refine r_iadd (v := (3 : Int32)) M (by decide +kernel) dX12_come_29 ?_
  refine r_put (ws' := [(a0, .inr (11, [.int 0, .ref a1, .int 3, .int 0, .int 0, .int 0, .int 0, .int 0, .int 0, .int 0, .int 0, .int 0, .long 0, .int 0, .ref a2, .ref a3, .ref a4, .ref a5, .ref a6, .ref a7, .ref a8, .ref a9, .ref a10, .ref a11, .int 0, .ref a12, .ref a13, .ref a14, .ref a15, .int 0, .int 0, .int 0, .ref a16, .int (-1), .int (-1), .ref a17, .ref a18, .int 0, .ref a19, .int 0, .int 0, .ref a20, .ref a21, .int 0, .int 0, .ref a22, .int 0, .int 0, .int 0, .int 0])), (a1, .inl (T 0, 940, .inl (upd (upd (upd (fun _ => 0) (Int32.toNatClampNeg (0 : Int32)) ((Int32.toUInt32 x0 >>> (Int32.toUInt32 (24 : Int32) &&& Int32.toUInt32 31)).toInt32 &&& (255 : Int32))) (Int32.toNatClampNeg (1 : Int32)) ((Int32.toUInt32 x0 >>> (Int32.toUInt32 (16 : Int32) &&& Int32.toUInt32 31)).toInt32 &&& (255 : Int32))) (Int32.toNatClampNeg (2 : Int32)) ((Int32.toUInt32 x0 >>> (Int32.toUInt32 (8 : Int32) &&& Int32.toUInt32 31)).toInt32 &&& (255 : Int32)))))]) M w 0 2 clX12 rfl (by decide) G1469 rfl rfl rfl rfl (Nat.le_of_ble_eq_true rfl) rfl dX12_come_30 (fun H locs w => ?_)
  refine lv_iinc (v := (0 : Int32)) (lv' := [(2, .int 0), (0, .ref a0), (1, .int x0)]) hx hb dX12_come_33 hl (k := 0) rfl (by decide +kernel) (by decide) rfl (fun ls hl => ?_)
  refine lv_goto (tgt := 3) hx hb dX12_come_36 (by decide) ?_
  refine lv_iload_n hx hb dX12_come_3 rfl (lv_at hl 0 rfl) ?_
  refine lv_if_lt (tgt := 39) hx hb dX12_come_4 (by decide) (fun c => absurd c (by decide +kernel)) (fun _ => ?_)
  refine lv_aload_n hx hb dX12_come_7 rfl (lv_at hl 1 rfl) ?_
  refine r_get (v := .ref a1) M w 0 1 clX12 rfl (by decide) G1468 rfl rfl dX12_come_8 ?_
  refine lv_aload_n hx hb dX12_come_11 rfl (lv_at hl 1 rfl) ?_
  refine r_get (v := .int 3) M w 0 2 clX12 rfl (by decide) G1469 rfl rfl dX12_come_12 ?_
  refine lv_iload_n hx hb dX12_come_15 rfl (lv_at hl 2 rfl) ?_
  refine lv_iload_n hx hb dX12_come_16 rfl (lv_at hl 0 rfl) ?_
  refine r_iushr (v := (Int32.toUInt32 x0 >>> (Int32.toUInt32 (0 : Int32) &&& Int32.toUInt32 31)).toInt32) M rfl dX12_come_17 ?_
  refine lv_sipush (v := 255) hx hb dX12_come_18 (by decide) ?_
  refine r_iand (v := ((Int32.toUInt32 x0 >>> (Int32.toUInt32 (0 : Int32) &&& Int32.toUInt32 31)).toInt32 &&& (255 : Int32))) M rfl dX12_come_21 ?_
  refine r_iast (ws' := [(a0, .inr (11, [.int 0, .ref a1, .int 3, .int 0, .int 0, .int 0, .int 0, .int 0, .int 0, .int 0, .int 0, .int 0, .long 0, .int 0, .ref a2, .ref a3, .ref a4, .ref a5, .ref a6, .ref a7, .ref a8, .ref a9, .ref a10, .ref a11, .int 0, .ref a12, .ref a13, .ref a14, .ref a15, .int 0, .int 0, .int 0, .ref a16, .int (-1), .int (-1), .ref a17, .ref a18, .int 0, .ref a19, .int 0, .int 0, .ref a20, .ref a21, .int 0, .int 0, .ref a22, .int 0, .int 0, .int 0, .int 0])), (a1, .inl (T 0, 940, .inl (upd (upd (upd (upd (fun _ => 0) (Int32.toNatClampNeg (0 : Int32)) ((Int32.toUInt32 x0 >>> (Int32.toUInt32 (24 : Int32) &&& Int32.toUInt32 31)).toInt32 &&& (255 : Int32))) (Int32.toNatClampNeg (1 : Int32)) ((Int32.toUInt32 x0 >>> (Int32.toUInt32 (16 : Int32) &&& Int32.toUInt32 31)).toInt32 &&& (255 : Int32))) (Int32.toNatClampNeg (2 : Int32)) ((Int32.toUInt32 x0 >>> (Int32.toUInt32 (8 : Int32) &&& Int32.toUInt32 31)).toInt32 &&& (255 : Int32))) (Int32.toNatClampNeg (3 : Int32)) ((Int32.toUInt32 x0 >>> (Int32.toUInt32 (0 : Int32) &&& Int32.toUInt32 31)).toInt32 &&& (255 : Int32)))))]) M w 1 rfl (vin (by decide +kernel)) rfl dX12_come_22 (fun H locs w => ?_)
  refine lv_aload_n hx hb dX12_come_23 rfl (lv_at hl 1 rfl) ?_
  refine lv_dup hx hb dX12_come_24 rfl ?_
  refine r_get (v := .int 3) M w 0 2 clX12 rfl (by decide) G1469 rfl rfl dX12_come_25 ?_
  refine lv_iconst (v := 1) hx hb dX12_come_28 (by decide) ?_
  refine r_iadd (v := (4 : Int32)) M (by decide +kernel) dX12_come_29 ?_
  refine r_put (ws' := [(a0, .inr (11, [.int 0, .ref a1, .int 4, .int 0, .int 0, .int 0, .int 0, .int 0, .int 0, .int 0, .int 0, .int 0, .long 0, .int 0, .ref a2, .ref a3, .ref a4, .ref a5, .ref a6, .ref a7, .ref a8, .ref a9, .ref a10, .ref a11, .int 0, .ref a12, .ref a13, .ref a14, .ref a15, .int 0, .int 0, .int 0, .ref a16, .int (-1), .int (-1), .ref a17, .ref a18, .int 0, .ref a19, .int 0, .int 0, .ref a20, .ref a21, .int 0, .int 0, .ref a22, .int 0, .int 0, .int 0, .int 0])), (a1, .inl (T 0, 940, .inl (upd (upd (upd (upd (fun _ => 0) (Int32.toNatClampNeg (0 : Int32)) ((Int32.toUInt32 x0 >>> (Int32.toUInt32 (24 : Int32) &&& Int32.toUInt32 31)).toInt32 &&& (255 : Int32))) (Int32.toNatClampNeg (1 : Int32)) ((Int32.toUInt32 x0 >>> (Int32.toUInt32 (16 : Int32) &&& Int32.toUInt32 31)).toInt32 &&& (255 : Int32))) (Int32.toNatClampNeg (2 : Int32)) ((Int32.toUInt32 x0 >>> (Int32.toUInt32 (8 : Int32) &&& Int32.toUInt32 31)).toInt32 &&& (255 : Int32))) (Int32.toNatClampNeg (3 : Int32)) ((Int32.toUInt32 x0 >>> (Int32.toUInt32 (0 : Int32) &&& Int32.toUInt32 31)).toInt32 &&& (255 : Int32)))))]) M w 0 2 clX12 rfl (by decide) G1469 rfl rfl rfl rfl (Nat.le_of_ble_eq_true rfl) rfl dX12_come_30 (fun H locs w => ?_)
  refine lv_iinc (v := (-8 : Int32)) (lv' := [(2, .int (-8)), (0, .ref a0), (1, .int x0)]) hx hb dX12_come_33 hl (k := 0) rfl (by decide +kernel) (by decide) rfl (fun ls hl => ?_)
  refine lv_goto (tgt := 3) hx hb dX12_come_36 (by decide) ?_
  refine lv_iload_n hx hb dX12_come_3 rfl (lv_at hl 0 rfl) ?_
  refine lv_if_lt (tgt := 39) hx hb dX12_come_4 (by decide) (fun _ => ?_) (fun c => absurd (by decide +kernel) c)
  exact ret () _ _ _ _ _ [0, 1] dX12_come_39 trivial w (by decide) rfl
set_option maxRecDepth 100000 in
set_option maxHeartbeats 4000000 in
theorem c24_X12_come (l : Launch) (D : va_G) (T : Nat → ClassId) (sz : Nat) (a0 a1 a2 a3 a4 a5 a6 a7 a8 a9 a10 a11 a12 a13 a14 a15 a16 a17 a18 a19 a20 a21 a22 : Nat) (x0 : Int32) (f0 : Nat → Int32) : Met l yX12_come (Cond.code yX12_come cX12_come 3 none :: GW) (Rm 0 0 0) (cPre [.ref a0, .int x0] D T [(a0, .inr (11, [.int 0, .ref a1, .int 4, .int 0, .int 0, .int 0, .int 0, .int 0, .int 0, .int 0, .int 0, .int 0, .long 0, .int 0, .ref a2, .ref a3, .ref a4, .ref a5, .ref a6, .ref a7, .ref a8, .ref a9, .ref a10, .ref a11, .int 0, .ref a12, .ref a13, .ref a14, .ref a15, .int 0, .int 0, .int 0, .ref a16, .int (-1), .int (-1), .ref a17, .ref a18, .int 0, .ref a19, .int 0, .int 0, .ref a20, .ref a21, .int 0, .int 0, .ref a22, .int 0, .int 0, .int 0, .int 0])), (a1, .inl (T 0, 940, .inl f0))] sz) (qV D [(a0, .inr (11, [.int 0, .ref a1, .int 4, .int 0, .int 0, .int 0, .int 0, .int 0, .int 0, .int 0, .int 0, .int 0, .long 0, .int 0, .ref a2, .ref a3, .ref a4, .ref a5, .ref a6, .ref a7, .ref a8, .ref a9, .ref a10, .ref a11, .int 0, .ref a12, .ref a13, .ref a14, .ref a15, .int 0, .int 0, .int 0, .ref a16, .int (-1), .int (-1), .ref a17, .ref a18, .int 0, .ref a19, .int 0, .int 0, .ref a20, .ref a21, .int 0, .int 0, .ref a22, .int 0, .int 0, .int 0, .int 0])), (a1, .inl (T 0, 940, .inl f0))] sz (fun (u : Unit) => True) (fun u => [(a0, .inr (11, [.int 0, .ref a1, .int 8, .int 0, .int 0, .int 0, .int 0, .int 0, .int 0, .int 0, .int 0, .int 0, .long 0, .int 0, .ref a2, .ref a3, .ref a4, .ref a5, .ref a6, .ref a7, .ref a8, .ref a9, .ref a10, .ref a11, .int 0, .ref a12, .ref a13, .ref a14, .ref a15, .int 0, .int 0, .int 0, .ref a16, .int (-1), .int (-1), .ref a17, .ref a18, .int 0, .ref a19, .int 0, .int 0, .ref a20, .ref a21, .int 0, .int 0, .ref a22, .int 0, .int 0, .int 0, .int 0])), (a1, .inl (T 0, 940, .inl (upd (upd (upd (upd f0 (Int32.toNatClampNeg (4 : Int32)) ((Int32.toUInt32 x0 >>> (Int32.toUInt32 (24 : Int32) &&& Int32.toUInt32 31)).toInt32 &&& (255 : Int32))) (Int32.toNatClampNeg (5 : Int32)) ((Int32.toUInt32 x0 >>> (Int32.toUInt32 (16 : Int32) &&& Int32.toUInt32 31)).toInt32 &&& (255 : Int32))) (Int32.toNatClampNeg (6 : Int32)) ((Int32.toUInt32 x0 >>> (Int32.toUInt32 (8 : Int32) &&& Int32.toUInt32 31)).toInt32 &&& (255 : Int32))) (Int32.toNatClampNeg (7 : Int32)) ((Int32.toUInt32 x0 >>> (Int32.toUInt32 (0 : Int32) &&& Int32.toUInt32 31)).toInt32 &&& (255 : Int32)))))])) 0 0 (va_A [(a0, .inr (11, [.int 0, .ref a1, .int 4, .int 0, .int 0, .int 0, .int 0, .int 0, .int 0, .int 0, .int 0, .int 0, .long 0, .int 0, .ref a2, .ref a3, .ref a4, .ref a5, .ref a6, .ref a7, .ref a8, .ref a9, .ref a10, .ref a11, .int 0, .ref a12, .ref a13, .ref a14, .ref a15, .int 0, .int 0, .int 0, .ref a16, .int (-1), .int (-1), .ref a17, .ref a18, .int 0, .ref a19, .int 0, .int 0, .ref a20, .ref a21, .int 0, .int 0, .ref a22, .int 0, .int 0, .int 0, .int 0])), (a1, .inl (T 0, 940, .inl f0))] sz) := by
  refine e_V (by decide) (Nat.le_of_ble_eq_true rfl) ?_
  intro p e s m args below meth c A Q ls M hin w ret hl
  have hx := M.1.1
  have hb := M.1.2.1
  have hl : lv_has ls 3 [(0, .ref a0), (1, .int x0)] := hl
  refine lv_bipush (v := 24) hx hb dX12_come_0 (by decide) ?_
  refine lv_istore_n (lv' := [(2, .int 24), (0, .ref a0), (1, .int x0)]) hx hb dX12_come_2 rfl hl (by decide) rfl (fun ls hl => ?_)
  refine lv_iload_n hx hb dX12_come_3 rfl (lv_at hl 0 rfl) ?_
  refine lv_if_lt (tgt := 39) hx hb dX12_come_4 (by decide) (fun c => absurd c (by decide +kernel)) (fun _ => ?_)
  refine lv_aload_n hx hb dX12_come_7 rfl (lv_at hl 1 rfl) ?_
  refine r_get (v := .ref a1) M w 0 1 clX12 rfl (by decide) G1468 rfl rfl dX12_come_8 ?_
  refine lv_aload_n hx hb dX12_come_11 rfl (lv_at hl 1 rfl) ?_
  refine r_get (v := .int 4) M w 0 2 clX12 rfl (by decide) G1469 rfl rfl dX12_come_12 ?_
  refine lv_iload_n hx hb dX12_come_15 rfl (lv_at hl 2 rfl) ?_
  refine lv_iload_n hx hb dX12_come_16 rfl (lv_at hl 0 rfl) ?_
  refine r_iushr (v := (Int32.toUInt32 x0 >>> (Int32.toUInt32 (24 : Int32) &&& Int32.toUInt32 31)).toInt32) M rfl dX12_come_17 ?_
  refine lv_sipush (v := 255) hx hb dX12_come_18 (by decide) ?_
  refine r_iand (v := ((Int32.toUInt32 x0 >>> (Int32.toUInt32 (24 : Int32) &&& Int32.toUInt32 31)).toInt32 &&& (255 : Int32))) M rfl dX12_come_21 ?_
  refine r_iast (ws' := [(a0, .inr (11, [.int 0, .ref a1, .int 4, .int 0, .int 0, .int 0, .int 0, .int 0, .int 0, .int 0, .int 0, .int 0, .long 0, .int 0, .ref a2, .ref a3, .ref a4, .ref a5, .ref a6, .ref a7, .ref a8, .ref a9, .ref a10, .ref a11, .int 0, .ref a12, .ref a13, .ref a14, .ref a15, .int 0, .int 0, .int 0, .ref a16, .int (-1), .int (-1), .ref a17, .ref a18, .int 0, .ref a19, .int 0, .int 0, .ref a20, .ref a21, .int 0, .int 0, .ref a22, .int 0, .int 0, .int 0, .int 0])), (a1, .inl (T 0, 940, .inl (upd f0 (Int32.toNatClampNeg (4 : Int32)) ((Int32.toUInt32 x0 >>> (Int32.toUInt32 (24 : Int32) &&& Int32.toUInt32 31)).toInt32 &&& (255 : Int32)))))]) M w 1 rfl (vin (by decide +kernel)) rfl dX12_come_22 (fun H locs w => ?_)
  refine lv_aload_n hx hb dX12_come_23 rfl (lv_at hl 1 rfl) ?_
  refine lv_dup hx hb dX12_come_24 rfl ?_
  refine r_get (v := .int 4) M w 0 2 clX12 rfl (by decide) G1469 rfl rfl dX12_come_25 ?_
  refine lv_iconst (v := 1) hx hb dX12_come_28 (by decide) ?_
  refine r_iadd (v := (5 : Int32)) M (by decide +kernel) dX12_come_29 ?_
  refine r_put (ws' := [(a0, .inr (11, [.int 0, .ref a1, .int 5, .int 0, .int 0, .int 0, .int 0, .int 0, .int 0, .int 0, .int 0, .int 0, .long 0, .int 0, .ref a2, .ref a3, .ref a4, .ref a5, .ref a6, .ref a7, .ref a8, .ref a9, .ref a10, .ref a11, .int 0, .ref a12, .ref a13, .ref a14, .ref a15, .int 0, .int 0, .int 0, .ref a16, .int (-1), .int (-1), .ref a17, .ref a18, .int 0, .ref a19, .int 0, .int 0, .ref a20, .ref a21, .int 0, .int 0, .ref a22, .int 0, .int 0, .int 0, .int 0])), (a1, .inl (T 0, 940, .inl (upd f0 (Int32.toNatClampNeg (4 : Int32)) ((Int32.toUInt32 x0 >>> (Int32.toUInt32 (24 : Int32) &&& Int32.toUInt32 31)).toInt32 &&& (255 : Int32)))))]) M w 0 2 clX12 rfl (by decide) G1469 rfl rfl rfl rfl (Nat.le_of_ble_eq_true rfl) rfl dX12_come_30 (fun H locs w => ?_)
  refine lv_iinc (v := (16 : Int32)) (lv' := [(2, .int 16), (0, .ref a0), (1, .int x0)]) hx hb dX12_come_33 hl (k := 0) rfl (by decide +kernel) (by decide) rfl (fun ls hl => ?_)
  refine lv_goto (tgt := 3) hx hb dX12_come_36 (by decide) ?_
  refine lv_iload_n hx hb dX12_come_3 rfl (lv_at hl 0 rfl) ?_
  refine lv_if_lt (tgt := 39) hx hb dX12_come_4 (by decide) (fun c => absurd c (by decide +kernel)) (fun _ => ?_)
  refine lv_aload_n hx hb dX12_come_7 rfl (lv_at hl 1 rfl) ?_
  refine r_get (v := .ref a1) M w 0 1 clX12 rfl (by decide) G1468 rfl rfl dX12_come_8 ?_
  refine lv_aload_n hx hb dX12_come_11 rfl (lv_at hl 1 rfl) ?_
  refine r_get (v := .int 5) M w 0 2 clX12 rfl (by decide) G1469 rfl rfl dX12_come_12 ?_
  refine lv_iload_n hx hb dX12_come_15 rfl (lv_at hl 2 rfl) ?_
  refine lv_iload_n hx hb dX12_come_16 rfl (lv_at hl 0 rfl) ?_
  refine r_iushr (v := (Int32.toUInt32 x0 >>> (Int32.toUInt32 (16 : Int32) &&& Int32.toUInt32 31)).toInt32) M rfl dX12_come_17 ?_
  refine lv_sipush (v := 255) hx hb dX12_come_18 (by decide) ?_
  refine r_iand (v := ((Int32.toUInt32 x0 >>> (Int32.toUInt32 (16 : Int32) &&& Int32.toUInt32 31)).toInt32 &&& (255 : Int32))) M rfl dX12_come_21 ?_
  refine r_iast (ws' := [(a0, .inr (11, [.int 0, .ref a1, .int 5, .int 0, .int 0, .int 0, .int 0, .int 0, .int 0, .int 0, .int 0, .int 0, .long 0, .int 0, .ref a2, .ref a3, .ref a4, .ref a5, .ref a6, .ref a7, .ref a8, .ref a9, .ref a10, .ref a11, .int 0, .ref a12, .ref a13, .ref a14, .ref a15, .int 0, .int 0, .int 0, .ref a16, .int (-1), .int (-1), .ref a17, .ref a18, .int 0, .ref a19, .int 0, .int 0, .ref a20, .ref a21, .int 0, .int 0, .ref a22, .int 0, .int 0, .int 0, .int 0])), (a1, .inl (T 0, 940, .inl (upd (upd f0 (Int32.toNatClampNeg (4 : Int32)) ((Int32.toUInt32 x0 >>> (Int32.toUInt32 (24 : Int32) &&& Int32.toUInt32 31)).toInt32 &&& (255 : Int32))) (Int32.toNatClampNeg (5 : Int32)) ((Int32.toUInt32 x0 >>> (Int32.toUInt32 (16 : Int32) &&& Int32.toUInt32 31)).toInt32 &&& (255 : Int32)))))]) M w 1 rfl (vin (by decide +kernel)) rfl dX12_come_22 (fun H locs w => ?_)
  refine lv_aload_n hx hb dX12_come_23 rfl (lv_at hl 1 rfl) ?_
  refine lv_dup hx hb dX12_come_24 rfl ?_
  refine r_get (v := .int 5) M w 0 2 clX12 rfl (by decide) G1469 rfl rfl dX12_come_25 ?_
  refine lv_iconst (v := 1) hx hb dX12_come_28 (by decide) ?_
  refine r_iadd (v := (6 : Int32)) M (by decide +kernel) dX12_come_29 ?_
  refine r_put (ws' := [(a0, .inr (11, [.int 0, .ref a1, .int 6, .int 0, .int 0, .int 0, .int 0, .int 0, .int 0, .int 0, .int 0, .int 0, .long 0, .int 0, .ref a2, .ref a3, .ref a4, .ref a5, .ref a6, .ref a7, .ref a8, .ref a9, .ref a10, .ref a11, .int 0, .ref a12, .ref a13, .ref a14, .ref a15, .int 0, .int 0, .int 0, .ref a16, .int (-1), .int (-1), .ref a17, .ref a18, .int 0, .ref a19, .int 0, .int 0, .ref a20, .ref a21, .int 0, .int 0, .ref a22, .int 0, .int 0, .int 0, .int 0])), (a1, .inl (T 0, 940, .inl (upd (upd f0 (Int32.toNatClampNeg (4 : Int32)) ((Int32.toUInt32 x0 >>> (Int32.toUInt32 (24 : Int32) &&& Int32.toUInt32 31)).toInt32 &&& (255 : Int32))) (Int32.toNatClampNeg (5 : Int32)) ((Int32.toUInt32 x0 >>> (Int32.toUInt32 (16 : Int32) &&& Int32.toUInt32 31)).toInt32 &&& (255 : Int32)))))]) M w 0 2 clX12 rfl (by decide) G1469 rfl rfl rfl rfl (Nat.le_of_ble_eq_true rfl) rfl dX12_come_30 (fun H locs w => ?_)
  refine lv_iinc (v := (8 : Int32)) (lv' := [(2, .int 8), (0, .ref a0), (1, .int x0)]) hx hb dX12_come_33 hl (k := 0) rfl (by decide +kernel) (by decide) rfl (fun ls hl => ?_)
  refine lv_goto (tgt := 3) hx hb dX12_come_36 (by decide) ?_
  refine lv_iload_n hx hb dX12_come_3 rfl (lv_at hl 0 rfl) ?_
  refine lv_if_lt (tgt := 39) hx hb dX12_come_4 (by decide) (fun c => absurd c (by decide +kernel)) (fun _ => ?_)
  refine lv_aload_n hx hb dX12_come_7 rfl (lv_at hl 1 rfl) ?_
  refine r_get (v := .ref a1) M w 0 1 clX12 rfl (by decide) G1468 rfl rfl dX12_come_8 ?_
  refine lv_aload_n hx hb dX12_come_11 rfl (lv_at hl 1 rfl) ?_
  refine r_get (v := .int 6) M w 0 2 clX12 rfl (by decide) G1469 rfl rfl dX12_come_12 ?_
  refine lv_iload_n hx hb dX12_come_15 rfl (lv_at hl 2 rfl) ?_
  refine lv_iload_n hx hb dX12_come_16 rfl (lv_at hl 0 rfl) ?_
  refine r_iushr (v := (Int32.toUInt32 x0 >>> (Int32.toUInt32 (8 : Int32) &&& Int32.toUInt32 31)).toInt32) M rfl dX12_come_17 ?_
  refine lv_sipush (v := 255) hx hb dX12_come_18 (by decide) ?_
  refine r_iand (v := ((Int32.toUInt32 x0 >>> (Int32.toUInt32 (8 : Int32) &&& Int32.toUInt32 31)).toInt32 &&& (255 : Int32))) M rfl dX12_come_21 ?_
  refine r_iast (ws' := [(a0, .inr (11, [.int 0, .ref a1, .int 6, .int 0, .int 0, .int 0, .int 0, .int 0, .int 0, .int 0, .int 0, .int 0, .long 0, .int 0, .ref a2, .ref a3, .ref a4, .ref a5, .ref a6, .ref a7, .ref a8, .ref a9, .ref a10, .ref a11, .int 0, .ref a12, .ref a13, .ref a14, .ref a15, .int 0, .int 0, .int 0, .ref a16, .int (-1), .int (-1), .ref a17, .ref a18, .int 0, .ref a19, .int 0, .int 0, .ref a20, .ref a21, .int 0, .int 0, .ref a22, .int 0, .int 0, .int 0, .int 0])), (a1, .inl (T 0, 940, .inl (upd (upd (upd f0 (Int32.toNatClampNeg (4 : Int32)) ((Int32.toUInt32 x0 >>> (Int32.toUInt32 (24 : Int32) &&& Int32.toUInt32 31)).toInt32 &&& (255 : Int32))) (Int32.toNatClampNeg (5 : Int32)) ((Int32.toUInt32 x0 >>> (Int32.toUInt32 (16 : Int32) &&& Int32.toUInt32 31)).toInt32 &&& (255 : Int32))) (Int32.toNatClampNeg (6 : Int32)) ((Int32.toUInt32 x0 >>> (Int32.toUInt32 (8 : Int32) &&& Int32.toUInt32 31)).toInt32 &&& (255 : Int32)))))]) M w 1 rfl (vin (by decide +kernel)) rfl dX12_come_22 (fun H locs w => ?_)
  refine lv_aload_n hx hb dX12_come_23 rfl (lv_at hl 1 rfl) ?_
  refine lv_dup hx hb dX12_come_24 rfl ?_
  refine r_get (v := .int 6) M w 0 2 clX12 rfl (by decide) G1469 rfl rfl dX12_come_25 ?_
  refine lv_iconst (v := 1) hx hb dX12_come_28 (by decide) ?_
  refine r_iadd (v := (7 : Int32)) M (by decide +kernel) dX12_come_29 ?_
  refine r_put (ws' := [(a0, .inr (11, [.int 0, .ref a1, .int 7, .int 0, .int 0, .int 0, .int 0, .int 0, .int 0, .int 0, .int 0, .int 0, .long 0, .int 0, .ref a2, .ref a3, .ref a4, .ref a5, .ref a6, .ref a7, .ref a8, .ref a9, .ref a10, .ref a11, .int 0, .ref a12, .ref a13, .ref a14, .ref a15, .int 0, .int 0, .int 0, .ref a16, .int (-1), .int (-1), .ref a17, .ref a18, .int 0, .ref a19, .int 0, .int 0, .ref a20, .ref a21, .int 0, .int 0, .ref a22, .int 0, .int 0, .int 0, .int 0])), (a1, .inl (T 0, 940, .inl (upd (upd (upd f0 (Int32.toNatClampNeg (4 : Int32)) ((Int32.toUInt32 x0 >>> (Int32.toUInt32 (24 : Int32) &&& Int32.toUInt32 31)).toInt32 &&& (255 : Int32))) (Int32.toNatClampNeg (5 : Int32)) ((Int32.toUInt32 x0 >>> (Int32.toUInt32 (16 : Int32) &&& Int32.toUInt32 31)).toInt32 &&& (255 : Int32))) (Int32.toNatClampNeg (6 : Int32)) ((Int32.toUInt32 x0 >>> (Int32.toUInt32 (8 : Int32) &&& Int32.toUInt32 31)).toInt32 &&& (255 : Int32)))))]) M w 0 2 clX12 rfl (by decide) G1469 rfl rfl rfl rfl (Nat.le_of_ble_eq_true rfl) rfl dX12_come_30 (fun H locs w => ?_)
  refine lv_iinc (v := (0 : Int32)) (lv' := [(2, .int 0), (0, .ref a0), (1, .int x0)]) hx hb dX12_come_33 hl (k := 0) rfl (by decide +kernel) (by decide) rfl (fun ls hl => ?_)
  refine lv_goto (tgt := 3) hx hb dX12_come_36 (by decide) ?_
  refine lv_iload_n hx hb dX12_come_3 rfl (lv_at hl 0 rfl) ?_
  refine lv_if_lt (tgt := 39) hx hb dX12_come_4 (by decide) (fun c => absurd c (by decide +kernel)) (fun _ => ?_)
  refine lv_aload_n hx hb dX12_come_7 rfl (lv_at hl 1 rfl) ?_
  refine r_get (v := .ref a1) M w 0 1 clX12 rfl (by decide) G1468 rfl rfl dX12_come_8 ?_
  refine lv_aload_n hx hb dX12_come_11 rfl (lv_at hl 1 rfl) ?_
  refine r_get (v := .int 7) M w 0 2 clX12 rfl (by decide) G1469 rfl rfl dX12_come_12 ?_
  refine lv_iload_n hx hb dX12_come_15 rfl (lv_at hl 2 rfl) ?_
  refine lv_iload_n hx hb dX12_come_16 rfl (lv_at hl 0 rfl) ?_
  refine r_iushr (v := (Int32.toUInt32 x0 >>> (Int32.toUInt32 (0 : Int32) &&& Int32.toUInt32 31)).toInt32) M rfl dX12_come_17 ?_
  refine lv_sipush (v := 255) hx hb dX12_come_18 (by decide) ?_
  refine r_iand (v := ((Int32.toUInt32 x0 >>> (Int32.toUInt32 (0 : Int32) &&& Int32.toUInt32 31)).toInt32 &&& (255 : Int32))) M rfl dX12_come_21 ?_
  refine r_iast (ws' := [(a0, .inr (11, [.int 0, .ref a1, .int 7, .int 0, .int 0, .int 0, .int 0, .int 0, .int 0, .int 0, .int 0, .int 0, .long 0, .int 0, .ref a2, .ref a3, .ref a4, .ref a5, .ref a6, .ref a7, .ref a8, .ref a9, .ref a10, .ref a11, .int 0, .ref a12, .ref a13, .ref a14, .ref a15, .int 0, .int 0, .int 0, .ref a16, .int (-1), .int (-1), .ref a17, .ref a18, .int 0, .ref a19, .int 0, .int 0, .ref a20, .ref a21, .int 0, .int 0, .ref a22, .int 0, .int 0, .int 0, .int 0])), (a1, .inl (T 0, 940, .inl (upd (upd (upd (upd f0 (Int32.toNatClampNeg (4 : Int32)) ((Int32.toUInt32 x0 >>> (Int32.toUInt32 (24 : Int32) &&& Int32.toUInt32 31)).toInt32 &&& (255 : Int32))) (Int32.toNatClampNeg (5 : Int32)) ((Int32.toUInt32 x0 >>> (Int32.toUInt32 (16 : Int32) &&& Int32.toUInt32 31)).toInt32 &&& (255 : Int32))) (Int32.toNatClampNeg (6 : Int32)) ((Int32.toUInt32 x0 >>> (Int32.toUInt32 (8 : Int32) &&& Int32.toUInt32 31)).toInt32 &&& (255 : Int32))) (Int32.toNatClampNeg (7 : Int32)) ((Int32.toUInt32 x0 >>> (Int32.toUInt32 (0 : Int32) &&& Int32.toUInt32 31)).toInt32 &&& (255 : Int32)))))]) M w 1 rfl (vin (by decide +kernel)) rfl dX12_come_22 (fun H locs w => ?_)
  refine lv_aload_n hx hb dX12_come_23 rfl (lv_at hl 1 rfl) ?_
  refine lv_dup hx hb dX12_come_24 rfl ?_
  refine r_get (v := .int 7) M w 0 2 clX12 rfl (by decide) G1469 rfl rfl dX12_come_25 ?_
  refine lv_iconst (v := 1) hx hb dX12_come_28 (by decide) ?_
  refine r_iadd (v := (8 : Int32)) M (by decide +kernel) dX12_come_29 ?_
  refine r_put (ws' := [(a0, .inr (11, [.int 0, .ref a1, .int 8, .int 0, .int 0, .int 0, .int 0, .int 0, .int 0, .int 0, .int 0, .int 0, .long 0, .int 0, .ref a2, .ref a3, .ref a4, .ref a5, .ref a6, .ref a7, .ref a8, .ref a9, .ref a10, .ref a11, .int 0, .ref a12, .ref a13, .ref a14, .ref a15, .int 0, .int 0, .int 0, .ref a16, .int (-1), .int (-1), .ref a17, .ref a18, .int 0, .ref a19, .int 0, .int 0, .ref a20, .ref a21, .int 0, .int 0, .ref a22, .int 0, .int 0, .int 0, .int 0])), (a1, .inl (T 0, 940, .inl (upd (upd (upd (upd f0 (Int32.toNatClampNeg (4 : Int32)) ((Int32.toUInt32 x0 >>> (Int32.toUInt32 (24 : Int32) &&& Int32.toUInt32 31)).toInt32 &&& (255 : Int32))) (Int32.toNatClampNeg (5 : Int32)) ((Int32.toUInt32 x0 >>> (Int32.toUInt32 (16 : Int32) &&& Int32.toUInt32 31)).toInt32 &&& (255 : Int32))) (Int32.toNatClampNeg (6 : Int32)) ((Int32.toUInt32 x0 >>> (Int32.toUInt32 (8 : Int32) &&& Int32.toUInt32 31)).toInt32 &&& (255 : Int32))) (Int32.toNatClampNeg (7 : Int32)) ((Int32.toUInt32 x0 >>> (Int32.toUInt32 (0 : Int32) &&& Int32.toUInt32 31)).toInt32 &&& (255 : Int32)))))]) M w 0 2 clX12 rfl (by decide) G1469 rfl rfl rfl rfl (Nat.le_of_ble_eq_true rfl) rfl dX12_come_30 (fun H locs w => ?_)
  refine lv_iinc (v := (-8 : Int32)) (lv' := [(2, .int (-8)), (0, .ref a0), (1, .int x0)]) hx hb dX12_come_33 hl (k := 0) rfl (by decide +kernel) (by decide) rfl (fun ls hl => ?_)
  refine lv_goto (tgt := 3) hx hb dX12_come_36 (by decide) ?_
  refine lv_iload_n hx hb dX12_come_3 rfl (lv_at hl 0 rfl) ?_
  refine lv_if_lt (tgt := 39) hx hb dX12_come_4 (by decide) (fun _ => ?_) (fun c => absurd (by decide +kernel) c)
  exact ret () _ _ _ _ _ [0, 1] dX12_come_39 trivial w (by decide) rfl
set_option maxRecDepth 100000 in
set_option maxHeartbeats 4000000 in
theorem c25_X12_come (l : Launch) (D : va_G) (T : Nat → ClassId) (sz : Nat) (a0 a1 a2 a3 a4 a5 a6 a7 a8 a9 a10 a11 a12 a13 a14 a15 a16 a17 a18 a19 a20 a21 a22 : Nat) (x0 : Int32) (f0 : Nat → Int32) : Met l yX12_come (Cond.code yX12_come cX12_come 3 none :: GW) (Rm 0 0 0) (cPre [.ref a0, .int x0] D T [(a0, .inr (11, [.int 0, .ref a1, .int 8, .int 0, .int 0, .int 0, .int 0, .int 0, .int 0, .int 0, .int 0, .int 0, .long 0, .int 0, .ref a2, .ref a3, .ref a4, .ref a5, .ref a6, .ref a7, .ref a8, .ref a9, .ref a10, .ref a11, .int 0, .ref a12, .ref a13, .ref a14, .ref a15, .int 0, .int 0, .int 0, .ref a16, .int (-1), .int (-1), .ref a17, .ref a18, .int 0, .ref a19, .int 0, .int 0, .ref a20, .ref a21, .int 0, .int 0, .ref a22, .int 0, .int 0, .int 0, .int 0])), (a1, .inl (T 0, 940, .inl f0))] sz) (qV D [(a0, .inr (11, [.int 0, .ref a1, .int 8, .int 0, .int 0, .int 0, .int 0, .int 0, .int 0, .int 0, .int 0, .int 0, .long 0, .int 0, .ref a2, .ref a3, .ref a4, .ref a5, .ref a6, .ref a7, .ref a8, .ref a9, .ref a10, .ref a11, .int 0, .ref a12, .ref a13, .ref a14, .ref a15, .int 0, .int 0, .int 0, .ref a16, .int (-1), .int (-1), .ref a17, .ref a18, .int 0, .ref a19, .int 0, .int 0, .ref a20, .ref a21, .int 0, .int 0, .ref a22, .int 0, .int 0, .int 0, .int 0])), (a1, .inl (T 0, 940, .inl f0))] sz (fun (u : Unit) => True) (fun u => [(a0, .inr (11, [.int 0, .ref a1, .int 12, .int 0, .int 0, .int 0, .int 0, .int 0, .int 0, .int 0, .int 0, .int 0, .long 0, .int 0, .ref a2, .ref a3, .ref a4, .ref a5, .ref a6, .ref a7, .ref a8, .ref a9, .ref a10, .ref a11, .int 0, .ref a12, .ref a13, .ref a14, .ref a15, .int 0, .int 0, .int 0, .ref a16, .int (-1), .int (-1), .ref a17, .ref a18, .int 0, .ref a19, .int 0, .int 0, .ref a20, .ref a21, .int 0, .int 0, .ref a22, .int 0, .int 0, .int 0, .int 0])), (a1, .inl (T 0, 940, .inl (upd (upd (upd (upd f0 (Int32.toNatClampNeg (8 : Int32)) ((Int32.toUInt32 x0 >>> (Int32.toUInt32 (24 : Int32) &&& Int32.toUInt32 31)).toInt32 &&& (255 : Int32))) (Int32.toNatClampNeg (9 : Int32)) ((Int32.toUInt32 x0 >>> (Int32.toUInt32 (16 : Int32) &&& Int32.toUInt32 31)).toInt32 &&& (255 : Int32))) (Int32.toNatClampNeg (10 : Int32)) ((Int32.toUInt32 x0 >>> (Int32.toUInt32 (8 : Int32) &&& Int32.toUInt32 31)).toInt32 &&& (255 : Int32))) (Int32.toNatClampNeg (11 : Int32)) ((Int32.toUInt32 x0 >>> (Int32.toUInt32 (0 : Int32) &&& Int32.toUInt32 31)).toInt32 &&& (255 : Int32)))))])) 0 0 (va_A [(a0, .inr (11, [.int 0, .ref a1, .int 8, .int 0, .int 0, .int 0, .int 0, .int 0, .int 0, .int 0, .int 0, .int 0, .long 0, .int 0, .ref a2, .ref a3, .ref a4, .ref a5, .ref a6, .ref a7, .ref a8, .ref a9, .ref a10, .ref a11, .int 0, .ref a12, .ref a13, .ref a14, .ref a15, .int 0, .int 0, .int 0, .ref a16, .int (-1), .int (-1), .ref a17, .ref a18, .int 0, .ref a19, .int 0, .int 0, .ref a20, .ref a21, .int 0, .int 0, .ref a22, .int 0, .int 0, .int 0, .int 0])), (a1, .inl (T 0, 940, .inl f0))] sz) := by
  refine e_V (by decide) (Nat.le_of_ble_eq_true rfl) ?_
  intro p e s m args below meth c A Q ls M hin w ret hl
  have hx := M.1.1
  have hb := M.1.2.1
  have hl : lv_has ls 3 [(0, .ref a0), (1, .int x0)] := hl
  refine lv_bipush (v := 24) hx hb dX12_come_0 (by decide) ?_
  refine lv_istore_n (lv' := [(2, .int 24), (0, .ref a0), (1, .int x0)]) hx hb dX12_come_2 rfl hl (by decide) rfl (fun ls hl => ?_)
  refine lv_iload_n hx hb dX12_come_3 rfl (lv_at hl 0 rfl) ?_
  refine lv_if_lt (tgt := 39) hx hb dX12_come_4 (by decide) (fun c => absurd c (by decide +kernel)) (fun _ => ?_)
  refine lv_aload_n hx hb dX12_come_7 rfl (lv_at hl 1 rfl) ?_
  refine r_get (v := .ref a1) M w 0 1 clX12 rfl (by decide) G1468 rfl rfl dX12_come_8 ?_
  refine lv_aload_n hx hb dX12_come_11 rfl (lv_at hl 1 rfl) ?_
  refine r_get (v := .int 8) M w 0 2 clX12 rfl (by decide) G1469 rfl rfl dX12_come_12 ?_
  refine lv_iload_n hx hb dX12_come_15 rfl (lv_at hl 2 rfl) ?_
  refine lv_iload_n hx hb dX12_come_16 rfl (lv_at hl 0 rfl) ?_
  refine r_iushr (v := (Int32.toUInt32 x0 >>> (Int32.toUInt32 (24 : Int32) &&& Int32.toUInt32 31)).toInt32) M rfl dX12_come_17 ?_
  refine lv_sipush (v := 255) hx hb dX12_come_18 (by decide) ?_
  refine r_iand (v := ((Int32.toUInt32 x0 >>> (Int32.toUInt32 (24 : Int32) &&& Int32.toUInt32 31)).toInt32 &&& (255 : Int32))) M rfl dX12_come_21 ?_
  refine r_iast (ws' := [(a0, .inr (11, [.int 0, .ref a1, .int 8, .int 0, .int 0, .int 0, .int 0, .int 0, .int 0, .int 0, .int 0, .int 0, .long 0, .int 0, .ref a2, .ref a3, .ref a4, .ref a5, .ref a6, .ref a7, .ref a8, .ref a9, .ref a10, .ref a11, .int 0, .ref a12, .ref a13, .ref a14, .ref a15, .int 0, .int 0, .int 0, .ref a16, .int (-1), .int (-1), .ref a17, .ref a18, .int 0, .ref a19, .int 0, .int 0, .ref a20, .ref a21, .int 0, .int 0, .ref a22, .int 0, .int 0, .int 0, .int 0])), (a1, .inl (T 0, 940, .inl (upd f0 (Int32.toNatClampNeg (8 : Int32)) ((Int32.toUInt32 x0 >>> (Int32.toUInt32 (24 : Int32) &&& Int32.toUInt32 31)).toInt32 &&& (255 : Int32)))))]) M w 1 rfl (vin (by decide +kernel)) rfl dX12_come_22 (fun H locs w => ?_)
  refine lv_aload_n hx hb dX12_come_23 rfl (lv_at hl 1 rfl) ?_
  refine lv_dup hx hb dX12_come_24 rfl ?_
  refine r_get (v := .int 8) M w 0 2 clX12 rfl (by decide) G1469 rfl rfl dX12_come_25 ?_
  refine lv_iconst (v := 1) hx hb dX12_come_28 (by decide) ?_
  refine r_iadd (v := (9 : Int32)) M (by decide +kernel) dX12_come_29 ?_
  refine r_put (ws' := [(a0, .inr (11, [.int 0, .ref a1, .int 9, .int 0, .int 0, .int 0, .int 0, .int 0, .int 0, .int 0, .int 0, .int 0, .long 0, .int 0, .ref a2, .ref a3, .ref a4, .ref a5, .ref a6, .ref a7, .ref a8, .ref a9, .ref a10, .ref a11, .int 0, .ref a12, .ref a13, .ref a14, .ref a15, .int 0, .int 0, .int 0, .ref a16, .int (-1), .int (-1), .ref a17, .ref a18, .int 0, .ref a19, .int 0, .int 0, .ref a20, .ref a21, .int 0, .int 0, .ref a22, .int 0, .int 0, .int 0, .int 0])), (a1, .inl (T 0, 940, .inl (upd f0 (Int32.toNatClampNeg (8 : Int32)) ((Int32.toUInt32 x0 >>> (Int32.toUInt32 (24 : Int32) &&& Int32.toUInt32 31)).toInt32 &&& (255 : Int32)))))]) M w 0 2 clX12 rfl (by decide) G1469 rfl rfl rfl rfl (Nat.le_of_ble_eq_true rfl) rfl dX12_come_30 (fun H locs w => ?_)
  refine lv_iinc (v := (16 : Int32)) (lv' := [(2, .int 16), (0, .ref a0), (1, .int x0)]) hx hb dX12_come_33 hl (k := 0) rfl (by decide +kernel) (by decide) rfl (fun ls hl => ?_)
  refine lv_goto (tgt := 3) hx hb dX12_come_36 (by decide) ?_
  refine lv_iload_n hx hb dX12_come_3 rfl (lv_at hl 0 rfl) ?_
  refine lv_if_lt (tgt := 39) hx hb dX12_come_4 (by decide) (fun c => absurd c (by decide +kernel)) (fun _ => ?_)
  refine lv_aload_n hx hb dX12_come_7 rfl (lv_at hl 1 rfl) ?_
  refine r_get (v := .ref a1) M w 0 1 clX12 rfl (by decide) G1468 rfl rfl dX12_come_8 ?_
  refine lv_aload_n hx hb dX12_come_11 rfl (lv_at hl 1 rfl) ?_
  refine r_get (v := .int 9) M w 0 2 clX12 rfl (by decide) G1469 rfl rfl dX12_come_12 ?_
  refine lv_iload_n hx hb dX12_come_15 rfl (lv_at hl 2 rfl) ?_
  refine lv_iload_n hx hb dX12_come_16 rfl (lv_at hl 0 rfl) ?_
  refine r_iushr (v := (Int32.toUInt32 x0 >>> (Int32.toUInt32 (16 : Int32) &&& Int32.toUInt32 31)).toInt32) M rfl dX12_come_17 ?_
  refine lv_sipush (v := 255) hx hb dX12_come_18 (by decide) ?_
  refine r_iand (v := ((Int32.toUInt32 x0 >>> (Int32.toUInt32 (16 : Int32) &&& Int32.toUInt32 31)).toInt32 &&& (255 : Int32))) M rfl dX12_come_21 ?_
  refine r_iast (ws' := [(a0, .inr (11, [.int 0, .ref a1, .int 9, .int 0, .int 0, .int 0, .int 0, .int 0, .int 0, .int 0, .int 0, .int 0, .long 0, .int 0, .ref a2, .ref a3, .ref a4, .ref a5, .ref a6, .ref a7, .ref a8, .ref a9, .ref a10, .ref a11, .int 0, .ref a12, .ref a13, .ref a14, .ref a15, .int 0, .int 0, .int 0, .ref a16, .int (-1), .int (-1), .ref a17, .ref a18, .int 0, .ref a19, .int 0, .int 0, .ref a20, .ref a21, .int 0, .int 0, .ref a22, .int 0, .int 0, .int 0, .int 0])), (a1, .inl (T 0, 940, .inl (upd (upd f0 (Int32.toNatClampNeg (8 : Int32)) ((Int32.toUInt32 x0 >>> (Int32.toUInt32 (24 : Int32) &&& Int32.toUInt32 31)).toInt32 &&& (255 : Int32))) (Int32.toNatClampNeg (9 : Int32)) ((Int32.toUInt32 x0 >>> (Int32.toUInt32 (16 : Int32) &&& Int32.toUInt32 31)).toInt32 &&& (255 : Int32)))))]) M w 1 rfl (vin (by decide +kernel)) rfl dX12_come_22 (fun H locs w => ?_)
  refine lv_aload_n hx hb dX12_come_23 rfl (lv_at hl 1 rfl) ?_
  refine lv_dup hx hb dX12_come_24 rfl ?_
  refine r_get (v := .int 9) M w 0 2 clX12 rfl (by decide) G1469 rfl rfl dX12_come_25 ?_
  refine lv_iconst (v := 1) hx hb dX12_come_28 (by decide) ?_
  refine r_iadd (v := (10 : Int32)) M (by decide +kernel) dX12_come_29 ?_
  refine r_put (ws' := [(a0, .inr (11, [.int 0, .ref a1, .int 10, .int 0, .int 0, .int 0, .int 0, .int 0, .int 0, .int 0, .int 0, .int 0, .long 0, .int 0, .ref a2, .ref a3, .ref a4, .ref a5, .ref a6, .ref a7, .ref a8, .ref a9, .ref a10, .ref a11, .int 0, .ref a12, .ref a13, .ref a14, .ref a15, .int 0, .int 0, .int 0, .ref a16, .int (-1), .int (-1), .ref a17, .ref a18, .int 0, .ref a19, .int 0, .int 0, .ref a20, .ref a21, .int 0, .int 0, .ref a22, .int 0, .int 0, .int 0, .int 0])), (a1, .inl (T 0, 940, .inl (upd (upd f0 (Int32.toNatClampNeg (8 : Int32)) ((Int32.toUInt32 x0 >>> (Int32.toUInt32 (24 : Int32) &&& Int32.toUInt32 31)).toInt32 &&& (255 : Int32))) (Int32.toNatClampNeg (9 : Int32)) ((Int32.toUInt32 x0 >>> (Int32.toUInt32 (16 : Int32) &&& Int32.toUInt32 31)).toInt32 &&& (255 : Int32)))))]) M w 0 2 clX12 rfl (by decide) G1469 rfl rfl rfl rfl (Nat.le_of_ble_eq_true rfl) rfl dX12_come_30 (fun H locs w => ?_)
  refine lv_iinc (v := (8 : Int32)) (lv' := [(2, .int 8), (0, .ref a0), (1, .int x0)]) hx hb dX12_come_33 hl (k := 0) rfl (by decide +kernel) (by decide) rfl (fun ls hl => ?_)
  refine lv_goto (tgt := 3) hx hb dX12_come_36 (by decide) ?_
  refine lv_iload_n hx hb dX12_come_3 rfl (lv_at hl 0 rfl) ?_
  refine lv_if_lt (tgt := 39) hx hb dX12_come_4 (by decide) (fun c => absurd c (by decide +kernel)) (fun _ => ?_)
  refine lv_aload_n hx hb dX12_come_7 rfl (lv_at hl 1 rfl) ?_
  refine r_get (v := .ref a1) M w 0 1 clX12 rfl (by decide) G1468 rfl rfl dX12_come_8 ?_
  refine lv_aload_n hx hb dX12_come_11 rfl (lv_at hl 1 rfl) ?_
  refine r_get (v := .int 10) M w 0 2 clX12 rfl (by decide) G1469 rfl rfl dX12_come_12 ?_
  refine lv_iload_n hx hb dX12_come_15 rfl (lv_at hl 2 rfl) ?_
  refine lv_iload_n hx hb dX12_come_16 rfl (lv_at hl 0 rfl) ?_
  refine r_iushr (v := (Int32.toUInt32 x0 >>> (Int32.toUInt32 (8 : Int32) &&& Int32.toUInt32 31)).toInt32) M rfl dX12_come_17 ?_
  refine lv_sipush (v := 255) hx hb dX12_come_18 (by decide) ?_
  refine r_iand (v := ((Int32.toUInt32 x0 >>> (Int32.toUInt32 (8 : Int32) &&& Int32.toUInt32 31)).toInt32 &&& (255 : Int32))) M rfl dX12_come_21 ?_
  refine r_iast (ws' := [(a0, .inr (11, [.int 0, .ref a1, .int 10, .int 0, .int 0, .int 0, .int 0, .int 0, .int 0, .int 0, .int 0, .int 0, .long 0, .int 0, .ref a2, .ref a3, .ref a4, .ref a5, .ref a6, .ref a7, .ref a8, .ref a9, .ref a10, .ref a11, .int 0, .ref a12, .ref a13, .ref a14, .ref a15, .int 0, .int 0, .int 0, .ref a16, .int (-1), .int (-1), .ref a17, .ref a18, .int 0, .ref a19, .int 0, .int 0, .ref a20, .ref a21, .int 0, .int 0, .ref a22, .int 0, .int 0, .int 0, .int 0])), (a1, .inl (T 0, 940, .inl (upd (upd (upd f0 (Int32.toNatClampNeg (8 : Int32)) ((Int32.toUInt32 x0 >>> (Int32.toUInt32 (24 : Int32) &&& Int32.toUInt32 31)).toInt32 &&& (255 : Int32))) (Int32.toNatClampNeg (9 : Int32)) ((Int32.toUInt32 x0 >>> (Int32.toUInt32 (16 : Int32) &&& Int32.toUInt32 31)).toInt32 &&& (255 : Int32))) (Int32.toNatClampNeg (10 : Int32)) ((Int32.toUInt32 x0 >>> (Int32.toUInt32 (8 : Int32) &&& Int32.toUInt32 31)).toInt32 &&& (255 : Int32)))))]) M w 1 rfl (vin (by decide +kernel)) rfl dX12_come_22 (fun H locs w => ?_)
  refine lv_aload_n hx hb dX12_come_23 rfl (lv_at hl 1 rfl) ?_
  refine lv_dup hx hb dX12_come_24 rfl ?_
  refine r_get (v := .int 10) M w 0 2 clX12 rfl (by decide) G1469 rfl rfl dX12_come_25 ?_
  refine lv_iconst (v := 1) hx hb dX12_come_28 (by decide) ?_
  refine r_iadd (v := (11 : Int32)) M (by decide +kernel) dX12_come_29 ?_
  refine r_put (ws' := [(a0, .inr (11, [.int 0, .ref a1, .int 11, .int 0, .int 0, .int 0, .int 0, .int 0, .int 0, .int 0, .int 0, .int 0, .long 0, .int 0, .ref a2, .ref a3, .ref a4, .ref a5, .ref a6, .ref a7, .ref a8, .ref a9, .ref a10, .ref a11, .int 0, .ref a12, .ref a13, .ref a14, .ref a15, .int 0, .int 0, .int 0, .ref a16, .int (-1), .int (-1), .ref a17, .ref a18, .int 0, .ref a19, .int 0, .int 0, .ref a20, .ref a21, .int 0, .int 0, .ref a22, .int 0, .int 0, .int 0, .int 0])), (a1, .inl (T 0, 940, .inl (upd (upd (upd f0 (Int32.toNatClampNeg (8 : Int32)) ((Int32.toUInt32 x0 >>> (Int32.toUInt32 (24 : Int32) &&& Int32.toUInt32 31)).toInt32 &&& (255 : Int32))) (Int32.toNatClampNeg (9 : Int32)) ((Int32.toUInt32 x0 >>> (Int32.toUInt32 (16 : Int32) &&& Int32.toUInt32 31)).toInt32 &&& (255 : Int32))) (Int32.toNatClampNeg (10 : Int32)) ((Int32.toUInt32 x0 >>> (Int32.toUInt32 (8 : Int32) &&& Int32.toUInt32 31)).toInt32 &&& (255 : Int32)))))]) M w 0 2 clX12 rfl (by decide) G1469 rfl rfl rfl rfl (Nat.le_of_ble_eq_true rfl) rfl dX12_come_30 (fun H locs w => ?_)
  refine lv_iinc (v := (0 : Int32)) (lv' := [(2, .int 0), (0, .ref a0), (1, .int x0)]) hx hb dX12_come_33 hl (k := 0) rfl (by decide +kernel) (by decide) rfl (fun ls hl => ?_)
  refine lv_goto (tgt := 3) hx hb dX12_come_36 (by decide) ?_
  refine lv_iload_n hx hb dX12_come_3 rfl (lv_at hl 0 rfl) ?_
  refine lv_if_lt (tgt := 39) hx hb dX12_come_4 (by decide) (fun c => absurd c (by decide +kernel)) (fun _ => ?_)
  refine lv_aload_n hx hb dX12_come_7 rfl (lv_at hl 1 rfl) ?_
  refine r_get (v := .ref a1) M w 0 1 clX12 rfl (by decide) G1468 rfl rfl dX12_come_8 ?_
  refine lv_aload_n hx hb dX12_come_11 rfl (lv_at hl 1 rfl) ?_
  refine r_get (v := .int 11) M w 0 2 clX12 rfl (by decide) G1469 rfl rfl dX12_come_12 ?_
  refine lv_iload_n hx hb dX12_come_15 rfl (lv_at hl 2 rfl) ?_
  refine lv_iload_n hx hb dX12_come_16 rfl (lv_at hl 0 rfl) ?_
  refine r_iushr (v := (Int32.toUInt32 x0 >>> (Int32.toUInt32 (0 : Int32) &&& Int32.toUInt32 31)).toInt32) M rfl dX12_come_17 ?_
  refine lv_sipush (v := 255) hx hb dX12_come_18 (by decide) ?_
  refine r_iand (v := ((Int32.toUInt32 x0 >>> (Int32.toUInt32 (0 : Int32) &&& Int32.toUInt32 31)).toInt32 &&& (255 : Int32))) M rfl dX12_come_21 ?_
  refine r_iast (ws' := [(a0, .inr (11, [.int 0, .ref a1, .int 11, .int 0, .int 0, .int 0, .int 0, .int 0, .int 0, .int 0, .int 0, .int 0, .long 0, .int 0, .ref a2, .ref a3, .ref a4, .ref a5, .ref a6, .ref a7, .ref a8, .ref a9, .ref a10, .ref a11, .int 0, .ref a12, .ref a13, .ref a14, .ref a15, .int 0, .int 0, .int 0, .ref a16, .int (-1), .int (-1), .ref a17, .ref a18, .int 0, .ref a19, .int 0, .int 0, .ref a20, .ref a21, .int 0, .int 0, .ref a22, .int 0, .int 0, .int 0, .int 0])), (a1, .inl (T 0, 940, .inl (upd (upd (upd (upd f0 (Int32.toNatClampNeg (8 : Int32)) ((Int32.toUInt32 x0 >>> (Int32.toUInt32 (24 : Int32) &&& Int32.toUInt32 31)).toInt32 &&& (255 : Int32))) (Int32.toNatClampNeg (9 : Int32)) ((Int32.toUInt32 x0 >>> (Int32.toUInt32 (16 : Int32) &&& Int32.toUInt32 31)).toInt32 &&& (255 : Int32))) (Int32.toNatClampNeg (10 : Int32)) ((Int32.toUInt32 x0 >>> (Int32.toUInt32 (8 : Int32) &&& Int32.toUInt32 31)).toInt32 &&& (255 : Int32))) (Int32.toNatClampNeg (11 : Int32)) ((Int32.toUInt32 x0 >>> (Int32.toUInt32 (0 : Int32) &&& Int32.toUInt32 31)).toInt32 &&& (255 : Int32)))))]) M w 1 rfl (vin (by decide +kernel)) rfl dX12_come_22 (fun H locs w => ?_)
  refine lv_aload_n hx hb dX12_come_23 rfl (lv_at hl 1 rfl) ?_
  refine lv_dup hx hb dX12_come_24 rfl ?_
  refine r_get (v := .int 11) M w 0 2 clX12 rfl (by decide) G1469 rfl rfl dX12_come_25 ?_
  refine lv_iconst (v := 1) hx hb dX12_come_28 (by decide) ?_
  refine r_iadd (v := (12 : Int32)) M (by decide +kernel) dX12_come_29 ?_
  refine r_put (ws' := [(a0, .inr (11, [.int 0, .ref a1, .int 12, .int 0, .int 0, .int 0, .int 0, .int 0, .int 0, .int 0, .int 0, .int 0, .long 0, .int 0, .ref a2, .ref a3, .ref a4, .ref a5, .ref a6, .ref a7, .ref a8, .ref a9, .ref a10, .ref a11, .int 0, .ref a12, .ref a13, .ref a14, .ref a15, .int 0, .int 0, .int 0, .ref a16, .int (-1), .int (-1), .ref a17, .ref a18, .int 0, .ref a19, .int 0, .int 0, .ref a20, .ref a21, .int 0, .int 0, .ref a22, .int 0, .int 0, .int 0, .int 0])), (a1, .inl (T 0, 940, .inl (upd (upd (upd (upd f0 (Int32.toNatClampNeg (8 : Int32)) ((Int32.toUInt32 x0 >>> (Int32.toUInt32 (24 : Int32) &&& Int32.toUInt32 31)).toInt32 &&& (255 : Int32))) (Int32.toNatClampNeg (9 : Int32)) ((Int32.toUInt32 x0 >>> (Int32.toUInt32 (16 : Int32) &&& Int32.toUInt32 31)).toInt32 &&& (255 : Int32))) (Int32.toNatClampNeg (10 : Int32)) ((Int32.toUInt32 x0 >>> (Int32.toUInt32 (8 : Int32) &&& Int32.toUInt32 31)).toInt32 &&& (255 : Int32))) (Int32.toNatClampNeg (11 : Int32)) ((Int32.toUInt32 x0 >>> (Int32.toUInt32 (0 : Int32) &&& Int32.toUInt32 31)).toInt32 &&& (255 : Int32)))))]) M w 0 2 clX12 rfl (by decide) G1469 rfl rfl rfl rfl (Nat.le_of_ble_eq_true rfl) rfl dX12_come_30 (fun H locs w => ?_)
  refine lv_iinc (v := (-8 : Int32)) (lv' := [(2, .int (-8)), (0, .ref a0), (1, .int x0)]) hx hb dX12_come_33 hl (k := 0) rfl (by decide +kernel) (by decide) rfl (fun ls hl => ?_)
  refine lv_goto (tgt := 3) hx hb dX12_come_36 (by decide) ?_
  refine lv_iload_n hx hb dX12_come_3 rfl (lv_at hl 0 rfl) ?_
  refine lv_if_lt (tgt := 39) hx hb dX12_come_4 (by decide) (fun _ => ?_) (fun c => absurd (by decide +kernel) c)
  exact ret () _ _ _ _ _ [0, 1] dX12_come_39 trivial w (by decide) rfl
set_option maxRecDepth 100000 in
set_option maxHeartbeats 4000000 in
theorem c26_X12_come (l : Launch) (D : va_G) (T : Nat → ClassId) (sz : Nat) (a0 a1 a2 a3 a4 a5 a6 a7 a8 a9 a10 a11 a12 a13 a14 a15 a16 a17 a18 a19 a20 a21 a22 : Nat) (x0 : Int32) (f0 : Nat → Int32) : Met l yX12_come (Cond.code yX12_come cX12_come 3 none :: GW) (Rm 0 0 0) (cPre [.ref a0, .int x0] D T [(a0, .inr (11, [.int 0, .ref a1, .int 12, .int 0, .int 0, .int 0, .int 0, .int 0, .int 0, .int 0, .int 0, .int 0, .long 0, .int 0, .ref a2, .ref a3, .ref a4, .ref a5, .ref a6, .ref a7, .ref a8, .ref a9, .ref a10, .ref a11, .int 0, .ref a12, .ref a13, .ref a14, .ref a15, .int 0, .int 0, .int 0, .ref a16, .int (-1), .int (-1), .ref a17, .ref a18, .int 0, .ref a19, .int 0, .int 0, .ref a20, .ref a21, .int 0, .int 0, .ref a22, .int 0, .int 0, .int 0, .int 0])), (a1, .inl (T 0, 940, .inl f0))] sz) (qV D [(a0, .inr (11, [.int 0, .ref a1, .int 12, .int 0, .int 0, .int 0, .int 0, .int 0, .int 0, .int 0, .int 0, .int 0, .long 0, .int 0, .ref a2, .ref a3, .ref a4, .ref a5, .ref a6, .ref a7, .ref a8, .ref a9, .ref a10, .ref a11, .int 0, .ref a12, .ref a13, .ref a14, .ref a15, .int 0, .int 0, .int 0, .ref a16, .int (-1), .int (-1), .ref a17, .ref a18, .int 0, .ref a19, .int 0, .int 0, .ref a20, .ref a21, .int 0, .int 0, .ref a22, .int 0, .int 0, .int 0, .int 0])), (a1, .inl (T 0, 940, .inl f0))] sz (fun (u : Unit) => True) (fun u => [(a0, .inr (11, [.int 0, .ref a1, .int 16, .int 0, .int 0, .int 0, .int 0, .int 0, .int 0, .int 0, .int 0, .int 0, .long 0, .int 0, .ref a2, .ref a3, .ref a4, .ref a5, .ref a6, .ref a7, .ref a8, .ref a9, .ref a10, .ref a11, .int 0, .ref a12, .ref a13, .ref a14, .ref a15, .int 0, .int 0, .int 0, .ref a16, .int (-1), .int (-1), .ref a17, .ref a18, .int 0, .ref a19, .int 0, .int 0, .ref a20, .ref a21, .int 0, .int 0, .ref a22, .int 0, .int 0, .int 0, .int 0])), (a1, .inl (T 0, 940, .inl (upd (upd (upd (upd f0 (Int32.toNatClampNeg (12 : Int32)) ((Int32.toUInt32 x0 >>> (Int32.toUInt32 (24 : Int32) &&& Int32.toUInt32 31)).toInt32 &&& (255 : Int32))) (Int32.toNatClampNeg (13 : Int32)) ((Int32.toUInt32 x0 >>> (Int32.toUInt32 (16 : Int32) &&& Int32.toUInt32 31)).toInt32 &&& (255 : Int32))) (Int32.toNatClampNeg (14 : Int32)) ((Int32.toUInt32 x0 >>> (Int32.toUInt32 (8 : Int32) &&& Int32.toUInt32 31)).toInt32 &&& (255 : Int32))) (Int32.toNatClampNeg (15 : Int32)) ((Int32.toUInt32 x0 >>> (Int32.toUInt32 (0 : Int32) &&& Int32.toUInt32 31)).toInt32 &&& (255 : Int32)))))])) 0 0 (va_A [(a0, .inr (11, [.int 0, .ref a1, .int 12, .int 0, .int 0, .int 0, .int 0, .int 0, .int 0, .int 0, .int 0, .int 0, .long 0, .int 0, .ref a2, .ref a3, .ref a4, .ref a5, .ref a6, .ref a7, .ref a8, .ref a9, .ref a10, .ref a11, .int 0, .ref a12, .ref a13, .ref a14, .ref a15, .int 0, .int 0, .int 0, .ref a16, .int (-1), .int (-1), .ref a17, .ref a18, .int 0, .ref a19, .int 0, .int 0, .ref a20, .ref a21, .int 0, .int 0, .ref a22, .int 0, .int 0, .int 0, .int 0])), (a1, .inl (T 0, 940, .inl f0))] sz) := by
  refine e_V (by decide) (Nat.le_of_ble_eq_true rfl) ?_
  intro p e s m args below meth c A Q ls M hin w ret hl
  have hx := M.1.1
  have hb := M.1.2.1
  have hl : lv_has ls 3 [(0, .ref a0), (1, .int x0)] := hl
  refine lv_bipush (v := 24) hx hb dX12_come_0 (by decide) ?_
  refine lv_istore_n (lv' := [(2, .int 24), (0, .ref a0), (1, .int x0)]) hx hb dX12_come_2 rfl hl (by decide) rfl (fun ls hl => ?_)
  refine lv_iload_n hx hb dX12_come_3 rfl (lv_at hl 0 rfl) ?_
  refine lv_if_lt (tgt := 39) hx hb dX12_come_4 (by decide) (fun c => absurd c (by decide +kernel)) (fun _ => ?_)
  refine lv_aload_n hx hb dX12_come_7 rfl (lv_at hl 1 rfl) ?_
  refine r_get (v := .ref a1) M w 0 1 clX12 rfl (by decide) G1468 rfl rfl dX12_come_8 ?_
  refine lv_aload_n hx hb dX12_come_11 rfl (lv_at hl 1 rfl) ?_
  refine r_get (v := .int 12) M w 0 2 clX12 rfl (by decide) G1469 rfl rfl dX12_come_12 ?_
  refine lv_iload_n hx hb dX12_come_15 rfl (lv_at hl 2 rfl) ?_
  refine lv_iload_n hx hb dX12_come_16 rfl (lv_at hl 0 rfl) ?_
  refine r_iushr (v := (Int32.toUInt32 x0 >>> (Int32.toUInt32 (24 : Int32) &&& Int32.toUInt32 31)).toInt32) M rfl dX12_come_17 ?_
  refine lv_sipush (v := 255) hx hb dX12_come_18 (by decide) ?_
  refine r_iand (v := ((Int32.toUInt32 x0 >>> (Int32.toUInt32 (24 : Int32) &&& Int32.toUInt32 31)).toInt32 &&& (255 : Int32))) M rfl dX12_come_21 ?_
  refine r_iast (ws' := [(a0, .inr (11, [.int 0, .ref a1, .int 12, .int 0, .int 0, .int 0, .int 0, .int 0, .int 0, .int 0, .int 0, .int 0, .long 0, .int 0, .ref a2, .ref a3, .ref a4, .ref a5, .ref a6, .ref a7, .ref a8, .ref a9, .ref a10, .ref a11, .int 0, .ref a12, .ref a13, .ref a14, .ref a15, .int 0, .int 0, .int 0, .ref a16, .int (-1), .int (-1), .ref a17, .ref a18, .int 0, .ref a19, .int 0, .int 0, .ref a20, .ref a21, .int 0, .int 0, .ref a22, .int 0, .int 0, .int 0, .int 0])), (a1, .inl (T 0, 940, .inl (upd f0 (Int32.toNatClampNeg (12 : Int32)) ((Int32.toUInt32 x0 >>> (Int32.toUInt32 (24 : Int32) &&& Int32.toUInt32 31)).toInt32 &&& (255 : Int32)))))]) M w 1 rfl (vin (by decide +kernel)) rfl dX12_come_22 (fun H locs w => ?_)
  refine lv_aload_n hx hb dX12_come_23 rfl (lv_at hl 1 rfl) ?_
  refine lv_dup hx hb dX12_come_24 rfl ?_
  refine r_get (v := .int 12) M w 0 2 clX12 rfl (by decide) G1469 rfl rfl dX12_come_25 ?_
  refine lv_iconst (v := 1) hx hb dX12_come_28 (by decide) ?_
  refine r_iadd (v := (13 : Int32)) M (by decide +kernel) dX12_come_29 ?_
  refine r_put (ws' := [(a0, .inr (11, [.int 0, .ref a1, .int 13, .int 0, .int 0, .int 0, .int 0, .int 0, .int 0, .int 0, .int 0, .int 0, .long 0, .int 0, .ref a2, .ref a3, .ref a4, .ref a5, .ref a6, .ref a7, .ref a8, .ref a9, .ref a10, .ref a11, .int 0, .ref a12, .ref a13, .ref a14, .ref a15, .int 0, .int 0, .int 0, .ref a16, .int (-1), .int (-1), .ref a17, .ref a18, .int 0, .ref a19, .int 0, .int 0, .ref a20, .ref a21, .int 0, .int 0, .ref a22, .int 0, .int 0, .int 0, .int 0])), (a1, .inl (T 0, 940, .inl (upd f0 (Int32.toNatClampNeg (12 : Int32)) ((Int32.toUInt32 x0 >>> (Int32.toUInt32 (24 : Int32) &&& Int32.toUInt32 31)).toInt32 &&& (255 : Int32)))))]) M w 0 2 clX12 rfl (by decide) G1469 rfl rfl rfl rfl (Nat.le_of_ble_eq_true rfl) rfl dX12_come_30 (fun H locs w => ?_)
  refine lv_iinc (v := (16 : Int32)) (lv' := [(2, .int 16), (0, .ref a0), (1, .int x0)]) hx hb dX12_come_33 hl (k := 0) rfl (by decide +kernel) (by decide) rfl (fun ls hl => ?_)
  refine lv_goto (tgt := 3) hx hb dX12_come_36 (by decide) ?_
  refine lv_iload_n hx hb dX12_come_3 rfl (lv_at hl 0 rfl) ?_
  refine lv_if_lt (tgt := 39) hx hb dX12_come_4 (by decide) (fun c => absurd c (by decide +kernel)) (fun _ => ?_)
  refine lv_aload_n hx hb dX12_come_7 rfl (lv_at hl 1 rfl) ?_
  refine r_get (v := .ref a1) M w 0 1 clX12 rfl (by decide) G1468 rfl rfl dX12_come_8 ?_
  refine lv_aload_n hx hb dX12_come_11 rfl (lv_at hl 1 rfl) ?_
  refine r_get (v := .int 13) M w 0 2 clX12 rfl (by decide) G1469 rfl rfl dX12_come_12 ?_
  refine lv_iload_n hx hb dX12_come_15 rfl (lv_at hl 2 rfl) ?_
  refine lv_iload_n hx hb dX12_come_16 rfl (lv_at hl 0 rfl) ?_
  refine r_iushr (v := (Int32.toUInt32 x0 >>> (Int32.toUInt32 (16 : Int32) &&& Int32.toUInt32 31)).toInt32) M rfl dX12_come_17 ?_
  refine lv_sipush (v := 255) hx hb dX12_come_18 (by decide) ?_
  refine r_iand (v := ((Int32.toUInt32 x0 >>> (Int32.toUInt32 (16 : Int32) &&& Int32.toUInt32 31)).toInt32 &&& (255 : Int32))) M rfl dX12_come_21 ?_
  refine r_iast (ws' := [(a0, .inr (11, [.int 0, .ref a1, .int 13, .int 0, .int 0, .int 0, .int 0, .int 0, .int 0, .int 0, .int 0, .int 0, .long 0, .int 0, .ref a2, .ref a3, .ref a4, .ref a5, .ref a6, .ref a7, .ref a8, .ref a9, .ref a10, .ref a11, .int 0, .ref a12, .ref a13, .ref a14, .ref a15, .int 0, .int 0, .int 0, .ref a16, .int (-1), .int (-1), .ref a17, .ref a18, .int 0, .ref a19, .int 0, .int 0, .ref a20, .ref a21, .int 0, .int 0, .ref a22, .int 0, .int 0, .int 0, .int 0])), (a1, .inl (T 0, 940, .inl (upd (upd f0 (Int32.toNatClampNeg (12 : Int32)) ((Int32.toUInt32 x0 >>> (Int32.toUInt32 (24 : Int32) &&& Int32.toUInt32 31)).toInt32 &&& (255 : Int32))) (Int32.toNatClampNeg (13 : Int32)) ((Int32.toUInt32 x0 >>> (Int32.toUInt32 (16 : Int32) &&& Int32.toUInt32 31)).toInt32 &&& (255 : Int32)))))]) M w 1 rfl (vin (by decide +kernel)) rfl dX12_come_22 (fun H locs w => ?_)
  refine lv_aload_n hx hb dX12_come_23 rfl (lv_at hl 1 rfl) ?_
  refine lv_dup hx hb dX12_come_24 rfl ?_
  refine r_get (v := .int 13) M w 0 2 clX12 rfl (by decide) G1469 rfl rfl dX12_come_25 ?_
  refine lv_iconst (v := 1) hx hb dX12_come_28 (by decide) ?_
  refine r_iadd (v := (14 : Int32)) M (by decide +kernel) dX12_come_29 ?_
  refine r_put (ws' := [(a0, .inr (11, [.int 0, .ref a1, .int 14, .int 0, .int 0, .int 0, .int 0, .int 0, .int 0, .int 0, .int 0, .int 0, .long 0, .int 0, .ref a2, .ref a3, .ref a4, .ref a5, .ref a6, .ref a7, .ref a8, .ref a9, .ref a10, .ref a11, .int 0, .ref a12, .ref a13, .ref a14, .ref a15, .int 0, .int 0, .int 0, .ref a16, .int (-1), .int (-1), .ref a17, .ref a18, .int 0, .ref a19, .int 0, .int 0, .ref a20, .ref a21, .int 0, .int 0, .ref a22, .int 0, .int 0, .int 0, .int 0])), (a1, .inl (T 0, 940, .inl (upd (upd f0 (Int32.toNatClampNeg (12 : Int32)) ((Int32.toUInt32 x0 >>> (Int32.toUInt32 (24 : Int32) &&& Int32.toUInt32 31)).toInt32 &&& (255 : Int32))) (Int32.toNatClampNeg (13 : Int32)) ((Int32.toUInt32 x0 >>> (Int32.toUInt32 (16 : Int32) &&& Int32.toUInt32 31)).toInt32 &&& (255 : Int32)))))]) M w 0 2 clX12 rfl (by decide) G1469 rfl rfl rfl rfl (Nat.le_of_ble_eq_true rfl) rfl dX12_come_30 (fun H locs w => ?_)
  refine lv_iinc (v := (8 : Int32)) (lv' := [(2, .int 8), (0, .ref a0), (1, .int x0)]) hx hb dX12_come_33 hl (k := 0) rfl (by decide +kernel) (by decide) rfl (fun ls hl => ?_)
  refine lv_goto (tgt := 3) hx hb dX12_come_36 (by decide) ?_
  refine lv_iload_n hx hb dX12_come_3 rfl (lv_at hl 0 rfl) ?_
  refine lv_if_lt (tgt := 39) hx hb dX12_come_4 (by decide) (fun c => absurd c (by decide +kernel)) (fun _ => ?_)
  refine lv_aload_n hx hb dX12_come_7 rfl (lv_at hl 1 rfl) ?_
  refine r_get (v := .ref a1) M w 0 1 clX12 rfl (by decide) G1468 rfl rfl dX12_come_8 ?_
  refine lv_aload_n hx hb dX12_come_11 rfl (lv_at hl 1 rfl) ?_
  refine r_get (v := .int 14) M w 0 2 clX12 rfl (by decide) G1469 rfl rfl dX12_come_12 ?_
  refine lv_iload_n hx hb dX12_come_15 rfl (lv_at hl 2 rfl) ?_
  refine lv_iload_n hx hb dX12_come_16 rfl (lv_at hl 0 rfl) ?_
  refine r_iushr (v := (Int32.toUInt32 x0 >>> (Int32.toUInt32 (8 : Int32) &&& Int32.toUInt32 31)).toInt32) M rfl dX12_come_17 ?_
  refine lv_sipush (v := 255) hx hb dX12_come_18 (by decide) ?_
  refine r_iand (v := ((Int32.toUInt32 x0 >>> (Int32.toUInt32 (8 : Int32) &&& Int32.toUInt32 31)).toInt32 &&& (255 : Int32))) M rfl dX12_come_21 ?_
  refine r_iast (ws' := [(a0, .inr (11, [.int 0, .ref a1, .int 14, .int 0, .int 0, .int 0, .int 0, .int 0, .int 0, .int 0, .int 0, .int 0, .long 0, .int 0, .ref a2, .ref a3, .ref a4, .ref a5, .ref a6, .ref a7, .ref a8, .ref a9, .ref a10, .ref a11, .int 0, .ref a12, .ref a13, .ref a14, .ref a15, .int 0, .int 0, .int 0, .ref a16, .int (-1), .int (-1), .ref a17, .ref a18, .int 0, .ref a19, .int 0, .int 0, .ref a20, .ref a21, .int 0, .int 0, .ref a22, .int 0, .int 0, .int 0, .int 0])), (a1, .inl (T 0, 940, .inl (upd (upd (upd f0 (Int32.toNatClampNeg (12 : Int32)) ((Int32.toUInt32 x0 >>> (Int32.toUInt32 (24 : Int32) &&& Int32.toUInt32 31)).toInt32 &&& (255 : Int32))) (Int32.toNatClampNeg (13 : Int32)) ((Int32.toUInt32 x0 >>> (Int32.toUInt32 (16 : Int32) &&& Int32.toUInt32 31)).toInt32 &&& (255 : Int32))) (Int32.toNatClampNeg (14 : Int32)) ((Int32.toUInt32 x0 >>> (Int32.toUInt32 (8 : Int32) &&& Int32.toUInt32 31)).toInt32 &&& (255 : Int32)))))]) M w 1 rfl (vin (by decide +kernel)) rfl dX12_come_22 (fun H locs w => ?_)
  refine lv_aload_n hx hb dX12_come_23 rfl (lv_at hl 1 rfl) ?_
  refine lv_dup hx hb dX12_come_24 rfl ?_
  refine r_get (v := .int 14) M w 0 2 clX12 rfl (by decide) G1469 rfl rfl dX12_come_25 ?_
  refine lv_iconst (v := 1) hx hb dX12_come_28 (by decide) ?_
  refine r_iadd (v := (15 : Int32)) M (by decide +kernel) dX12_come_29 ?_
  refine r_put (ws' := [(a0, .inr (11, [.int 0, .ref a1, .int 15, .int 0, .int 0, .int 0, .int 0, .int 0, .int 0, .int 0, .int 0, .int 0, .long 0, .int 0, .ref a2, .ref a3, .ref a4, .ref a5, .ref a6, .ref a7, .ref a8, .ref a9, .ref a10, .ref a11, .int 0, .ref a12, .ref a13, .ref a14, .ref a15, .int 0, .int 0, .int 0, .ref a16, .int (-1), .int (-1), .ref a17, .ref a18, .int 0, .ref a19, .int 0, .int 0, .ref a20, .ref a21, .int 0, .int 0, .ref a22, .int 0, .int 0, .int 0, .int 0])), (a1, .inl (T 0, 940, .inl (upd (upd (upd f0 (Int32.toNatClampNeg (12 : Int32)) ((Int32.toUInt32 x0 >>> (Int32.toUInt32 (24 : Int32) &&& Int32.toUInt32 31)).toInt32 &&& (255 : Int32))) (Int32.toNatClampNeg (13 : Int32)) ((Int32.toUInt32 x0 >>> (Int32.toUInt32 (16 : Int32) &&& Int32.toUInt32 31)).toInt32 &&& (255 : Int32))) (Int32.toNatClampNeg (14 : Int32)) ((Int32.toUInt32 x0 >>> (Int32.toUInt32 (8 : Int32) &&& Int32.toUInt32 31)).toInt32 &&& (255 : Int32)))))]) M w 0 2 clX12 rfl (by decide) G1469 rfl rfl rfl rfl (Nat.le_of_ble_eq_true rfl) rfl dX12_come_30 (fun H locs w => ?_)
  refine lv_iinc (v := (0 : Int32)) (lv' := [(2, .int 0), (0, .ref a0), (1, .int x0)]) hx hb dX12_come_33 hl (k := 0) rfl (by decide +kernel) (by decide) rfl (fun ls hl => ?_)
  refine lv_goto (tgt := 3) hx hb dX12_come_36 (by decide) ?_
  refine lv_iload_n hx hb dX12_come_3 rfl (lv_at hl 0 rfl) ?_
  refine lv_if_lt (tgt := 39) hx hb dX12_come_4 (by decide) (fun c => absurd c (by decide +kernel)) (fun _ => ?_)
  refine lv_aload_n hx hb dX12_come_7 rfl (lv_at hl 1 rfl) ?_
  refine r_get (v := .ref a1) M w 0 1 clX12 rfl (by decide) G1468 rfl rfl dX12_come_8 ?_
  refine lv_aload_n hx hb dX12_come_11 rfl (lv_at hl 1 rfl) ?_
  refine r_get (v := .int 15) M w 0 2 clX12 rfl (by decide) G1469 rfl rfl dX12_come_12 ?_
  refine lv_iload_n hx hb dX12_come_15 rfl (lv_at hl 2 rfl) ?_
  refine lv_iload_n hx hb dX12_come_16 rfl (lv_at hl 0 rfl) ?_
  refine r_iushr (v := (Int32.toUInt32 x0 >>> (Int32.toUInt32 (0 : Int32) &&& Int32.toUInt32 31)).toInt32) M rfl dX12_come_17 ?_
  refine lv_sipush (v := 255) hx hb dX12_come_18 (by decide) ?_
  refine r_iand (v := ((Int32.toUInt32 x0 >>> (Int32.toUInt32 (0 : Int32) &&& Int32.toUInt32 31)).toInt32 &&& (255 : Int32))) M rfl dX12_come_21 ?_
  refine r_iast (ws' := [(a0, .inr (11, [.int 0, .ref a1, .int 15, .int 0, .int 0, .int 0, .int 0, .int 0, .int 0, .int 0, .int 0, .int 0, .long 0, .int 0, .ref a2, .ref a3, .ref a4, .ref a5, .ref a6, .ref a7, .ref a8, .ref a9, .ref a10, .ref a11, .int 0, .ref a12, .ref a13, .ref a14, .ref a15, .int 0, .int 0, .int 0, .ref a16, .int (-1), .int (-1), .ref a17, .ref a18, .int 0, .ref a19, .int 0, .int 0, .ref a20, .ref a21, .int 0, .int 0, .ref a22, .int 0, .int 0, .int 0, .int 0])), (a1, .inl (T 0, 940, .inl (upd (upd (upd (upd f0 (Int32.toNatClampNeg (12 : Int32)) ((Int32.toUInt32 x0 >>> (Int32.toUInt32 (24 : Int32) &&& Int32.toUInt32 31)).toInt32 &&& (255 : Int32))) (Int32.toNatClampNeg (13 : Int32)) ((Int32.toUInt32 x0 >>> (Int32.toUInt32 (16 : Int32) &&& Int32.toUInt32 31)).toInt32 &&& (255 : Int32))) (Int32.toNatClampNeg (14 : Int32)) ((Int32.toUInt32 x0 >>> (Int32.toUInt32 (8 : Int32) &&& Int32.toUInt32 31)).toInt32 &&& (255 : Int32))) (Int32.toNatClampNeg (15 : Int32)) ((Int32.toUInt32 x0 >>> (Int32.toUInt32 (0 : Int32) &&& Int32.toUInt32 31)).toInt32 &&& (255 : Int32)))))]) M w 1 rfl (vin (by decide +kernel)) rfl dX12_come_22 (fun H locs w => ?_)
  refine lv_aload_n hx hb dX12_come_23 rfl (lv_at hl 1 rfl) ?_
  refine lv_dup hx hb dX12_come_24 rfl ?_
  refine r_get (v := .int 15) M w 0 2 clX12 rfl (by decide) G1469 rfl rfl dX12_come_25 ?_
  refine lv_iconst (v := 1) hx hb dX12_come_28 (by decide) ?_
  refine r_iadd (v := (16 : Int32)) M (by decide +kernel) dX12_come_29 ?_
  refine r_put (ws' := [(a0, .inr (11, [.int 0, .ref a1, .int 16, .int 0, .int 0, .int 0, .int 0, .int 0, .int 0, .int 0, .int 0, .int 0, .long 0, .int 0, .ref a2, .ref a3, .ref a4, .ref a5, .ref a6, .ref a7, .ref a8, .ref a9, .ref a10, .ref a11, .int 0, .ref a12, .ref a13, .ref a14, .ref a15, .int 0, .int 0, .int 0, .ref a16, .int (-1), .int (-1), .ref a17, .ref a18, .int 0, .ref a19, .int 0, .int 0, .ref a20, .ref a21, .int 0, .int 0, .ref a22, .int 0, .int 0, .int 0, .int 0])), (a1, .inl (T 0, 940, .inl (upd (upd (upd (upd f0 (Int32.toNatClampNeg (12 : Int32)) ((Int32.toUInt32 x0 >>> (Int32.toUInt32 (24 : Int32) &&& Int32.toUInt32 31)).toInt32 &&& (255 : Int32))) (Int32.toNatClampNeg (13 : Int32)) ((Int32.toUInt32 x0 >>> (Int32.toUInt32 (16 : Int32) &&& Int32.toUInt32 31)).toInt32 &&& (255 : Int32))) (Int32.toNatClampNeg (14 : Int32)) ((Int32.toUInt32 x0 >>> (Int32.toUInt32 (8 : Int32) &&& Int32.toUInt32 31)).toInt32 &&& (255 : Int32))) (Int32.toNatClampNeg (15 : Int32)) ((Int32.toUInt32 x0 >>> (Int32.toUInt32 (0 : Int32) &&& Int32.toUInt32 31)).toInt32 &&& (255 : Int32)))))]) M w 0 2 clX12 rfl (by decide) G1469 rfl rfl rfl rfl (Nat.le_of_ble_eq_true rfl) rfl dX12_come_30 (fun H locs w => ?_)
  refine lv_iinc (v := (-8 : Int32)) (lv' := [(2, .int (-8)), (0, .ref a0), (1, .int x0)]) hx hb dX12_come_33 hl (k := 0) rfl (by decide +kernel) (by decide) rfl (fun ls hl => ?_)
  refine lv_goto (tgt := 3) hx hb dX12_come_36 (by decide) ?_
  refine lv_iload_n hx hb dX12_come_3 rfl (lv_at hl 0 rfl) ?_
  refine lv_if_lt (tgt := 39) hx hb dX12_come_4 (by decide) (fun _ => ?_) (fun c => absurd (by decide +kernel) c)
  exact ret () _ _ _ _ _ [0, 1] dX12_come_39 trivial w (by decide) rfl
set_option maxRecDepth 100000 in
set_option maxHeartbeats 4000000 in
theorem c27_X12_come (l : Launch) (D : va_G) (T : Nat → ClassId) (sz : Nat) (a0 a1 a2 a3 a4 a5 a6 a7 a8 a9 a10 a11 a12 a13 a14 a15 a16 a17 a18 a19 a20 a21 a22 : Nat) (x0 : Int32) (f0 : Nat → Int32) : Met l yX12_come (Cond.code yX12_come cX12_come 3 none :: GW) (Rm 0 0 0) (cPre [.ref a0, .int x0] D T [(a0, .inr (11, [.int 0, .ref a1, .int 16, .int 0, .int 0, .int 0, .int 0, .int 0, .int 0, .int 0, .int 0, .int 0, .long 0, .int 0, .ref a2, .ref a3, .ref a4, .ref a5, .ref a6, .ref a7, .ref a8, .ref a9, .ref a10, .ref a11, .int 0, .ref a12, .ref a13, .ref a14, .ref a15, .int 0, .int 0, .int 0, .ref a16, .int (-1), .int (-1), .ref a17, .ref a18, .int 0, .ref a19, .int 0, .int 0, .ref a20, .ref a21, .int 0, .int 0, .ref a22, .int 0, .int 0, .int 0, .int 0])), (a1, .inl (T 0, 940, .inl f0))] sz) (qV D [(a0, .inr (11, [.int 0, .ref a1, .int 16, .int 0, .int 0, .int 0, .int 0, .int 0, .int 0, .int 0, .int 0, .int 0, .long 0, .int 0, .ref a2, .ref a3, .ref a4, .ref a5, .ref a6, .ref a7, .ref a8, .ref a9, .ref a10, .ref a11, .int 0, .ref a12, .ref a13, .ref a14, .ref a15, .int 0, .int 0, .int 0, .ref a16, .int (-1), .int (-1), .ref a17, .ref a18, .int 0, .ref a19, .int 0, .int 0, .ref a20, .ref a21, .int 0, .int 0, .ref a22, .int 0, .int 0, .int 0, .int 0])), (a1, .inl (T 0, 940, .inl f0))] sz (fun (u : Unit) => True) (fun u => [(a0, .inr (11, [.int 0, .ref a1, .int 20, .int 0, .int 0, .int 0, .int 0, .int 0, .int 0, .int 0, .int 0, .int 0, .long 0, .int 0, .ref a2, .ref a3, .ref a4, .ref a5, .ref a6, .ref a7, .ref a8, .ref a9, .ref a10, .ref a11, .int 0, .ref a12, .ref a13, .ref a14, .ref a15, .int 0, .int 0, .int 0, .ref a16, .int (-1), .int (-1), .ref a17, .ref a18, .int 0, .ref a19, .int 0, .int 0, .ref a20, .ref a21, .int 0, .int 0, .ref a22, .int 0, .int 0, .int 0, .int 0])), (a1, .inl (T 0, 940, .inl (upd (upd (upd (upd f0 (Int32.toNatClampNeg (16 : Int32)) ((Int32.toUInt32 x0 >>> (Int32.toUInt32 (24 : Int32) &&& Int32.toUInt32 31)).toInt32 &&& (255 : Int32))) (Int32.toNatClampNeg (17 : Int32)) ((Int32.toUInt32 x0 >>> (Int32.toUInt32 (16 : Int32) &&& Int32.toUInt32 31)).toInt32 &&& (255 : Int32))) (Int32.toNatClampNeg (18 : Int32)) ((Int32.toUInt32 x0 >>> (Int32.toUInt32 (8 : Int32) &&& Int32.toUInt32 31)).toInt32 &&& (255 : Int32))) (Int32.toNatClampNeg (19 : Int32)) ((Int32.toUInt32 x0 >>> (Int32.toUInt32 (0 : Int32) &&& Int32.toUInt32 31)).toInt32 &&& (255 : Int32)))))])) 0 0 (va_A [(a0, .inr (11, [.int 0, .ref a1, .int 16, .int 0, .int 0, .int 0, .int 0, .int 0, .int 0, .int 0, .int 0, .int 0, .long 0, .int 0, .ref a2, .ref a3, .ref a4, .ref a5, .ref a6, .ref a7, .ref a8, .ref a9, .ref a10, .ref a11, .int 0, .ref a12, .ref a13, .ref a14, .ref a15, .int 0, .int 0, .int 0, .ref a16, .int (-1), .int (-1), .ref a17, .ref a18, .int 0, .ref a19, .int 0, .int 0, .ref a20, .ref a21, .int 0, .int 0, .ref a22, .int 0, .int 0, .int 0, .int 0])), (a1, .inl (T 0, 940, .inl f0))] sz) := by
  refine e_V (by decide) (Nat.le_of_ble_eq_true rfl) ?_
  intro p e s m args below meth c A Q ls M hin w ret hl
  have hx := M.1.1
  have hb := M.1.2.1
  have hl : lv_has ls 3 [(0, .ref a0), (1, .int x0)] := hl
  refine lv_bipush (v := 24) hx hb dX12_come_0 (by decide) ?_
  refine lv_istore_n (lv' := [(2, .int 24), (0, .ref a0), (1, .int x0)]) hx hb dX12_come_2 rfl hl (by decide) rfl (fun ls hl => ?_)
  refine lv_iload_n hx hb dX12_come_3 rfl (lv_at hl 0 rfl) ?_
  refine lv_if_lt (tgt := 39) hx hb dX12_come_4 (by decide) (fun c => absurd c (by decide +kernel)) (fun _ => ?_)
  refine lv_aload_n hx hb dX12_come_7 rfl (lv_at hl 1 rfl) ?_
  refine r_get (v := .ref a1) M w 0 1 clX12 rfl (by decide) G1468 rfl rfl dX12_come_8 ?_
  refine lv_aload_n hx hb dX12_come_11 rfl (lv_at hl 1 rfl) ?_
  refine r_get (v := .int 16) M w 0 2 clX12 rfl (by decide) G1469 rfl rfl dX12_come_12 ?_
  refine lv_iload_n hx hb dX12_come_15 rfl (lv_at hl 2 rfl) ?_
  refine lv_iload_n hx hb dX12_come_16 rfl (lv_at hl 0 rfl) ?_
  refine r_iushr (v := (Int32.toUInt32 x0 >>> (Int32.toUInt32 (24 : Int32) &&& Int32.toUInt32 31)).toInt32) M rfl dX12_come_17 ?_
  refine lv_sipush (v := 255) hx hb dX12_come_18 (by decide) ?_
  refine r_iand (v := ((Int32.toUInt32 x0 >>> (Int32.toUInt32 (24 : Int32) &&& Int32.toUInt32 31)).toInt32 &&& (255 : Int32))) M rfl dX12_come_21 ?_
  refine r_iast (ws' := [(a0, .inr (11, [.int 0, .ref a1, .int 16, .int 0, .int 0, .int 0, .int 0, .int 0, .int 0, .int 0, .int 0, .int 0, .long 0, .int 0, .ref a2, .ref a3, .ref a4, .ref a5, .ref a6, .ref a7, .ref a8, .ref a9, .ref a10, .ref a11, .int 0, .ref a12, .ref a13, .ref a14, .ref a15, .int 0, .int 0, .int 0, .ref a16, .int (-1), .int (-1), .ref a17, .ref a18, .int 0, .ref a19, .int 0, .int 0, .ref a20, .ref a21, .int 0, .int 0, .ref a22, .int 0, .int 0, .int 0, .int 0])), (a1, .inl (T 0, 940, .inl (upd f0 (Int32.toNatClampNeg (16 : Int32)) ((Int32.toUInt32 x0 >>> (Int32.toUInt32 (24 : Int32) &&& Int32.toUInt32 31)).toInt32 &&& (255 : Int32)))))]) M w 1 rfl (vin (by decide +kernel)) rfl dX12_come_22 (fun H locs w => ?_)
  refine lv_aload_n hx hb dX12_come_23 rfl (lv_at hl 1 rfl) ?_
  refine lv_dup hx hb dX12_come_24 rfl ?_
  refine r_get (v := .int 16) M w 0 2 clX12 rfl (by decide) G1469 rfl rfl dX12_come_25 ?_
  refine lv_iconst (v := 1) hx hb dX12_come_28 (by decide) ?_
  refine r_iadd (v := (17 : Int32)) M (by decide +kernel) dX12_come_29 ?_
  refine r_put (ws' := [(a0, .inr (11, [.int 0, .ref a1, .int 17, .int 0, .int 0, .int 0, .int 0, .int 0, .int 0, .int 0, .int 0, .int 0, .long 0, .int 0, .ref a2, .ref a3, .ref a4, .ref a5, .ref a6, .ref a7, .ref a8, .ref a9, .ref a10, .ref a11, .int 0, .ref a12, .ref a13, .ref a14, .ref a15, .int 0, .int 0, .int 0, .ref a16, .int (-1), .int (-1), .ref a17, .ref a18, .int 0, .ref a19, .int 0, .int 0, .ref a20, .ref a21, .int 0, .int 0, .ref a22, .int 0, .int 0, .int 0, .int 0])), (a1, .inl (T 0, 940, .inl (upd f0 (Int32.toNatClampNeg (16 : Int32)) ((Int32.toUInt32 x0 >>> (Int32.toUInt32 (24 : Int32) &&& Int32.toUInt32 31)).toInt32 &&& (255 : Int32)))))]) M w 0 2 clX12 rfl (by decide) G1469 rfl rfl rfl rfl (Nat.le_of_ble_eq_true rfl) rfl dX12_come_30 (fun H locs w => ?_)
  refine lv_iinc (v := (16 : Int32)) (lv' := [(2, .int 16), (0, .ref a0), (1, .int x0)]) hx hb dX12_come_33 hl (k := 0) rfl (by decide +kernel) (by decide) rfl (fun ls hl => ?_)
  refine lv_goto (tgt := 3) hx hb dX12_come_36 (by decide) ?_
  refine lv_iload_n hx hb dX12_come_3 rfl (lv_at hl 0 rfl) ?_
  refine lv_if_lt (tgt := 39) hx hb dX12_come_4 (by decide) (fun c => absurd c (by decide +kernel)) (fun _ => ?_)
  refine lv_aload_n hx hb dX12_come_7 rfl (lv_at hl 1 rfl) ?_
  refine r_get (v := .ref a1) M w 0 1 clX12 rfl (by decide) G1468 rfl rfl dX12_come_8 ?_
  refine lv_aload_n hx hb dX12_come_11 rfl (lv_at hl 1 rfl) ?_
  refine r_get (v := .int 17) M w 0 2 clX12 rfl (by decide) G1469 rfl rfl dX12_come_12 ?_
  refine lv_iload_n hx hb dX12_come_15 rfl (lv_at hl 2 rfl) ?_
  refine lv_iload_n hx hb dX12_come_16 rfl (lv_at hl 0 rfl) ?_
  refine r_iushr (v := (Int32.toUInt32 x0 >>> (Int32.toUInt32 (16 : Int32) &&& Int32.toUInt32 31)).toInt32) M rfl dX12_come_17 ?_
  refine lv_sipush (v := 255) hx hb dX12_come_18 (by decide) ?_
  refine r_iand (v := ((Int32.toUInt32 x0 >>> (Int32.toUInt32 (16 : Int32) &&& Int32.toUInt32 31)).toInt32 &&& (255 : Int32))) M rfl dX12_come_21 ?_
  refine r_iast (ws' := [(a0, .inr (11, [.int 0, .ref a1, .int 17, .int 0, .int 0, .int 0, .int 0, .int 0, .int 0, .int 0, .int 0, .int 0, .long 0, .int 0, .ref a2, .ref a3, .ref a4, .ref a5, .ref a6, .ref a7, .ref a8, .ref a9, .ref a10, .ref a11, .int 0, .ref a12, .ref a13, .ref a14, .ref a15, .int 0, .int 0, .int 0, .ref a16, .int (-1), .int (-1), .ref a17, .ref a18, .int 0, .ref a19, .int 0, .int 0, .ref a20, .ref a21, .int 0, .int 0, .ref a22, .int 0, .int 0, .int 0, .int 0])), (a1, .inl (T 0, 940, .inl (upd (upd f0 (Int32.toNatClampNeg (16 : Int32)) ((Int32.toUInt32 x0 >>> (Int32.toUInt32 (24 : Int32) &&& Int32.toUInt32 31)).toInt32 &&& (255 : Int32))) (Int32.toNatClampNeg (17 : Int32)) ((Int32.toUInt32 x0 >>> (Int32.toUInt32 (16 : Int32) &&& Int32.toUInt32 31)).toInt32 &&& (255 : Int32)))))]) M w 1 rfl (vin (by decide +kernel)) rfl dX12_come_22 (fun H locs w => ?_)
  refine lv_aload_n hx hb dX12_come_23 rfl (lv_at hl 1 rfl) ?_
  refine lv_dup hx hb dX12_come_24 rfl ?_
  refine r_get (v := .int 17) M w 0 2 clX12 rfl (by decide) G1469 rfl rfl dX12_come_25 ?_
  refine lv_iconst (v := 1) hx hb dX12_come_28 (by decide) ?_
  refine r_iadd (v := (18 : Int32)) M (by decide +kernel) dX12_come_29 ?_
  refine r_put (ws' := [(a0, .inr (11, [.int 0, .ref a1, .int 18, .int 0, .int 0, .int 0, .int 0, .int 0, .int 0, .int 0, .int 0, .int 0, .long 0, .int 0, .ref a2, .ref a3, .ref a4, .ref a5, .ref a6, .ref a7, .ref a8, .ref a9, .ref a10, .ref a11, .int 0, .ref a12, .ref a13, .ref a14, .ref a15, .int 0, .int 0, .int 0, .ref a16, .int (-1), .int (-1), .ref a17, .ref a18, .int 0, .ref a19, .int 0, .int 0, .ref a20, .ref a21, .int 0, .int 0, .ref a22, .int 0, .int 0, .int 0, .int 0])), (a1, .inl (T 0, 940, .inl (upd (upd f0 (Int32.toNatClampNeg (16 : Int32)) ((Int32.toUInt32 x0 >>> (Int32.toUInt32 (24 : Int32) &&& Int32.toUInt32 31)).toInt32 &&& (255 : Int32))) (Int32.toNatClampNeg (17 : Int32)) ((Int32.toUInt32 x0 >>> (Int32.toUInt32 (16 : Int32) &&& Int32.toUInt32 31)).toInt32 &&& (255 : Int32)))))]) M w 0 2 clX12 rfl (by decide) G1469 rfl rfl rfl rfl (Nat.le_of_ble_eq_true rfl) rfl dX12_come_30 (fun H locs w => ?_)
  refine lv_iinc (v := (8 : Int32)) (lv' := [(2, .int 8), (0, .ref a0), (1, .int x0)]) hx hb dX12_come_33 hl (k := 0) rfl (by decide +kernel) (by decide) rfl (fun ls hl => ?_)
  refine lv_goto (tgt := 3) hx hb dX12_come_36 (by decide) ?_
  refine lv_iload_n hx hb dX12_come_3 rfl (lv_at hl 0 rfl) ?_
  refine lv_if_lt (tgt := 39) hx hb dX12_come_4 (by decide) (fun c => absurd c (by decide +kernel)) (fun _ => ?_)
  refine lv_aload_n hx hb dX12_come_7 rfl (lv_at hl 1 rfl) ?_
  refine r_get (v := .ref a1) M w 0 1 clX12 rfl (by decide) G1468 rfl rfl dX12_come_8 ?_
  refine lv_aload_n hx hb dX12_come_11 rfl (lv_at hl 1 rfl) ?_
  refine r_get (v := .int 18) M w 0 2 clX12 rfl (by decide) G1469 rfl rfl dX12_come_12 ?_
  refine lv_iload_n hx hb dX12_come_15 rfl (lv_at hl 2 rfl) ?_
  refine lv_iload_n hx hb dX12_come_16 rfl (lv_at hl 0 rfl) ?_
  refine r_iushr (v := (Int32.toUInt32 x0 >>> (Int32.toUInt32 (8 : Int32) &&& Int32.toUInt32 31)).toInt32) M rfl dX12_come_17 ?_
  refine lv_sipush (v := 255) hx hb dX12_come_18 (by decide) ?_
  refine r_iand (v := ((Int32.toUInt32 x0 >>> (Int32.toUInt32 (8 : Int32) &&& Int32.toUInt32 31)).toInt32 &&& (255 : Int32))) M rfl dX12_come_21 ?_
  refine r_iast (ws' := [(a0, .inr (11, [.int 0, .ref a1, .int 18, .int 0, .int 0, .int 0, .int 0, .int 0, .int 0, .int 0, .int 0, .int 0, .long 0, .int 0, .ref a2, .ref a3, .ref a4, .ref a5, .ref a6, .ref a7, .ref a8, .ref a9, .ref a10, .ref a11, .int 0, .ref a12, .ref a13, .ref a14, .ref a15, .int 0, .int 0, .int 0, .ref a16, .int (-1), .int (-1), .ref a17, .ref a18, .int 0, .ref a19, .int 0, .int 0, .ref a20, .ref a21, .int 0, .int 0, .ref a22, .int 0, .int 0, .int 0, .int 0])), (a1, .inl (T 0, 940, .inl (upd (upd (upd f0 (Int32.toNatClampNeg (16 : Int32)) ((Int32.toUInt32 x0 >>> (Int32.toUInt32 (24 : Int32) &&& Int32.toUInt32 31)).toInt32 &&& (255 : Int32))) (Int32.toNatClampNeg (17 : Int32)) ((Int32.toUInt32 x0 >>> (Int32.toUInt32 (16 : Int32) &&& Int32.toUInt32 31)).toInt32 &&& (255 : Int32))) (Int32.toNatClampNeg (18 : Int32)) ((Int32.toUInt32 x0 >>> (Int32.toUInt32 (8 : Int32) &&& Int32.toUInt32 31)).toInt32 &&& (255 : Int32)))))]) M w 1 rfl (vin (by decide +kernel)) rfl dX12_come_22 (fun H locs w => ?_)
  refine lv_aload_n hx hb dX12_come_23 rfl (lv_at hl 1 rfl) ?_
  refine lv_dup hx hb dX12_come_24 rfl ?_
  refine r_get (v := .int 18) M w 0 2 clX12 rfl (by decide) G1469 rfl rfl dX12_come_25 ?_
  refine lv_iconst (v := 1) hx hb dX12_come_28 (by decide) ?_
  refine r_iadd (v := (19 : Int32)) M (by decide +kernel) dX12_come_29 ?_
  refine r_put (ws' := [(a0, .inr (11, [.int 0, .ref a1, .int 19, .int 0, .int 0, .int 0, .int 0, .int 0, .int 0, .int 0, .int 0, .int 0, .long 0, .int 0, .ref a2, .ref a3, .ref a4, .ref a5, .ref a6, .ref a7, .ref a8, .ref a9, .ref a10, .ref a11, .int 0, .ref a12, .ref a13, .ref a14, .ref a15, .int 0, .int 0, .int 0, .ref a16, .int (-1), .int (-1), .ref a17, .ref a18, .int 0, .ref a19, .int 0, .int 0, .ref a20, .ref a21, .int 0, .int 0, .ref a22, .int 0, .int 0, .int 0, .int 0])), (a1, .inl (T 0, 940, .inl (upd (upd (upd f0 (Int32.toNatClampNeg (16 : Int32)) ((Int32.toUInt32 x0 >>> (Int32.toUInt32 (24 : Int32) &&& Int32.toUInt32 31)).toInt32 &&& (255 : Int32))) (Int32.toNatClampNeg (17 : Int32)) ((Int32.toUInt32 x0 >>> (Int32.toUInt32 (16 : Int32) &&& Int32.toUInt32 31)).toInt32 &&& (255 : Int32))) (Int32.toNatClampNeg (18 : Int32)) ((Int32.toUInt32 x0 >>> (Int32.toUInt32 (8 : Int32) &&& Int32.toUInt32 31)).toInt32 &&& (255 : Int32)))))]) M w 0 2 clX12 rfl (by decide) G1469 rfl rfl rfl rfl (Nat.le_of_ble_eq_true rfl) rfl dX12_come_30 (fun H locs w => ?_)
  refine lv_iinc (v := (0 : Int32)) (lv' := [(2, .int 0), (0, .ref a0), (1, .int x0)]) hx hb dX12_come_33 hl (k := 0) rfl (by decide +kernel) (by decide) rfl (fun ls hl => ?_)
  refine lv_goto (tgt := 3) hx hb dX12_come_36 (by decide) ?_
  refine lv_iload_n hx hb dX12_come_3 rfl (lv_at hl 0 rfl) ?_
  refine lv_if_lt (tgt := 39) hx hb dX12_come_4 (by decide) (fun c => absurd c (by decide +kernel)) (fun _ => ?_)
  refine lv_aload_n hx hb dX12_come_7 rfl (lv_at hl 1 rfl) ?_
  refine r_get (v := .ref a1) M w 0 1 clX12 rfl (by decide) G1468 rfl rfl dX12_come_8 ?_
  refine lv_aload_n hx hb dX12_come_11 rfl (lv_at hl 1 rfl) ?_
  refine r_get (v := .int 19) M w 0 2 clX12 rfl (by decide) G1469 rfl rfl dX12_come_12 ?_
  refine lv_iload_n hx hb dX12_come_15 rfl (lv_at hl 2 rfl) ?_
  refine lv_iload_n hx hb dX12_come_16 rfl (lv_at hl 0 rfl) ?_
  refine r_iushr (v := (Int32.toUInt32 x0 >>> (Int32.toUInt32 (0 : Int32) &&& Int32.toUInt32 31)).toInt32) M rfl dX12_come_17 ?_
  refine lv_sipush (v := 255) hx hb dX12_come_18 (by decide) ?_
  refine r_iand (v := ((Int32.toUInt32 x0 >>> (Int32.toUInt32 (0 : Int32) &&& Int32.toUInt32 31)).toInt32 &&& (255 : Int32))) M rfl dX12_come_21 ?_
  refine r_iast (ws' := [(a0, .inr (11, [.int 0, .ref a1, .int 19, .int 0, .int 0, .int 0, .int 0, .int 0, .int 0, .int 0, .int 0, .int 0, .long 0, .int 0, .ref a2, .ref a3, .ref a4, .ref a5, .ref a6, .ref a7, .ref a8, .ref a9, .ref a10, .ref a11, .int 0, .ref a12, .ref a13, .ref a14, .ref a15, .int 0, .int 0, .int 0, .ref a16, .int (-1), .int (-1), .ref a17, .ref a18, .int 0, .ref a19, .int 0, .int 0, .ref a20, .ref a21, .int 0, .int 0, .ref a22, .int 0, .int 0, .int 0, .int 0])), (a1, .inl (T 0, 940, .inl (upd (upd (upd (upd f0 (Int32.toNatClampNeg (16 : Int32)) ((Int32.toUInt32 x0 >>> (Int32.toUInt32 (24 : Int32) &&& Int32.toUInt32 31)).toInt32 &&& (255 : Int32))) (Int32.toNatClampNeg (17 : Int32)) ((Int32.toUInt32 x0 >>> (Int32.toUInt32 (16 : Int32) &&& Int32.toUInt32 31)).toInt32 &&& (255 : Int32))) (Int32.toNatClampNeg (18 : Int32)) ((Int32.toUInt32 x0 >>> (Int32.toUInt32 (8 : Int32) &&& Int32.toUInt32 31)).toInt32 &&& (255 : Int32))) (Int32.toNatClampNeg (19 : Int32)) ((Int32.toUInt32 x0 >>> (Int32.toUInt32 (0 : Int32) &&& Int32.toUInt32 31)).toInt32 &&& (255 : Int32)))))]) M w 1 rfl (vin (by decide +kernel)) rfl dX12_come_22 (fun H locs w => ?_)
  refine lv_aload_n hx hb dX12_come_23 rfl (lv_at hl 1 rfl) ?_
  refine lv_dup hx hb dX12_come_24 rfl ?_
  refine r_get (v := .int 19) M w 0 2 clX12 rfl (by decide) G1469 rfl rfl dX12_come_25 ?_
  refine lv_iconst (v := 1) hx hb dX12_come_28 (by decide) ?_
  refine r_iadd (v := (20 : Int32)) M (by decide +kernel) dX12_come_29 ?_
  refine r_put (ws' := [(a0, .inr (11, [.int 0, .ref a1, .int 20, .int 0, .int 0, .int 0, .int 0, .int 0, .int 0, .int 0, .int 0, .int 0, .long 0, .int 0, .ref a2, .ref a3, .ref a4, .ref a5, .ref a6, .ref a7, .ref a8, .ref a9, .ref a10, .ref a11, .int 0, .ref a12, .ref a13, .ref a14, .ref a15, .int 0, .int 0, .int 0, .ref a16, .int (-1), .int (-1), .ref a17, .ref a18, .int 0, .ref a19, .int 0, .int 0, .ref a20, .ref a21, .int 0, .int 0, .ref a22, .int 0, .int 0, .int 0, .int 0])), (a1, .inl (T 0, 940, .inl (upd (upd (upd (upd f0 (Int32.toNatClampNeg (16 : Int32)) ((Int32.toUInt32 x0 >>> (Int32.toUInt32 (24 : Int32) &&& Int32.toUInt32 31)).toInt32 &&& (255 : Int32))) (Int32.toNatClampNeg (17 : Int32)) ((Int32.toUInt32 x0 >>> (Int32.toUInt32 (16 : Int32) &&& Int32.toUInt32 31)).toInt32 &&& (255 : Int32))) (Int32.toNatClampNeg (18 : Int32)) ((Int32.toUInt32 x0 >>> (Int32.toUInt32 (8 : Int32) &&& Int32.toUInt32 31)).toInt32 &&& (255 : Int32))) (Int32.toNatClampNeg (19 : Int32)) ((Int32.toUInt32 x0 >>> (Int32.toUInt32 (0 : Int32) &&& Int32.toUInt32 31)).toInt32 &&& (255 : Int32)))))]) M w 0 2 clX12 rfl (by decide) G1469 rfl rfl rfl rfl (Nat.le_of_ble_eq_true rfl) rfl dX12_come_30 (fun H locs w => ?_)
  refine lv_iinc (v := (-8 : Int32)) (lv' := [(2, .int (-8)), (0, .ref a0), (1, .int x0)]) hx hb dX12_come_33 hl (k := 0) rfl (by decide +kernel) (by decide) rfl (fun ls hl => ?_)
  refine lv_goto (tgt := 3) hx hb dX12_come_36 (by decide) ?_
  refine lv_iload_n hx hb dX12_come_3 rfl (lv_at hl 0 rfl) ?_
  refine lv_if_lt (tgt := 39) hx hb dX12_come_4 (by decide) (fun _ => ?_) (fun c => absurd (by decide +kernel) c)
  exact ret () _ _ _ _ _ [0, 1] dX12_come_39 trivial w (by decide) rfl
set_option maxRecDepth 100000 in
set_option maxHeartbeats 4000000 in
theorem c28_X12_feed (l : Launch) (D : va_G) (T : Nat → ClassId) (sz : Nat) (a0 a1 a2 a3 a4 a5 a6 a7 a8 a9 a10 a11 a12 a13 a14 a15 a16 a17 a18 a19 a20 a21 a22 : Nat) (x0 : Int32) (x1 : Int32) (x2 : Int32) (x3 : Int32) (x4 : Int32) : Met l yX12_feed (Cond.code yX12_feed cX12_feed 6 (some .int) :: GW) (Rm 1 0 0) (cPre [.ref a0, .int x0, .int x1, .int x2, .int x3, .int x4] D T [(a0, .inr (11, [.int 0, .ref a1, .int 0, .int 0, .int 0, .int 0, .int 0, .int 0, .int 0, .int 0, .int 0, .int 0, .long 0, .int 0, .ref a2, .ref a3, .ref a4, .ref a5, .ref a6, .ref a7, .ref a8, .ref a9, .ref a10, .ref a11, .int 0, .ref a12, .ref a13, .ref a14, .ref a15, .int 0, .int 0, .int 0, .ref a16, .int (-1), .int (-1), .ref a17, .ref a18, .int 0, .ref a19, .int 0, .int 0, .ref a20, .ref a21, .int 0, .int 0, .ref a22, .int 0, .int 0, .int 0, .int 0])), (a1, .inl (T 0, 940, .inl (fun _ => 0)))] sz) (qI D [(a0, .inr (11, [.int 0, .ref a1, .int 0, .int 0, .int 0, .int 0, .int 0, .int 0, .int 0, .int 0, .int 0, .int 0, .long 0, .int 0, .ref a2, .ref a3, .ref a4, .ref a5, .ref a6, .ref a7, .ref a8, .ref a9, .ref a10, .ref a11, .int 0, .ref a12, .ref a13, .ref a14, .ref a15, .int 0, .int 0, .int 0, .ref a16, .int (-1), .int (-1), .ref a17, .ref a18, .int 0, .ref a19, .int 0, .int 0, .ref a20, .ref a21, .int 0, .int 0, .ref a22, .int 0, .int 0, .int 0, .int 0])), (a1, .inl (T 0, 940, .inl (fun _ => 0)))] sz (fun (v : Int32) (u : Unit) => (20 : Int32) = v) (fun u => [])) 0 0 (va_A [(a0, .inr (11, [.int 0, .ref a1, .int 0, .int 0, .int 0, .int 0, .int 0, .int 0, .int 0, .int 0, .int 0, .int 0, .long 0, .int 0, .ref a2, .ref a3, .ref a4, .ref a5, .ref a6, .ref a7, .ref a8, .ref a9, .ref a10, .ref a11, .int 0, .ref a12, .ref a13, .ref a14, .ref a15, .int 0, .int 0, .int 0, .ref a16, .int (-1), .int (-1), .ref a17, .ref a18, .int 0, .ref a19, .int 0, .int 0, .ref a20, .ref a21, .int 0, .int 0, .ref a22, .int 0, .int 0, .int 0, .int 0])), (a1, .inl (T 0, 940, .inl (fun _ => 0)))] sz) := by
  refine e_I (by decide) (Nat.le_of_ble_eq_true rfl) ?_
  intro p e s m args below meth c A Q ls M hin w ret hl
  have hx := M.1.1
  have hb := M.1.2.1
  have hl : lv_has ls 6 [(0, .ref a0), (1, .int x0), (2, .int x1), (3, .int x2), (4, .int x3), (5, .int x4)] := hl
  refine lv_aload_n hx hb dX12_feed_0 rfl (lv_at hl 0 rfl) ?_
  refine lv_iconst (v := 0) hx hb dX12_feed_1 (by decide) ?_
  refine r_put (ws' := [(a0, .inr (11, [.int 0, .ref a1, .int 0, .int 0, .int 0, .int 0, .int 0, .int 0, .int 0, .int 0, .int 0, .int 0, .long 0, .int 0, .ref a2, .ref a3, .ref a4, .ref a5, .ref a6, .ref a7, .ref a8, .ref a9, .ref a10, .ref a11, .int 0, .ref a12, .ref a13, .ref a14, .ref a15, .int 0, .int 0, .int 0, .ref a16, .int (-1), .int (-1), .ref a17, .ref a18, .int 0, .ref a19, .int 0, .int 0, .ref a20, .ref a21, .int 0, .int 0, .ref a22, .int 0, .int 0, .int 0, .int 0])), (a1, .inl (T 0, 940, .inl (fun _ => 0)))]) M w 0 0 clX12 rfl (by decide) G1467 rfl rfl rfl rfl (Nat.le_of_ble_eq_true rfl) rfl dX12_feed_2 (fun H locs w => ?_)
  refine lv_aload_n hx hb dX12_feed_5 rfl (lv_at hl 0 rfl) ?_
  refine r_get (v := .int 0) M w 0 2 clX12 rfl (by decide) G1469 rfl rfl dX12_feed_6 ?_
  refine lv_bipush (v := 20) hx hb dX12_feed_9 (by decide) ?_
  refine r_iadd (v := (20 : Int32)) M (by decide +kernel) dX12_feed_11 ?_
  refine lv_sipush (v := 940) hx hb dX12_feed_12 (by decide) ?_
  refine lv_icmp_le (tgt := 20) hx hb dX12_feed_15 (by decide) (fun _ => ?_) (fun c => absurd (by decide +kernel) c)
  refine lv_aload_n hx hb dX12_feed_20 rfl (lv_at hl 0 rfl) ?_
  refine lv_iload_n hx hb dX12_feed_21 rfl (lv_at hl 1 rfl) ?_
  refine k_V (ce := 0) (sl := 0) (rest := []) (wr := []) (r_V (f := 0) [0, 1] M w V_HookedCityModel_14 G1447 G44 (c23_X12_come l D T _ a0 a1 a2 a3 a4 a5 a6 a7 a8 a9 a10 a11 a12 a13 a14 a15 a16 a17 a18 a19 a20 a21 a22 x0) 0 clX12 rfl rfl (by decide) rfl hl.1 rfl (Nat.le_of_ble_eq_true rfl) dX12_feed_22 (by decide) (by decide) (by decide) (by decide)) w [0, 1] [] rfl rfl (by decide) (by decide) rfl rfl (fun _ H locs hp w => ?_)
  have w : WD D A s.heap [(a0, .inr (11, [.int 0, .ref a1, .int 4, .int 0, .int 0, .int 0, .int 0, .int 0, .int 0, .int 0, .int 0, .int 0, .long 0, .int 0, .ref a2, .ref a3, .ref a4, .ref a5, .ref a6, .ref a7, .ref a8, .ref a9, .ref a10, .ref a11, .int 0, .ref a12, .ref a13, .ref a14, .ref a15, .int 0, .int 0, .int 0, .ref a16, .int (-1), .int (-1), .ref a17, .ref a18, .int 0, .ref a19, .int 0, .int 0, .ref a20, .ref a21, .int 0, .int 0, .ref a22, .int 0, .int 0, .int 0, .int 0])), (a1, .inl (T 0, 940, .inl (upd (upd (upd (upd (fun _ => 0) (Int32.toNatClampNeg (0 : Int32)) ((Int32.toUInt32 x0 >>> (Int32.toUInt32 (24 : Int32) &&& Int32.toUInt32 31)).toInt32 &&& (255 : Int32))) (Int32.toNatClampNeg (1 : Int32)) ((Int32.toUInt32 x0 >>> (Int32.toUInt32 (16 : Int32) &&& Int32.toUInt32 31)).toInt32 &&& (255 : Int32))) (Int32.toNatClampNeg (2 : Int32)) ((Int32.toUInt32 x0 >>> (Int32.toUInt32 (8 : Int32) &&& Int32.toUInt32 31)).toInt32 &&& (255 : Int32))) (Int32.toNatClampNeg (3 : Int32)) ((Int32.toUInt32 x0 >>> (Int32.toUInt32 (0 : Int32) &&& Int32.toUInt32 31)).toInt32 &&& (255 : Int32)))))] H locs := w
  refine lv_aload_n hx hb dX12_feed_25 rfl (lv_at hl 0 rfl) ?_
  refine lv_iload_n hx hb dX12_feed_26 rfl (lv_at hl 2 rfl) ?_
  refine k_V (ce := 0) (sl := 0) (rest := []) (wr := []) (r_V (f := 0) [0, 1] M w V_HookedCityModel_14 G1447 G44 (c24_X12_come l D T _ a0 a1 a2 a3 a4 a5 a6 a7 a8 a9 a10 a11 a12 a13 a14 a15 a16 a17 a18 a19 a20 a21 a22 x1 (upd (upd (upd (upd (fun _ => 0) (Int32.toNatClampNeg (0 : Int32)) ((Int32.toUInt32 x0 >>> (Int32.toUInt32 (24 : Int32) &&& Int32.toUInt32 31)).toInt32 &&& (255 : Int32))) (Int32.toNatClampNeg (1 : Int32)) ((Int32.toUInt32 x0 >>> (Int32.toUInt32 (16 : Int32) &&& Int32.toUInt32 31)).toInt32 &&& (255 : Int32))) (Int32.toNatClampNeg (2 : Int32)) ((Int32.toUInt32 x0 >>> (Int32.toUInt32 (8 : Int32) &&& Int32.toUInt32 31)).toInt32 &&& (255 : Int32))) (Int32.toNatClampNeg (3 : Int32)) ((Int32.toUInt32 x0 >>> (Int32.toUInt32 (0 : Int32) &&& Int32.toUInt32 31)).toInt32 &&& (255 : Int32)))) 0 clX12 rfl rfl (by decide) rfl hl.1 rfl (Nat.le_of_ble_eq_true rfl) dX12_feed_27 (by decide) (by decide) (by decide) (by decide)) w [0, 1] [] rfl rfl (by decide) (by decide) rfl rfl (fun _ H locs hp w => ?_)
  have w : WD D A s.heap [(a0, .inr (11, [.int 0, .ref a1, .int 8, .int 0, .int 0, .int 0, .int 0, .int 0, .int 0, .int 0, .int 0, .int 0, .long 0, .int 0, .ref a2, .ref a3, .ref a4, .ref a5, .ref a6, .ref a7, .ref a8, .ref a9, .ref a10, .ref a11, .int 0, .ref a12, .ref a13, .ref a14, .ref a15, .int 0, .int 0, .int 0, .ref a16, .int (-1), .int (-1), .ref a17, .ref a18, .int 0, .ref a19, .int 0, .int 0, .ref a20, .ref a21, .int 0, .int 0, .ref a22, .int 0, .int 0, .int 0, .int 0])), (a1, .inl (T 0, 940, .inl (upd (upd (upd (upd (upd (upd (upd (upd (fun _ => 0) (Int32.toNatClampNeg (0 : Int32)) ((Int32.toUInt32 x0 >>> (Int32.toUInt32 (24 : Int32) &&& Int32.toUInt32 31)).toInt32 &&& (255 : Int32))) (Int32.toNatClampNeg (1 : Int32)) ((Int32.toUInt32 x0 >>> (Int32.toUInt32 (16 : Int32) &&& Int32.toUInt32 31)).toInt32 &&& (255 : Int32))) (Int32.toNatClampNeg (2 : Int32)) ((Int32.toUInt32 x0 >>> (Int32.toUInt32 (8 : Int32) &&& Int32.toUInt32 31)).toInt32 &&& (255 : Int32))) (Int32.toNatClampNeg (3 : Int32)) ((Int32.toUInt32 x0 >>> (Int32.toUInt32 (0 : Int32) &&& Int32.toUInt32 31)).toInt32 &&& (255 : Int32))) (Int32.toNatClampNeg (4 : Int32)) ((Int32.toUInt32 x1 >>> (Int32.toUInt32 (24 : Int32) &&& Int32.toUInt32 31)).toInt32 &&& (255 : Int32))) (Int32.toNatClampNeg (5 : Int32)) ((Int32.toUInt32 x1 >>> (Int32.toUInt32 (16 : Int32) &&& Int32.toUInt32 31)).toInt32 &&& (255 : Int32))) (Int32.toNatClampNeg (6 : Int32)) ((Int32.toUInt32 x1 >>> (Int32.toUInt32 (8 : Int32) &&& Int32.toUInt32 31)).toInt32 &&& (255 : Int32))) (Int32.toNatClampNeg (7 : Int32)) ((Int32.toUInt32 x1 >>> (Int32.toUInt32 (0 : Int32) &&& Int32.toUInt32 31)).toInt32 &&& (255 : Int32)))))] H locs := w
  refine lv_aload_n hx hb dX12_feed_30 rfl (lv_at hl 0 rfl) ?_
  refine lv_iload_n hx hb dX12_feed_31 rfl (lv_at hl 3 rfl) ?_
  refine k_V (ce := 0) (sl := 0) (rest := []) (wr := []) (r_V (f := 0) [0, 1] M w V_HookedCityModel_14 G1447 G44 (c25_X12_come l D T _ a0 a1 a2 a3 a4 a5 a6 a7 a8 a9 a10 a11 a12 a13 a14 a15 a16 a17 a18 a19 a20 a21 a22 x2 (upd (upd (upd (upd (upd (upd (upd (upd (fun _ => 0) (Int32.toNatClampNeg (0 : Int32)) ((Int32.toUInt32 x0 >>> (Int32.toUInt32 (24 : Int32) &&& Int32.toUInt32 31)).toInt32 &&& (255 : Int32))) (Int32.toNatClampNeg (1 : Int32)) ((Int32.toUInt32 x0 >>> (Int32.toUInt32 (16 : Int32) &&& Int32.toUInt32 31)).toInt32 &&& (255 : Int32))) (Int32.toNatClampNeg (2 : Int32)) ((Int32.toUInt32 x0 >>> (Int32.toUInt32 (8 : Int32) &&& Int32.toUInt32 31)).toInt32 &&& (255 : Int32))) (Int32.toNatClampNeg (3 : Int32)) ((Int32.toUInt32 x0 >>> (Int32.toUInt32 (0 : Int32) &&& Int32.toUInt32 31)).toInt32 &&& (255 : Int32))) (Int32.toNatClampNeg (4 : Int32)) ((Int32.toUInt32 x1 >>> (Int32.toUInt32 (24 : Int32) &&& Int32.toUInt32 31)).toInt32 &&& (255 : Int32))) (Int32.toNatClampNeg (5 : Int32)) ((Int32.toUInt32 x1 >>> (Int32.toUInt32 (16 : Int32) &&& Int32.toUInt32 31)).toInt32 &&& (255 : Int32))) (Int32.toNatClampNeg (6 : Int32)) ((Int32.toUInt32 x1 >>> (Int32.toUInt32 (8 : Int32) &&& Int32.toUInt32 31)).toInt32 &&& (255 : Int32))) (Int32.toNatClampNeg (7 : Int32)) ((Int32.toUInt32 x1 >>> (Int32.toUInt32 (0 : Int32) &&& Int32.toUInt32 31)).toInt32 &&& (255 : Int32)))) 0 clX12 rfl rfl (by decide) rfl hl.1 rfl (Nat.le_of_ble_eq_true rfl) dX12_feed_32 (by decide) (by decide) (by decide) (by decide)) w [0, 1] [] rfl rfl (by decide) (by decide) rfl rfl (fun _ H locs hp w => ?_)
  have w : WD D A s.heap [(a0, .inr (11, [.int 0, .ref a1, .int 12, .int 0, .int 0, .int 0, .int 0, .int 0, .int 0, .int 0, .int 0, .int 0, .long 0, .int 0, .ref a2, .ref a3, .ref a4, .ref a5, .ref a6, .ref a7, .ref a8, .ref a9, .ref a10, .ref a11, .int 0, .ref a12, .ref a13, .ref a14, .ref a15, .int 0, .int 0, .int 0, .ref a16, .int (-1), .int (-1), .ref a17, .ref a18, .int 0, .ref a19, .int 0, .int 0, .ref a20, .ref a21, .int 0, .int 0, .ref a22, .int 0, .int 0, .int 0, .int 0])), (a1, .inl (T 0, 940, .inl (upd (upd (upd (upd (upd (upd (upd (upd (upd (upd (upd (upd (fun _ => 0) (Int32.toNatClampNeg (0 : Int32)) ((Int32.toUInt32 x0 >>> (Int32.toUInt32 (24 : Int32) &&& Int32.toUInt32 31)).toInt32 &&& (255 : Int32))) (Int32.toNatClampNeg (1 : Int32)) ((Int32.toUInt32 x0 >>> (Int32.toUInt32 (16 : Int32) &&& Int32.toUInt32 31)).toInt32 &&& (255 : Int32))) (Int32.toNatClampNeg (2 : Int32)) ((Int32.toUInt32 x0 >>> (Int32.toUInt32 (8 : Int32) &&& Int32.toUInt32 31)).toInt32 &&& (255 : Int32))) (Int32.toNatClampNeg (3 : Int32)) ((Int32.toUInt32 x0 >>> (Int32.toUInt32 (0 : Int32) &&& Int32.toUInt32 31)).toInt32 &&& (255 : Int32))) (Int32.toNatClampNeg (4 : Int32)) ((Int32.toUInt32 x1 >>> (Int32.toUInt32 (24 : Int32) &&& Int32.toUInt32 31)).toInt32 &&& (255 : Int32))) (Int32.toNatClampNeg (5 : Int32)) ((Int32.toUInt32 x1 >>> (Int32.toUInt32 (16 : Int32) &&& Int32.toUInt32 31)).toInt32 &&& (255 : Int32))) (Int32.toNatClampNeg (6 : Int32)) ((Int32.toUInt32 x1 >>> (Int32.toUInt32 (8 : Int32) &&& Int32.toUInt32 31)).toInt32 &&& (255 : Int32))) (Int32.toNatClampNeg (7 : Int32)) ((Int32.toUInt32 x1 >>> (Int32.toUInt32 (0 : Int32) &&& Int32.toUInt32 31)).toInt32 &&& (255 : Int32))) (Int32.toNatClampNeg (8 : Int32)) ((Int32.toUInt32 x2 >>> (Int32.toUInt32 (24 : Int32) &&& Int32.toUInt32 31)).toInt32 &&& (255 : Int32))) (Int32.toNatClampNeg (9 : Int32)) ((Int32.toUInt32 x2 >>> (Int32.toUInt32 (16 : Int32) &&& Int32.toUInt32 31)).toInt32 &&& (255 : Int32))) (Int32.toNatClampNeg (10 : Int32)) ((Int32.toUInt32 x2 >>> (Int32.toUInt32 (8 : Int32) &&& Int32.toUInt32 31)).toInt32 &&& (255 : Int32))) (Int32.toNatClampNeg (11 : Int32)) ((Int32.toUInt32 x2 >>> (Int32.toUInt32 (0 : Int32) &&& Int32.toUInt32 31)).toInt32 &&& (255 : Int32)))))] H locs := w
  refine lv_aload_n hx hb dX12_feed_35 rfl (lv_at hl 0 rfl) ?_
  refine lv_iload hx hb dX12_feed_36 (lv_at hl 4 rfl) ?_
  refine k_V (ce := 0) (sl := 0) (rest := []) (wr := []) (r_V (f := 0) [0, 1] M w V_HookedCityModel_14 G1447 G44 (c26_X12_come l D T _ a0 a1 a2 a3 a4 a5 a6 a7 a8 a9 a10 a11 a12 a13 a14 a15 a16 a17 a18 a19 a20 a21 a22 x3 (upd (upd (upd (upd (upd (upd (upd (upd (upd (upd (upd (upd (fun _ => 0) (Int32.toNatClampNeg (0 : Int32)) ((Int32.toUInt32 x0 >>> (Int32.toUInt32 (24 : Int32) &&& Int32.toUInt32 31)).toInt32 &&& (255 : Int32))) (Int32.toNatClampNeg (1 : Int32)) ((Int32.toUInt32 x0 >>> (Int32.toUInt32 (16 : Int32) &&& Int32.toUInt32 31)).toInt32 &&& (255 : Int32))) (Int32.toNatClampNeg (2 : Int32)) ((Int32.toUInt32 x0 >>> (Int32.toUInt32 (8 : Int32) &&& Int32.toUInt32 31)).toInt32 &&& (255 : Int32))) (Int32.toNatClampNeg (3 : Int32)) ((Int32.toUInt32 x0 >>> (Int32.toUInt32 (0 : Int32) &&& Int32.toUInt32 31)).toInt32 &&& (255 : Int32))) (Int32.toNatClampNeg (4 : Int32)) ((Int32.toUInt32 x1 >>> (Int32.toUInt32 (24 : Int32) &&& Int32.toUInt32 31)).toInt32 &&& (255 : Int32))) (Int32.toNatClampNeg (5 : Int32)) ((Int32.toUInt32 x1 >>> (Int32.toUInt32 (16 : Int32) &&& Int32.toUInt32 31)).toInt32 &&& (255 : Int32))) (Int32.toNatClampNeg (6 : Int32)) ((Int32.toUInt32 x1 >>> (Int32.toUInt32 (8 : Int32) &&& Int32.toUInt32 31)).toInt32 &&& (255 : Int32))) (Int32.toNatClampNeg (7 : Int32)) ((Int32.toUInt32 x1 >>> (Int32.toUInt32 (0 : Int32) &&& Int32.toUInt32 31)).toInt32 &&& (255 : Int32))) (Int32.toNatClampNeg (8 : Int32)) ((Int32.toUInt32 x2 >>> (Int32.toUInt32 (24 : Int32) &&& Int32.toUInt32 31)).toInt32 &&& (255 : Int32))) (Int32.toNatClampNeg (9 : Int32)) ((Int32.toUInt32 x2 >>> (Int32.toUInt32 (16 : Int32) &&& Int32.toUInt32 31)).toInt32 &&& (255 : Int32))) (Int32.toNatClampNeg (10 : Int32)) ((Int32.toUInt32 x2 >>> (Int32.toUInt32 (8 : Int32) &&& Int32.toUInt32 31)).toInt32 &&& (255 : Int32))) (Int32.toNatClampNeg (11 : Int32)) ((Int32.toUInt32 x2 >>> (Int32.toUInt32 (0 : Int32) &&& Int32.toUInt32 31)).toInt32 &&& (255 : Int32)))) 0 clX12 rfl rfl (by decide) rfl hl.1 rfl (Nat.le_of_ble_eq_true rfl) dX12_feed_38 (by decide) (by decide) (by decide) (by decide)) w [0, 1] [] rfl rfl (by decide) (by decide) rfl rfl (fun _ H locs hp w => ?_)
  have w : WD D A s.heap [(a0, .inr (11, [.int 0, .ref a1, .int 16, .int 0, .int 0, .int 0, .int 0, .int 0, .int 0, .int 0, .int 0, .int 0, .long 0, .int 0, .ref a2, .ref a3, .ref a4, .ref a5, .ref a6, .ref a7, .ref a8, .ref a9, .ref a10, .ref a11, .int 0, .ref a12, .ref a13, .ref a14, .ref a15, .int 0, .int 0, .int 0, .ref a16, .int (-1), .int (-1), .ref a17, .ref a18, .int 0, .ref a19, .int 0, .int 0, .ref a20, .ref a21, .int 0, .int 0, .ref a22, .int 0, .int 0, .int 0, .int 0])), (a1, .inl (T 0, 940, .inl (upd (upd (upd (upd (upd (upd (upd (upd (upd (upd (upd (upd (upd (upd (upd (upd (fun _ => 0) (Int32.toNatClampNeg (0 : Int32)) ((Int32.toUInt32 x0 >>> (Int32.toUInt32 (24 : Int32) &&& Int32.toUInt32 31)).toInt32 &&& (255 : Int32))) (Int32.toNatClampNeg (1 : Int32)) ((Int32.toUInt32 x0 >>> (Int32.toUInt32 (16 : Int32) &&& Int32.toUInt32 31)).toInt32 &&& (255 : Int32))) (Int32.toNatClampNeg (2 : Int32)) ((Int32.toUInt32 x0 >>> (Int32.toUInt32 (8 : Int32) &&& Int32.toUInt32 31)).toInt32 &&& (255 : Int32))) (Int32.toNatClampNeg (3 : Int32)) ((Int32.toUInt32 x0 >>> (Int32.toUInt32 (0 : Int32) &&& Int32.toUInt32 31)).toInt32 &&& (255 : Int32))) (Int32.toNatClampNeg (4 : Int32)) ((Int32.toUInt32 x1 >>> (Int32.toUInt32 (24 : Int32) &&& Int32.toUInt32 31)).toInt32 &&& (255 : Int32))) (Int32.toNatClampNeg (5 : Int32)) ((Int32.toUInt32 x1 >>> (Int32.toUInt32 (16 : Int32) &&& Int32.toUInt32 31)).toInt32 &&& (255 : Int32))) (Int32.toNatClampNeg (6 : Int32)) ((Int32.toUInt32 x1 >>> (Int32.toUInt32 (8 : Int32) &&& Int32.toUInt32 31)).toInt32 &&& (255 : Int32))) (Int32.toNatClampNeg (7 : Int32)) ((Int32.toUInt32 x1 >>> (Int32.toUInt32 (0 : Int32) &&& Int32.toUInt32 31)).toInt32 &&& (255 : Int32))) (Int32.toNatClampNeg (8 : Int32)) ((Int32.toUInt32 x2 >>> (Int32.toUInt32 (24 : Int32) &&& Int32.toUInt32 31)).toInt32 &&& (255 : Int32))) (Int32.toNatClampNeg (9 : Int32)) ((Int32.toUInt32 x2 >>> (Int32.toUInt32 (16 : Int32) &&& Int32.toUInt32 31)).toInt32 &&& (255 : Int32))) (Int32.toNatClampNeg (10 : Int32)) ((Int32.toUInt32 x2 >>> (Int32.toUInt32 (8 : Int32) &&& Int32.toUInt32 31)).toInt32 &&& (255 : Int32))) (Int32.toNatClampNeg (11 : Int32)) ((Int32.toUInt32 x2 >>> (Int32.toUInt32 (0 : Int32) &&& Int32.toUInt32 31)).toInt32 &&& (255 : Int32))) (Int32.toNatClampNeg (12 : Int32)) ((Int32.toUInt32 x3 >>> (Int32.toUInt32 (24 : Int32) &&& Int32.toUInt32 31)).toInt32 &&& (255 : Int32))) (Int32.toNatClampNeg (13 : Int32)) ((Int32.toUInt32 x3 >>> (Int32.toUInt32 (16 : Int32) &&& Int32.toUInt32 31)).toInt32 &&& (255 : Int32))) (Int32.toNatClampNeg (14 : Int32)) ((Int32.toUInt32 x3 >>> (Int32.toUInt32 (8 : Int32) &&& Int32.toUInt32 31)).toInt32 &&& (255 : Int32))) (Int32.toNatClampNeg (15 : Int32)) ((Int32.toUInt32 x3 >>> (Int32.toUInt32 (0 : Int32) &&& Int32.toUInt32 31)).toInt32 &&& (255 : Int32)))))] H locs := w
  refine lv_aload_n hx hb dX12_feed_41 rfl (lv_at hl 0 rfl) ?_
  refine lv_iload hx hb dX12_feed_42 (lv_at hl 5 rfl) ?_
  refine k_V (ce := 0) (sl := 0) (rest := []) (wr := []) (r_V (f := 0) [0, 1] M w V_HookedCityModel_14 G1447 G44 (c27_X12_come l D T _ a0 a1 a2 a3 a4 a5 a6 a7 a8 a9 a10 a11 a12 a13 a14 a15 a16 a17 a18 a19 a20 a21 a22 x4 (upd (upd (upd (upd (upd (upd (upd (upd (upd (upd (upd (upd (upd (upd (upd (upd (fun _ => 0) (Int32.toNatClampNeg (0 : Int32)) ((Int32.toUInt32 x0 >>> (Int32.toUInt32 (24 : Int32) &&& Int32.toUInt32 31)).toInt32 &&& (255 : Int32))) (Int32.toNatClampNeg (1 : Int32)) ((Int32.toUInt32 x0 >>> (Int32.toUInt32 (16 : Int32) &&& Int32.toUInt32 31)).toInt32 &&& (255 : Int32))) (Int32.toNatClampNeg (2 : Int32)) ((Int32.toUInt32 x0 >>> (Int32.toUInt32 (8 : Int32) &&& Int32.toUInt32 31)).toInt32 &&& (255 : Int32))) (Int32.toNatClampNeg (3 : Int32)) ((Int32.toUInt32 x0 >>> (Int32.toUInt32 (0 : Int32) &&& Int32.toUInt32 31)).toInt32 &&& (255 : Int32))) (Int32.toNatClampNeg (4 : Int32)) ((Int32.toUInt32 x1 >>> (Int32.toUInt32 (24 : Int32) &&& Int32.toUInt32 31)).toInt32 &&& (255 : Int32))) (Int32.toNatClampNeg (5 : Int32)) ((Int32.toUInt32 x1 >>> (Int32.toUInt32 (16 : Int32) &&& Int32.toUInt32 31)).toInt32 &&& (255 : Int32))) (Int32.toNatClampNeg (6 : Int32)) ((Int32.toUInt32 x1 >>> (Int32.toUInt32 (8 : Int32) &&& Int32.toUInt32 31)).toInt32 &&& (255 : Int32))) (Int32.toNatClampNeg (7 : Int32)) ((Int32.toUInt32 x1 >>> (Int32.toUInt32 (0 : Int32) &&& Int32.toUInt32 31)).toInt32 &&& (255 : Int32))) (Int32.toNatClampNeg (8 : Int32)) ((Int32.toUInt32 x2 >>> (Int32.toUInt32 (24 : Int32) &&& Int32.toUInt32 31)).toInt32 &&& (255 : Int32))) (Int32.toNatClampNeg (9 : Int32)) ((Int32.toUInt32 x2 >>> (Int32.toUInt32 (16 : Int32) &&& Int32.toUInt32 31)).toInt32 &&& (255 : Int32))) (Int32.toNatClampNeg (10 : Int32)) ((Int32.toUInt32 x2 >>> (Int32.toUInt32 (8 : Int32) &&& Int32.toUInt32 31)).toInt32 &&& (255 : Int32))) (Int32.toNatClampNeg (11 : Int32)) ((Int32.toUInt32 x2 >>> (Int32.toUInt32 (0 : Int32) &&& Int32.toUInt32 31)).toInt32 &&& (255 : Int32))) (Int32.toNatClampNeg (12 : Int32)) ((Int32.toUInt32 x3 >>> (Int32.toUInt32 (24 : Int32) &&& Int32.toUInt32 31)).toInt32 &&& (255 : Int32))) (Int32.toNatClampNeg (13 : Int32)) ((Int32.toUInt32 x3 >>> (Int32.toUInt32 (16 : Int32) &&& Int32.toUInt32 31)).toInt32 &&& (255 : Int32))) (Int32.toNatClampNeg (14 : Int32)) ((Int32.toUInt32 x3 >>> (Int32.toUInt32 (8 : Int32) &&& Int32.toUInt32 31)).toInt32 &&& (255 : Int32))) (Int32.toNatClampNeg (15 : Int32)) ((Int32.toUInt32 x3 >>> (Int32.toUInt32 (0 : Int32) &&& Int32.toUInt32 31)).toInt32 &&& (255 : Int32)))) 0 clX12 rfl rfl (by decide) rfl hl.1 rfl (Nat.le_of_ble_eq_true rfl) dX12_feed_44 (by decide) (by decide) (by decide) (by decide)) w [0, 1] [] rfl rfl (by decide) (by decide) rfl rfl (fun _ H locs hp w => ?_)
  have w : WD D A s.heap [(a0, .inr (11, [.int 0, .ref a1, .int 20, .int 0, .int 0, .int 0, .int 0, .int 0, .int 0, .int 0, .int 0, .int 0, .long 0, .int 0, .ref a2, .ref a3, .ref a4, .ref a5, .ref a6, .ref a7, .ref a8, .ref a9, .ref a10, .ref a11, .int 0, .ref a12, .ref a13, .ref a14, .ref a15, .int 0, .int 0, .int 0, .ref a16, .int (-1), .int (-1), .ref a17, .ref a18, .int 0, .ref a19, .int 0, .int 0, .ref a20, .ref a21, .int 0, .int 0, .ref a22, .int 0, .int 0, .int 0, .int 0])), (a1, .inl (T 0, 940, .inl (upd (upd (upd (upd (upd (upd (upd (upd (upd (upd (upd (upd (upd (upd (upd (upd (upd (upd (upd (upd (fun _ => 0) (Int32.toNatClampNeg (0 : Int32)) ((Int32.toUInt32 x0 >>> (Int32.toUInt32 (24 : Int32) &&& Int32.toUInt32 31)).toInt32 &&& (255 : Int32))) (Int32.toNatClampNeg (1 : Int32)) ((Int32.toUInt32 x0 >>> (Int32.toUInt32 (16 : Int32) &&& Int32.toUInt32 31)).toInt32 &&& (255 : Int32))) (Int32.toNatClampNeg (2 : Int32)) ((Int32.toUInt32 x0 >>> (Int32.toUInt32 (8 : Int32) &&& Int32.toUInt32 31)).toInt32 &&& (255 : Int32))) (Int32.toNatClampNeg (3 : Int32)) ((Int32.toUInt32 x0 >>> (Int32.toUInt32 (0 : Int32) &&& Int32.toUInt32 31)).toInt32 &&& (255 : Int32))) (Int32.toNatClampNeg (4 : Int32)) ((Int32.toUInt32 x1 >>> (Int32.toUInt32 (24 : Int32) &&& Int32.toUInt32 31)).toInt32 &&& (255 : Int32))) (Int32.toNatClampNeg (5 : Int32)) ((Int32.toUInt32 x1 >>> (Int32.toUInt32 (16 : Int32) &&& Int32.toUInt32 31)).toInt32 &&& (255 : Int32))) (Int32.toNatClampNeg (6 : Int32)) ((Int32.toUInt32 x1 >>> (Int32.toUInt32 (8 : Int32) &&& Int32.toUInt32 31)).toInt32 &&& (255 : Int32))) (Int32.toNatClampNeg (7 : Int32)) ((Int32.toUInt32 x1 >>> (Int32.toUInt32 (0 : Int32) &&& Int32.toUInt32 31)).toInt32 &&& (255 : Int32))) (Int32.toNatClampNeg (8 : Int32)) ((Int32.toUInt32 x2 >>> (Int32.toUInt32 (24 : Int32) &&& Int32.toUInt32 31)).toInt32 &&& (255 : Int32))) (Int32.toNatClampNeg (9 : Int32)) ((Int32.toUInt32 x2 >>> (Int32.toUInt32 (16 : Int32) &&& Int32.toUInt32 31)).toInt32 &&& (255 : Int32))) (Int32.toNatClampNeg (10 : Int32)) ((Int32.toUInt32 x2 >>> (Int32.toUInt32 (8 : Int32) &&& Int32.toUInt32 31)).toInt32 &&& (255 : Int32))) (Int32.toNatClampNeg (11 : Int32)) ((Int32.toUInt32 x2 >>> (Int32.toUInt32 (0 : Int32) &&& Int32.toUInt32 31)).toInt32 &&& (255 : Int32))) (Int32.toNatClampNeg (12 : Int32)) ((Int32.toUInt32 x3 >>> (Int32.toUInt32 (24 : Int32) &&& Int32.toUInt32 31)).toInt32 &&& (255 : Int32))) (Int32.toNatClampNeg (13 : Int32)) ((Int32.toUInt32 x3 >>> (Int32.toUInt32 (16 : Int32) &&& Int32.toUInt32 31)).toInt32 &&& (255 : Int32))) (Int32.toNatClampNeg (14 : Int32)) ((Int32.toUInt32 x3 >>> (Int32.toUInt32 (8 : Int32) &&& Int32.toUInt32 31)).toInt32 &&& (255 : Int32))) (Int32.toNatClampNeg (15 : Int32)) ((Int32.toUInt32 x3 >>> (Int32.toUInt32 (0 : Int32) &&& Int32.toUInt32 31)).toInt32 &&& (255 : Int32))) (Int32.toNatClampNeg (16 : Int32)) ((Int32.toUInt32 x4 >>> (Int32.toUInt32 (24 : Int32) &&& Int32.toUInt32 31)).toInt32 &&& (255 : Int32))) (Int32.toNatClampNeg (17 : Int32)) ((Int32.toUInt32 x4 >>> (Int32.toUInt32 (16 : Int32) &&& Int32.toUInt32 31)).toInt32 &&& (255 : Int32))) (Int32.toNatClampNeg (18 : Int32)) ((Int32.toUInt32 x4 >>> (Int32.toUInt32 (8 : Int32) &&& Int32.toUInt32 31)).toInt32 &&& (255 : Int32))) (Int32.toNatClampNeg (19 : Int32)) ((Int32.toUInt32 x4 >>> (Int32.toUInt32 (0 : Int32) &&& Int32.toUInt32 31)).toInt32 &&& (255 : Int32)))))] H locs := w
  refine lv_aload_n hx hb dX12_feed_47 rfl (lv_at hl 0 rfl) ?_
  refine r_get (v := .int 20) M w 0 2 clX12 rfl (by decide) G1469 rfl rfl dX12_feed_48 ?_
  exact ret _ () _ _ _ _ _ [] dX12_feed_51 rfl w (by decide) rfl
set_option maxRecDepth 100000 in
set_option maxHeartbeats 4000000 in
theorem c29_X8_cut (l : Launch) (D : va_G) (T : Nat → ClassId) (sz : Nat) (a0 a1 : Nat) (x0 : Int32) : Met l yX8_cut (Cond.code yX8_cut cX8_cut 2 (some .boolean) :: GW) (Rm 0 0 0) (cPre [.ref a0, .int x0] D T [(a0, .inr (8, [.ref a1, .int 0, .int 0, .int 0, .int 0, .int 0, .null, .long 0, .int 0, .int 0, .int 0, .int 0]))] sz) (qI D [(a0, .inr (8, [.ref a1, .int 0, .int 0, .int 0, .int 0, .int 0, .null, .long 0, .int 0, .int 0, .int 0, .int 0]))] sz (fun (v : Int32) (u : Nat) => let u0 := u; (x0 < (0 : Int32) ∧ u0 = 0 ∧ (0 : Int32) = v) ∨ (¬ x0 < (0 : Int32) ∧ ¬ x0 ≤ (0 : Int32) ∧ u0 = 0 ∧ (0 : Int32) = v) ∨ (¬ x0 < (0 : Int32) ∧ x0 ≤ (0 : Int32) ∧ u0 = 1 ∧ (1 : Int32) = v)) (fun u => let u0 := u; if u0 = 0 then [(a0, .inr (8, [.ref a1, .int 0, .int 0, .int 0, .int 0, .int 0, .null, .long 0, .int 0, .int 0, .int 0, .int 0]))] else [(a0, .inr (8, [.ref a1, .int x0, .int 0, .int 0, .int 0, .int 0, .null, .long 0, .int 0, .int 0, .int 0, .int 0]))])) 0 0 (va_A [(a0, .inr (8, [.ref a1, .int 0, .int 0, .int 0, .int 0, .int 0, .null, .long 0, .int 0, .int 0, .int 0, .int 0]))] sz) := by
  refine e_Z (by decide) (Nat.le_of_ble_eq_true rfl) ?_
  intro p e s m args below meth c A Q ls M hin w ret hl
  have hx := M.1.1
  have hb := M.1.2.1
  have hl : lv_has ls 2 [(0, .ref a0), (1, .int x0)] := hl
  refine lv_iload_n hx hb dX8_cut_0 rfl (lv_at hl 1 rfl) ?_
  refine lv_if_lt (tgt := 12) hx hb dX8_cut_1 (by decide) (fun c_1 => ?_) (fun c_1 => ?_)
  · refine lv_iconst (v := 0) hx hb dX8_cut_12 (by decide) ?_
    exact ret _ 0 _ _ _ _ _ [0] dX8_cut_13 (by decide +kernel) (Or.inl ⟨c_1, rfl, rfl⟩) w (by decide) rfl
  · refine lv_iload_n hx hb dX8_cut_4 rfl (lv_at hl 1 rfl) ?_
    refine lv_aload_n hx hb dX8_cut_5 rfl (lv_at hl 0 rfl) ?_
    refine r_get (v := .int 0) M w 0 1 clX8 rfl (by decide) G162 rfl rfl dX8_cut_6 ?_
    refine lv_icmp_le (tgt := 14) hx hb dX8_cut_9 (by decide) (fun c_2 => ?_) (fun c_2 => ?_)
    · refine lv_aload_n hx hb dX8_cut_14 rfl (lv_at hl 0 rfl) ?_
      refine lv_iload_n hx hb dX8_cut_15 rfl (lv_at hl 1 rfl) ?_
      refine r_put (ws' := [(a0, .inr (8, [.ref a1, .int x0, .int 0, .int 0, .int 0, .int 0, .null, .long 0, .int 0, .int 0, .int 0, .int 0]))]) M w 0 1 clX8 rfl (by decide) G162 rfl rfl rfl rfl (Nat.le_of_ble_eq_true rfl) rfl dX8_cut_16 (fun H locs w => ?_)
      refine lv_iconst (v := 1) hx hb dX8_cut_19 (by decide) ?_
      exact ret _ 1 _ _ _ _ _ [0] dX8_cut_20 (by decide +kernel) (Or.inr (Or.inr (⟨c_1, c_2, rfl, rfl⟩))) w (by decide) rfl
    · refine lv_iconst (v := 0) hx hb dX8_cut_12 (by decide) ?_
      exact ret _ 0 _ _ _ _ _ [0] dX8_cut_13 (by decide +kernel) (Or.inr (Or.inl ⟨c_1, c_2, rfl, rfl⟩)) w (by decide) rfl
set_option maxRecDepth 100000 in
set_option maxHeartbeats 4000000 in
theorem c30_X11_end (l : Launch) (D : va_G) (T : Nat → ClassId) (sz : Nat) (a0 a1 a2 a3 a4 a5 a6 a7 a8 a9 a10 a11 a12 a13 a14 a15 : Nat) (x0 : Int32) : Met l yX11_end (Cond.code yX11_end cX11_end 2 (some .boolean) :: GW) (Rm 1 0 0) (cPre [.ref a0, .int x0] D T [(a0, .inr (10, [.ref a1, .ref a2, .ref a3, .ref a4, .ref a5, .ref a6, .ref a7, .ref a8, .ref a9, .ref a10, .ref a11, .ref a12, .ref a13, .ref a14, .int 0, .int 0, .int 0])), (a1, .inr (8, [.ref a15, .int 0, .int 0, .int 0, .int 0, .int 0, .null, .long 0, .int 0, .int 0, .int 0, .int 0]))] sz) (qI D [(a0, .inr (10, [.ref a1, .ref a2, .ref a3, .ref a4, .ref a5, .ref a6, .ref a7, .ref a8, .ref a9, .ref a10, .ref a11, .ref a12, .ref a13, .ref a14, .int 0, .int 0, .int 0])), (a1, .inr (8, [.ref a15, .int 0, .int 0, .int 0, .int 0, .int 0, .null, .long 0, .int 0, .int 0, .int 0, .int 0]))] sz (fun (v : Int32) (u : Unit) => (x0 < (0 : Int32) ∧ (0 : Int32) = v) ∨ (¬ x0 < (0 : Int32) ∧ ¬ x0 ≤ (0 : Int32) ∧ (0 : Int32) = v) ∨ (¬ x0 < (0 : Int32) ∧ x0 ≤ (0 : Int32) ∧ (1 : Int32) = v)) (fun u => [])) 0 0 (va_A [(a0, .inr (10, [.ref a1, .ref a2, .ref a3, .ref a4, .ref a5, .ref a6, .ref a7, .ref a8, .ref a9, .ref a10, .ref a11, .ref a12, .ref a13, .ref a14, .int 0, .int 0, .int 0])), (a1, .inr (8, [.ref a15, .int 0, .int 0, .int 0, .int 0, .int 0, .null, .long 0, .int 0, .int 0, .int 0, .int 0]))] sz) := by
  refine e_Z (by decide) (Nat.le_of_ble_eq_true rfl) ?_
  intro p e s m args below meth c A Q ls M hin w ret hl
  have hx := M.1.1
  have hb := M.1.2.1
  have hl : lv_has ls 2 [(0, .ref a0), (1, .int x0)] := hl
  refine lv_aload_n hx hb dX11_end_0 rfl (lv_at hl 0 rfl) ?_
  refine r_get (v := .ref a1) M w 0 0 clX11 rfl (by decide) G497 rfl rfl dX11_end_1 ?_
  refine lv_iload_n hx hb dX11_end_4 rfl (lv_at hl 1 rfl) ?_
  refine k_I (ce := 0) (sl := 0) (rest := []) (wr := [(a0, .inr (10, [.ref a1, .ref a2, .ref a3, .ref a4, .ref a5, .ref a6, .ref a7, .ref a8, .ref a9, .ref a10, .ref a11, .ref a12, .ref a13, .ref a14, .int 0, .int 0, .int 0]))]) (r_V (f := 0) [1] M w V_HookedCity_107 G566 G567 (c29_X8_cut l D T _ a1 a15 x0) 1 clX8 rfl rfl (by decide) rfl hl.1 rfl (Nat.le_of_ble_eq_true rfl) dX11_end_5 (by decide) (by decide) (by decide) (by decide)) w [1] [0] rfl rfl (by decide) (by decide) rfl rfl (fun v u0 H locs hp w => ?_)
  try dsimp only at hp
  rcases hp with ⟨c_1, hu0, hp⟩ | ⟨c_2, c_3, hu0, hp⟩ | ⟨c_4, c_5, hu0, hp⟩
  · subst hu0
    have hp : (0 : Int32) = v := hp
    subst hp
    have w : WD D A s.heap [(a0, .inr (10, [.ref a1, .ref a2, .ref a3, .ref a4, .ref a5, .ref a6, .ref a7, .ref a8, .ref a9, .ref a10, .ref a11, .ref a12, .ref a13, .ref a14, .int 0, .int 0, .int 0])), (a1, .inr (8, [.ref a15, .int 0, .int 0, .int 0, .int 0, .int 0, .null, .long 0, .int 0, .int 0, .int 0, .int 0]))] H locs := w
    exact ret _ () _ _ _ _ _ [] dX11_end_8 (by decide +kernel) (Or.inl ⟨c_1, rfl⟩) w (by decide) rfl
  · subst hu0
    have hp : (0 : Int32) = v := hp
    subst hp
    have w : WD D A s.heap [(a0, .inr (10, [.ref a1, .ref a2, .ref a3, .ref a4, .ref a5, .ref a6, .ref a7, .ref a8, .ref a9, .ref a10, .ref a11, .ref a12, .ref a13, .ref a14, .int 0, .int 0, .int 0])), (a1, .inr (8, [.ref a15, .int 0, .int 0, .int 0, .int 0, .int 0, .null, .long 0, .int 0, .int 0, .int 0, .int 0]))] H locs := w
    exact ret _ () _ _ _ _ _ [] dX11_end_8 (by decide +kernel) (Or.inr (Or.inl ⟨c_2, c_3, rfl⟩)) w (by decide) rfl
  · subst hu0
    have hp : (1 : Int32) = v := hp
    subst hp
    have w : WD D A s.heap [(a0, .inr (10, [.ref a1, .ref a2, .ref a3, .ref a4, .ref a5, .ref a6, .ref a7, .ref a8, .ref a9, .ref a10, .ref a11, .ref a12, .ref a13, .ref a14, .int 0, .int 0, .int 0])), (a1, .inr (8, [.ref a15, .int x0, .int 0, .int 0, .int 0, .int 0, .null, .long 0, .int 0, .int 0, .int 0, .int 0]))] H locs := w
    exact ret _ () _ _ _ _ _ [] dX11_end_8 (by decide +kernel) (Or.inr (Or.inr (⟨c_4, c_5, rfl⟩))) w (by decide) rfl
set_option maxRecDepth 100000 in
set_option maxHeartbeats 4000000 in
theorem c31_X12_end (l : Launch) (D : va_G) (T : Nat → ClassId) (sz : Nat) (a0 a1 a2 a3 a4 a5 a6 a7 a8 a9 a10 a11 a12 a13 a14 a15 a16 a17 a18 a19 a20 a21 a22 : Nat) (x0 : Int32) : Met l yX12_end (Cond.code yX12_end cX12_end 2 (some .boolean) :: GW) (Rm 0 0 0) (cPre [.ref a0, .int x0] D T [(a0, .inr (11, [.int 0, .ref a1, .int 0, .int 0, .int 0, .int 0, .int 0, .int 0, .int 0, .int 0, .int 0, .int 0, .long 0, .int 0, .ref a2, .ref a3, .ref a4, .ref a5, .ref a6, .ref a7, .ref a8, .ref a9, .ref a10, .ref a11, .int 0, .ref a12, .ref a13, .ref a14, .ref a15, .int 0, .int 0, .int 0, .ref a16, .int (-1), .int (-1), .ref a17, .ref a18, .int 0, .ref a19, .int 0, .int 0, .ref a20, .ref a21, .int 0, .int 0, .ref a22, .int 0, .int 0, .int 0, .int 0]))] sz) (qI D [(a0, .inr (11, [.int 0, .ref a1, .int 0, .int 0, .int 0, .int 0, .int 0, .int 0, .int 0, .int 0, .int 0, .int 0, .long 0, .int 0, .ref a2, .ref a3, .ref a4, .ref a5, .ref a6, .ref a7, .ref a8, .ref a9, .ref a10, .ref a11, .int 0, .ref a12, .ref a13, .ref a14, .ref a15, .int 0, .int 0, .int 0, .ref a16, .int (-1), .int (-1), .ref a17, .ref a18, .int 0, .ref a19, .int 0, .int 0, .ref a20, .ref a21, .int 0, .int 0, .ref a22, .int 0, .int 0, .int 0, .int 0]))] sz (fun (v : Int32) (u : Unit) => (x0 < (0 : Int32) ∧ (0 : Int32) = v) ∨ (¬ x0 < (0 : Int32) ∧ ¬ x0 ≤ (0 : Int32) ∧ (0 : Int32) = v) ∨ (¬ x0 < (0 : Int32) ∧ x0 ≤ (0 : Int32) ∧ (1 : Int32) = v)) (fun u => [])) 0 0 (va_A [(a0, .inr (11, [.int 0, .ref a1, .int 0, .int 0, .int 0, .int 0, .int 0, .int 0, .int 0, .int 0, .int 0, .int 0, .long 0, .int 0, .ref a2, .ref a3, .ref a4, .ref a5, .ref a6, .ref a7, .ref a8, .ref a9, .ref a10, .ref a11, .int 0, .ref a12, .ref a13, .ref a14, .ref a15, .int 0, .int 0, .int 0, .ref a16, .int (-1), .int (-1), .ref a17, .ref a18, .int 0, .ref a19, .int 0, .int 0, .ref a20, .ref a21, .int 0, .int 0, .ref a22, .int 0, .int 0, .int 0, .int 0]))] sz) := by
  refine e_Z (by decide) (Nat.le_of_ble_eq_true rfl) ?_
  intro p e s m args below meth c A Q ls M hin w ret hl
  have hx := M.1.1
  have hb := M.1.2.1
  have hl : lv_has ls 2 [(0, .ref a0), (1, .int x0)] := hl
  refine lv_aload_n hx hb dX12_end_0 rfl (lv_at hl 0 rfl) ?_
  refine lv_iconst (v := 0) hx hb dX12_end_1 (by decide) ?_
  refine r_put (ws' := [(a0, .inr (11, [.int 0, .ref a1, .int 0, .int 0, .int 0, .int 0, .int 0, .int 0, .int 0, .int 0, .int 0, .int 0, .long 0, .int 0, .ref a2, .ref a3, .ref a4, .ref a5, .ref a6, .ref a7, .ref a8, .ref a9, .ref a10, .ref a11, .int 0, .ref a12, .ref a13, .ref a14, .ref a15, .int 0, .int 0, .int 0, .ref a16, .int (-1), .int (-1), .ref a17, .ref a18, .int 0, .ref a19, .int 0, .int 0, .ref a20, .ref a21, .int 0, .int 0, .ref a22, .int 0, .int 0, .int 0, .int 0]))]) M w 0 0 clX12 rfl (by decide) G1467 rfl rfl rfl rfl (Nat.le_of_ble_eq_true rfl) rfl dX12_end_2 (fun H locs w => ?_)
  refine lv_iload_n hx hb dX12_end_5 rfl (lv_at hl 1 rfl) ?_
  refine lv_if_lt (tgt := 17) hx hb dX12_end_6 (by decide) (fun c_1 => ?_) (fun c_1 => ?_)
  · refine lv_iconst (v := 0) hx hb dX12_end_17 (by decide) ?_
    exact ret _ () _ _ _ _ _ [] dX12_end_18 (by decide +kernel) (Or.inl ⟨c_1, rfl⟩) w (by decide) rfl
  · refine lv_iload_n hx hb dX12_end_9 rfl (lv_at hl 1 rfl) ?_
    refine lv_aload_n hx hb dX12_end_10 rfl (lv_at hl 0 rfl) ?_
    refine r_get (v := .int 0) M w 0 2 clX12 rfl (by decide) G1469 rfl rfl dX12_end_11 ?_
    refine lv_icmp_le (tgt := 19) hx hb dX12_end_14 (by decide) (fun c_2 => ?_) (fun c_2 => ?_)
    · refine lv_aload_n hx hb dX12_end_19 rfl (lv_at hl 0 rfl) ?_
      refine lv_iload_n hx hb dX12_end_20 rfl (lv_at hl 1 rfl) ?_
      refine r_put (ws' := [(a0, .inr (11, [.int 0, .ref a1, .int x0, .int 0, .int 0, .int 0, .int 0, .int 0, .int 0, .int 0, .int 0, .int 0, .long 0, .int 0, .ref a2, .ref a3, .ref a4, .ref a5, .ref a6, .ref a7, .ref a8, .ref a9, .ref a10, .ref a11, .int 0, .ref a12, .ref a13, .ref a14, .ref a15, .int 0, .int 0, .int 0, .ref a16, .int (-1), .int (-1), .ref a17, .ref a18, .int 0, .ref a19, .int 0, .int 0, .ref a20, .ref a21, .int 0, .int 0, .ref a22, .int 0, .int 0, .int 0, .int 0]))]) M w 0 2 clX12 rfl (by decide) G1469 rfl rfl rfl rfl (Nat.le_of_ble_eq_true rfl) rfl dX12_end_21 (fun H locs w => ?_)
      refine lv_iconst (v := 1) hx hb dX12_end_24 (by decide) ?_
      exact ret _ () _ _ _ _ _ [] dX12_end_25 (by decide +kernel) (Or.inr (Or.inr (⟨c_1, c_2, rfl⟩))) w (by decide) rfl
    · refine lv_iconst (v := 0) hx hb dX12_end_17 (by decide) ?_
      exact ret _ () _ _ _ _ _ [] dX12_end_18 (by decide +kernel) (Or.inr (Or.inl ⟨c_1, c_2, rfl⟩)) w (by decide) rfl
set_option maxRecDepth 100000 in
set_option maxHeartbeats 4000000 in
theorem c32_J7_fill_53178 (l : Launch) (D : va_G) (T : Nat → ClassId) (sz : Nat) (a0 : Nat) : Met l yJ7_fill_53178 (Cond.code yJ7_fill_53178 cJ7_fill_53178 4 none :: GW) (Rm 0 0 0) (cPre [.ref a0, .int 0] D T [(a0, .inl (T 0, 9, .inl (fun _ => 0)))] sz) (qV D [(a0, .inl (T 0, 9, .inl (fun _ => 0)))] sz (fun (u : Unit) => True) (fun u => [(a0, .inl (T 0, 9, .inl cn46))])) 0 0 (va_A [(a0, .inl (T 0, 9, .inl (fun _ => 0)))] sz) := by
  refine e_V (by decide) (Nat.le_of_ble_eq_true rfl) ?_
  intro p e s m args below meth c A Q ls M hin w ret hl
  have hx := M.1.1
  have hb := M.1.2.1
  have hl : lv_has ls 4 [(0, .ref a0), (1, .int 0)] := hl
  refine lv_iconst (v := 0) hx hb dJ7_fill_53178_0 (by decide) ?_
  refine lv_istore_n (lv' := [(2, .int 0), (0, .ref a0), (1, .int 0)]) hx hb dJ7_fill_53178_1 rfl hl (by decide) rfl (fun ls hl => ?_)
  refine lv_aload_n hx hb dJ7_fill_53178_2 rfl (lv_at hl 1 rfl) ?_
  refine r_alen (v := 9) M w 0 0 rfl rfl rfl dJ7_fill_53178_3 ?_
  refine lv_istore_n (lv' := [(3, .int 9), (2, .int 0), (0, .ref a0), (1, .int 0)]) hx hb dJ7_fill_53178_4 rfl hl (by decide) rfl (fun ls hl => ?_)
  have w : WD D A s.heap [(a0, .inl (T 0, 9, .inl (rngc 0 0 (0 : Int32) (fun _ => 0))))] _ _ := w.to (by simp only [rngc_0])
  have loop : ∀ (k i : Nat) (H : Heap) (locs : List Loc) (ls : Array Slot), 0 ≤ i → i ≤ 9 → 9 < i + k → WD D A s.heap [(a0, .inl (T 0, 9, .inl (rngc 0 i (0 : Int32) (fun _ => 0))))] H locs → lv_has ls 4 [(3, .int 9), (2, .int (nI i)), (0, .ref a0), (1, .int 0)] → W p l e (Rm 0 0 0) s m args below meth c H locs 0 0 Q (F0 m 5 ls []) := by
    intro k
    induction k with
    | zero => intro i H locs ls h0 h1 h2; exact absurd h2 (by omega)
    | succ k ih =>
      intro i H locs ls hi0 hi1 hi2 w hl
      refine lv_iload_n hx hb dJ7_fill_53178_5 rfl (lv_at hl 1 rfl) ?_
      refine lv_iload_n hx hb dJ7_fill_53178_6 rfl (lv_at hl 0 rfl) ?_
      refine lv_icmp_ge (tgt := 20) hx hb dJ7_fill_53178_7 (by decide) (fun c_1 => ?_) (fun c_1 => ?_)
      · have hi2 : 9 ≤ i := ix_exit (n := 9) (by decide) (by omega) (by decide) c_1
        obtain rfl : i = 9 := by omega
        have w : WD D A s.heap [(a0, .inl (T 0, 9, .inl cn46))] H locs := w
        have hl : lv_has ls 4 [(3, .int 9), (2, .int 9), (0, .ref a0), (1, .int 0)] := hl
        exact ret () _ _ _ _ _ [0] dJ7_fill_53178_20 trivial w (by decide) rfl
      · have hi2 : i < 9 := ix_in2 (n := 9) (by decide) (by omega) (by decide) c_1
        refine lv_aload_n hx hb dJ7_fill_53178_10 rfl (lv_at hl 2 rfl) ?_
        refine lv_iload_n hx hb dJ7_fill_53178_11 rfl (lv_at hl 1 rfl) ?_
        refine lv_iload_n hx hb dJ7_fill_53178_12 rfl (lv_at hl 3 rfl) ?_
        refine r_iast (ws' := [(a0, .inl (T 0, 9, .inl (upd (rngc 0 i (0 : Int32) (fun _ => 0)) (Int32.toNatClampNeg (nI i)) (0 : Int32))))]) M w 0 rfl (ix_in (by omega) (by decide)) rfl dJ7_fill_53178_13 (fun H locs w => ?_)
        refine lv_iinc (v := (nI (i + 1))) (lv' := [(2, .int (nI (i + 1))), (3, .int 9), (0, .ref a0), (1, .int 0)]) hx hb dJ7_fill_53178_14 hl (k := 1) rfl (ix_add (k := 1) (by decide) (by omega)) (by decide) rfl (fun ls hl => ?_)
        refine lv_goto (tgt := 5) hx hb dJ7_fill_53178_17 (by decide) ?_
        rw [show (upd (rngc 0 i (0 : Int32) (fun _ => 0)) (Int32.toNatClampNeg (nI i)) (0 : Int32)) = (rngc 0 (i + 1) (0 : Int32) (fun _ => 0)) from rngc_step (nI_clamp (by omega)) (by omega)] at w
        exact ih (i + 1) _ _ _ (by omega) (by omega) (by omega) w (lv_sub hl [1, 0, 2, 3] rfl)
  exact loop 10 0 _ _ _ (by decide) (by decide) (by decide) w hl
set_option maxRecDepth 100000 in
set_option maxHeartbeats 4000000 in
theorem c33_X9_clear (l : Launch) (D : va_G) (T : Nat → ClassId) (sz : Nat) (a0 a1 a2 a3 a4 a5 a6 a7 a8 a9 : Nat) : Met l yX9_clear (Cond.code yX9_clear cX9_clear 1 none :: GW) (Rm 1 0 0) (cPre [.ref a0] D T [(a0, .inr (9, [.ref a1, .ref a2, .ref a3, .ref a4, .ref a5, .ref a6, .ref a7, .ref a8, .ref a9, .int 0, .int 0, .int 0, .int 0, .int 12, .int 1, .int 0, .int 0, .int 0])), (a5, .inl (T 0, 9, .inl (fun _ => 0))), (a6, .inl (T 0, 9, .inl (fun _ => 0))), (a7, .inl (T 0, 9, .inl (fun _ => 0)))] sz) (qV D [(a0, .inr (9, [.ref a1, .ref a2, .ref a3, .ref a4, .ref a5, .ref a6, .ref a7, .ref a8, .ref a9, .int 0, .int 0, .int 0, .int 0, .int 12, .int 1, .int 0, .int 0, .int 0])), (a5, .inl (T 0, 9, .inl (fun _ => 0))), (a6, .inl (T 0, 9, .inl (fun _ => 0))), (a7, .inl (T 0, 9, .inl (fun _ => 0)))] sz (fun (u : Unit) => True) (fun u => [(a0, .inr (9, [.ref a1, .ref a2, .ref a3, .ref a4, .ref a5, .ref a6, .ref a7, .ref a8, .ref a9, .int 0, .int 0, .int 0, .int 0, .int 12, .int 1, .int 0, .int 0, .int 0])), (a5, .inl (T 0, 9, .inl cn46)), (a6, .inl (T 0, 9, .inl cn6)), (a7, .inl (T 0, 9, .inl cn6))])) 0 0 (va_A [(a0, .inr (9, [.ref a1, .ref a2, .ref a3, .ref a4, .ref a5, .ref a6, .ref a7, .ref a8, .ref a9, .int 0, .int 0, .int 0, .int 0, .int 12, .int 1, .int 0, .int 0, .int 0])), (a5, .inl (T 0, 9, .inl (fun _ => 0))), (a6, .inl (T 0, 9, .inl (fun _ => 0))), (a7, .inl (T 0, 9, .inl (fun _ => 0)))] sz) := by
  refine e_V (by decide) (Nat.le_of_ble_eq_true rfl) ?_
  intro p e s m args below meth c A Q ls M hin w ret hl
  have hx := M.1.1
  have hb := M.1.2.1
  have hl : lv_has ls 1 [(0, .ref a0)] := hl
  refine lv_aload_n hx hb dX9_clear_0 rfl (lv_at hl 0 rfl) ?_
  refine lv_iconst (v := 0) hx hb dX9_clear_1 (by decide) ?_
  refine r_put (ws' := [(a0, .inr (9, [.ref a1, .ref a2, .ref a3, .ref a4, .ref a5, .ref a6, .ref a7, .ref a8, .ref a9, .int 0, .int 0, .int 0, .int 0, .int 12, .int 1, .int 0, .int 0, .int 0])), (a5, .inl (T 0, 9, .inl (fun _ => 0))), (a6, .inl (T 0, 9, .inl (fun _ => 0))), (a7, .inl (T 0, 9, .inl (fun _ => 0)))]) M w 0 9 clX9 rfl (by decide) G387 rfl rfl rfl rfl (Nat.le_of_ble_eq_true rfl) rfl dX9_clear_2 (fun H locs w => ?_)
  refine lv_aload_n hx hb dX9_clear_5 rfl (lv_at hl 0 rfl) ?_
  refine lv_iconst (v := 0) hx hb dX9_clear_6 (by decide) ?_
  refine r_put (ws' := [(a0, .inr (9, [.ref a1, .ref a2, .ref a3, .ref a4, .ref a5, .ref a6, .ref a7, .ref a8, .ref a9, .int 0, .int 0, .int 0, .int 0, .int 12, .int 1, .int 0, .int 0, .int 0])), (a5, .inl (T 0, 9, .inl (fun _ => 0))), (a6, .inl (T 0, 9, .inl (fun _ => 0))), (a7, .inl (T 0, 9, .inl (fun _ => 0)))]) M w 0 10 clX9 rfl (by decide) G393 rfl rfl rfl rfl (Nat.le_of_ble_eq_true rfl) rfl dX9_clear_7 (fun H locs w => ?_)
  refine lv_aload_n hx hb dX9_clear_10 rfl (lv_at hl 0 rfl) ?_
  refine lv_iconst (v := 0) hx hb dX9_clear_11 (by decide) ?_
  refine r_put (ws' := [(a0, .inr (9, [.ref a1, .ref a2, .ref a3, .ref a4, .ref a5, .ref a6, .ref a7, .ref a8, .ref a9, .int 0, .int 0, .int 0, .int 0, .int 12, .int 1, .int 0, .int 0, .int 0])), (a5, .inl (T 0, 9, .inl (fun _ => 0))), (a6, .inl (T 0, 9, .inl (fun _ => 0))), (a7, .inl (T 0, 9, .inl (fun _ => 0)))]) M w 0 12 clX9 rfl (by decide) G398 rfl rfl rfl rfl (Nat.le_of_ble_eq_true rfl) rfl dX9_clear_12 (fun H locs w => ?_)
  refine lv_aload_n hx hb dX9_clear_15 rfl (lv_at hl 0 rfl) ?_
  refine lv_bipush (v := 12) hx hb dX9_clear_16 (by decide) ?_
  refine r_put (ws' := [(a0, .inr (9, [.ref a1, .ref a2, .ref a3, .ref a4, .ref a5, .ref a6, .ref a7, .ref a8, .ref a9, .int 0, .int 0, .int 0, .int 0, .int 12, .int 1, .int 0, .int 0, .int 0])), (a5, .inl (T 0, 9, .inl (fun _ => 0))), (a6, .inl (T 0, 9, .inl (fun _ => 0))), (a7, .inl (T 0, 9, .inl (fun _ => 0)))]) M w 0 13 clX9 rfl (by decide) G400 rfl rfl rfl rfl (Nat.le_of_ble_eq_true rfl) rfl dX9_clear_18 (fun H locs w => ?_)
  refine lv_aload_n hx hb dX9_clear_21 rfl (lv_at hl 0 rfl) ?_
  refine lv_iconst (v := 1) hx hb dX9_clear_22 (by decide) ?_
  refine r_put (ws' := [(a0, .inr (9, [.ref a1, .ref a2, .ref a3, .ref a4, .ref a5, .ref a6, .ref a7, .ref a8, .ref a9, .int 0, .int 0, .int 0, .int 0, .int 12, .int 1, .int 0, .int 0, .int 0])), (a5, .inl (T 0, 9, .inl (fun _ => 0))), (a6, .inl (T 0, 9, .inl (fun _ => 0))), (a7, .inl (T 0, 9, .inl (fun _ => 0)))]) M w 0 14 clX9 rfl (by decide) G402 rfl rfl rfl rfl (Nat.le_of_ble_eq_true rfl) rfl dX9_clear_23 (fun H locs w => ?_)
  refine lv_aload_n hx hb dX9_clear_26 rfl (lv_at hl 0 rfl) ?_
  refine lv_iconst (v := 0) hx hb dX9_clear_27 (by decide) ?_
  refine r_put (ws' := [(a0, .inr (9, [.ref a1, .ref a2, .ref a3, .ref a4, .ref a5, .ref a6, .ref a7, .ref a8, .ref a9, .int 0, .int 0, .int 0, .int 0, .int 12, .int 1, .int 0, .int 0, .int 0])), (a5, .inl (T 0, 9, .inl (fun _ => 0))), (a6, .inl (T 0, 9, .inl (fun _ => 0))), (a7, .inl (T 0, 9, .inl (fun _ => 0)))]) M w 0 15 clX9 rfl (by decide) G404 rfl rfl (by decide +kernel) (by decide +kernel) (Nat.le_of_ble_eq_true rfl) rfl dX9_clear_28 (fun H locs w => ?_)
  refine lv_aload_n hx hb dX9_clear_31 rfl (lv_at hl 0 rfl) ?_
  refine lv_iconst (v := 0) hx hb dX9_clear_32 (by decide) ?_
  refine r_put (ws' := [(a0, .inr (9, [.ref a1, .ref a2, .ref a3, .ref a4, .ref a5, .ref a6, .ref a7, .ref a8, .ref a9, .int 0, .int 0, .int 0, .int 0, .int 12, .int 1, .int 0, .int 0, .int 0])), (a5, .inl (T 0, 9, .inl (fun _ => 0))), (a6, .inl (T 0, 9, .inl (fun _ => 0))), (a7, .inl (T 0, 9, .inl (fun _ => 0)))]) M w 0 16 clX9 rfl (by decide) G405 rfl rfl (by decide +kernel) (by decide +kernel) (Nat.le_of_ble_eq_true rfl) rfl dX9_clear_33 (fun H locs w => ?_)
  refine lv_aload_n hx hb dX9_clear_36 rfl (lv_at hl 0 rfl) ?_
  refine lv_iconst (v := 0) hx hb dX9_clear_37 (by decide) ?_
  refine r_put (ws' := [(a0, .inr (9, [.ref a1, .ref a2, .ref a3, .ref a4, .ref a5, .ref a6, .ref a7, .ref a8, .ref a9, .int 0, .int 0, .int 0, .int 0, .int 12, .int 1, .int 0, .int 0, .int 0])), (a5, .inl (T 0, 9, .inl (fun _ => 0))), (a6, .inl (T 0, 9, .inl (fun _ => 0))), (a7, .inl (T 0, 9, .inl (fun _ => 0)))]) M w 0 17 clX9 rfl (by decide) G406 rfl rfl (by decide +kernel) (by decide +kernel) (Nat.le_of_ble_eq_true rfl) rfl dX9_clear_38 (fun H locs w => ?_)
  refine lv_aload_n hx hb dX9_clear_41 rfl (lv_at hl 0 rfl) ?_
  refine r_get (v := .ref a5) M w 0 4 clX9 rfl (by decide) G375 rfl rfl dX9_clear_42 ?_
  refine lv_iconst (v := 0) hx hb dX9_clear_45 (by decide) ?_
  refine k_V (ce := 0) (sl := 0) (rest := []) (wr := [(a0, .inr (9, [.ref a1, .ref a2, .ref a3, .ref a4, .ref a5, .ref a6, .ref a7, .ref a8, .ref a9, .int 0, .int 0, .int 0, .int 0, .int 12, .int 1, .int 0, .int 0, .int 0])), (a6, .inl (T 0, 9, .inl (fun _ => 0))), (a7, .inl (T 0, 9, .inl (fun _ => 0)))]) (r_S (f := 0) [1] M w V_HookedCity_Town_69 G290 (c32_J7_fill_53178 l D T _ a5) rfl (by decide) rfl hl.1 rfl (Nat.le_of_ble_eq_true rfl) dX9_clear_46 (by decide) (by decide) (by decide) (by decide)) w [1] [0, 2, 3] rfl rfl (by decide) (by decide) rfl rfl (fun _ H locs hp w => ?_)
  have w : WD D A s.heap [(a0, .inr (9, [.ref a1, .ref a2, .ref a3, .ref a4, .ref a5, .ref a6, .ref a7, .ref a8, .ref a9, .int 0, .int 0, .int 0, .int 0, .int 12, .int 1, .int 0, .int 0, .int 0])), (a6, .inl (T 0, 9, .inl (fun _ => 0))), (a7, .inl (T 0, 9, .inl (fun _ => 0))), (a5, .inl (T 0, 9, .inl cn46))] H locs := w
  refine lv_aload_n hx hb dX9_clear_49 rfl (lv_at hl 0 rfl) ?_
  refine r_get (v := .ref a6) M w 0 5 clX9 rfl (by decide) G379 rfl rfl dX9_clear_50 ?_
  refine lv_iconst (v := (-1)) hx hb dX9_clear_53 (by decide) ?_
  refine k_V (ce := 0) (sl := 0) (rest := []) (wr := [(a0, .inr (9, [.ref a1, .ref a2, .ref a3, .ref a4, .ref a5, .ref a6, .ref a7, .ref a8, .ref a9, .int 0, .int 0, .int 0, .int 0, .int 12, .int 1, .int 0, .int 0, .int 0])), (a7, .inl (T 0, 9, .inl (fun _ => 0))), (a5, .inl (T 0, 9, .inl cn46))]) (r_S (f := 0) [1] M w V_HookedCity_Town_69 G290 (c4_J7_fill_53178 l D T _ a6) rfl (by decide) rfl hl.1 rfl (Nat.le_of_ble_eq_true rfl) dX9_clear_54 (by decide) (by decide) (by decide) (by decide)) w [1] [0, 2, 3] rfl rfl (by decide) (by decide) rfl rfl (fun _ H locs hp w => ?_)
  have w : WD D A s.heap [(a0, .inr (9, [.ref a1, .ref a2, .ref a3, .ref a4, .ref a5, .ref a6, .ref a7, .ref a8, .ref a9, .int 0, .int 0, .int 0, .int 0, .int 12, .int 1, .int 0, .int 0, .int 0])), (a7, .inl (T 0, 9, .inl (fun _ => 0))), (a5, .inl (T 0, 9, .inl cn46)), (a6, .inl (T 0, 9, .inl cn6))] H locs := w
  refine lv_aload_n hx hb dX9_clear_57 rfl (lv_at hl 0 rfl) ?_
  refine r_get (v := .ref a7) M w 0 6 clX9 rfl (by decide) G381 rfl rfl dX9_clear_58 ?_
  refine lv_iconst (v := (-1)) hx hb dX9_clear_61 (by decide) ?_
  refine k_V (ce := 0) (sl := 0) (rest := []) (wr := [(a0, .inr (9, [.ref a1, .ref a2, .ref a3, .ref a4, .ref a5, .ref a6, .ref a7, .ref a8, .ref a9, .int 0, .int 0, .int 0, .int 0, .int 12, .int 1, .int 0, .int 0, .int 0])), (a5, .inl (T 0, 9, .inl cn46)), (a6, .inl (T 0, 9, .inl cn6))]) (r_S (f := 0) [1] M w V_HookedCity_Town_69 G290 (c4_J7_fill_53178 l D T _ a7) rfl (by decide) rfl hl.1 rfl (Nat.le_of_ble_eq_true rfl) dX9_clear_62 (by decide) (by decide) (by decide) (by decide)) w [1] [0, 2, 3] rfl rfl (by decide) (by decide) rfl rfl (fun _ H locs hp w => ?_)
  have w : WD D A s.heap [(a0, .inr (9, [.ref a1, .ref a2, .ref a3, .ref a4, .ref a5, .ref a6, .ref a7, .ref a8, .ref a9, .int 0, .int 0, .int 0, .int 0, .int 12, .int 1, .int 0, .int 0, .int 0])), (a5, .inl (T 0, 9, .inl cn46)), (a6, .inl (T 0, 9, .inl cn6)), (a7, .inl (T 0, 9, .inl cn6))] H locs := w
  exact ret () _ _ _ _ _ [0, 1, 2, 3] dX9_clear_65 trivial w (by decide) rfl
set_option maxRecDepth 100000 in
set_option maxHeartbeats 4000000 in
theorem c34_X8_step (l : Launch) (D : va_G) (T : Nat → ClassId) (sz : Nat) (a0 a1 : Nat) : Met l yX8_step (Cond.code yX8_step cX8_step 1 none :: GW) (Rm 0 0 0) (cPre [.ref a0] D T [(a0, .inr (8, [.ref a1, .int 0, .int 900, .int 0, .int 0, .int 0, .null, .long 0, .int 0, .int 0, .int 0, .int 0]))] sz) (qV D [(a0, .inr (8, [.ref a1, .int 0, .int 900, .int 0, .int 0, .int 0, .null, .long 0, .int 0, .int 0, .int 0, .int 0]))] sz (fun (u : Unit) => True) (fun u => [(a0, .inr (8, [.ref a1, .int 0, .int 900, .int 0, .int 0, .int 0, .null, .long 0, .int 0, .int 0, .int 0, .int 0]))])) 0 0 (va_A [(a0, .inr (8, [.ref a1, .int 0, .int 900, .int 0, .int 0, .int 0, .null, .long 0, .int 0, .int 0, .int 0, .int 0]))] sz) := by
  refine e_V (by decide) (Nat.le_of_ble_eq_true rfl) ?_
  intro p e s m args below meth c A Q ls M hin w ret hl
  have hx := M.1.1
  have hb := M.1.2.1
  have hl : lv_has ls 1 [(0, .ref a0)] := hl
  refine lv_aload_n hx hb dX8_step_0 rfl (lv_at hl 0 rfl) ?_
  refine r_get (v := .int 0) M w 0 3 clX8 rfl (by decide) G166 rfl rfl dX8_step_1 ?_
  refine lv_aload_n hx hb dX8_step_4 rfl (lv_at hl 0 rfl) ?_
  refine r_get (v := .int 0) M w 0 1 clX8 rfl (by decide) G162 rfl rfl dX8_step_5 ?_
  refine lv_icmp_ge (tgt := 52) hx hb dX8_step_8 (by decide) (fun _ => ?_) (fun c => absurd (by decide +kernel) c)
  refine lv_aload_n hx hb dX8_step_52 rfl (lv_at hl 0 rfl) ?_
  refine lv_aload_n hx hb dX8_step_53 rfl (lv_at hl 0 rfl) ?_
  refine r_get (v := .int 0) M w 0 3 clX8 rfl (by decide) G166 rfl rfl dX8_step_54 ?_
  refine r_put (ws' := [(a0, .inr (8, [.ref a1, .int 0, .int 900, .int 0, .int 0, .int 0, .null, .long 0, .int 0, .int 0, .int 0, .int 0]))]) M w 0 4 clX8 rfl (by decide) G167 rfl rfl rfl rfl (Nat.le_of_ble_eq_true rfl) rfl dX8_step_57 (fun H locs w => ?_)
  refine lv_aload_n hx hb dX8_step_60 rfl (lv_at hl 0 rfl) ?_
  refine lv_null hx hb dX8_step_61 ?_
  refine r_put (ws' := [(a0, .inr (8, [.ref a1, .int 0, .int 900, .int 0, .int 0, .int 0, .null, .long 0, .int 0, .int 0, .int 0, .int 0]))]) M w 0 6 clX8 rfl (by decide) G170 rfl rfl rfl rfl (Nat.le_of_ble_eq_true rfl) rfl dX8_step_62 (fun H locs w => ?_)
  refine lv_aload_n hx hb dX8_step_65 rfl (lv_at hl 0 rfl) ?_
  refine r_get (v := .int 0) M w 0 1 clX8 rfl (by decide) G162 rfl rfl dX8_step_66 ?_
  refine lv_aload_n hx hb dX8_step_69 rfl (lv_at hl 0 rfl) ?_
  refine r_get (v := .int 900) M w 0 2 clX8 rfl (by decide) G165 rfl rfl dX8_step_70 ?_
  refine lv_icmp_le (tgt := 103) hx hb dX8_step_73 (by decide) (fun _ => ?_) (fun c => absurd (by decide +kernel) c)
  refine lv_aload_n hx hb dX8_step_103 rfl (lv_at hl 0 rfl) ?_
  refine r_get (v := .int 0) M w 0 3 clX8 rfl (by decide) G166 rfl rfl dX8_step_104 ?_
  refine lv_aload_n hx hb dX8_step_107 rfl (lv_at hl 0 rfl) ?_
  refine r_get (v := .int 0) M w 0 1 clX8 rfl (by decide) G162 rfl rfl dX8_step_108 ?_
  refine lv_icmp_lt (tgt := 122) hx hb dX8_step_111 (by decide) (fun c => absurd c (by decide +kernel)) (fun _ => ?_)
  refine lv_aload_n hx hb dX8_step_114 rfl (lv_at hl 0 rfl) ?_
  refine lv_iconst (v := 0) hx hb dX8_step_115 (by decide) ?_
  refine r_put (ws' := [(a0, .inr (8, [.ref a1, .int 0, .int 900, .int 0, .int 0, .int 0, .null, .long 0, .int 0, .int 0, .int 0, .int 0]))]) M w 0 5 clX8 rfl (by decide) G168 rfl rfl rfl rfl (Nat.le_of_ble_eq_true rfl) rfl dX8_step_116 (fun H locs w => ?_)
  refine lv_goto (tgt := 204) hx hb dX8_step_119 (by decide) ?_
  exact ret () _ _ _ _ _ [0] dX8_step_204 trivial w (by decide) rfl
set_option maxRecDepth 100000 in
set_option maxHeartbeats 4000000 in
theorem c35_X8_open (l : Launch) (D : va_G) (T : Nat → ClassId) (sz : Nat) (a0 a1 : Nat) : Met l yX8_open (Cond.code yX8_open cX8_open 2 none :: GW) (Rm 1 0 0) (cPre [.ref a0, .int 900] D T [(a0, .inr (8, [.ref a1, .int 0, .int 0, .int 0, .int 0, .int 0, .null, .long 0, .int 0, .int 0, .int 0, .int 0]))] sz) (qV D [(a0, .inr (8, [.ref a1, .int 0, .int 0, .int 0, .int 0, .int 0, .null, .long 0, .int 0, .int 0, .int 0, .int 0]))] sz (fun (u : Unit) => True) (fun u => [(a0, .inr (8, [.ref a1, .int 0, .int 900, .int 0, .int 0, .int 0, .null, .long 0, .int 0, .int 0, .int 0, .int 0]))])) 0 0 (va_A [(a0, .inr (8, [.ref a1, .int 0, .int 0, .int 0, .int 0, .int 0, .null, .long 0, .int 0, .int 0, .int 0, .int 0]))] sz) := by
  refine e_V (by decide) (Nat.le_of_ble_eq_true rfl) ?_
  intro p e s m args below meth c A Q ls M hin w ret hl
  have hx := M.1.1
  have hb := M.1.2.1
  have hl : lv_has ls 2 [(0, .ref a0), (1, .int 900)] := hl
  refine lv_aload_n hx hb dX8_open_0 rfl (lv_at hl 0 rfl) ?_
  refine lv_iload_n hx hb dX8_open_1 rfl (lv_at hl 1 rfl) ?_
  refine r_put (ws' := [(a0, .inr (8, [.ref a1, .int 0, .int 900, .int 0, .int 0, .int 0, .null, .long 0, .int 0, .int 0, .int 0, .int 0]))]) M w 0 2 clX8 rfl (by decide) G165 rfl rfl rfl rfl (Nat.le_of_ble_eq_true rfl) rfl dX8_open_2 (fun H locs w => ?_)
  refine lv_aload_n hx hb dX8_open_5 rfl (lv_at hl 0 rfl) ?_
  refine lv_iconst (v := 0) hx hb dX8_open_6 (by decide) ?_
  refine r_put (ws' := [(a0, .inr (8, [.ref a1, .int 0, .int 900, .int 0, .int 0, .int 0, .null, .long 0, .int 0, .int 0, .int 0, .int 0]))]) M w 0 3 clX8 rfl (by decide) G166 rfl rfl rfl rfl (Nat.le_of_ble_eq_true rfl) rfl dX8_open_7 (fun H locs w => ?_)
  refine lv_aload_n hx hb dX8_open_10 rfl (lv_at hl 0 rfl) ?_
  refine lv_iconst (v := 0) hx hb dX8_open_11 (by decide) ?_
  refine r_put (ws' := [(a0, .inr (8, [.ref a1, .int 0, .int 900, .int 0, .int 0, .int 0, .null, .long 0, .int 0, .int 0, .int 0, .int 0]))]) M w 0 10 clX8 rfl (by decide) G179 rfl rfl rfl rfl (Nat.le_of_ble_eq_true rfl) rfl dX8_open_12 (fun H locs w => ?_)
  refine lv_aload_n hx hb dX8_open_15 rfl (lv_at hl 0 rfl) ?_
  refine lv_iconst (v := 0) hx hb dX8_open_16 (by decide) ?_
  refine r_put (ws' := [(a0, .inr (8, [.ref a1, .int 0, .int 900, .int 0, .int 0, .int 0, .null, .long 0, .int 0, .int 0, .int 0, .int 0]))]) M w 0 11 clX8 rfl (by decide) G181 rfl rfl rfl rfl (Nat.le_of_ble_eq_true rfl) rfl dX8_open_17 (fun H locs w => ?_)
  refine lv_aload_n hx hb dX8_open_20 rfl (lv_at hl 0 rfl) ?_
  refine k_V (ce := 0) (sl := 0) (rest := []) (wr := []) (r_V (f := 0) [0] M w V_HookedCity_Tape_55 G587 G588 (c34_X8_step l D T _ a0 a1) 0 clX8 rfl rfl (by decide) rfl hl.1 rfl (Nat.le_of_ble_eq_true rfl) dX8_open_21 (by decide) (by decide) (by decide) (by decide)) w [0] [] rfl rfl (by decide) (by decide) rfl rfl (fun _ H locs hp w => ?_)
  have w : WD D A s.heap [(a0, .inr (8, [.ref a1, .int 0, .int 900, .int 0, .int 0, .int 0, .null, .long 0, .int 0, .int 0, .int 0, .int 0]))] H locs := w
  exact ret () _ _ _ _ _ [0] dX8_open_24 trivial w (by decide) rfl
set_option maxRecDepth 100000 in
set_option maxHeartbeats 4000000 in
theorem c36_X8_atEnd (l : Launch) (D : va_G) (T : Nat → ClassId) (sz : Nat) (a0 a1 : Nat) : Met l yX8_atEnd (Cond.code yX8_atEnd cX8_atEnd 1 (some .boolean) :: GW) (Rm 0 0 0) (cPre [.ref a0] D T [(a0, .inr (8, [.ref a1, .int 0, .int 900, .int 0, .int 0, .int 0, .null, .long 0, .int 0, .int 0, .int 0, .int 0]))] sz) (qI D [(a0, .inr (8, [.ref a1, .int 0, .int 900, .int 0, .int 0, .int 0, .null, .long 0, .int 0, .int 0, .int 0, .int 0]))] sz (fun (v : Int32) (u : Unit) => (1 : Int32) = v) (fun u => [(a0, .inr (8, [.ref a1, .int 0, .int 900, .int 0, .int 0, .int 0, .null, .long 0, .int 0, .int 0, .int 0, .int 0]))])) 0 0 (va_A [(a0, .inr (8, [.ref a1, .int 0, .int 900, .int 0, .int 0, .int 0, .null, .long 0, .int 0, .int 0, .int 0, .int 0]))] sz) := by
  refine e_Z (by decide) (Nat.le_of_ble_eq_true rfl) ?_
  intro p e s m args below meth c A Q ls M hin w ret hl
  have hx := M.1.1
  have hb := M.1.2.1
  have hl : lv_has ls 1 [(0, .ref a0)] := hl
  refine lv_aload_n hx hb dX8_atEnd_0 rfl (lv_at hl 0 rfl) ?_
  refine r_get (v := .int 0) M w 0 5 clX8 rfl (by decide) G168 rfl rfl dX8_atEnd_1 ?_
  refine lv_if_ne (tgt := 11) hx hb dX8_atEnd_4 (by decide) (fun c => absurd (by decide +kernel) c) (fun _ => ?_)
  refine lv_iconst (v := 1) hx hb dX8_atEnd_7 (by decide) ?_
  refine lv_goto (tgt := 12) hx hb dX8_atEnd_8 (by decide) ?_
  exact ret _ () _ _ _ _ _ [0] dX8_atEnd_12 (by decide +kernel) rfl w (by decide) rfl
set_option maxRecDepth 100000 in
set_option maxHeartbeats 4000000 in
theorem c37_X9_read (l : Launch) (D : va_G) (T : Nat → ClassId) (sz : Nat) (a0 a1 a2 a3 a4 a5 a6 a7 a8 a9 a10 a11 : Nat) : Met l yX9_read (Cond.code yX9_read cX9_read 2 (some .boolean) :: GW) (Rm 2 0 0) (cPre [.ref a0, .ref a1] D T [(a0, .inr (9, [.ref a2, .ref a3, .ref a4, .ref a5, .ref a6, .ref a7, .ref a8, .ref a9, .ref a10, .int 0, .int 0, .int 0, .int 0, .int 12, .int 1, .int 0, .int 0, .int 0])), (a1, .inr (8, [.ref a11, .int 0, .int 0, .int 0, .int 0, .int 0, .null, .long 0, .int 0, .int 0, .int 0, .int 0])), (a6, .inl (T 0, 9, .inl (fun _ => 0))), (a7, .inl (T 0, 9, .inl (fun _ => 0))), (a8, .inl (T 0, 9, .inl (fun _ => 0)))] sz) (qI D [(a0, .inr (9, [.ref a2, .ref a3, .ref a4, .ref a5, .ref a6, .ref a7, .ref a8, .ref a9, .ref a10, .int 0, .int 0, .int 0, .int 0, .int 12, .int 1, .int 0, .int 0, .int 0])), (a1, .inr (8, [.ref a11, .int 0, .int 0, .int 0, .int 0, .int 0, .null, .long 0, .int 0, .int 0, .int 0, .int 0])), (a6, .inl (T 0, 9, .inl (fun _ => 0))), (a7, .inl (T 0, 9, .inl (fun _ => 0))), (a8, .inl (T 0, 9, .inl (fun _ => 0)))] sz (fun (v : Int32) (u : Unit) => (1 : Int32) = v) (fun u => [(a0, .inr (9, [.ref a2, .ref a3, .ref a4, .ref a5, .ref a6, .ref a7, .ref a8, .ref a9, .ref a10, .int 0, .int 0, .int 0, .int 0, .int 12, .int 1, .int 0, .int 0, .int 0])), (a1, .inr (8, [.ref a11, .int 0, .int 900, .int 0, .int 0, .int 0, .null, .long 0, .int 0, .int 0, .int 0, .int 0])), (a6, .inl (T 0, 9, .inl cn46)), (a7, .inl (T 0, 9, .inl cn6)), (a8, .inl (T 0, 9, .inl cn6))])) 0 0 (va_A [(a0, .inr (9, [.ref a2, .ref a3, .ref a4, .ref a5, .ref a6, .ref a7, .ref a8, .ref a9, .ref a10, .int 0, .int 0, .int 0, .int 0, .int 12, .int 1, .int 0, .int 0, .int 0])), (a1, .inr (8, [.ref a11, .int 0, .int 0, .int 0, .int 0, .int 0, .null, .long 0, .int 0, .int 0, .int 0, .int 0])), (a6, .inl (T 0, 9, .inl (fun _ => 0))), (a7, .inl (T 0, 9, .inl (fun _ => 0))), (a8, .inl (T 0, 9, .inl (fun _ => 0)))] sz) := by
  refine e_Z (by decide) (Nat.le_of_ble_eq_true rfl) ?_
  intro p e s m args below meth c A Q ls M hin w ret hl
  have hx := M.1.1
  have hb := M.1.2.1
  have hl : lv_has ls 2 [(0, .ref a0), (1, .ref a1)] := hl
  refine lv_aload_n hx hb dX9_read_0 rfl (lv_at hl 0 rfl) ?_
  refine k_V (ce := 0) (sl := 0) (rest := []) (wr := [(a1, .inr (8, [.ref a11, .int 0, .int 0, .int 0, .int 0, .int 0, .null, .long 0, .int 0, .int 0, .int 0, .int 0]))]) (r_V (f := 1) [0, 2, 3, 4] M w V_HookedCity_Town_81 G579 G1 (c33_X9_clear l D T _ a0 a2 a3 a4 a5 a6 a7 a8 a9 a10) 0 clX9 rfl rfl (by decide) rfl hl.1 rfl (Nat.le_of_ble_eq_true rfl) dX9_read_1 (by decide) (by decide) (by decide) (by decide)) w [0, 2, 3, 4] [1] rfl rfl (by decide) (by decide) rfl rfl (fun _ H locs hp w => ?_)
  have w : WD D A s.heap [(a1, .inr (8, [.ref a11, .int 0, .int 0, .int 0, .int 0, .int 0, .null, .long 0, .int 0, .int 0, .int 0, .int 0])), (a0, .inr (9, [.ref a2, .ref a3, .ref a4, .ref a5, .ref a6, .ref a7, .ref a8, .ref a9, .ref a10, .int 0, .int 0, .int 0, .int 0, .int 12, .int 1, .int 0, .int 0, .int 0])), (a6, .inl (T 0, 9, .inl cn46)), (a7, .inl (T 0, 9, .inl cn6)), (a8, .inl (T 0, 9, .inl cn6))] H locs := w
  refine lv_aload_n hx hb dX9_read_4 rfl (lv_at hl 1 rfl) ?_
  refine lv_sipush (v := 900) hx hb dX9_read_5 (by decide) ?_
  refine k_V (ce := 0) (sl := 0) (rest := []) (wr := [(a0, .inr (9, [.ref a2, .ref a3, .ref a4, .ref a5, .ref a6, .ref a7, .ref a8, .ref a9, .ref a10, .int 0, .int 0, .int 0, .int 0, .int 12, .int 1, .int 0, .int 0, .int 0])), (a6, .inl (T 0, 9, .inl cn46)), (a7, .inl (T 0, 9, .inl cn6)), (a8, .inl (T 0, 9, .inl cn6))]) (r_V (f := 1) [0] M w V_HookedCity_Town_84 G583 G584 (c35_X8_open l D T _ a1 a11) 0 clX8 rfl rfl (by decide) rfl hl.1 rfl (Nat.le_of_ble_eq_true rfl) dX9_read_8 (by decide) (by decide) (by decide) (by decide)) w [0] [1, 2, 3, 4] rfl rfl (by decide) (by decide) rfl rfl (fun _ H locs hp w => ?_)
  have w : WD D A s.heap [(a0, .inr (9, [.ref a2, .ref a3, .ref a4, .ref a5, .ref a6, .ref a7, .ref a8, .ref a9, .ref a10, .int 0, .int 0, .int 0, .int 0, .int 12, .int 1, .int 0, .int 0, .int 0])), (a6, .inl (T 0, 9, .inl cn46)), (a7, .inl (T 0, 9, .inl cn6)), (a8, .inl (T 0, 9, .inl cn6)), (a1, .inr (8, [.ref a11, .int 0, .int 900, .int 0, .int 0, .int 0, .null, .long 0, .int 0, .int 0, .int 0, .int 0]))] H locs := w
  refine lv_aload_n hx hb dX9_read_11 rfl (lv_at hl 0 rfl) ?_
  refine lv_iconst (v := 0) hx hb dX9_read_12 (by decide) ?_
  refine r_put (ws' := [(a0, .inr (9, [.ref a2, .ref a3, .ref a4, .ref a5, .ref a6, .ref a7, .ref a8, .ref a9, .ref a10, .int 0, .int 0, .int 0, .int 0, .int 12, .int 1, .int 0, .int 0, .int 0])), (a6, .inl (T 0, 9, .inl cn46)), (a7, .inl (T 0, 9, .inl cn6)), (a8, .inl (T 0, 9, .inl cn6)), (a1, .inr (8, [.ref a11, .int 0, .int 900, .int 0, .int 0, .int 0, .null, .long 0, .int 0, .int 0, .int 0, .int 0]))]) M w 0 11 clX9 rfl (by decide) G396 rfl rfl rfl rfl (Nat.le_of_ble_eq_true rfl) rfl dX9_read_13 (fun H locs w => ?_)
  refine lv_aload_n hx hb dX9_read_16 rfl (lv_at hl 0 rfl) ?_
  refine r_get (v := .int 0) M w 0 11 clX9 rfl (by decide) G396 rfl rfl dX9_read_17 ?_
  refine lv_sipush (v := 900) hx hb dX9_read_20 (by decide) ?_
  refine lv_icmp_ge (tgt := 65) hx hb dX9_read_23 (by decide) (fun c => absurd c (by decide +kernel)) (fun _ => ?_)
  refine lv_aload_n hx hb dX9_read_26 rfl (lv_at hl 1 rfl) ?_
  refine k_I (ce := 0) (sl := 0) (rest := []) (wr := [(a0, .inr (9, [.ref a2, .ref a3, .ref a4, .ref a5, .ref a6, .ref a7, .ref a8, .ref a9, .ref a10, .int 0, .int 0, .int 0, .int 0, .int 12, .int 1, .int 0, .int 0, .int 0])), (a6, .inl (T 0, 9, .inl cn46)), (a7, .inl (T 0, 9, .inl cn6)), (a8, .inl (T 0, 9, .inl cn6))]) (r_V (f := 0) [4] M w V_HookedCity_Town_90 G696 G697 (c36_X8_atEnd l D T _ a1 a11) 4 clX8 rfl rfl (by decide) rfl hl.1 rfl (Nat.le_of_ble_eq_true rfl) dX9_read_27 (by decide) (by decide) (by decide) (by decide)) w [4] [0, 1, 2, 3] rfl rfl (by decide) (by decide) rfl rfl (fun v _ H locs hp w => ?_)
  have hp : (1 : Int32) = v := hp
  subst hp
  have w : WD D A s.heap [(a0, .inr (9, [.ref a2, .ref a3, .ref a4, .ref a5, .ref a6, .ref a7, .ref a8, .ref a9, .ref a10, .int 0, .int 0, .int 0, .int 0, .int 12, .int 1, .int 0, .int 0, .int 0])), (a6, .inl (T 0, 9, .inl cn46)), (a7, .inl (T 0, 9, .inl cn6)), (a8, .inl (T 0, 9, .inl cn6)), (a1, .inr (8, [.ref a11, .int 0, .int 900, .int 0, .int 0, .int 0, .null, .long 0, .int 0, .int 0, .int 0, .int 0]))] H locs := w
  refine lv_if_ne (tgt := 65) hx hb dX9_read_30 (by decide) (fun _ => ?_) (fun c => absurd c (by decide +kernel))
  refine lv_iconst (v := 1) hx hb dX9_read_65 (by decide) ?_
  exact ret _ () _ _ _ _ _ [0, 4, 1, 2, 3] dX9_read_66 (by decide +kernel) rfl w (by decide) rfl
set_option maxRecDepth 100000 in
set_option maxHeartbeats 4000000 in
theorem c38_X8_empty (l : Launch) (D : va_G) (T : Nat → ClassId) (sz : Nat) (a0 a1 : Nat) : Met l yX8_empty (Cond.code yX8_empty cX8_empty 1 none :: GW) (Rm 0 0 0) (cPre [.ref a0] D T [(a0, .inr (8, [.ref a1, .int 0, .int 900, .int 0, .int 0, .int 0, .null, .long 0, .int 0, .int 0, .int 0, .int 0]))] sz) (qV D [(a0, .inr (8, [.ref a1, .int 0, .int 900, .int 0, .int 0, .int 0, .null, .long 0, .int 0, .int 0, .int 0, .int 0]))] sz (fun (u : Unit) => True) (fun u => [(a0, .inr (8, [.ref a1, .int 0, .int 900, .int 0, .int 0, .int 0, .null, .long 0, .int 0, .int 0, .int 0, .int 0]))])) 0 0 (va_A [(a0, .inr (8, [.ref a1, .int 0, .int 900, .int 0, .int 0, .int 0, .null, .long 0, .int 0, .int 0, .int 0, .int 0]))] sz) := by
  refine e_V (by decide) (Nat.le_of_ble_eq_true rfl) ?_
  intro p e s m args below meth c A Q ls M hin w ret hl
  have hx := M.1.1
  have hb := M.1.2.1
  have hl : lv_has ls 1 [(0, .ref a0)] := hl
  refine lv_aload_n hx hb dX8_empty_0 rfl (lv_at hl 0 rfl) ?_
  refine lv_iconst (v := 0) hx hb dX8_empty_1 (by decide) ?_
  refine r_put (ws' := [(a0, .inr (8, [.ref a1, .int 0, .int 900, .int 0, .int 0, .int 0, .null, .long 0, .int 0, .int 0, .int 0, .int 0]))]) M w 0 1 clX8 rfl (by decide) G162 rfl rfl rfl rfl (Nat.le_of_ble_eq_true rfl) rfl dX8_empty_2 (fun H locs w => ?_)
  exact ret () _ _ _ _ _ [0] dX8_empty_5 trivial w (by decide) rfl
set_option maxRecDepth 100000 in
set_option maxHeartbeats 4000000 in
theorem c39_J7_fill_53178 (l : Launch) (D : va_G) (T : Nat → ClassId) (sz : Nat) (a0 : Nat) : Met l yJ7_fill_53178 (Cond.code yJ7_fill_53178 cJ7_fill_53178 4 none :: GW) (Rm 0 0 0) (cPre [.ref a0, .int 0] D T [(a0, .inl (T 0, 3, .inl (fun _ => 0)))] sz) (qV D [(a0, .inl (T 0, 3, .inl (fun _ => 0)))] sz (fun (u : Unit) => True) (fun u => [(a0, .inl (T 0, 3, .inl cn9))])) 0 0 (va_A [(a0, .inl (T 0, 3, .inl (fun _ => 0)))] sz) := by
  refine e_V (by decide) (Nat.le_of_ble_eq_true rfl) ?_
  intro p e s m args below meth c A Q ls M hin w ret hl
  have hx := M.1.1
  have hb := M.1.2.1
  have hl : lv_has ls 4 [(0, .ref a0), (1, .int 0)] := hl
  refine lv_iconst (v := 0) hx hb dJ7_fill_53178_0 (by decide) ?_
  refine lv_istore_n (lv' := [(2, .int 0), (0, .ref a0), (1, .int 0)]) hx hb dJ7_fill_53178_1 rfl hl (by decide) rfl (fun ls hl => ?_)
  refine lv_aload_n hx hb dJ7_fill_53178_2 rfl (lv_at hl 1 rfl) ?_
  refine r_alen (v := 3) M w 0 0 rfl rfl rfl dJ7_fill_53178_3 ?_
  refine lv_istore_n (lv' := [(3, .int 3), (2, .int 0), (0, .ref a0), (1, .int 0)]) hx hb dJ7_fill_53178_4 rfl hl (by decide) rfl (fun ls hl => ?_)
  have w : WD D A s.heap [(a0, .inl (T 0, 3, .inl (rngc 0 0 (0 : Int32) (fun _ => 0))))] _ _ := w.to (by simp only [rngc_0])
  have loop : ∀ (k i : Nat) (H : Heap) (locs : List Loc) (ls : Array Slot), 0 ≤ i → i ≤ 3 → 3 < i + k → WD D A s.heap [(a0, .inl (T 0, 3, .inl (rngc 0 i (0 : Int32) (fun _ => 0))))] H locs → lv_has ls 4 [(3, .int 3), (2, .int (nI i)), (0, .ref a0), (1, .int 0)] → W p l e (Rm 0 0 0) s m args below meth c H locs 0 0 Q (F0 m 5 ls []) := by
    intro k
    induction k with
    | zero => intro i H locs ls h0 h1 h2; exact absurd h2 (by omega)
    | succ k ih =>
      intro i H locs ls hi0 hi1 hi2 w hl
      refine lv_iload_n hx hb dJ7_fill_53178_5 rfl (lv_at hl 1 rfl) ?_
      refine lv_iload_n hx hb dJ7_fill_53178_6 rfl (lv_at hl 0 rfl) ?_
      refine lv_icmp_ge (tgt := 20) hx hb dJ7_fill_53178_7 (by decide) (fun c_1 => ?_) (fun c_1 => ?_)
      · have hi2 : 3 ≤ i := ix_exit (n := 3) (by decide) (by omega) (by decide) c_1
        obtain rfl : i = 3 := by omega
        have w : WD D A s.heap [(a0, .inl (T 0, 3, .inl cn9))] H locs := w
        have hl : lv_has ls 4 [(3, .int 3), (2, .int 3), (0, .ref a0), (1, .int 0)] := hl
        exact ret () _ _ _ _ _ [0] dJ7_fill_53178_20 trivial w (by decide) rfl
      · have hi2 : i < 3 := ix_in2 (n := 3) (by decide) (by omega) (by decide) c_1
        refine lv_aload_n hx hb dJ7_fill_53178_10 rfl (lv_at hl 2 rfl) ?_
        refine lv_iload_n hx hb dJ7_fill_53178_11 rfl (lv_at hl 1 rfl) ?_
        refine lv_iload_n hx hb dJ7_fill_53178_12 rfl (lv_at hl 3 rfl) ?_
        refine r_iast (ws' := [(a0, .inl (T 0, 3, .inl (upd (rngc 0 i (0 : Int32) (fun _ => 0)) (Int32.toNatClampNeg (nI i)) (0 : Int32))))]) M w 0 rfl (ix_in (by omega) (by decide)) rfl dJ7_fill_53178_13 (fun H locs w => ?_)
        refine lv_iinc (v := (nI (i + 1))) (lv' := [(2, .int (nI (i + 1))), (3, .int 3), (0, .ref a0), (1, .int 0)]) hx hb dJ7_fill_53178_14 hl (k := 1) rfl (ix_add (k := 1) (by decide) (by omega)) (by decide) rfl (fun ls hl => ?_)
        refine lv_goto (tgt := 5) hx hb dJ7_fill_53178_17 (by decide) ?_
        rw [show (upd (rngc 0 i (0 : Int32) (fun _ => 0)) (Int32.toNatClampNeg (nI i)) (0 : Int32)) = (rngc 0 (i + 1) (0 : Int32) (fun _ => 0)) from rngc_step (nI_clamp (by omega)) (by omega)] at w
        exact ih (i + 1) _ _ _ (by omega) (by omega) (by omega) w (lv_sub hl [1, 0, 2, 3] rfl)
  exact loop 4 0 _ _ _ (by decide) (by decide) (by decide) w hl
set_option maxRecDepth 100000 in
set_option maxHeartbeats 4000000 in
theorem c40_X7_begin (l : Launch) (D : va_G) (T : Nat → ClassId) (sz : Nat) (a0 a1 a2 a3 a4 a5 a6 a7 a8 a9 a10 a11 a12 a13 a14 : Nat) : Met l yX7_begin (Cond.code yX7_begin cX7_begin 2 none :: GW) (Rm 1 0 0) (cPre [.ref a0, .ref a1] D T [(a0, .inr (7, [.ref a2, .ref a3, .ref a4, .ref a5, .int 0, .int 0, .int 0, .int 0])), (a1, .inr (9, [.ref a6, .ref a7, .ref a8, .ref a9, .ref a10, .ref a11, .ref a12, .ref a13, .ref a14, .int 0, .int 0, .int 0, .int 0, .int 12, .int 1, .int 0, .int 0, .int 0])), (a2, .inl (T 0, 9, .inl (fun _ => 0))), (a3, .inl (T 0, 9, .inl (fun _ => 0))), (a4, .inl (T 0, 9, .inl (fun _ => 0))), (a5, .inl (T 0, 3, .inl (fun _ => 0))), (a9, .inl (T 0, 9, .inl (fun _ => 0))), (a11, .inl (T 0, 9, .inl cn6)), (a12, .inl (T 0, 9, .inl cn6))] sz) (qV D [(a0, .inr (7, [.ref a2, .ref a3, .ref a4, .ref a5, .int 0, .int 0, .int 0, .int 0])), (a1, .inr (9, [.ref a6, .ref a7, .ref a8, .ref a9, .ref a10, .ref a11, .ref a12, .ref a13, .ref a14, .int 0, .int 0, .int 0, .int 0, .int 12, .int 1, .int 0, .int 0, .int 0])), (a2, .inl (T 0, 9, .inl (fun _ => 0))), (a3, .inl (T 0, 9, .inl (fun _ => 0))), (a4, .inl (T 0, 9, .inl (fun _ => 0))), (a5, .inl (T 0, 3, .inl (fun _ => 0))), (a9, .inl (T 0, 9, .inl (fun _ => 0))), (a11, .inl (T 0, 9, .inl cn6)), (a12, .inl (T 0, 9, .inl cn6))] sz (fun (u : Unit) => True) (fun u => [(a0, .inr (7, [.ref a2, .ref a3, .ref a4, .ref a5, .int 0, .int 0, .int 0, .int 0])), (a1, .inr (9, [.ref a6, .ref a7, .ref a8, .ref a9, .ref a10, .ref a11, .ref a12, .ref a13, .ref a14, .int 0, .int 0, .int 0, .int 0, .int 12, .int 1, .int 0, .int 0, .int 0])), (a2, .inl (T 0, 9, .inl cn47)), (a3, .inl (T 0, 9, .inl cn48)), (a4, .inl (T 0, 9, .inl cn48)), (a5, .inl (T 0, 3, .inl cn9)), (a9, .inl (T 0, 9, .inl (fun _ => 0))), (a11, .inl (T 0, 9, .inl cn6)), (a12, .inl (T 0, 9, .inl cn6))])) 0 0 (va_A [(a0, .inr (7, [.ref a2, .ref a3, .ref a4, .ref a5, .int 0, .int 0, .int 0, .int 0])), (a1, .inr (9, [.ref a6, .ref a7, .ref a8, .ref a9, .ref a10, .ref a11, .ref a12, .ref a13, .ref a14, .int 0, .int 0, .int 0, .int 0, .int 12, .int 1, .int 0, .int 0, .int 0])), (a2, .inl (T 0, 9, .inl (fun _ => 0))), (a3, .inl (T 0, 9, .inl (fun _ => 0))), (a4, .inl (T 0, 9, .inl (fun _ => 0))), (a5, .inl (T 0, 3, .inl (fun _ => 0))), (a9, .inl (T 0, 9, .inl (fun _ => 0))), (a11, .inl (T 0, 9, .inl cn6)), (a12, .inl (T 0, 9, .inl cn6))] sz) := by
  refine e_V (by decide) (Nat.le_of_ble_eq_true rfl) ?_
  intro p e s m args below meth c A Q ls M hin w ret hl
  have hx := M.1.1
  have hb := M.1.2.1
  have hl : lv_has ls 2 [(0, .ref a0), (1, .ref a1)] := hl
  refine lv_aload_n hx hb dX7_begin_0 rfl (lv_at hl 1 rfl) ?_
  refine r_getN (v := .ref a9) M w 1 3 clX9 rfl (by decide) N373 rfl rfl dX7_begin_1 ?_
  refine lv_iconst (v := 0) hx hb dX7_begin_4 (by decide) ?_
  refine lv_aload_n hx hb dX7_begin_5 rfl (lv_at hl 0 rfl) ?_
  refine r_get (v := .ref a2) M w 0 0 clX7 rfl (by decide) G215 rfl rfl dX7_begin_6 ?_
  refine lv_iconst (v := 0) hx hb dX7_begin_9 (by decide) ?_
  refine lv_bipush (v := 9) hx hb dX7_begin_10 (by decide) ?_
  refine r_copyi (ws' := [(a0, .inr (7, [.ref a2, .ref a3, .ref a4, .ref a5, .int 0, .int 0, .int 0, .int 0])), (a1, .inr (9, [.ref a6, .ref a7, .ref a8, .ref a9, .ref a10, .ref a11, .ref a12, .ref a13, .ref a14, .int 0, .int 0, .int 0, .int 0, .int 12, .int 1, .int 0, .int 0, .int 0])), (a2, .inl (T 0, 9, .inl cn47)), (a3, .inl (T 0, 9, .inl (fun _ => 0))), (a4, .inl (T 0, 9, .inl (fun _ => 0))), (a5, .inl (T 0, 3, .inl (fun _ => 0))), (a9, .inl (T 0, 9, .inl (fun _ => 0))), (a11, .inl (T 0, 9, .inl cn6)), (a12, .inl (T 0, 9, .inl cn6))]) M w 6 2 G794 G796 G795 G140 hl.1 rfl rfl (by decide) (by decide) (by decide) (by decide +kernel) (by decide +kernel) (by decide) (Nat.le_of_ble_eq_true rfl) rfl dX7_begin_12 (fun H locs w => ?_)
  refine lv_aload_n hx hb dX7_begin_15 rfl (lv_at hl 1 rfl) ?_
  refine r_getN (v := .ref a11) M w 1 5 clX9 rfl (by decide) N380 rfl rfl dX7_begin_16 ?_
  refine lv_iconst (v := 0) hx hb dX7_begin_19 (by decide) ?_
  refine lv_aload_n hx hb dX7_begin_20 rfl (lv_at hl 0 rfl) ?_
  refine r_get (v := .ref a3) M w 0 1 clX7 rfl (by decide) G220 rfl rfl dX7_begin_21 ?_
  refine lv_iconst (v := 0) hx hb dX7_begin_24 (by decide) ?_
  refine lv_bipush (v := 9) hx hb dX7_begin_25 (by decide) ?_
  refine r_copyi (ws' := [(a0, .inr (7, [.ref a2, .ref a3, .ref a4, .ref a5, .int 0, .int 0, .int 0, .int 0])), (a1, .inr (9, [.ref a6, .ref a7, .ref a8, .ref a9, .ref a10, .ref a11, .ref a12, .ref a13, .ref a14, .int 0, .int 0, .int 0, .int 0, .int 12, .int 1, .int 0, .int 0, .int 0])), (a2, .inl (T 0, 9, .inl cn47)), (a3, .inl (T 0, 9, .inl cn48)), (a4, .inl (T 0, 9, .inl (fun _ => 0))), (a5, .inl (T 0, 3, .inl (fun _ => 0))), (a9, .inl (T 0, 9, .inl (fun _ => 0))), (a11, .inl (T 0, 9, .inl cn6)), (a12, .inl (T 0, 9, .inl cn6))]) M w 7 3 G794 G796 G795 G140 hl.1 rfl rfl (by decide) (by decide) (by decide) (by decide +kernel) (by decide +kernel) (by decide) (Nat.le_of_ble_eq_true rfl) rfl dX7_begin_27 (fun H locs w => ?_)
  refine lv_aload_n hx hb dX7_begin_30 rfl (lv_at hl 1 rfl) ?_
  refine r_getN (v := .ref a12) M w 1 6 clX9 rfl (by decide) N382 rfl rfl dX7_begin_31 ?_
  refine lv_iconst (v := 0) hx hb dX7_begin_34 (by decide) ?_
  refine lv_aload_n hx hb dX7_begin_35 rfl (lv_at hl 0 rfl) ?_
  refine r_get (v := .ref a4) M w 0 2 clX7 rfl (by decide) G224 rfl rfl dX7_begin_36 ?_
  refine lv_iconst (v := 0) hx hb dX7_begin_39 (by decide) ?_
  refine lv_bipush (v := 9) hx hb dX7_begin_40 (by decide) ?_
  refine r_copyi (ws' := [(a0, .inr (7, [.ref a2, .ref a3, .ref a4, .ref a5, .int 0, .int 0, .int 0, .int 0])), (a1, .inr (9, [.ref a6, .ref a7, .ref a8, .ref a9, .ref a10, .ref a11, .ref a12, .ref a13, .ref a14, .int 0, .int 0, .int 0, .int 0, .int 12, .int 1, .int 0, .int 0, .int 0])), (a2, .inl (T 0, 9, .inl cn47)), (a3, .inl (T 0, 9, .inl cn48)), (a4, .inl (T 0, 9, .inl cn48)), (a5, .inl (T 0, 3, .inl (fun _ => 0))), (a9, .inl (T 0, 9, .inl (fun _ => 0))), (a11, .inl (T 0, 9, .inl cn6)), (a12, .inl (T 0, 9, .inl cn6))]) M w 8 4 G794 G796 G795 G140 hl.1 rfl rfl (by decide) (by decide) (by decide) (by decide +kernel) (by decide +kernel) (by decide) (Nat.le_of_ble_eq_true rfl) rfl dX7_begin_42 (fun H locs w => ?_)
  refine lv_aload_n hx hb dX7_begin_45 rfl (lv_at hl 0 rfl) ?_
  refine r_get (v := .ref a5) M w 0 3 clX7 rfl (by decide) G227 rfl rfl dX7_begin_46 ?_
  refine lv_iconst (v := 0) hx hb dX7_begin_49 (by decide) ?_
  refine k_V (ce := 0) (sl := 0) (rest := []) (wr := [(a0, .inr (7, [.ref a2, .ref a3, .ref a4, .ref a5, .int 0, .int 0, .int 0, .int 0])), (a1, .inr (9, [.ref a6, .ref a7, .ref a8, .ref a9, .ref a10, .ref a11, .ref a12, .ref a13, .ref a14, .int 0, .int 0, .int 0, .int 0, .int 12, .int 1, .int 0, .int 0, .int 0])), (a2, .inl (T 0, 9, .inl cn47)), (a3, .inl (T 0, 9, .inl cn48)), (a4, .inl (T 0, 9, .inl cn48)), (a9, .inl (T 0, 9, .inl (fun _ => 0))), (a11, .inl (T 0, 9, .inl cn6)), (a12, .inl (T 0, 9, .inl cn6))]) (r_S (f := 0) [5] M w V_HookedCity_State_50 G290 (c39_J7_fill_53178 l D T _ a5) rfl (by decide) rfl hl.1 rfl (Nat.le_of_ble_eq_true rfl) dX7_begin_50 (by decide) (by decide) (by decide) (by decide)) w [5] [0, 1, 2, 3, 4, 6, 7, 8] rfl rfl (by decide) (by decide) rfl rfl (fun _ H locs hp w => ?_)
  have w : WD D A s.heap [(a0, .inr (7, [.ref a2, .ref a3, .ref a4, .ref a5, .int 0, .int 0, .int 0, .int 0])), (a1, .inr (9, [.ref a6, .ref a7, .ref a8, .ref a9, .ref a10, .ref a11, .ref a12, .ref a13, .ref a14, .int 0, .int 0, .int 0, .int 0, .int 12, .int 1, .int 0, .int 0, .int 0])), (a2, .inl (T 0, 9, .inl cn47)), (a3, .inl (T 0, 9, .inl cn48)), (a4, .inl (T 0, 9, .inl cn48)), (a9, .inl (T 0, 9, .inl (fun _ => 0))), (a11, .inl (T 0, 9, .inl cn6)), (a12, .inl (T 0, 9, .inl cn6)), (a5, .inl (T 0, 3, .inl cn9))] H locs := w
  refine lv_aload_n hx hb dX7_begin_53 rfl (lv_at hl 0 rfl) ?_
  refine lv_iconst (v := 0) hx hb dX7_begin_54 (by decide) ?_
  refine r_put (ws' := [(a0, .inr (7, [.ref a2, .ref a3, .ref a4, .ref a5, .int 0, .int 0, .int 0, .int 0])), (a1, .inr (9, [.ref a6, .ref a7, .ref a8, .ref a9, .ref a10, .ref a11, .ref a12, .ref a13, .ref a14, .int 0, .int 0, .int 0, .int 0, .int 12, .int 1, .int 0, .int 0, .int 0])), (a2, .inl (T 0, 9, .inl cn47)), (a3, .inl (T 0, 9, .inl cn48)), (a4, .inl (T 0, 9, .inl cn48)), (a9, .inl (T 0, 9, .inl (fun _ => 0))), (a11, .inl (T 0, 9, .inl cn6)), (a12, .inl (T 0, 9, .inl cn6)), (a5, .inl (T 0, 3, .inl cn9))]) M w 0 4 clX7 rfl (by decide) G229 rfl rfl rfl rfl (Nat.le_of_ble_eq_true rfl) rfl dX7_begin_55 (fun H locs w => ?_)
  refine lv_aload_n hx hb dX7_begin_58 rfl (lv_at hl 0 rfl) ?_
  refine lv_aload_n hx hb dX7_begin_59 rfl (lv_at hl 1 rfl) ?_
  refine r_getN (v := .int 0) M w 1 12 clX9 rfl (by decide) N399 rfl rfl dX7_begin_60 ?_
  refine r_put (ws' := [(a0, .inr (7, [.ref a2, .ref a3, .ref a4, .ref a5, .int 0, .int 0, .int 0, .int 0])), (a1, .inr (9, [.ref a6, .ref a7, .ref a8, .ref a9, .ref a10, .ref a11, .ref a12, .ref a13, .ref a14, .int 0, .int 0, .int 0, .int 0, .int 12, .int 1, .int 0, .int 0, .int 0])), (a2, .inl (T 0, 9, .inl cn47)), (a3, .inl (T 0, 9, .inl cn48)), (a4, .inl (T 0, 9, .inl cn48)), (a9, .inl (T 0, 9, .inl (fun _ => 0))), (a11, .inl (T 0, 9, .inl cn6)), (a12, .inl (T 0, 9, .inl cn6)), (a5, .inl (T 0, 3, .inl cn9))]) M w 0 5 clX7 rfl (by decide) G232 rfl rfl rfl rfl (Nat.le_of_ble_eq_true rfl) rfl dX7_begin_63 (fun H locs w => ?_)
  refine lv_aload_n hx hb dX7_begin_66 rfl (lv_at hl 0 rfl) ?_
  refine lv_iconst (v := 0) hx hb dX7_begin_67 (by decide) ?_
  refine r_put (ws' := [(a0, .inr (7, [.ref a2, .ref a3, .ref a4, .ref a5, .int 0, .int 0, .int 0, .int 0])), (a1, .inr (9, [.ref a6, .ref a7, .ref a8, .ref a9, .ref a10, .ref a11, .ref a12, .ref a13, .ref a14, .int 0, .int 0, .int 0, .int 0, .int 12, .int 1, .int 0, .int 0, .int 0])), (a2, .inl (T 0, 9, .inl cn47)), (a3, .inl (T 0, 9, .inl cn48)), (a4, .inl (T 0, 9, .inl cn48)), (a9, .inl (T 0, 9, .inl (fun _ => 0))), (a11, .inl (T 0, 9, .inl cn6)), (a12, .inl (T 0, 9, .inl cn6)), (a5, .inl (T 0, 3, .inl cn9))]) M w 0 6 clX7 rfl (by decide) G234 rfl rfl rfl rfl (Nat.le_of_ble_eq_true rfl) rfl dX7_begin_68 (fun H locs w => ?_)
  refine lv_aload_n hx hb dX7_begin_71 rfl (lv_at hl 0 rfl) ?_
  refine lv_iconst (v := 0) hx hb dX7_begin_72 (by decide) ?_
  refine r_put (ws' := [(a0, .inr (7, [.ref a2, .ref a3, .ref a4, .ref a5, .int 0, .int 0, .int 0, .int 0])), (a1, .inr (9, [.ref a6, .ref a7, .ref a8, .ref a9, .ref a10, .ref a11, .ref a12, .ref a13, .ref a14, .int 0, .int 0, .int 0, .int 0, .int 12, .int 1, .int 0, .int 0, .int 0])), (a2, .inl (T 0, 9, .inl cn47)), (a3, .inl (T 0, 9, .inl cn48)), (a4, .inl (T 0, 9, .inl cn48)), (a9, .inl (T 0, 9, .inl (fun _ => 0))), (a11, .inl (T 0, 9, .inl cn6)), (a12, .inl (T 0, 9, .inl cn6)), (a5, .inl (T 0, 3, .inl cn9))]) M w 0 7 clX7 rfl (by decide) G236 rfl rfl rfl rfl (Nat.le_of_ble_eq_true rfl) rfl dX7_begin_73 (fun H locs w => ?_)
  exact ret () _ _ _ _ _ [0, 1, 2, 3, 4, 8, 5, 6, 7] dX7_begin_76 trivial w (by decide) rfl
set_option maxRecDepth 100000 in
set_option maxHeartbeats 4000000 in
theorem c41_X5_clear (l : Launch) (D : va_G) (T : Nat → ClassId) (sz : Nat) (a0 a1 a2 a3 a4 : Nat) : Met l yX5_clear (Cond.code yX5_clear cX5_clear 1 none :: GW) (Rm 0 0 0) (cPre [.ref a0] D T [(a0, .inr (5, [.ref a1, .ref a2, .ref a3, .ref a4, .int 0, .int 0]))] sz) (qV D [(a0, .inr (5, [.ref a1, .ref a2, .ref a3, .ref a4, .int 0, .int 0]))] sz (fun (u : Unit) => True) (fun u => [(a0, .inr (5, [.ref a1, .ref a2, .ref a3, .ref a4, .int 0, .int 0]))])) 0 0 (va_A [(a0, .inr (5, [.ref a1, .ref a2, .ref a3, .ref a4, .int 0, .int 0]))] sz) := by
  refine e_V (by decide) (Nat.le_of_ble_eq_true rfl) ?_
  intro p e s m args below meth c A Q ls M hin w ret hl
  have hx := M.1.1
  have hb := M.1.2.1
  have hl : lv_has ls 1 [(0, .ref a0)] := hl
  refine lv_aload_n hx hb dX5_clear_0 rfl (lv_at hl 0 rfl) ?_
  refine lv_iconst (v := 0) hx hb dX5_clear_1 (by decide) ?_
  refine r_put (ws' := [(a0, .inr (5, [.ref a1, .ref a2, .ref a3, .ref a4, .int 0, .int 0]))]) M w 0 4 clX5 rfl (by decide) G456 rfl rfl rfl rfl (Nat.le_of_ble_eq_true rfl) rfl dX5_clear_2 (fun H locs w => ?_)
  refine lv_aload_n hx hb dX5_clear_5 rfl (lv_at hl 0 rfl) ?_
  refine lv_iconst (v := 0) hx hb dX5_clear_6 (by decide) ?_
  refine r_put (ws' := [(a0, .inr (5, [.ref a1, .ref a2, .ref a3, .ref a4, .int 0, .int 0]))]) M w 0 5 clX5 rfl (by decide) G457 rfl rfl rfl rfl (Nat.le_of_ble_eq_true rfl) rfl dX5_clear_7 (fun H locs w => ?_)
  exact ret () _ _ _ _ _ [0] dX5_clear_10 trivial w (by decide) rfl
set_option maxRecDepth 100000 in
set_option maxHeartbeats 4000000 in
theorem c42_X11_city (l : Launch) (D : va_G) (T : Nat → ClassId) (sz : Nat) (a0 a1 a2 a3 a4 a5 a6 a7 a8 a9 a10 a11 a12 a13 a14 a15 a16 a17 a18 a19 a20 a21 a22 a23 a24 a25 a26 a27 a28 a29 a30 a31 a32 : Nat) : Met l yX11_city (Cond.code yX11_city cX11_city 3 (some .int) :: GW) (Rm 3 0 0) (cPre [.ref a0] D T [(a0, .inr (10, [.ref a1, .ref a2, .ref a3, .ref a4, .ref a5, .ref a6, .ref a7, .ref a8, .ref a9, .ref a10, .ref a11, .ref a12, .ref a13, .ref a14, .int 0, .int 0, .int 0])), (a1, .inr (8, [.ref a15, .int 0, .int 0, .int 0, .int 0, .int 0, .null, .long 0, .int 0, .int 0, .int 0, .int 0])), (a2, .inr (7, [.ref a16, .ref a17, .ref a18, .ref a19, .int 0, .int 0, .int 0, .int 0])), (a12, .inr (9, [.ref a20, .ref a21, .ref a22, .ref a23, .ref a24, .ref a25, .ref a26, .ref a27, .ref a28, .int 0, .int 0, .int 0, .int 0, .int 12, .int 1, .int 0, .int 0, .int 0])), (a13, .inr (5, [.ref a29, .ref a30, .ref a31, .ref a32, .int 0, .int 0])), (a16, .inl (T 0, 9, .inl (fun _ => 0))), (a17, .inl (T 0, 9, .inl (fun _ => 0))), (a18, .inl (T 0, 9, .inl (fun _ => 0))), (a19, .inl (T 0, 3, .inl (fun _ => 0))), (a23, .inl (T 0, 9, .inl (fun _ => 0))), (a24, .inl (T 0, 9, .inl (fun _ => 0))), (a25, .inl (T 0, 9, .inl (fun _ => 0))), (a26, .inl (T 0, 9, .inl (fun _ => 0)))] sz) (qI D [(a0, .inr (10, [.ref a1, .ref a2, .ref a3, .ref a4, .ref a5, .ref a6, .ref a7, .ref a8, .ref a9, .ref a10, .ref a11, .ref a12, .ref a13, .ref a14, .int 0, .int 0, .int 0])), (a1, .inr (8, [.ref a15, .int 0, .int 0, .int 0, .int 0, .int 0, .null, .long 0, .int 0, .int 0, .int 0, .int 0])), (a2, .inr (7, [.ref a16, .ref a17, .ref a18, .ref a19, .int 0, .int 0, .int 0, .int 0])), (a12, .inr (9, [.ref a20, .ref a21, .ref a22, .ref a23, .ref a24, .ref a25, .ref a26, .ref a27, .ref a28, .int 0, .int 0, .int 0, .int 0, .int 12, .int 1, .int 0, .int 0, .int 0])), (a13, .inr (5, [.ref a29, .ref a30, .ref a31, .ref a32, .int 0, .int 0])), (a16, .inl (T 0, 9, .inl (fun _ => 0))), (a17, .inl (T 0, 9, .inl (fun _ => 0))), (a18, .inl (T 0, 9, .inl (fun _ => 0))), (a19, .inl (T 0, 3, .inl (fun _ => 0))), (a23, .inl (T 0, 9, .inl (fun _ => 0))), (a24, .inl (T 0, 9, .inl (fun _ => 0))), (a25, .inl (T 0, 9, .inl (fun _ => 0))), (a26, .inl (T 0, 9, .inl (fun _ => 0)))] sz (fun (v : Int32) (u : Unit) => (0 : Int32) = v) (fun u => [])) 0 0 (va_A [(a0, .inr (10, [.ref a1, .ref a2, .ref a3, .ref a4, .ref a5, .ref a6, .ref a7, .ref a8, .ref a9, .ref a10, .ref a11, .ref a12, .ref a13, .ref a14, .int 0, .int 0, .int 0])), (a1, .inr (8, [.ref a15, .int 0, .int 0, .int 0, .int 0, .int 0, .null, .long 0, .int 0, .int 0, .int 0, .int 0])), (a2, .inr (7, [.ref a16, .ref a17, .ref a18, .ref a19, .int 0, .int 0, .int 0, .int 0])), (a12, .inr (9, [.ref a20, .ref a21, .ref a22, .ref a23, .ref a24, .ref a25, .ref a26, .ref a27, .ref a28, .int 0, .int 0, .int 0, .int 0, .int 12, .int 1, .int 0, .int 0, .int 0])), (a13, .inr (5, [.ref a29, .ref a30, .ref a31, .ref a32, .int 0, .int 0])), (a16, .inl (T 0, 9, .inl (fun _ => 0))), (a17, .inl (T 0, 9, .inl (fun _ => 0))), (a18, .inl (T 0, 9, .inl (fun _ => 0))), (a19, .inl (T 0, 3, .inl (fun _ => 0))), (a23, .inl (T 0, 9, .inl (fun _ => 0))), (a24, .inl (T 0, 9, .inl (fun _ => 0))), (a25, .inl (T 0, 9, .inl (fun _ => 0))), (a26, .inl (T 0, 9, .inl (fun _ => 0)))] sz) := by
  refine e_I (by decide) (Nat.le_of_ble_eq_true rfl) ?_
  intro p e s m args below meth c A Q ls M hin w ret hl
  have hx := M.1.1
  have hb := M.1.2.1
  have hl : lv_has ls 3 [(0, .ref a0)] := hl
  refine lv_aload_n hx hb dX11_city_0 rfl (lv_at hl 0 rfl) ?_
  refine r_get (v := .ref a12) M w 0 11 clX11 rfl (by decide) G508 rfl rfl dX11_city_1 ?_
  refine lv_aload_n hx hb dX11_city_4 rfl (lv_at hl 0 rfl) ?_
  refine r_get (v := .ref a1) M w 0 0 clX11 rfl (by decide) G497 rfl rfl dX11_city_5 ?_
  refine k_I (ce := 0) (sl := 0) (rest := []) (wr := [(a0, .inr (10, [.ref a1, .ref a2, .ref a3, .ref a4, .ref a5, .ref a6, .ref a7, .ref a8, .ref a9, .ref a10, .ref a11, .ref a12, .ref a13, .ref a14, .int 0, .int 0, .int 0])), (a2, .inr (7, [.ref a16, .ref a17, .ref a18, .ref a19, .int 0, .int 0, .int 0, .int 0])), (a13, .inr (5, [.ref a29, .ref a30, .ref a31, .ref a32, .int 0, .int 0])), (a16, .inl (T 0, 9, .inl (fun _ => 0))), (a17, .inl (T 0, 9, .inl (fun _ => 0))), (a18, .inl (T 0, 9, .inl (fun _ => 0))), (a19, .inl (T 0, 3, .inl (fun _ => 0))), (a23, .inl (T 0, 9, .inl (fun _ => 0)))]) (r_V (f := 2) [3, 1, 10, 11, 12] M w V_HookedCity_111 G574 G575 (c37_X9_read l D T _ a12 a1 a20 a21 a22 a23 a24 a25 a26 a27 a28 a15) 3 clX9 rfl rfl (by decide) rfl hl.1 rfl (Nat.le_of_ble_eq_true rfl) dX11_city_8 (by decide) (by decide) (by decide) (by decide)) w [3, 1, 10, 11, 12] [0, 2, 4, 5, 6, 7, 8, 9] rfl rfl (by decide) (by decide) rfl rfl (fun v _ H locs hp w => ?_)
  have hp : (1 : Int32) = v := hp
  subst hp
  have w : WD D A s.heap [(a0, .inr (10, [.ref a1, .ref a2, .ref a3, .ref a4, .ref a5, .ref a6, .ref a7, .ref a8, .ref a9, .ref a10, .ref a11, .ref a12, .ref a13, .ref a14, .int 0, .int 0, .int 0])), (a2, .inr (7, [.ref a16, .ref a17, .ref a18, .ref a19, .int 0, .int 0, .int 0, .int 0])), (a13, .inr (5, [.ref a29, .ref a30, .ref a31, .ref a32, .int 0, .int 0])), (a16, .inl (T 0, 9, .inl (fun _ => 0))), (a17, .inl (T 0, 9, .inl (fun _ => 0))), (a18, .inl (T 0, 9, .inl (fun _ => 0))), (a19, .inl (T 0, 3, .inl (fun _ => 0))), (a23, .inl (T 0, 9, .inl (fun _ => 0))), (a12, .inr (9, [.ref a20, .ref a21, .ref a22, .ref a23, .ref a24, .ref a25, .ref a26, .ref a27, .ref a28, .int 0, .int 0, .int 0, .int 0, .int 12, .int 1, .int 0, .int 0, .int 0])), (a1, .inr (8, [.ref a15, .int 0, .int 900, .int 0, .int 0, .int 0, .null, .long 0, .int 0, .int 0, .int 0, .int 0])), (a24, .inl (T 0, 9, .inl cn46)), (a25, .inl (T 0, 9, .inl cn6)), (a26, .inl (T 0, 9, .inl cn6))] H locs := w
  refine lv_istore_n (lv' := [(1, .int 1), (0, .ref a0)]) hx hb dX11_city_11 rfl hl (by decide) rfl (fun ls hl => ?_)
  refine lv_aload_n hx hb dX11_city_12 rfl (lv_at hl 1 rfl) ?_
  refine r_get (v := .ref a1) M w 0 0 clX11 rfl (by decide) G497 rfl rfl dX11_city_13 ?_
  refine k_V (ce := 0) (sl := 0) (rest := []) (wr := [(a0, .inr (10, [.ref a1, .ref a2, .ref a3, .ref a4, .ref a5, .ref a6, .ref a7, .ref a8, .ref a9, .ref a10, .ref a11, .ref a12, .ref a13, .ref a14, .int 0, .int 0, .int 0])), (a2, .inr (7, [.ref a16, .ref a17, .ref a18, .ref a19, .int 0, .int 0, .int 0, .int 0])), (a13, .inr (5, [.ref a29, .ref a30, .ref a31, .ref a32, .int 0, .int 0])), (a16, .inl (T 0, 9, .inl (fun _ => 0))), (a17, .inl (T 0, 9, .inl (fun _ => 0))), (a18, .inl (T 0, 9, .inl (fun _ => 0))), (a19, .inl (T 0, 3, .inl (fun _ => 0))), (a23, .inl (T 0, 9, .inl (fun _ => 0))), (a12, .inr (9, [.ref a20, .ref a21, .ref a22, .ref a23, .ref a24, .ref a25, .ref a26, .ref a27, .ref a28, .int 0, .int 0, .int 0, .int 0, .int 12, .int 1, .int 0, .int 0, .int 0])), (a24, .inl (T 0, 9, .inl cn46)), (a25, .inl (T 0, 9, .inl cn6)), (a26, .inl (T 0, 9, .inl cn6))]) (r_V (f := 0) [9] M w V_HookedCity_115 G787 G788 (c38_X8_empty l D T _ a1 a15) 9 clX8 rfl rfl (by decide) rfl hl.1 rfl (Nat.le_of_ble_eq_true rfl) dX11_city_16 (by decide) (by decide) (by decide) (by decide)) w [9] [0, 1, 2, 3, 4, 5, 6, 7, 8, 10, 11, 12] rfl rfl (by decide) (by decide) rfl rfl (fun _ H locs hp w => ?_)
  have w : WD D A s.heap [(a0, .inr (10, [.ref a1, .ref a2, .ref a3, .ref a4, .ref a5, .ref a6, .ref a7, .ref a8, .ref a9, .ref a10, .ref a11, .ref a12, .ref a13, .ref a14, .int 0, .int 0, .int 0])), (a2, .inr (7, [.ref a16, .ref a17, .ref a18, .ref a19, .int 0, .int 0, .int 0, .int 0])), (a13, .inr (5, [.ref a29, .ref a30, .ref a31, .ref a32, .int 0, .int 0])), (a16, .inl (T 0, 9, .inl (fun _ => 0))), (a17, .inl (T 0, 9, .inl (fun _ => 0))), (a18, .inl (T 0, 9, .inl (fun _ => 0))), (a19, .inl (T 0, 3, .inl (fun _ => 0))), (a23, .inl (T 0, 9, .inl (fun _ => 0))), (a12, .inr (9, [.ref a20, .ref a21, .ref a22, .ref a23, .ref a24, .ref a25, .ref a26, .ref a27, .ref a28, .int 0, .int 0, .int 0, .int 0, .int 12, .int 1, .int 0, .int 0, .int 0])), (a24, .inl (T 0, 9, .inl cn46)), (a25, .inl (T 0, 9, .inl cn6)), (a26, .inl (T 0, 9, .inl cn6)), (a1, .inr (8, [.ref a15, .int 0, .int 900, .int 0, .int 0, .int 0, .null, .long 0, .int 0, .int 0, .int 0, .int 0]))] H locs := w
  refine lv_iload_n hx hb dX11_city_19 rfl (lv_at hl 0 rfl) ?_
  refine lv_if_ne (tgt := 33) hx hb dX11_city_20 (by decide) (fun _ => ?_) (fun c => absurd c (by decide +kernel))
  refine lv_aload_n hx hb dX11_city_33 rfl (lv_at hl 1 rfl) ?_
  refine r_get (v := .ref a11) M w 0 10 clX11 rfl (by decide) G507 rfl rfl dX11_city_34 ?_
  refine lv_astore_n (lv' := [(2, .ref a11), (1, .int 1), (0, .ref a0)]) hx hb dX11_city_37 rfl hl (by decide) rfl (fun ls hl => ?_)
  refine lv_aload_n hx hb dX11_city_38 rfl (lv_at hl 2 rfl) ?_
  refine lv_aload_n hx hb dX11_city_39 rfl (lv_at hl 2 rfl) ?_
  refine r_get (v := .ref a12) M w 0 11 clX11 rfl (by decide) G508 rfl rfl dX11_city_40 ?_
  refine r_put (ws' := [(a0, .inr (10, [.ref a1, .ref a2, .ref a3, .ref a4, .ref a5, .ref a6, .ref a7, .ref a8, .ref a9, .ref a10, .ref a12, .ref a12, .ref a13, .ref a14, .int 0, .int 0, .int 0])), (a2, .inr (7, [.ref a16, .ref a17, .ref a18, .ref a19, .int 0, .int 0, .int 0, .int 0])), (a13, .inr (5, [.ref a29, .ref a30, .ref a31, .ref a32, .int 0, .int 0])), (a16, .inl (T 0, 9, .inl (fun _ => 0))), (a17, .inl (T 0, 9, .inl (fun _ => 0))), (a18, .inl (T 0, 9, .inl (fun _ => 0))), (a19, .inl (T 0, 3, .inl (fun _ => 0))), (a23, .inl (T 0, 9, .inl (fun _ => 0))), (a12, .inr (9, [.ref a20, .ref a21, .ref a22, .ref a23, .ref a24, .ref a25, .ref a26, .ref a27, .ref a28, .int 0, .int 0, .int 0, .int 0, .int 12, .int 1, .int 0, .int 0, .int 0])), (a24, .inl (T 0, 9, .inl cn46)), (a25, .inl (T 0, 9, .inl cn6)), (a26, .inl (T 0, 9, .inl cn6)), (a1, .inr (8, [.ref a15, .int 0, .int 900, .int 0, .int 0, .int 0, .null, .long 0, .int 0, .int 0, .int 0, .int 0]))]) M w 0 10 clX11 rfl (by decide) G507 rfl rfl rfl rfl (Nat.le_of_ble_eq_true rfl) rfl dX11_city_43 (fun H locs w => ?_)
  refine lv_aload_n hx hb dX11_city_46 rfl (lv_at hl 2 rfl) ?_
  refine lv_aload_n hx hb dX11_city_47 rfl (lv_at hl 0 rfl) ?_
  refine r_put (ws' := [(a0, .inr (10, [.ref a1, .ref a2, .ref a3, .ref a4, .ref a5, .ref a6, .ref a7, .ref a8, .ref a9, .ref a10, .ref a12, .ref a11, .ref a13, .ref a14, .int 0, .int 0, .int 0])), (a2, .inr (7, [.ref a16, .ref a17, .ref a18, .ref a19, .int 0, .int 0, .int 0, .int 0])), (a13, .inr (5, [.ref a29, .ref a30, .ref a31, .ref a32, .int 0, .int 0])), (a16, .inl (T 0, 9, .inl (fun _ => 0))), (a17, .inl (T 0, 9, .inl (fun _ => 0))), (a18, .inl (T 0, 9, .inl (fun _ => 0))), (a19, .inl (T 0, 3, .inl (fun _ => 0))), (a23, .inl (T 0, 9, .inl (fun _ => 0))), (a12, .inr (9, [.ref a20, .ref a21, .ref a22, .ref a23, .ref a24, .ref a25, .ref a26, .ref a27, .ref a28, .int 0, .int 0, .int 0, .int 0, .int 12, .int 1, .int 0, .int 0, .int 0])), (a24, .inl (T 0, 9, .inl cn46)), (a25, .inl (T 0, 9, .inl cn6)), (a26, .inl (T 0, 9, .inl cn6)), (a1, .inr (8, [.ref a15, .int 0, .int 900, .int 0, .int 0, .int 0, .null, .long 0, .int 0, .int 0, .int 0, .int 0]))]) M w 0 11 clX11 rfl (by decide) G508 rfl rfl rfl rfl (Nat.le_of_ble_eq_true rfl) rfl dX11_city_48 (fun H locs w => ?_)
  refine lv_aload_n hx hb dX11_city_51 rfl (lv_at hl 2 rfl) ?_
  refine r_get (v := .ref a2) M w 0 1 clX11 rfl (by decide) G498 rfl rfl dX11_city_52 ?_
  refine lv_aload_n hx hb dX11_city_55 rfl (lv_at hl 2 rfl) ?_
  refine r_get (v := .ref a12) M w 0 10 clX11 rfl (by decide) G507 rfl rfl dX11_city_56 ?_
  refine k_V (ce := 0) (sl := 0) (rest := []) (wr := [(a0, .inr (10, [.ref a1, .ref a2, .ref a3, .ref a4, .ref a5, .ref a6, .ref a7, .ref a8, .ref a9, .ref a10, .ref a12, .ref a11, .ref a13, .ref a14, .int 0, .int 0, .int 0])), (a13, .inr (5, [.ref a29, .ref a30, .ref a31, .ref a32, .int 0, .int 0])), (a24, .inl (T 0, 9, .inl cn46)), (a1, .inr (8, [.ref a15, .int 0, .int 900, .int 0, .int 0, .int 0, .null, .long 0, .int 0, .int 0, .int 0, .int 0]))]) (r_V (f := 1) [1, 8, 3, 4, 5, 6, 7, 10, 11] M w V_HookedCity_121 G791 G792 (c40_X7_begin l D T _ a2 a12 a16 a17 a18 a19 a20 a21 a22 a23 a24 a25 a26 a27 a28) 1 clX7 rfl rfl (by decide) rfl hl.1 rfl (Nat.le_of_ble_eq_true rfl) dX11_city_59 (by decide) (by decide) (by decide) (by decide)) w [1, 8, 3, 4, 5, 6, 7, 10, 11] [0, 2, 9, 12] rfl rfl (by decide) (by decide) rfl rfl (fun _ H locs hp w => ?_)
  have w : WD D A s.heap [(a0, .inr (10, [.ref a1, .ref a2, .ref a3, .ref a4, .ref a5, .ref a6, .ref a7, .ref a8, .ref a9, .ref a10, .ref a12, .ref a11, .ref a13, .ref a14, .int 0, .int 0, .int 0])), (a13, .inr (5, [.ref a29, .ref a30, .ref a31, .ref a32, .int 0, .int 0])), (a24, .inl (T 0, 9, .inl cn46)), (a1, .inr (8, [.ref a15, .int 0, .int 900, .int 0, .int 0, .int 0, .null, .long 0, .int 0, .int 0, .int 0, .int 0])), (a2, .inr (7, [.ref a16, .ref a17, .ref a18, .ref a19, .int 0, .int 0, .int 0, .int 0])), (a12, .inr (9, [.ref a20, .ref a21, .ref a22, .ref a23, .ref a24, .ref a25, .ref a26, .ref a27, .ref a28, .int 0, .int 0, .int 0, .int 0, .int 12, .int 1, .int 0, .int 0, .int 0])), (a16, .inl (T 0, 9, .inl cn47)), (a17, .inl (T 0, 9, .inl cn48)), (a18, .inl (T 0, 9, .inl cn48)), (a19, .inl (T 0, 3, .inl cn9)), (a23, .inl (T 0, 9, .inl (fun _ => 0))), (a25, .inl (T 0, 9, .inl cn6)), (a26, .inl (T 0, 9, .inl cn6))] H locs := w
  refine lv_aload_n hx hb dX11_city_62 rfl (lv_at hl 2 rfl) ?_
  refine r_get (v := .ref a13) M w 0 12 clX11 rfl (by decide) G509 rfl rfl dX11_city_63 ?_
  refine k_V (ce := 0) (sl := 0) (rest := []) (wr := [(a0, .inr (10, [.ref a1, .ref a2, .ref a3, .ref a4, .ref a5, .ref a6, .ref a7, .ref a8, .ref a9, .ref a10, .ref a12, .ref a11, .ref a13, .ref a14, .int 0, .int 0, .int 0])), (a24, .inl (T 0, 9, .inl cn46)), (a1, .inr (8, [.ref a15, .int 0, .int 900, .int 0, .int 0, .int 0, .null, .long 0, .int 0, .int 0, .int 0, .int 0])), (a2, .inr (7, [.ref a16, .ref a17, .ref a18, .ref a19, .int 0, .int 0, .int 0, .int 0])), (a12, .inr (9, [.ref a20, .ref a21, .ref a22, .ref a23, .ref a24, .ref a25, .ref a26, .ref a27, .ref a28, .int 0, .int 0, .int 0, .int 0, .int 12, .int 1, .int 0, .int 0, .int 0])), (a16, .inl (T 0, 9, .inl cn47)), (a17, .inl (T 0, 9, .inl cn48)), (a18, .inl (T 0, 9, .inl cn48)), (a19, .inl (T 0, 3, .inl cn9)), (a23, .inl (T 0, 9, .inl (fun _ => 0))), (a25, .inl (T 0, 9, .inl cn6)), (a26, .inl (T 0, 9, .inl cn6))]) (r_V (f := 0) [1] M w V_HookedCity_125 G799 G800 (c41_X5_clear l D T _ a13 a29 a30 a31 a32) 1 clX5 rfl rfl (by decide) rfl hl.1 rfl (Nat.le_of_ble_eq_true rfl) dX11_city_66 (by decide) (by decide) (by decide) (by decide)) w [1] [0, 2, 3, 4, 5, 6, 7, 8, 9, 10, 11, 12] rfl rfl (by decide) (by decide) rfl rfl (fun _ H locs hp w => ?_)
  have w : WD D A s.heap [(a0, .inr (10, [.ref a1, .ref a2, .ref a3, .ref a4, .ref a5, .ref a6, .ref a7, .ref a8, .ref a9, .ref a10, .ref a12, .ref a11, .ref a13, .ref a14, .int 0, .int 0, .int 0])), (a24, .inl (T 0, 9, .inl cn46)), (a1, .inr (8, [.ref a15, .int 0, .int 900, .int 0, .int 0, .int 0, .null, .long 0, .int 0, .int 0, .int 0, .int 0])), (a2, .inr (7, [.ref a16, .ref a17, .ref a18, .ref a19, .int 0, .int 0, .int 0, .int 0])), (a12, .inr (9, [.ref a20, .ref a21, .ref a22, .ref a23, .ref a24, .ref a25, .ref a26, .ref a27, .ref a28, .int 0, .int 0, .int 0, .int 0, .int 12, .int 1, .int 0, .int 0, .int 0])), (a16, .inl (T 0, 9, .inl cn47)), (a17, .inl (T 0, 9, .inl cn48)), (a18, .inl (T 0, 9, .inl cn48)), (a19, .inl (T 0, 3, .inl cn9)), (a23, .inl (T 0, 9, .inl (fun _ => 0))), (a25, .inl (T 0, 9, .inl cn6)), (a26, .inl (T 0, 9, .inl cn6)), (a13, .inr (5, [.ref a29, .ref a30, .ref a31, .ref a32, .int 0, .int 0]))] H locs := w
  refine lv_aload_n hx hb dX11_city_69 rfl (lv_at hl 2 rfl) ?_
  refine lv_iconst (v := 0) hx hb dX11_city_70 (by decide) ?_
  refine r_put (ws' := [(a0, .inr (10, [.ref a1, .ref a2, .ref a3, .ref a4, .ref a5, .ref a6, .ref a7, .ref a8, .ref a9, .ref a10, .ref a12, .ref a11, .ref a13, .ref a14, .int 0, .int 0, .int 0])), (a24, .inl (T 0, 9, .inl cn46)), (a1, .inr (8, [.ref a15, .int 0, .int 900, .int 0, .int 0, .int 0, .null, .long 0, .int 0, .int 0, .int 0, .int 0])), (a2, .inr (7, [.ref a16, .ref a17, .ref a18, .ref a19, .int 0, .int 0, .int 0, .int 0])), (a12, .inr (9, [.ref a20, .ref a21, .ref a22, .ref a23, .ref a24, .ref a25, .ref a26, .ref a27, .ref a28, .int 0, .int 0, .int 0, .int 0, .int 12, .int 1, .int 0, .int 0, .int 0])), (a16, .inl (T 0, 9, .inl cn47)), (a17, .inl (T 0, 9, .inl cn48)), (a18, .inl (T 0, 9, .inl cn48)), (a19, .inl (T 0, 3, .inl cn9)), (a23, .inl (T 0, 9, .inl (fun _ => 0))), (a25, .inl (T 0, 9, .inl cn6)), (a26, .inl (T 0, 9, .inl cn6)), (a13, .inr (5, [.ref a29, .ref a30, .ref a31, .ref a32, .int 0, .int 0]))]) M w 0 14 clX11 rfl (by decide) G511 rfl rfl rfl rfl (Nat.le_of_ble_eq_true rfl) rfl dX11_city_71 (fun H locs w => ?_)
  refine lv_aload_n hx hb dX11_city_74 rfl (lv_at hl 2 rfl) ?_
  refine lv_iconst (v := 0) hx hb dX11_city_75 (by decide) ?_
  refine r_put (ws' := [(a0, .inr (10, [.ref a1, .ref a2, .ref a3, .ref a4, .ref a5, .ref a6, .ref a7, .ref a8, .ref a9, .ref a10, .ref a12, .ref a11, .ref a13, .ref a14, .int 0, .int 0, .int 0])), (a24, .inl (T 0, 9, .inl cn46)), (a1, .inr (8, [.ref a15, .int 0, .int 900, .int 0, .int 0, .int 0, .null, .long 0, .int 0, .int 0, .int 0, .int 0])), (a2, .inr (7, [.ref a16, .ref a17, .ref a18, .ref a19, .int 0, .int 0, .int 0, .int 0])), (a12, .inr (9, [.ref a20, .ref a21, .ref a22, .ref a23, .ref a24, .ref a25, .ref a26, .ref a27, .ref a28, .int 0, .int 0, .int 0, .int 0, .int 12, .int 1, .int 0, .int 0, .int 0])), (a16, .inl (T 0, 9, .inl cn47)), (a17, .inl (T 0, 9, .inl cn48)), (a18, .inl (T 0, 9, .inl cn48)), (a19, .inl (T 0, 3, .inl cn9)), (a23, .inl (T 0, 9, .inl (fun _ => 0))), (a25, .inl (T 0, 9, .inl cn6)), (a26, .inl (T 0, 9, .inl cn6)), (a13, .inr (5, [.ref a29, .ref a30, .ref a31, .ref a32, .int 0, .int 0]))]) M w 0 16 clX11 rfl (by decide) G513 rfl rfl (by decide +kernel) (by decide +kernel) (Nat.le_of_ble_eq_true rfl) rfl dX11_city_76 (fun H locs w => ?_)
  refine lv_aload_n hx hb dX11_city_79 rfl (lv_at hl 2 rfl) ?_
  refine r_get (v := .ref a12) M w 0 10 clX11 rfl (by decide) G507 rfl rfl dX11_city_80 ?_
  refine r_getN (v := .int 0) M w 4 11 clX9 rfl (by decide) N397 rfl rfl dX11_city_83 ?_
  exact ret _ () _ _ _ _ _ [] dX11_city_86 rfl w (by decide) rfl
set_option maxRecDepth 100000 in
set_option maxHeartbeats 4000000 in
theorem c43_X12_take (l : Launch) (D : va_G) (T : Nat → ClassId) (sz : Nat) (a0 a1 a2 a3 a4 a5 a6 a7 a8 a9 a10 a11 a12 a13 a14 a15 a16 a17 a18 a19 a20 a21 a22 : Nat) : Met l yX12_take (Cond.code yX12_take cX12_take 2 (some .int) :: GW) (Rm 0 0 0) (cPre [.ref a0] D T [(a0, .inr (11, [.int 0, .ref a1, .int 0, .int 0, .int 0, .int 0, .int 0, .int 0, .int 0, .int 0, .int 0, .int 0, .long 0, .int 0, .ref a2, .ref a3, .ref a4, .ref a5, .ref a6, .ref a7, .ref a8, .ref a9, .ref a10, .ref a11, .int 0, .ref a12, .ref a13, .ref a14, .ref a15, .int 0, .int 0, .int 0, .ref a16, .int (-1), .int (-1), .ref a17, .ref a18, .int 0, .ref a19, .int 0, .int 0, .ref a20, .ref a21, .int 0, .int 0, .ref a22, .int 0, .int 0, .int 0, .int 0]))] sz) (qI D [(a0, .inr (11, [.int 0, .ref a1, .int 0, .int 0, .int 0, .int 0, .int 0, .int 0, .int 0, .int 0, .int 0, .int 0, .long 0, .int 0, .ref a2, .ref a3, .ref a4, .ref a5, .ref a6, .ref a7, .ref a8, .ref a9, .ref a10, .ref a11, .int 0, .ref a12, .ref a13, .ref a14, .ref a15, .int 0, .int 0, .int 0, .ref a16, .int (-1), .int (-1), .ref a17, .ref a18, .int 0, .ref a19, .int 0, .int 0, .ref a20, .ref a21, .int 0, .int 0, .ref a22, .int 0, .int 0, .int 0, .int 0]))] sz (fun (v : Int32) (u : Unit) => (0 : Int32) = v) (fun u => [(a0, .inr (11, [.int 0, .ref a1, .int 0, .int 0, .int 0, .int 0, .int 0, .int 0, .int 0, .int 0, .int 0, .int 0, .long 0, .int 0, .ref a2, .ref a3, .ref a4, .ref a5, .ref a6, .ref a7, .ref a8, .ref a9, .ref a10, .ref a11, .int 0, .ref a12, .ref a13, .ref a14, .ref a15, .int 0, .int 0, .int 0, .ref a16, .int (-1), .int (-1), .ref a17, .ref a18, .int 0, .ref a19, .int 0, .int 0, .ref a20, .ref a21, .int 0, .int 0, .ref a22, .int 0, .int 0, .int 0, .int 0]))])) 0 0 (va_A [(a0, .inr (11, [.int 0, .ref a1, .int 0, .int 0, .int 0, .int 0, .int 0, .int 0, .int 0, .int 0, .int 0, .int 0, .long 0, .int 0, .ref a2, .ref a3, .ref a4, .ref a5, .ref a6, .ref a7, .ref a8, .ref a9, .ref a10, .ref a11, .int 0, .ref a12, .ref a13, .ref a14, .ref a15, .int 0, .int 0, .int 0, .ref a16, .int (-1), .int (-1), .ref a17, .ref a18, .int 0, .ref a19, .int 0, .int 0, .ref a20, .ref a21, .int 0, .int 0, .ref a22, .int 0, .int 0, .int 0, .int 0]))] sz) := by
  refine e_I (by decide) (Nat.le_of_ble_eq_true rfl) ?_
  intro p e s m args below meth c A Q ls M hin w ret hl
  have hx := M.1.1
  have hb := M.1.2.1
  have hl : lv_has ls 2 [(0, .ref a0)] := hl
  refine lv_aload_n hx hb dX12_take_0 rfl (lv_at hl 0 rfl) ?_
  refine r_get (v := .int 0) M w 0 2 clX12 rfl (by decide) G1469 rfl rfl dX12_take_1 ?_
  refine lv_istore_n (lv' := [(1, .int 0), (0, .ref a0)]) hx hb dX12_take_4 rfl hl (by decide) rfl (fun ls hl => ?_)
  refine lv_aload_n hx hb dX12_take_5 rfl (lv_at hl 1 rfl) ?_
  refine lv_iconst (v := 0) hx hb dX12_take_6 (by decide) ?_
  refine r_put (ws' := [(a0, .inr (11, [.int 0, .ref a1, .int 0, .int 0, .int 0, .int 0, .int 0, .int 0, .int 0, .int 0, .int 0, .int 0, .long 0, .int 0, .ref a2, .ref a3, .ref a4, .ref a5, .ref a6, .ref a7, .ref a8, .ref a9, .ref a10, .ref a11, .int 0, .ref a12, .ref a13, .ref a14, .ref a15, .int 0, .int 0, .int 0, .ref a16, .int (-1), .int (-1), .ref a17, .ref a18, .int 0, .ref a19, .int 0, .int 0, .ref a20, .ref a21, .int 0, .int 0, .ref a22, .int 0, .int 0, .int 0, .int 0]))]) M w 0 2 clX12 rfl (by decide) G1469 rfl rfl rfl rfl (Nat.le_of_ble_eq_true rfl) rfl dX12_take_7 (fun H locs w => ?_)
  refine lv_iload_n hx hb dX12_take_10 rfl (lv_at hl 0 rfl) ?_
  exact ret _ () _ _ _ _ _ [0] dX12_take_11 rfl w (by decide) rfl
set_option maxRecDepth 100000 in
set_option maxHeartbeats 4000000 in
theorem c44_X12_go (l : Launch) (D : va_G) (T : Nat → ClassId) (sz : Nat) (a0 a1 a2 a3 a4 a5 a6 a7 a8 a9 a10 a11 a12 a13 a14 a15 a16 a17 a18 a19 a20 a21 a22 : Nat) : Met l yX12_go (Cond.code yX12_go cX12_go 5 none :: GW) (Rm 0 0 0) (cPre [.ref a0] D T [(a0, .inr (11, [.int 0, .ref a1, .int 0, .int 0, .int 900, .int 0, .int 0, .int 0, .int 0, .int 0, .int 0, .int 0, .long 0, .int 0, .ref a2, .ref a3, .ref a4, .ref a5, .ref a6, .ref a7, .ref a8, .ref a9, .ref a10, .ref a11, .int 0, .ref a12, .ref a13, .ref a14, .ref a15, .int 0, .int 0, .int 0, .ref a16, .int (-1), .int (-1), .ref a17, .ref a18, .int 0, .ref a19, .int 0, .int 0, .ref a20, .ref a21, .int 0, .int 0, .ref a22, .int 0, .int 0, .int 0, .int 0]))] sz) (qV D [(a0, .inr (11, [.int 0, .ref a1, .int 0, .int 0, .int 900, .int 0, .int 0, .int 0, .int 0, .int 0, .int 0, .int 0, .long 0, .int 0, .ref a2, .ref a3, .ref a4, .ref a5, .ref a6, .ref a7, .ref a8, .ref a9, .ref a10, .ref a11, .int 0, .ref a12, .ref a13, .ref a14, .ref a15, .int 0, .int 0, .int 0, .ref a16, .int (-1), .int (-1), .ref a17, .ref a18, .int 0, .ref a19, .int 0, .int 0, .ref a20, .ref a21, .int 0, .int 0, .ref a22, .int 0, .int 0, .int 0, .int 0]))] sz (fun (u : Unit) => True) (fun u => [(a0, .inr (11, [.int 0, .ref a1, .int 0, .int 0, .int 900, .int 0, .int 0, .int 0, .int 0, .int 0, .int 0, .int 0, .long 0, .int 0, .ref a2, .ref a3, .ref a4, .ref a5, .ref a6, .ref a7, .ref a8, .ref a9, .ref a10, .ref a11, .int 0, .ref a12, .ref a13, .ref a14, .ref a15, .int 0, .int 0, .int 0, .ref a16, .int (-1), .int (-1), .ref a17, .ref a18, .int 0, .ref a19, .int 0, .int 0, .ref a20, .ref a21, .int 0, .int 0, .ref a22, .int 0, .int 0, .int 0, .int 0]))])) 0 0 (va_A [(a0, .inr (11, [.int 0, .ref a1, .int 0, .int 0, .int 900, .int 0, .int 0, .int 0, .int 0, .int 0, .int 0, .int 0, .long 0, .int 0, .ref a2, .ref a3, .ref a4, .ref a5, .ref a6, .ref a7, .ref a8, .ref a9, .ref a10, .ref a11, .int 0, .ref a12, .ref a13, .ref a14, .ref a15, .int 0, .int 0, .int 0, .ref a16, .int (-1), .int (-1), .ref a17, .ref a18, .int 0, .ref a19, .int 0, .int 0, .ref a20, .ref a21, .int 0, .int 0, .ref a22, .int 0, .int 0, .int 0, .int 0]))] sz) := by
  refine e_V (by decide) (Nat.le_of_ble_eq_true rfl) ?_
  intro p e s m args below meth c A Q ls M hin w ret hl
  have hx := M.1.1
  have hb := M.1.2.1
  have hl : lv_has ls 5 [(0, .ref a0)] := hl
  refine lv_aload_n hx hb dX12_go_0 rfl (lv_at hl 0 rfl) ?_
  refine r_get (v := .int 0) M w 0 5 clX12 rfl (by decide) G1472 rfl rfl dX12_go_1 ?_
  refine lv_aload_n hx hb dX12_go_4 rfl (lv_at hl 0 rfl) ?_
  refine r_get (v := .int 0) M w 0 3 clX12 rfl (by decide) G1470 rfl rfl dX12_go_5 ?_
  refine lv_icmp_ge (tgt := 52) hx hb dX12_go_8 (by decide) (fun _ => ?_) (fun c => absurd (by decide +kernel) c)
  refine lv_aload_n hx hb dX12_go_52 rfl (lv_at hl 0 rfl) ?_
  refine lv_aload_n hx hb dX12_go_53 rfl (lv_at hl 0 rfl) ?_
  refine r_get (v := .int 0) M w 0 5 clX12 rfl (by decide) G1472 rfl rfl dX12_go_54 ?_
  refine r_put (ws' := [(a0, .inr (11, [.int 0, .ref a1, .int 0, .int 0, .int 900, .int 0, .int 0, .int 0, .int 0, .int 0, .int 0, .int 0, .long 0, .int 0, .ref a2, .ref a3, .ref a4, .ref a5, .ref a6, .ref a7, .ref a8, .ref a9, .ref a10, .ref a11, .int 0, .ref a12, .ref a13, .ref a14, .ref a15, .int 0, .int 0, .int 0, .ref a16, .int (-1), .int (-1), .ref a17, .ref a18, .int 0, .ref a19, .int 0, .int 0, .ref a20, .ref a21, .int 0, .int 0, .ref a22, .int 0, .int 0, .int 0, .int 0]))]) M w 0 6 clX12 rfl (by decide) G1473 rfl rfl rfl rfl (Nat.le_of_ble_eq_true rfl) rfl dX12_go_57 (fun H locs w => ?_)
  refine lv_aload_n hx hb dX12_go_60 rfl (lv_at hl 0 rfl) ?_
  refine r_get (v := .int 0) M w 0 3 clX12 rfl (by decide) G1470 rfl rfl dX12_go_61 ?_
  refine lv_aload_n hx hb dX12_go_64 rfl (lv_at hl 0 rfl) ?_
  refine r_get (v := .int 900) M w 0 4 clX12 rfl (by decide) G1471 rfl rfl dX12_go_65 ?_
  refine lv_icmp_le (tgt := 96) hx hb dX12_go_68 (by decide) (fun _ => ?_) (fun c => absurd (by decide +kernel) c)
  refine lv_aload_n hx hb dX12_go_96 rfl (lv_at hl 0 rfl) ?_
  refine r_get (v := .int 0) M w 0 5 clX12 rfl (by decide) G1472 rfl rfl dX12_go_97 ?_
  refine lv_aload_n hx hb dX12_go_100 rfl (lv_at hl 0 rfl) ?_
  refine r_get (v := .int 0) M w 0 3 clX12 rfl (by decide) G1470 rfl rfl dX12_go_101 ?_
  refine lv_icmp_lt (tgt := 113) hx hb dX12_go_104 (by decide) (fun c => absurd c (by decide +kernel)) (fun _ => ?_)
  refine lv_aload_n hx hb dX12_go_107 rfl (lv_at hl 0 rfl) ?_
  refine lv_iconst (v := 0) hx hb dX12_go_108 (by decide) ?_
  refine r_put (ws' := [(a0, .inr (11, [.int 0, .ref a1, .int 0, .int 0, .int 900, .int 0, .int 0, .int 0, .int 0, .int 0, .int 0, .int 0, .long 0, .int 0, .ref a2, .ref a3, .ref a4, .ref a5, .ref a6, .ref a7, .ref a8, .ref a9, .ref a10, .ref a11, .int 0, .ref a12, .ref a13, .ref a14, .ref a15, .int 0, .int 0, .int 0, .ref a16, .int (-1), .int (-1), .ref a17, .ref a18, .int 0, .ref a19, .int 0, .int 0, .ref a20, .ref a21, .int 0, .int 0, .ref a22, .int 0, .int 0, .int 0, .int 0]))]) M w 0 7 clX12 rfl (by decide) G1474 rfl rfl rfl rfl (Nat.le_of_ble_eq_true rfl) rfl dX12_go_109 (fun H locs w => ?_)
  exact ret () _ _ _ _ _ [0] dX12_go_112 trivial w (by decide) rfl
set_option maxRecDepth 100000 in
set_option maxHeartbeats 4000000 in
theorem c45_X12_begin (l : Launch) (D : va_G) (T : Nat → ClassId) (sz : Nat) (a0 a1 a2 a3 a4 a5 a6 a7 a8 a9 a10 a11 a12 a13 a14 a15 a16 a17 a18 a19 a20 a21 a22 : Nat) : Met l yX12_begin (Cond.code yX12_begin cX12_begin 2 none :: GW) (Rm 1 0 0) (cPre [.ref a0, .int 900] D T [(a0, .inr (11, [.int 0, .ref a1, .int 0, .int 0, .int 0, .int 0, .int 0, .int 0, .int 0, .int 0, .int 0, .int 0, .long 0, .int 0, .ref a2, .ref a3, .ref a4, .ref a5, .ref a6, .ref a7, .ref a8, .ref a9, .ref a10, .ref a11, .int 0, .ref a12, .ref a13, .ref a14, .ref a15, .int 0, .int 0, .int 0, .ref a16, .int (-1), .int (-1), .ref a17, .ref a18, .int 0, .ref a19, .int 0, .int 0, .ref a20, .ref a21, .int 0, .int 0, .ref a22, .int 0, .int 0, .int 0, .int 0]))] sz) (qV D [(a0, .inr (11, [.int 0, .ref a1, .int 0, .int 0, .int 0, .int 0, .int 0, .int 0, .int 0, .int 0, .int 0, .int 0, .long 0, .int 0, .ref a2, .ref a3, .ref a4, .ref a5, .ref a6, .ref a7, .ref a8, .ref a9, .ref a10, .ref a11, .int 0, .ref a12, .ref a13, .ref a14, .ref a15, .int 0, .int 0, .int 0, .ref a16, .int (-1), .int (-1), .ref a17, .ref a18, .int 0, .ref a19, .int 0, .int 0, .ref a20, .ref a21, .int 0, .int 0, .ref a22, .int 0, .int 0, .int 0, .int 0]))] sz (fun (u : Unit) => True) (fun u => [(a0, .inr (11, [.int 0, .ref a1, .int 0, .int 0, .int 900, .int 0, .int 0, .int 0, .int 0, .int 0, .int 0, .int 0, .long 0, .int 0, .ref a2, .ref a3, .ref a4, .ref a5, .ref a6, .ref a7, .ref a8, .ref a9, .ref a10, .ref a11, .int 0, .ref a12, .ref a13, .ref a14, .ref a15, .int 0, .int 0, .int 0, .ref a16, .int (-1), .int (-1), .ref a17, .ref a18, .int 0, .ref a19, .int 0, .int 0, .ref a20, .ref a21, .int 0, .int 0, .ref a22, .int 0, .int 0, .int 0, .int 0]))])) 0 0 (va_A [(a0, .inr (11, [.int 0, .ref a1, .int 0, .int 0, .int 0, .int 0, .int 0, .int 0, .int 0, .int 0, .int 0, .int 0, .long 0, .int 0, .ref a2, .ref a3, .ref a4, .ref a5, .ref a6, .ref a7, .ref a8, .ref a9, .ref a10, .ref a11, .int 0, .ref a12, .ref a13, .ref a14, .ref a15, .int 0, .int 0, .int 0, .ref a16, .int (-1), .int (-1), .ref a17, .ref a18, .int 0, .ref a19, .int 0, .int 0, .ref a20, .ref a21, .int 0, .int 0, .ref a22, .int 0, .int 0, .int 0, .int 0]))] sz) := by
  refine e_V (by decide) (Nat.le_of_ble_eq_true rfl) ?_
  intro p e s m args below meth c A Q ls M hin w ret hl
  have hx := M.1.1
  have hb := M.1.2.1
  have hl : lv_has ls 2 [(0, .ref a0), (1, .int 900)] := hl
  refine lv_aload_n hx hb dX12_begin_0 rfl (lv_at hl 0 rfl) ?_
  refine lv_iconst (v := 0) hx hb dX12_begin_1 (by decide) ?_
  refine r_put (ws' := [(a0, .inr (11, [.int 0, .ref a1, .int 0, .int 0, .int 0, .int 0, .int 0, .int 0, .int 0, .int 0, .int 0, .int 0, .long 0, .int 0, .ref a2, .ref a3, .ref a4, .ref a5, .ref a6, .ref a7, .ref a8, .ref a9, .ref a10, .ref a11, .int 0, .ref a12, .ref a13, .ref a14, .ref a15, .int 0, .int 0, .int 0, .ref a16, .int (-1), .int (-1), .ref a17, .ref a18, .int 0, .ref a19, .int 0, .int 0, .ref a20, .ref a21, .int 0, .int 0, .ref a22, .int 0, .int 0, .int 0, .int 0]))]) M w 0 0 clX12 rfl (by decide) G1467 rfl rfl rfl rfl (Nat.le_of_ble_eq_true rfl) rfl dX12_begin_2 (fun H locs w => ?_)
  refine lv_aload_n hx hb dX12_begin_5 rfl (lv_at hl 0 rfl) ?_
  refine lv_aload_n hx hb dX12_begin_6 rfl (lv_at hl 0 rfl) ?_
  refine k_I (ce := 0) (sl := 0) (rest := [.ref a0]) (wr := []) (r_V (f := 0) [0] M w V_HookedCityModel_89 G1629 G48 (c43_X12_take l D T _ a0 a1 a2 a3 a4 a5 a6 a7 a8 a9 a10 a11 a12 a13 a14 a15 a16 a17 a18 a19 a20 a21 a22) 0 clX12 rfl rfl (by decide) rfl hl.1 rfl (Nat.le_of_ble_eq_true rfl) dX12_begin_7 (by decide) (by decide) (by decide) (by decide)) w [0] [] rfl rfl (by decide) (by decide) rfl rfl (fun v _ H locs hp w => ?_)
  have hp : (0 : Int32) = v := hp
  subst hp
  have w : WD D A s.heap [(a0, .inr (11, [.int 0, .ref a1, .int 0, .int 0, .int 0, .int 0, .int 0, .int 0, .int 0, .int 0, .int 0, .int 0, .long 0, .int 0, .ref a2, .ref a3, .ref a4, .ref a5, .ref a6, .ref a7, .ref a8, .ref a9, .ref a10, .ref a11, .int 0, .ref a12, .ref a13, .ref a14, .ref a15, .int 0, .int 0, .int 0, .ref a16, .int (-1), .int (-1), .ref a17, .ref a18, .int 0, .ref a19, .int 0, .int 0, .ref a20, .ref a21, .int 0, .int 0, .ref a22, .int 0, .int 0, .int 0, .int 0]))] H locs := w
  refine r_put (ws' := [(a0, .inr (11, [.int 0, .ref a1, .int 0, .int 0, .int 0, .int 0, .int 0, .int 0, .int 0, .int 0, .int 0, .int 0, .long 0, .int 0, .ref a2, .ref a3, .ref a4, .ref a5, .ref a6, .ref a7, .ref a8, .ref a9, .ref a10, .ref a11, .int 0, .ref a12, .ref a13, .ref a14, .ref a15, .int 0, .int 0, .int 0, .ref a16, .int (-1), .int (-1), .ref a17, .ref a18, .int 0, .ref a19, .int 0, .int 0, .ref a20, .ref a21, .int 0, .int 0, .ref a22, .int 0, .int 0, .int 0, .int 0]))]) M w 0 3 clX12 rfl (by decide) G1470 rfl rfl rfl rfl (Nat.le_of_ble_eq_true rfl) rfl dX12_begin_10 (fun H locs w => ?_)
  refine lv_aload_n hx hb dX12_begin_13 rfl (lv_at hl 0 rfl) ?_
  refine lv_iload_n hx hb dX12_begin_14 rfl (lv_at hl 1 rfl) ?_
  refine r_put (ws' := [(a0, .inr (11, [.int 0, .ref a1, .int 0, .int 0, .int 900, .int 0, .int 0, .int 0, .int 0, .int 0, .int 0, .int 0, .long 0, .int 0, .ref a2, .ref a3, .ref a4, .ref a5, .ref a6, .ref a7, .ref a8, .ref a9, .ref a10, .ref a11, .int 0, .ref a12, .ref a13, .ref a14, .ref a15, .int 0, .int 0, .int 0, .ref a16, .int (-1), .int (-1), .ref a17, .ref a18, .int 0, .ref a19, .int 0, .int 0, .ref a20, .ref a21, .int 0, .int 0, .ref a22, .int 0, .int 0, .int 0, .int 0]))]) M w 0 4 clX12 rfl (by decide) G1471 rfl rfl rfl rfl (Nat.le_of_ble_eq_true rfl) rfl dX12_begin_15 (fun H locs w => ?_)
  refine lv_aload_n hx hb dX12_begin_18 rfl (lv_at hl 0 rfl) ?_
  refine lv_iconst (v := 0) hx hb dX12_begin_19 (by decide) ?_
  refine r_put (ws' := [(a0, .inr (11, [.int 0, .ref a1, .int 0, .int 0, .int 900, .int 0, .int 0, .int 0, .int 0, .int 0, .int 0, .int 0, .long 0, .int 0, .ref a2, .ref a3, .ref a4, .ref a5, .ref a6, .ref a7, .ref a8, .ref a9, .ref a10, .ref a11, .int 0, .ref a12, .ref a13, .ref a14, .ref a15, .int 0, .int 0, .int 0, .ref a16, .int (-1), .int (-1), .ref a17, .ref a18, .int 0, .ref a19, .int 0, .int 0, .ref a20, .ref a21, .int 0, .int 0, .ref a22, .int 0, .int 0, .int 0, .int 0]))]) M w 0 10 clX12 rfl (by decide) G1477 rfl rfl rfl rfl (Nat.le_of_ble_eq_true rfl) rfl dX12_begin_20 (fun H locs w => ?_)
  refine lv_aload_n hx hb dX12_begin_23 rfl (lv_at hl 0 rfl) ?_
  refine lv_iconst (v := 0) hx hb dX12_begin_24 (by decide) ?_
  refine r_put (ws' := [(a0, .inr (11, [.int 0, .ref a1, .int 0, .int 0, .int 900, .int 0, .int 0, .int 0, .int 0, .int 0, .int 0, .int 0, .long 0, .int 0, .ref a2, .ref a3, .ref a4, .ref a5, .ref a6, .ref a7, .ref a8, .ref a9, .ref a10, .ref a11, .int 0, .ref a12, .ref a13, .ref a14, .ref a15, .int 0, .int 0, .int 0, .ref a16, .int (-1), .int (-1), .ref a17, .ref a18, .int 0, .ref a19, .int 0, .int 0, .ref a20, .ref a21, .int 0, .int 0, .ref a22, .int 0, .int 0, .int 0, .int 0]))]) M w 0 5 clX12 rfl (by decide) G1472 rfl rfl rfl rfl (Nat.le_of_ble_eq_true rfl) rfl dX12_begin_25 (fun H locs w => ?_)
  refine lv_aload_n hx hb dX12_begin_28 rfl (lv_at hl 0 rfl) ?_
  refine k_V (ce := 0) (sl := 0) (rest := []) (wr := []) (r_V (f := 0) [0] M w V_HookedCityModel_82 G1633 G49 (c44_X12_go l D T _ a0 a1 a2 a3 a4 a5 a6 a7 a8 a9 a10 a11 a12 a13 a14 a15 a16 a17 a18 a19 a20 a21 a22) 0 clX12 rfl rfl (by decide) rfl hl.1 rfl (Nat.le_of_ble_eq_true rfl) dX12_begin_29 (by decide) (by decide) (by decide) (by decide)) w [0] [] rfl rfl (by decide) (by decide) rfl rfl (fun _ H locs hp w => ?_)
  have w : WD D A s.heap [(a0, .inr (11, [.int 0, .ref a1, .int 0, .int 0, .int 900, .int 0, .int 0, .int 0, .int 0, .int 0, .int 0, .int 0, .long 0, .int 0, .ref a2, .ref a3, .ref a4, .ref a5, .ref a6, .ref a7, .ref a8, .ref a9, .ref a10, .ref a11, .int 0, .ref a12, .ref a13, .ref a14, .ref a15, .int 0, .int 0, .int 0, .ref a16, .int (-1), .int (-1), .ref a17, .ref a18, .int 0, .ref a19, .int 0, .int 0, .ref a20, .ref a21, .int 0, .int 0, .ref a22, .int 0, .int 0, .int 0, .int 0]))] H locs := w
  exact ret () _ _ _ _ _ [0] dX12_begin_32 trivial w (by decide) rfl
set_option maxRecDepth 100000 in
set_option maxHeartbeats 4000000 in
theorem c46_X12_startRead (l : Launch) (D : va_G) (T : Nat → ClassId) (sz : Nat) (a0 a1 a2 a3 a4 a5 a6 a7 a8 a9 a10 a11 a12 a13 a14 a15 a16 a17 a18 a19 a20 a21 a22 : Nat) : Met l yX12_startRead (Cond.code yX12_startRead cX12_startRead 2 none :: GW) (Rm 0 0 0) (cPre [.ref a0] D T [(a0, .inr (11, [.int 0, .ref a1, .int 0, .int 0, .int 900, .int 0, .int 0, .int 0, .int 0, .int 0, .int 0, .int 0, .long 0, .int 0, .ref a2, .ref a3, .ref a4, .ref a5, .ref a6, .ref a7, .ref a8, .ref a9, .ref a10, .ref a11, .int 0, .ref a12, .ref a13, .ref a14, .ref a15, .int 0, .int 0, .int 0, .ref a16, .int (-1), .int (-1), .ref a17, .ref a18, .int 0, .ref a19, .int 0, .int 0, .ref a20, .ref a21, .int 0, .int 0, .ref a22, .int 0, .int 0, .int 0, .int 0])), (a3, .inl (T 0, 53, .inl cn13)), (a11, .inl (T 2, 3, .inl cn9))] sz) (qV D [(a0, .inr (11, [.int 0, .ref a1, .int 0, .int 0, .int 900, .int 0, .int 0, .int 0, .int 0, .int 0, .int 0, .int 0, .long 0, .int 0, .ref a2, .ref a3, .ref a4, .ref a5, .ref a6, .ref a7, .ref a8, .ref a9, .ref a10, .ref a11, .int 0, .ref a12, .ref a13, .ref a14, .ref a15, .int 0, .int 0, .int 0, .ref a16, .int (-1), .int (-1), .ref a17, .ref a18, .int 0, .ref a19, .int 0, .int 0, .ref a20, .ref a21, .int 0, .int 0, .ref a22, .int 0, .int 0, .int 0, .int 0])), (a3, .inl (T 0, 53, .inl cn13)), (a11, .inl (T 2, 3, .inl cn9))] sz (fun (u : Unit) => True) (fun u => [(a0, .inr (11, [.int 0, .ref a1, .int 0, .int 0, .int 900, .int 0, .int 0, .int 0, .int 0, .int 0, .int 0, .int 0, .long 0, .int 0, .ref a2, .ref a3, .ref a4, .ref a5, .ref a6, .ref a7, .ref a8, .ref a9, .ref a10, .ref a11, .int 0, .ref a12, .ref a13, .ref a14, .ref a15, .int 0, .int 0, .int 0, .ref a16, .int (-1), .int (-1), .ref a17, .ref a18, .int 0, .ref a19, .int 0, .int 0, .ref a20, .ref a21, .int 0, .int 0, .ref a22, .int 0, .int 0, .int 0, .int 0])), (a3, .inl (T 0, 53, .inl cn56)), (a11, .inl (T 2, 3, .inl cn52))])) 0 0 (va_A [(a0, .inr (11, [.int 0, .ref a1, .int 0, .int 0, .int 900, .int 0, .int 0, .int 0, .int 0, .int 0, .int 0, .int 0, .long 0, .int 0, .ref a2, .ref a3, .ref a4, .ref a5, .ref a6, .ref a7, .ref a8, .ref a9, .ref a10, .ref a11, .int 0, .ref a12, .ref a13, .ref a14, .ref a15, .int 0, .int 0, .int 0, .ref a16, .int (-1), .int (-1), .ref a17, .ref a18, .int 0, .ref a19, .int 0, .int 0, .ref a20, .ref a21, .int 0, .int 0, .ref a22, .int 0, .int 0, .int 0, .int 0])), (a3, .inl (T 0, 53, .inl cn13)), (a11, .inl (T 2, 3, .inl cn9))] sz) := by
  refine e_V (by decide) (Nat.le_of_ble_eq_true rfl) ?_
  intro p e s m args below meth c A Q ls M hin w ret hl
  have hx := M.1.1
  have hb := M.1.2.1
  have hl : lv_has ls 2 [(0, .ref a0)] := hl
  refine lv_iconst (v := 0) hx hb dX12_startRead_0 (by decide) ?_
  refine lv_istore_n (lv' := [(1, .int 0), (0, .ref a0)]) hx hb dX12_startRead_1 rfl hl (by decide) rfl (fun ls hl => ?_)
  have w : WD D A s.heap [(a0, .inr (11, [.int 0, .ref a1, .int 0, .int 0, .int 900, .int 0, .int 0, .int 0, .int 0, .int 0, .int 0, .int 0, .long 0, .int 0, .ref a2, .ref a3, .ref a4, .ref a5, .ref a6, .ref a7, .ref a8, .ref a9, .ref a10, .ref a11, .int 0, .ref a12, .ref a13, .ref a14, .ref a15, .int 0, .int 0, .int 0, .ref a16, .int (-1), .int (-1), .ref a17, .ref a18, .int 0, .ref a19, .int 0, .int 0, .ref a20, .ref a21, .int 0, .int 0, .ref a22, .int 0, .int 0, .int 0, .int 0])), (a3, .inl (T 0, 53, .inl (rngc 0 0 (0 : Int32) cn13))), (a11, .inl (T 2, 3, .inl cn9))] _ _ := w.to (by simp only [rngc_0])
  have loop : ∀ (k i : Nat) (H : Heap) (locs : List Loc) (ls : Array Slot), 0 ≤ i → i ≤ 53 → 53 < i + k → WD D A s.heap [(a0, .inr (11, [.int 0, .ref a1, .int 0, .int 0, .int 900, .int 0, .int 0, .int 0, .int 0, .int 0, .int 0, .int 0, .long 0, .int 0, .ref a2, .ref a3, .ref a4, .ref a5, .ref a6, .ref a7, .ref a8, .ref a9, .ref a10, .ref a11, .int 0, .ref a12, .ref a13, .ref a14, .ref a15, .int 0, .int 0, .int 0, .ref a16, .int (-1), .int (-1), .ref a17, .ref a18, .int 0, .ref a19, .int 0, .int 0, .ref a20, .ref a21, .int 0, .int 0, .ref a22, .int 0, .int 0, .int 0, .int 0])), (a3, .inl (T 0, 53, .inl (rngc 0 i (0 : Int32) cn13))), (a11, .inl (T 2, 3, .inl cn9))] H locs → lv_has ls 2 [(1, .int (nI i)), (0, .ref a0)] → W p l e (Rm 0 0 0) s m args below meth c H locs 0 0 Q (F0 m 2 ls []) := by
    intro k
    induction k with
    | zero => intro i H locs ls h0 h1 h2; exact absurd h2 (by omega)
    | succ k ih =>
      intro i H locs ls hi0 hi1 hi2 w hl
      refine lv_iload_n hx hb dX12_startRead_2 rfl (lv_at hl 0 rfl) ?_
      refine lv_bipush (v := 53) hx hb dX12_startRead_3 (by decide) ?_
      refine lv_icmp_ge (tgt := 21) hx hb dX12_startRead_5 (by decide) (fun c_1 => ?_) (fun c_1 => ?_)
      · have hi2 : 53 ≤ i := ix_exit (n := 53) (by decide) (by omega) (by decide) c_1
        obtain rfl : i = 53 := by omega
        have w : WD D A s.heap [(a0, .inr (11, [.int 0, .ref a1, .int 0, .int 0, .int 900, .int 0, .int 0, .int 0, .int 0, .int 0, .int 0, .int 0, .long 0, .int 0, .ref a2, .ref a3, .ref a4, .ref a5, .ref a6, .ref a7, .ref a8, .ref a9, .ref a10, .ref a11, .int 0, .ref a12, .ref a13, .ref a14, .ref a15, .int 0, .int 0, .int 0, .ref a16, .int (-1), .int (-1), .ref a17, .ref a18, .int 0, .ref a19, .int 0, .int 0, .ref a20, .ref a21, .int 0, .int 0, .ref a22, .int 0, .int 0, .int 0, .int 0])), (a3, .inl (T 0, 53, .inl cn50)), (a11, .inl (T 2, 3, .inl cn9))] H locs := w
        have hl : lv_has ls 2 [(1, .int 53), (0, .ref a0)] := hl
        refine lv_iconst (v := 0) hx hb dX12_startRead_21 (by decide) ?_
        refine lv_istore_n (lv' := [(1, .int 0), (0, .ref a0)]) hx hb dX12_startRead_22 rfl hl (by decide) rfl (fun ls hl => ?_)
        have w : WD D A s.heap [(a0, .inr (11, [.int 0, .ref a1, .int 0, .int 0, .int 900, .int 0, .int 0, .int 0, .int 0, .int 0, .int 0, .int 0, .long 0, .int 0, .ref a2, .ref a3, .ref a4, .ref a5, .ref a6, .ref a7, .ref a8, .ref a9, .ref a10, .ref a11, .int 0, .ref a12, .ref a13, .ref a14, .ref a15, .int 0, .int 0, .int 0, .ref a16, .int (-1), .int (-1), .ref a17, .ref a18, .int 0, .ref a19, .int 0, .int 0, .ref a20, .ref a21, .int 0, .int 0, .ref a22, .int 0, .int 0, .int 0, .int 0])), (a3, .inl (T 0, 53, .inl cn50)), (a11, .inl (T 2, 3, .inl (rngc 0 0 (0 : Int32) cn9)))] H locs := w.to (by simp only [rngc_0])
        have loop : ∀ (k i : Nat) (H : Heap) (locs : List Loc) (ls : Array Slot), 0 ≤ i → i ≤ 3 → 3 < i + k → WD D A s.heap [(a0, .inr (11, [.int 0, .ref a1, .int 0, .int 0, .int 900, .int 0, .int 0, .int 0, .int 0, .int 0, .int 0, .int 0, .long 0, .int 0, .ref a2, .ref a3, .ref a4, .ref a5, .ref a6, .ref a7, .ref a8, .ref a9, .ref a10, .ref a11, .int 0, .ref a12, .ref a13, .ref a14, .ref a15, .int 0, .int 0, .int 0, .ref a16, .int (-1), .int (-1), .ref a17, .ref a18, .int 0, .ref a19, .int 0, .int 0, .ref a20, .ref a21, .int 0, .int 0, .ref a22, .int 0, .int 0, .int 0, .int 0])), (a3, .inl (T 0, 53, .inl cn50)), (a11, .inl (T 2, 3, .inl (rngc 0 i (0 : Int32) cn9)))] H locs → lv_has ls 2 [(1, .int (nI i)), (0, .ref a0)] → W p l e (Rm 0 0 0) s m args below meth c H locs 0 0 Q (F0 m 23 ls []) := by
          intro k
          induction k with
          | zero => intro i H locs ls h0 h1 h2; exact absurd h2 (by omega)
          | succ k ih =>
            intro i H locs ls hi0 hi1 hi2 w hl
            refine lv_iload_n hx hb dX12_startRead_23 rfl (lv_at hl 0 rfl) ?_
            refine lv_iconst (v := 3) hx hb dX12_startRead_24 (by decide) ?_
            refine lv_icmp_ge (tgt := 41) hx hb dX12_startRead_25 (by decide) (fun c_2 => ?_) (fun c_2 => ?_)
            · have hi2 : 3 ≤ i := ix_exit (n := 3) (by decide) (by omega) (by decide) c_2
              obtain rfl : i = 3 := by omega
              have w : WD D A s.heap [(a0, .inr (11, [.int 0, .ref a1, .int 0, .int 0, .int 900, .int 0, .int 0, .int 0, .int 0, .int 0, .int 0, .int 0, .long 0, .int 0, .ref a2, .ref a3, .ref a4, .ref a5, .ref a6, .ref a7, .ref a8, .ref a9, .ref a10, .ref a11, .int 0, .ref a12, .ref a13, .ref a14, .ref a15, .int 0, .int 0, .int 0, .ref a16, .int (-1), .int (-1), .ref a17, .ref a18, .int 0, .ref a19, .int 0, .int 0, .ref a20, .ref a21, .int 0, .int 0, .ref a22, .int 0, .int 0, .int 0, .int 0])), (a3, .inl (T 0, 53, .inl cn50)), (a11, .inl (T 2, 3, .inl cn52))] H locs := w
              have hl : lv_has ls 2 [(1, .int 3), (0, .ref a0)] := hl
              refine lv_iconst (v := 0) hx hb dX12_startRead_41 (by decide) ?_
              refine lv_istore_n (lv' := [(1, .int 0), (0, .ref a0)]) hx hb dX12_startRead_42 rfl hl (by decide) rfl (fun ls hl => ?_)
              have w : WD D A s.heap [(a0, .inr (11, [.int 0, .ref a1, .int 0, .int 0, .int 900, .int 0, .int 0, .int 0, .int 0, .int 0, .int 0, .int 0, .long 0, .int 0, .ref a2, .ref a3, .ref a4, .ref a5, .ref a6, .ref a7, .ref a8, .ref a9, .ref a10, .ref a11, .int 0, .ref a12, .ref a13, .ref a14, .ref a15, .int 0, .int 0, .int 0, .ref a16, .int (-1), .int (-1), .ref a17, .ref a18, .int 0, .ref a19, .int 0, .int 0, .ref a20, .ref a21, .int 0, .int 0, .ref a22, .int 0, .int 0, .int 0, .int 0])), (a3, .inl (T 0, 53, .inl (rngc 32 32 (-1 : Int32) cn50))), (a11, .inl (T 2, 3, .inl cn52))] H locs := w.to (by simp only [rngc_0])
              have loop : ∀ (k i : Nat) (H : Heap) (locs : List Loc) (ls : Array Slot), 0 ≤ i → i ≤ 9 → 9 < i + k → WD D A s.heap [(a0, .inr (11, [.int 0, .ref a1, .int 0, .int 0, .int 900, .int 0, .int 0, .int 0, .int 0, .int 0, .int 0, .int 0, .long 0, .int 0, .ref a2, .ref a3, .ref a4, .ref a5, .ref a6, .ref a7, .ref a8, .ref a9, .ref a10, .ref a11, .int 0, .ref a12, .ref a13, .ref a14, .ref a15, .int 0, .int 0, .int 0, .ref a16, .int (-1), .int (-1), .ref a17, .ref a18, .int 0, .ref a19, .int 0, .int 0, .ref a20, .ref a21, .int 0, .int 0, .ref a22, .int 0, .int 0, .int 0, .int 0])), (a3, .inl (T 0, 53, .inl (rngc 32 (i + 32) (-1 : Int32) cn50))), (a11, .inl (T 2, 3, .inl cn52))] H locs → lv_has ls 2 [(1, .int (nI i)), (0, .ref a0)] → W p l e (Rm 0 0 0) s m args below meth c H locs 0 0 Q (F0 m 43 ls []) := by
                intro k
                induction k with
                | zero => intro i H locs ls h0 h1 h2; exact absurd h2 (by omega)
                | succ k ih =>
                  intro i H locs ls hi0 hi1 hi2 w hl
                  refine lv_iload_n hx hb dX12_startRead_43 rfl (lv_at hl 0 rfl) ?_
                  refine lv_bipush (v := 9) hx hb dX12_startRead_44 (by decide) ?_
                  refine lv_icmp_ge (tgt := 65) hx hb dX12_startRead_46 (by decide) (fun c_3 => ?_) (fun c_3 => ?_)
                  · have hi2 : 9 ≤ i := ix_exit (n := 9) (by decide) (by omega) (by decide) c_3
                    obtain rfl : i = 9 := by omega
                    have w : WD D A s.heap [(a0, .inr (11, [.int 0, .ref a1, .int 0, .int 0, .int 900, .int 0, .int 0, .int 0, .int 0, .int 0, .int 0, .int 0, .long 0, .int 0, .ref a2, .ref a3, .ref a4, .ref a5, .ref a6, .ref a7, .ref a8, .ref a9, .ref a10, .ref a11, .int 0, .ref a12, .ref a13, .ref a14, .ref a15, .int 0, .int 0, .int 0, .ref a16, .int (-1), .int (-1), .ref a17, .ref a18, .int 0, .ref a19, .int 0, .int 0, .ref a20, .ref a21, .int 0, .int 0, .ref a22, .int 0, .int 0, .int 0, .int 0])), (a3, .inl (T 0, 53, .inl cn54)), (a11, .inl (T 2, 3, .inl cn52))] H locs := w
                    have hl : lv_has ls 2 [(1, .int 9), (0, .ref a0)] := hl
                    refine lv_aload_n hx hb dX12_startRead_65 rfl (lv_at hl 1 rfl) ?_
                    refine r_get (v := .ref a3) M w 0 15 clX12 rfl (by decide) G1482 rfl rfl dX12_startRead_66 ?_
                    refine lv_iconst (v := 3) hx hb dX12_startRead_69 (by decide) ?_
                    refine lv_bipush (v := 12) hx hb dX12_startRead_70 (by decide) ?_
                    refine r_iast (ws' := [(a0, .inr (11, [.int 0, .ref a1, .int 0, .int 0, .int 900, .int 0, .int 0, .int 0, .int 0, .int 0, .int 0, .int 0, .long 0, .int 0, .ref a2, .ref a3, .ref a4, .ref a5, .ref a6, .ref a7, .ref a8, .ref a9, .ref a10, .ref a11, .int 0, .ref a12, .ref a13, .ref a14, .ref a15, .int 0, .int 0, .int 0, .ref a16, .int (-1), .int (-1), .ref a17, .ref a18, .int 0, .ref a19, .int 0, .int 0, .ref a20, .ref a21, .int 0, .int 0, .ref a22, .int 0, .int 0, .int 0, .int 0])), (a3, .inl (T 0, 53, .inl cn55)), (a11, .inl (T 2, 3, .inl cn52))]) M w 1 rfl (vin (by decide +kernel)) rfl dX12_startRead_72 (fun H locs w => ?_)
                    refine lv_aload_n hx hb dX12_startRead_73 rfl (lv_at hl 1 rfl) ?_
                    refine r_get (v := .ref a3) M w 0 15 clX12 rfl (by decide) G1482 rfl rfl dX12_startRead_74 ?_
                    refine lv_iconst (v := 4) hx hb dX12_startRead_77 (by decide) ?_
                    refine lv_iconst (v := 1) hx hb dX12_startRead_78 (by decide) ?_
                    refine r_iast (ws' := [(a0, .inr (11, [.int 0, .ref a1, .int 0, .int 0, .int 900, .int 0, .int 0, .int 0, .int 0, .int 0, .int 0, .int 0, .long 0, .int 0, .ref a2, .ref a3, .ref a4, .ref a5, .ref a6, .ref a7, .ref a8, .ref a9, .ref a10, .ref a11, .int 0, .ref a12, .ref a13, .ref a14, .ref a15, .int 0, .int 0, .int 0, .ref a16, .int (-1), .int (-1), .ref a17, .ref a18, .int 0, .ref a19, .int 0, .int 0, .ref a20, .ref a21, .int 0, .int 0, .ref a22, .int 0, .int 0, .int 0, .int 0])), (a3, .inl (T 0, 53, .inl cn56)), (a11, .inl (T 2, 3, .inl cn52))]) M w 1 rfl (vin (by decide +kernel)) rfl dX12_startRead_79 (fun H locs w => ?_)
                    exact ret () _ _ _ _ _ [0, 1, 2] dX12_startRead_80 trivial w (by decide) rfl
                  · have hi2 : i < 9 := ix_in2 (n := 9) (by decide) (by omega) (by decide) c_3
                    refine lv_aload_n hx hb dX12_startRead_49 rfl (lv_at hl 1 rfl) ?_
                    refine r_get (v := .ref a3) M w 0 15 clX12 rfl (by decide) G1482 rfl rfl dX12_startRead_50 ?_
                    refine lv_bipush (v := 32) hx hb dX12_startRead_53 (by decide) ?_
                    refine lv_iload_n hx hb dX12_startRead_55 rfl (lv_at hl 0 rfl) ?_
                    refine r_iadd (v := (nI (i + 32))) M (ix_addl (k := 32) (by decide) (by omega)) dX12_startRead_56 ?_
                    refine lv_iconst (v := (-1)) hx hb dX12_startRead_57 (by decide) ?_
                    refine r_iast (ws' := [(a0, .inr (11, [.int 0, .ref a1, .int 0, .int 0, .int 900, .int 0, .int 0, .int 0, .int 0, .int 0, .int 0, .int 0, .long 0, .int 0, .ref a2, .ref a3, .ref a4, .ref a5, .ref a6, .ref a7, .ref a8, .ref a9, .ref a10, .ref a11, .int 0, .ref a12, .ref a13, .ref a14, .ref a15, .int 0, .int 0, .int 0, .ref a16, .int (-1), .int (-1), .ref a17, .ref a18, .int 0, .ref a19, .int 0, .int 0, .ref a20, .ref a21, .int 0, .int 0, .ref a22, .int 0, .int 0, .int 0, .int 0])), (a3, .inl (T 0, 53, .inl (upd (rngc 32 (i + 32) (-1 : Int32) cn50) (Int32.toNatClampNeg (nI (i + 32))) (-1 : Int32)))), (a11, .inl (T 2, 3, .inl cn52))]) M w 1 rfl (ix_in (by omega) (by decide)) rfl dX12_startRead_58 (fun H locs w => ?_)
                    refine lv_iinc (v := (nI (i + 1))) (lv' := [(1, .int (nI (i + 1))), (0, .ref a0)]) hx hb dX12_startRead_59 hl (k := 0) rfl (ix_add (k := 1) (by decide) (by omega)) (by decide) rfl (fun ls hl => ?_)
                    refine lv_goto (tgt := 43) hx hb dX12_startRead_62 (by decide) ?_
                    rw [show (upd (rngc 32 (i + 32) (-1 : Int32) cn50) (Int32.toNatClampNeg (nI (i + 32))) (-1 : Int32)) = (rngc 32 (i + 33) (-1 : Int32) cn50) from rngc_step (nI_clamp (by omega)) (by omega)] at w
                    exact ih (i + 1) _ _ _ (by omega) (by omega) (by omega) w (lv_sub hl [0, 1] rfl)
              exact loop 10 0 _ _ _ (by decide) (by decide) (by decide) w hl
            · have hi2 : i < 3 := ix_in2 (n := 3) (by decide) (by omega) (by decide) c_2
              refine lv_aload_n hx hb dX12_startRead_28 rfl (lv_at hl 1 rfl) ?_
              refine r_get (v := .ref a11) M w 0 23 clX12 rfl (by decide) G1490 rfl rfl dX12_startRead_29 ?_
              refine lv_iload_n hx hb dX12_startRead_32 rfl (lv_at hl 0 rfl) ?_
              refine lv_iconst (v := 0) hx hb dX12_startRead_33 (by decide) ?_
              refine r_zast (x2 := (0 : Int32)) (ws' := [(a0, .inr (11, [.int 0, .ref a1, .int 0, .int 0, .int 900, .int 0, .int 0, .int 0, .int 0, .int 0, .int 0, .int 0, .long 0, .int 0, .ref a2, .ref a3, .ref a4, .ref a5, .ref a6, .ref a7, .ref a8, .ref a9, .ref a10, .ref a11, .int 0, .ref a12, .ref a13, .ref a14, .ref a15, .int 0, .int 0, .int 0, .ref a16, .int (-1), .int (-1), .ref a17, .ref a18, .int 0, .ref a19, .int 0, .int 0, .ref a20, .ref a21, .int 0, .int 0, .ref a22, .int 0, .int 0, .int 0, .int 0])), (a3, .inl (T 0, 53, .inl cn50)), (a11, .inl (T 2, 3, .inl (upd (rngc 0 i (0 : Int32) cn9) (Int32.toNatClampNeg (nI i)) (0 : Int32))))]) M w 2 rfl (ix_in (by omega) (by decide)) (by decide +kernel) rfl dX12_startRead_34 (fun H locs w => ?_)
              refine lv_iinc (v := (nI (i + 1))) (lv' := [(1, .int (nI (i + 1))), (0, .ref a0)]) hx hb dX12_startRead_35 hl (k := 0) rfl (ix_add (k := 1) (by decide) (by omega)) (by decide) rfl (fun ls hl => ?_)
              refine lv_goto (tgt := 23) hx hb dX12_startRead_38 (by decide) ?_
              rw [show (upd (rngc 0 i (0 : Int32) cn9) (Int32.toNatClampNeg (nI i)) (0 : Int32)) = (rngc 0 (i + 1) (0 : Int32) cn9) from rngc_step (nI_clamp (by omega)) (by omega)] at w
              exact ih (i + 1) _ _ _ (by omega) (by omega) (by omega) w (lv_sub hl [0, 1] rfl)
        exact loop 4 0 _ _ _ (by decide) (by decide) (by decide) w hl
      · have hi2 : i < 53 := ix_in2 (n := 53) (by decide) (by omega) (by decide) c_1
        refine lv_aload_n hx hb dX12_startRead_8 rfl (lv_at hl 1 rfl) ?_
        refine r_get (v := .ref a3) M w 0 15 clX12 rfl (by decide) G1482 rfl rfl dX12_startRead_9 ?_
        refine lv_iload_n hx hb dX12_startRead_12 rfl (lv_at hl 0 rfl) ?_
        refine lv_iconst (v := 0) hx hb dX12_startRead_13 (by decide) ?_
        refine r_iast (ws' := [(a0, .inr (11, [.int 0, .ref a1, .int 0, .int 0, .int 900, .int 0, .int 0, .int 0, .int 0, .int 0, .int 0, .int 0, .long 0, .int 0, .ref a2, .ref a3, .ref a4, .ref a5, .ref a6, .ref a7, .ref a8, .ref a9, .ref a10, .ref a11, .int 0, .ref a12, .ref a13, .ref a14, .ref a15, .int 0, .int 0, .int 0, .ref a16, .int (-1), .int (-1), .ref a17, .ref a18, .int 0, .ref a19, .int 0, .int 0, .ref a20, .ref a21, .int 0, .int 0, .ref a22, .int 0, .int 0, .int 0, .int 0])), (a3, .inl (T 0, 53, .inl (upd (rngc 0 i (0 : Int32) cn13) (Int32.toNatClampNeg (nI i)) (0 : Int32)))), (a11, .inl (T 2, 3, .inl cn9))]) M w 1 rfl (ix_in (by omega) (by decide)) rfl dX12_startRead_14 (fun H locs w => ?_)
        refine lv_iinc (v := (nI (i + 1))) (lv' := [(1, .int (nI (i + 1))), (0, .ref a0)]) hx hb dX12_startRead_15 hl (k := 0) rfl (ix_add (k := 1) (by decide) (by omega)) (by decide) rfl (fun ls hl => ?_)
        refine lv_goto (tgt := 2) hx hb dX12_startRead_18 (by decide) ?_
        rw [show (upd (rngc 0 i (0 : Int32) cn13) (Int32.toNatClampNeg (nI i)) (0 : Int32)) = (rngc 0 (i + 1) (0 : Int32) cn13) from rngc_step (nI_clamp (by omega)) (by omega)] at w
        exact ih (i + 1) _ _ _ (by omega) (by omega) (by omega) w (lv_sub hl [0, 1] rfl)
  exact loop 54 0 _ _ _ (by decide) (by decide) (by decide) w hl
set_option maxRecDepth 100000 in
set_option maxHeartbeats 4000000 in
theorem c47_X12_startSo (l : Launch) (D : va_G) (T : Nat → ClassId) (sz : Nat) (a0 a1 a2 a3 a4 a5 a6 a7 a8 a9 a10 a11 a12 a13 a14 a15 a16 a17 a18 a19 a20 a21 a22 : Nat) : Met l yX12_startSo (Cond.code yX12_startSo cX12_startSo 2 none :: GW) (Rm 0 0 0) (cPre [.ref a0] D T [(a0, .inr (11, [.int 0, .ref a1, .int 0, .int 0, .int 900, .int 0, .int 0, .int 0, .int 0, .int 0, .int 0, .int 0, .long 0, .int 0, .ref a2, .ref a3, .ref a4, .ref a5, .ref a6, .ref a7, .ref a8, .ref a9, .ref a10, .ref a11, .int 0, .ref a12, .ref a13, .ref a14, .ref a15, .int 0, .int 0, .int 0, .ref a16, .int (-1), .int (-1), .ref a17, .ref a18, .int 0, .ref a19, .int 0, .int 0, .ref a20, .ref a21, .int 0, .int 0, .ref a22, .int 0, .int 0, .int 0, .int 0])), (a2, .inl (T 0, 329, .inl cn58))] sz) (qV D [(a0, .inr (11, [.int 0, .ref a1, .int 0, .int 0, .int 900, .int 0, .int 0, .int 0, .int 0, .int 0, .int 0, .int 0, .long 0, .int 0, .ref a2, .ref a3, .ref a4, .ref a5, .ref a6, .ref a7, .ref a8, .ref a9, .ref a10, .ref a11, .int 0, .ref a12, .ref a13, .ref a14, .ref a15, .int 0, .int 0, .int 0, .ref a16, .int (-1), .int (-1), .ref a17, .ref a18, .int 0, .ref a19, .int 0, .int 0, .ref a20, .ref a21, .int 0, .int 0, .ref a22, .int 0, .int 0, .int 0, .int 0])), (a2, .inl (T 0, 329, .inl cn58))] sz (fun (u : Unit) => True) (fun u => [(a0, .inr (11, [.int 0, .ref a1, .int 0, .int 0, .int 900, .int 0, .int 0, .int 0, .int 0, .int 0, .int 0, .int 0, .long 0, .int 0, .ref a2, .ref a3, .ref a4, .ref a5, .ref a6, .ref a7, .ref a8, .ref a9, .ref a10, .ref a11, .int 0, .ref a12, .ref a13, .ref a14, .ref a15, .int 0, .int 0, .int 0, .ref a16, .int (-1), .int (-1), .ref a17, .ref a18, .int 0, .ref a19, .int 0, .int 0, .ref a20, .ref a21, .int 0, .int 0, .ref a22, .int 0, .int 0, .int 0, .int 0])), (a2, .inl (T 0, 329, .inl cn90))])) 0 0 (va_A [(a0, .inr (11, [.int 0, .ref a1, .int 0, .int 0, .int 900, .int 0, .int 0, .int 0, .int 0, .int 0, .int 0, .int 0, .long 0, .int 0, .ref a2, .ref a3, .ref a4, .ref a5, .ref a6, .ref a7, .ref a8, .ref a9, .ref a10, .ref a11, .int 0, .ref a12, .ref a13, .ref a14, .ref a15, .int 0, .int 0, .int 0, .ref a16, .int (-1), .int (-1), .ref a17, .ref a18, .int 0, .ref a19, .int 0, .int 0, .ref a20, .ref a21, .int 0, .int 0, .ref a22, .int 0, .int 0, .int 0, .int 0])), (a2, .inl (T 0, 329, .inl cn58))] sz) := by
  refine e_V (by decide) (Nat.le_of_ble_eq_true rfl) ?_
  intro p e s m args below meth c A Q ls M hin w ret hl
  have hx := M.1.1
  have hb := M.1.2.1
  have hl : lv_has ls 2 [(0, .ref a0)] := hl
  refine lv_bipush (v := 53) hx hb dX12_startSo_0 (by decide) ?_
  refine lv_istore_n (lv' := [(1, .int 53), (0, .ref a0)]) hx hb dX12_startSo_2 rfl hl (by decide) rfl (fun ls hl => ?_)
  have w : WD D A s.heap [(a0, .inr (11, [.int 0, .ref a1, .int 0, .int 0, .int 900, .int 0, .int 0, .int 0, .int 0, .int 0, .int 0, .int 0, .long 0, .int 0, .ref a2, .ref a3, .ref a4, .ref a5, .ref a6, .ref a7, .ref a8, .ref a9, .ref a10, .ref a11, .int 0, .ref a12, .ref a13, .ref a14, .ref a15, .int 0, .int 0, .int 0, .ref a16, .int (-1), .int (-1), .ref a17, .ref a18, .int 0, .ref a19, .int 0, .int 0, .ref a20, .ref a21, .int 0, .int 0, .ref a22, .int 0, .int 0, .int 0, .int 0])), (a2, .inl (T 0, 329, .inl (rngc 53 53 (0 : Int32) cn58)))] _ _ := w.to (by simp only [rngc_0])
  have loop : ∀ (k i : Nat) (H : Heap) (locs : List Loc) (ls : Array Slot), 53 ≤ i → i ≤ 329 → 329 < i + k → WD D A s.heap [(a0, .inr (11, [.int 0, .ref a1, .int 0, .int 0, .int 900, .int 0, .int 0, .int 0, .int 0, .int 0, .int 0, .int 0, .long 0, .int 0, .ref a2, .ref a3, .ref a4, .ref a5, .ref a6, .ref a7, .ref a8, .ref a9, .ref a10, .ref a11, .int 0, .ref a12, .ref a13, .ref a14, .ref a15, .int 0, .int 0, .int 0, .ref a16, .int (-1), .int (-1), .ref a17, .ref a18, .int 0, .ref a19, .int 0, .int 0, .ref a20, .ref a21, .int 0, .int 0, .ref a22, .int 0, .int 0, .int 0, .int 0])), (a2, .inl (T 0, 329, .inl (rngc 53 i (0 : Int32) cn58)))] H locs → lv_has ls 2 [(1, .int (nI i)), (0, .ref a0)] → W p l e (Rm 0 0 0) s m args below meth c H locs 0 0 Q (F0 m 3 ls []) := by
    intro k
    induction k with
    | zero => intro i H locs ls h0 h1 h2; exact absurd h2 (by omega)
    | succ k ih =>
      intro i H locs ls hi0 hi1 hi2 w hl
      refine lv_iload_n hx hb dX12_startSo_3 rfl (lv_at hl 0 rfl) ?_
      refine lv_sipush (v := 329) hx hb dX12_startSo_4 (by decide) ?_
      refine lv_icmp_ge (tgt := 23) hx hb dX12_startSo_7 (by decide) (fun c_1 => ?_) (fun c_1 => ?_)
      · have hi2 : 329 ≤ i := ix_exit (n := 329) (by decide) (by omega) (by decide) c_1
        obtain rfl : i = 329 := by omega
        have w : WD D A s.heap [(a0, .inr (11, [.int 0, .ref a1, .int 0, .int 0, .int 900, .int 0, .int 0, .int 0, .int 0, .int 0, .int 0, .int 0, .long 0, .int 0, .ref a2, .ref a3, .ref a4, .ref a5, .ref a6, .ref a7, .ref a8, .ref a9, .ref a10, .ref a11, .int 0, .ref a12, .ref a13, .ref a14, .ref a15, .int 0, .int 0, .int 0, .ref a16, .int (-1), .int (-1), .ref a17, .ref a18, .int 0, .ref a19, .int 0, .int 0, .ref a20, .ref a21, .int 0, .int 0, .ref a22, .int 0, .int 0, .int 0, .int 0])), (a2, .inl (T 0, 329, .inl cn62))] H locs := w
        have hl : lv_has ls 2 [(1, .int 329), (0, .ref a0)] := hl
        refine lv_aload_n hx hb dX12_startSo_23 rfl (lv_at hl 1 rfl) ?_
        refine r_get (v := .ref a2) M w 0 14 clX12 rfl (by decide) G1481 rfl rfl dX12_startSo_24 ?_
        refine lv_bipush (v := 54) hx hb dX12_startSo_27 (by decide) ?_
        refine lv_aload_n hx hb dX12_startSo_29 rfl (lv_at hl 1 rfl) ?_
        refine r_get (v := .ref a2) M w 0 14 clX12 rfl (by decide) G1481 rfl rfl dX12_startSo_30 ?_
        refine lv_iconst (v := 2) hx hb dX12_startSo_33 (by decide) ?_
        refine r_iald (v := (0 : Int32)) M w 1 rfl (vin (by decide +kernel)) (by decide +kernel) dX12_startSo_34 ?_
        refine r_iast (ws' := [(a0, .inr (11, [.int 0, .ref a1, .int 0, .int 0, .int 900, .int 0, .int 0, .int 0, .int 0, .int 0, .int 0, .int 0, .long 0, .int 0, .ref a2, .ref a3, .ref a4, .ref a5, .ref a6, .ref a7, .ref a8, .ref a9, .ref a10, .ref a11, .int 0, .ref a12, .ref a13, .ref a14, .ref a15, .int 0, .int 0, .int 0, .ref a16, .int (-1), .int (-1), .ref a17, .ref a18, .int 0, .ref a19, .int 0, .int 0, .ref a20, .ref a21, .int 0, .int 0, .ref a22, .int 0, .int 0, .int 0, .int 0])), (a2, .inl (T 0, 329, .inl cn63))]) M w 1 rfl (vin (by decide +kernel)) rfl dX12_startSo_35 (fun H locs w => ?_)
        refine lv_iconst (v := 0) hx hb dX12_startSo_36 (by decide) ?_
        refine lv_istore_n (lv' := [(1, .int 0), (0, .ref a0)]) hx hb dX12_startSo_37 rfl hl (by decide) rfl (fun ls hl => ?_)
        refine lv_iload_n hx hb dX12_startSo_38 rfl (lv_at hl 0 rfl) ?_
        refine lv_bipush (v := 9) hx hb dX12_startSo_39 (by decide) ?_
        refine lv_icmp_ge (tgt := 96) hx hb dX12_startSo_41 (by decide) (fun c => absurd c (by decide +kernel)) (fun _ => ?_)
        refine lv_aload_n hx hb dX12_startSo_44 rfl (lv_at hl 1 rfl) ?_
        refine r_get (v := .ref a2) M w 0 14 clX12 rfl (by decide) G1481 rfl rfl dX12_startSo_45 ?_
        refine lv_bipush (v := 57) hx hb dX12_startSo_48 (by decide) ?_
        refine lv_iload_n hx hb dX12_startSo_50 rfl (lv_at hl 0 rfl) ?_
        refine r_iadd (v := (57 : Int32)) M (by decide +kernel) dX12_startSo_51 ?_
        refine lv_aload_n hx hb dX12_startSo_52 rfl (lv_at hl 1 rfl) ?_
        refine r_get (v := .ref a2) M w 0 14 clX12 rfl (by decide) G1481 rfl rfl dX12_startSo_53 ?_
        refine lv_bipush (v := 32) hx hb dX12_startSo_56 (by decide) ?_
        refine lv_iload_n hx hb dX12_startSo_58 rfl (lv_at hl 0 rfl) ?_
        refine r_iadd (v := (32 : Int32)) M (by decide +kernel) dX12_startSo_59 ?_
        refine r_iald (v := (-1 : Int32)) M w 1 rfl (vin (by decide +kernel)) (by decide +kernel) dX12_startSo_60 ?_
        refine r_iast (ws' := [(a0, .inr (11, [.int 0, .ref a1, .int 0, .int 0, .int 900, .int 0, .int 0, .int 0, .int 0, .int 0, .int 0, .int 0, .long 0, .int 0, .ref a2, .ref a3, .ref a4, .ref a5, .ref a6, .ref a7, .ref a8, .ref a9, .ref a10, .ref a11, .int 0, .ref a12, .ref a13, .ref a14, .ref a15, .int 0, .int 0, .int 0, .ref a16, .int (-1), .int (-1), .ref a17, .ref a18, .int 0, .ref a19, .int 0, .int 0, .ref a20, .ref a21, .int 0, .int 0, .ref a22, .int 0, .int 0, .int 0, .int 0])), (a2, .inl (T 0, 329, .inl cn64))]) M w 1 rfl (vin (by decide +kernel)) rfl dX12_startSo_61 (fun H locs w => ?_)
        refine lv_aload_n hx hb dX12_startSo_62 rfl (lv_at hl 1 rfl) ?_
        refine r_get (v := .ref a2) M w 0 14 clX12 rfl (by decide) G1481 rfl rfl dX12_startSo_63 ?_
        refine lv_bipush (v := 66) hx hb dX12_startSo_66 (by decide) ?_
        refine lv_iload_n hx hb dX12_startSo_68 rfl (lv_at hl 0 rfl) ?_
        refine r_iadd (v := (66 : Int32)) M (by decide +kernel) dX12_startSo_69 ?_
        refine lv_iconst (v := (-1)) hx hb dX12_startSo_70 (by decide) ?_
        refine r_iast (ws' := [(a0, .inr (11, [.int 0, .ref a1, .int 0, .int 0, .int 900, .int 0, .int 0, .int 0, .int 0, .int 0, .int 0, .int 0, .long 0, .int 0, .ref a2, .ref a3, .ref a4, .ref a5, .ref a6, .ref a7, .ref a8, .ref a9, .ref a10, .ref a11, .int 0, .ref a12, .ref a13, .ref a14, .ref a15, .int 0, .int 0, .int 0, .ref a16, .int (-1), .int (-1), .ref a17, .ref a18, .int 0, .ref a19, .int 0, .int 0, .ref a20, .ref a21, .int 0, .int 0, .ref a22, .int 0, .int 0, .int 0, .int 0])), (a2, .inl (T 0, 329, .inl cn65))]) M w 1 rfl (vin (by decide +kernel)) rfl dX12_startSo_71 (fun H locs w => ?_)
        refine lv_aload_n hx hb dX12_startSo_72 rfl (lv_at hl 1 rfl) ?_
        refine r_get (v := .ref a2) M w 0 14 clX12 rfl (by decide) G1481 rfl rfl dX12_startSo_73 ?_
        refine lv_bipush (v := 75) hx hb dX12_startSo_76 (by decide) ?_
        refine lv_iload_n hx hb dX12_startSo_78 rfl (lv_at hl 0 rfl) ?_
        refine r_iadd (v := (75 : Int32)) M (by decide +kernel) dX12_startSo_79 ?_
        refine lv_aload_n hx hb dX12_startSo_80 rfl (lv_at hl 1 rfl) ?_
        refine r_get (v := .ref a2) M w 0 14 clX12 rfl (by decide) G1481 rfl rfl dX12_startSo_81 ?_
        refine lv_bipush (v := 23) hx hb dX12_startSo_84 (by decide) ?_
        refine lv_iload_n hx hb dX12_startSo_86 rfl (lv_at hl 0 rfl) ?_
        refine r_iadd (v := (23 : Int32)) M (by decide +kernel) dX12_startSo_87 ?_
        refine r_iald (v := (0 : Int32)) M w 1 rfl (vin (by decide +kernel)) (by decide +kernel) dX12_startSo_88 ?_
        refine r_iast (ws' := [(a0, .inr (11, [.int 0, .ref a1, .int 0, .int 0, .int 900, .int 0, .int 0, .int 0, .int 0, .int 0, .int 0, .int 0, .long 0, .int 0, .ref a2, .ref a3, .ref a4, .ref a5, .ref a6, .ref a7, .ref a8, .ref a9, .ref a10, .ref a11, .int 0, .ref a12, .ref a13, .ref a14, .ref a15, .int 0, .int 0, .int 0, .ref a16, .int (-1), .int (-1), .ref a17, .ref a18, .int 0, .ref a19, .int 0, .int 0, .ref a20, .ref a21, .int 0, .int 0, .ref a22, .int 0, .int 0, .int 0, .int 0])), (a2, .inl (T 0, 329, .inl cn66))]) M w 1 rfl (vin (by decide +kernel)) rfl dX12_startSo_89 (fun H locs w => ?_)
        refine lv_iinc (v := (1 : Int32)) (lv' := [(1, .int 1), (0, .ref a0)]) hx hb dX12_startSo_90 hl (k := 0) rfl (by decide +kernel) (by decide) rfl (fun ls hl => ?_)
        refine lv_goto (tgt := 38) hx hb dX12_startSo_93 (by decide) ?_
        refine lv_iload_n hx hb dX12_startSo_38 rfl (lv_at hl 0 rfl) ?_
        refine lv_bipush (v := 9) hx hb dX12_startSo_39 (by decide) ?_
        refine lv_icmp_ge (tgt := 96) hx hb dX12_startSo_41 (by decide) (fun c => absurd c (by decide +kernel)) (fun _ => ?_)
        refine lv_aload_n hx hb dX12_startSo_44 rfl (lv_at hl 1 rfl) ?_
        refine r_get (v := .ref a2) M w 0 14 clX12 rfl (by decide) G1481 rfl rfl dX12_startSo_45 ?_
        refine lv_bipush (v := 57) hx hb dX12_startSo_48 (by decide) ?_
        refine lv_iload_n hx hb dX12_startSo_50 rfl (lv_at hl 0 rfl) ?_
        refine r_iadd (v := (58 : Int32)) M (by decide +kernel) dX12_startSo_51 ?_
        refine lv_aload_n hx hb dX12_startSo_52 rfl (lv_at hl 1 rfl) ?_
        refine r_get (v := .ref a2) M w 0 14 clX12 rfl (by decide) G1481 rfl rfl dX12_startSo_53 ?_
        refine lv_bipush (v := 32) hx hb dX12_startSo_56 (by decide) ?_
        refine lv_iload_n hx hb dX12_startSo_58 rfl (lv_at hl 0 rfl) ?_
        refine r_iadd (v := (33 : Int32)) M (by decide +kernel) dX12_startSo_59 ?_
        refine r_iald (v := (-1 : Int32)) M w 1 rfl (vin (by decide +kernel)) (by decide +kernel) dX12_startSo_60 ?_
        refine r_iast (ws' := [(a0, .inr (11, [.int 0, .ref a1, .int 0, .int 0, .int 900, .int 0, .int 0, .int 0, .int 0, .int 0, .int 0, .int 0, .long 0, .int 0, .ref a2, .ref a3, .ref a4, .ref a5, .ref a6, .ref a7, .ref a8, .ref a9, .ref a10, .ref a11, .int 0, .ref a12, .ref a13, .ref a14, .ref a15, .int 0, .int 0, .int 0, .ref a16, .int (-1), .int (-1), .ref a17, .ref a18, .int 0, .ref a19, .int 0, .int 0, .ref a20, .ref a21, .int 0, .int 0, .ref a22, .int 0, .int 0, .int 0, .int 0])), (a2, .inl (T 0, 329, .inl cn67))]) M w 1 rfl (vin (by decide +kernel)) rfl dX12_startSo_61 (fun H locs w => ?_)
        refine lv_aload_n hx hb dX12_startSo_62 rfl (lv_at hl 1 rfl) ?_
        refine r_get (v := .ref a2) M w 0 14 clX12 rfl (by decide) G1481 rfl rfl dX12_startSo_63 ?_
        refine lv_bipush (v := 66) hx hb dX12_startSo_66 (by decide) ?_
        refine lv_iload_n hx hb dX12_startSo_68 rfl (lv_at hl 0 rfl) ?_
        refine r_iadd (v := (67 : Int32)) M (by decide +kernel) dX12_startSo_69 ?_
        refine lv_iconst (v := (-1)) hx hb dX12_startSo_70 (by decide) ?_
        refine r_iast (ws' := [(a0, .inr (11, [.int 0, .ref a1, .int 0, .int 0, .int 900, .int 0, .int 0, .int 0, .int 0, .int 0, .int 0, .int 0, .long 0, .int 0, .ref a2, .ref a3, .ref a4, .ref a5, .ref a6, .ref a7, .ref a8, .ref a9, .ref a10, .ref a11, .int 0, .ref a12, .ref a13, .ref a14, .ref a15, .int 0, .int 0, .int 0, .ref a16, .int (-1), .int (-1), .ref a17, .ref a18, .int 0, .ref a19, .int 0, .int 0, .ref a20, .ref a21, .int 0, .int 0, .ref a22, .int 0, .int 0, .int 0, .int 0])), (a2, .inl (T 0, 329, .inl cn68))]) M w 1 rfl (vin (by decide +kernel)) rfl dX12_startSo_71 (fun H locs w => ?_)
        refine lv_aload_n hx hb dX12_startSo_72 rfl (lv_at hl 1 rfl) ?_
        refine r_get (v := .ref a2) M w 0 14 clX12 rfl (by decide) G1481 rfl rfl dX12_startSo_73 ?_
        refine lv_bipush (v := 75) hx hb dX12_startSo_76 (by decide) ?_
        refine lv_iload_n hx hb dX12_startSo_78 rfl (lv_at hl 0 rfl) ?_
        refine r_iadd (v := (76 : Int32)) M (by decide +kernel) dX12_startSo_79 ?_
        refine lv_aload_n hx hb dX12_startSo_80 rfl (lv_at hl 1 rfl) ?_
        refine r_get (v := .ref a2) M w 0 14 clX12 rfl (by decide) G1481 rfl rfl dX12_startSo_81 ?_
        refine lv_bipush (v := 23) hx hb dX12_startSo_84 (by decide) ?_
        refine lv_iload_n hx hb dX12_startSo_86 rfl (lv_at hl 0 rfl) ?_
        refine r_iadd (v := (24 : Int32)) M (by decide +kernel) dX12_startSo_87 ?_
        refine r_iald (v := (0 : Int32)) M w 1 rfl (vin (by decide +kernel)) (by decide +kernel) dX12_startSo_88 ?_
        refine r_iast (ws' := [(a0, .inr (11, [.int 0, .ref a1, .int 0, .int 0, .int 900, .int 0, .int 0, .int 0, .int 0, .int 0, .int 0, .int 0, .long 0, .int 0, .ref a2, .ref a3, .ref a4, .ref a5, .ref a6, .ref a7, .ref a8, .ref a9, .ref a10, .ref a11, .int 0, .ref a12, .ref a13, .ref a14, .ref a15, .int 0, .int 0, .int 0, .ref a16, .int (-1), .int (-1), .ref a17, .ref a18, .int 0, .ref a19, .int 0, .int 0, .ref a20, .ref a21, .int 0, .int 0, .ref a22, .int 0, .int 0, .int 0, .int 0])), (a2, .inl (T 0, 329, .inl cn69))]) M w 1 rfl (vin (by decide +kernel)) rfl dX12_startSo_89 (fun H locs w => ?_)
        refine lv_iinc (v := (2 : Int32)) (lv' := [(1, .int 2), (0, .ref a0)]) hx hb dX12_startSo_90 hl (k := 0) rfl (by decide +kernel) (by decide) rfl (fun ls hl => ?_)
        refine lv_goto (tgt := 38) hx hb dX12_startSo_93 (by decide) ?_
        refine lv_iload_n hx hb dX12_startSo_38 rfl (lv_at hl 0 rfl) ?_
        refine lv_bipush (v := 9) hx hb dX12_startSo_39 (by decide) ?_
        refine lv_icmp_ge (tgt := 96) hx hb dX12_startSo_41 (by decide) (fun c => absurd c (by decide +kernel)) (fun _ => ?_)
        refine lv_aload_n hx hb dX12_startSo_44 rfl (lv_at hl 1 rfl) ?_
        refine r_get (v := .ref a2) M w 0 14 clX12 rfl (by decide) G1481 rfl rfl dX12_startSo_45 ?_
        refine lv_bipush (v := 57) hx hb dX12_startSo_48 (by decide) ?_
        refine lv_iload_n hx hb dX12_startSo_50 rfl (lv_at hl 0 rfl) ?_
        refine r_iadd (v := (59 : Int32)) M (by decide +kernel) dX12_startSo_51 ?_
        refine lv_aload_n hx hb dX12_startSo_52 rfl (lv_at hl 1 rfl) ?_
        refine r_get (v := .ref a2) M w 0 14 clX12 rfl (by decide) G1481 rfl rfl dX12_startSo_53 ?_
        refine lv_bipush (v := 32) hx hb dX12_startSo_56 (by decide) ?_
        refine lv_iload_n hx hb dX12_startSo_58 rfl (lv_at hl 0 rfl) ?_
        refine r_iadd (v := (34 : Int32)) M (by decide +kernel) dX12_startSo_59 ?_
        refine r_iald (v := (-1 : Int32)) M w 1 rfl (vin (by decide +kernel)) (by decide +kernel) dX12_startSo_60 ?_
        refine r_iast (ws' := [(a0, .inr (11, [.int 0, .ref a1, .int 0, .int 0, .int 900, .int 0, .int 0, .int 0, .int 0, .int 0, .int 0, .int 0, .long 0, .int 0, .ref a2, .ref a3, .ref a4, .ref a5, .ref a6, .ref a7, .ref a8, .ref a9, .ref a10, .ref a11, .int 0, .ref a12, .ref a13, .ref a14, .ref a15, .int 0, .int 0, .int 0, .ref a16, .int (-1), .int (-1), .ref a17, .ref a18, .int 0, .ref a19, .int 0, .int 0, .ref a20, .ref a21, .int 0, .int 0, .ref a22, .int 0, .int 0, .int 0, .int 0])), (a2, .inl (T 0, 329, .inl cn70))]) M w 1 rfl (vin (by decide +kernel)) rfl dX12_startSo_61 (fun H locs w => ?_)
        refine lv_aload_n hx hb dX12_startSo_62 rfl (lv_at hl 1 rfl) ?_
        refine r_get (v := .ref a2) M w 0 14 clX12 rfl (by decide) G1481 rfl rfl dX12_startSo_63 ?_
        refine lv_bipush (v := 66) hx hb dX12_startSo_66 (by decide) ?_
        refine lv_iload_n hx hb dX12_startSo_68 rfl (lv_at hl 0 rfl) ?_
        refine r_iadd (v := (68 : Int32)) M (by decide +kernel) dX12_startSo_69 ?_
        refine lv_iconst (v := (-1)) hx hb dX12_startSo_70 (by decide) ?_
        refine r_iast (ws' := [(a0, .inr (11, [.int 0, .ref a1, .int 0, .int 0, .int 900, .int 0, .int 0, .int 0, .int 0, .int 0, .int 0, .int 0, .long 0, .int 0, .ref a2, .ref a3, .ref a4, .ref a5, .ref a6, .ref a7, .ref a8, .ref a9, .ref a10, .ref a11, .int 0, .ref a12, .ref a13, .ref a14, .ref a15, .int 0, .int 0, .int 0, .ref a16, .int (-1), .int (-1), .ref a17, .ref a18, .int 0, .ref a19, .int 0, .int 0, .ref a20, .ref a21, .int 0, .int 0, .ref a22, .int 0, .int 0, .int 0, .int 0])), (a2, .inl (T 0, 329, .inl cn71))]) M w 1 rfl (vin (by decide +kernel)) rfl dX12_startSo_71 (fun H locs w => ?_)
        refine lv_aload_n hx hb dX12_startSo_72 rfl (lv_at hl 1 rfl) ?_
        refine r_get (v := .ref a2) M w 0 14 clX12 rfl (by decide) G1481 rfl rfl dX12_startSo_73 ?_
        refine lv_bipush (v := 75) hx hb dX12_startSo_76 (by decide) ?_
        refine lv_iload_n hx hb dX12_startSo_78 rfl (lv_at hl 0 rfl) ?_
        refine r_iadd (v := (77 : Int32)) M (by decide +kernel) dX12_startSo_79 ?_
        refine lv_aload_n hx hb dX12_startSo_80 rfl (lv_at hl 1 rfl) ?_
        refine r_get (v := .ref a2) M w 0 14 clX12 rfl (by decide) G1481 rfl rfl dX12_startSo_81 ?_
        refine lv_bipush (v := 23) hx hb dX12_startSo_84 (by decide) ?_
        refine lv_iload_n hx hb dX12_startSo_86 rfl (lv_at hl 0 rfl) ?_
        refine r_iadd (v := (25 : Int32)) M (by decide +kernel) dX12_startSo_87 ?_
        refine r_iald (v := (0 : Int32)) M w 1 rfl (vin (by decide +kernel)) (by decide +kernel) dX12_startSo_88 ?_
        refine r_iast (ws' := [(a0, .inr (11, [.int 0, .ref a1, .int 0, .int 0, .int 900, .int 0, .int 0, .int 0, .int 0, .int 0, .int 0, .int 0, .long 0, .int 0, .ref a2, .ref a3, .ref a4, .ref a5, .ref a6, .ref a7, .ref a8, .ref a9, .ref a10, .ref a11, .int 0, .ref a12, .ref a13, .ref a14, .ref a15, .int 0, .int 0, .int 0, .ref a16, .int (-1), .int (-1), .ref a17, .ref a18, .int 0, .ref a19, .int 0, .int 0, .ref a20, .ref a21, .int 0, .int 0, .ref a22, .int 0, .int 0, .int 0, .int 0])), (a2, .inl (T 0, 329, .inl cn72))]) M w 1 rfl (vin (by decide +kernel)) rfl dX12_startSo_89 (fun H locs w => ?_)
        refine lv_iinc (v := (3 : Int32)) (lv' := [(1, .int 3), (0, .ref a0)]) hx hb dX12_startSo_90 hl (k := 0) rfl (by decide +kernel) (by decide) rfl (fun ls hl => ?_)
        refine lv_goto (tgt := 38) hx hb dX12_startSo_93 (by decide) ?_
        refine lv_iload_n hx hb dX12_startSo_38 rfl (lv_at hl 0 rfl) ?_
        refine lv_bipush (v := 9) hx hb dX12_startSo_39 (by decide) ?_
        refine lv_icmp_ge (tgt := 96) hx hb dX12_startSo_41 (by decide) (fun c => absurd c (by decide +kernel)) (fun _ => ?_)
        refine lv_aload_n hx hb dX12_startSo_44 rfl (lv_at hl 1 rfl) ?_
        refine r_get (v := .ref a2) M w 0 14 clX12 rfl (by decide) G1481 rfl rfl dX12_startSo_45 ?_
        refine lv_bipush (v := 57) hx hb dX12_startSo_48 (by decide) ?_
        refine lv_iload_n hx hb dX12_startSo_50 rfl (lv_at hl 0 rfl) ?_
        refine r_iadd (v := (60 : Int32)) M (by decide +kernel) dX12_startSo_51 ?_
        refine lv_aload_n hx hb dX12_startSo_52 rfl (lv_at hl 1 rfl) ?_
        refine r_get (v := .ref a2) M w 0 14 clX12 rfl (by decide) G1481 rfl rfl dX12_startSo_53 ?_
        refine lv_bipush (v := 32) hx hb dX12_startSo_56 (by decide) ?_
        refine lv_iload_n hx hb dX12_startSo_58 rfl (lv_at hl 0 rfl) ?_
        refine r_iadd (v := (35 : Int32)) M (by decide +kernel) dX12_startSo_59 ?_
        refine r_iald (v := (-1 : Int32)) M w 1 rfl (vin (by decide +kernel)) (by decide +kernel) dX12_startSo_60 ?_
        refine r_iast (ws' := [(a0, .inr (11, [.int 0, .ref a1, .int 0, .int 0, .int 900, .int 0, .int 0, .int 0, .int 0, .int 0, .int 0, .int 0, .long 0, .int 0, .ref a2, .ref a3, .ref a4, .ref a5, .ref a6, .ref a7, .ref a8, .ref a9, .ref a10, .ref a11, .int 0, .ref a12, .ref a13, .ref a14, .ref a15, .int 0, .int 0, .int 0, .ref a16, .int (-1), .int (-1), .ref a17, .ref a18, .int 0, .ref a19, .int 0, .int 0, .ref a20, .ref a21, .int 0, .int 0, .ref a22, .int 0, .int 0, .int 0, .int 0])), (a2, .inl (T 0, 329, .inl cn73))]) M w 1 rfl (vin (by decide +kernel)) rfl dX12_startSo_61 (fun H locs w => ?_)
        refine lv_aload_n hx hb dX12_startSo_62 rfl (lv_at hl 1 rfl) ?_
        refine r_get (v := .ref a2) M w 0 14 clX12 rfl (by decide) G1481 rfl rfl dX12_startSo_63 ?_
        refine lv_bipush (v := 66) hx hb dX12_startSo_66 (by decide) ?_
        refine lv_iload_n hx hb dX12_startSo_68 rfl (lv_at hl 0 rfl) ?_
        refine r_iadd (v := (69 : Int32)) M (by decide +kernel) dX12_startSo_69 ?_
        refine lv_iconst (v := (-1)) hx hb dX12_startSo_70 (by decide) ?_
        refine r_iast (ws' := [(a0, .inr (11, [.int 0, .ref a1, .int 0, .int 0, .int 900, .int 0, .int 0, .int 0, .int 0, .int 0, .int 0, .int 0, .long 0, .int 0, .ref a2, .ref a3, .ref a4, .ref a5, .ref a6, .ref a7, .ref a8, .ref a9, .ref a10, .ref a11, .int 0, .ref a12, .ref a13, .ref a14, .ref a15, .int 0, .int 0, .int 0, .ref a16, .int (-1), .int (-1), .ref a17, .ref a18, .int 0, .ref a19, .int 0, .int 0, .ref a20, .ref a21, .int 0, .int 0, .ref a22, .int 0, .int 0, .int 0, .int 0])), (a2, .inl (T 0, 329, .inl cn74))]) M w 1 rfl (vin (by decide +kernel)) rfl dX12_startSo_71 (fun H locs w => ?_)
        refine lv_aload_n hx hb dX12_startSo_72 rfl (lv_at hl 1 rfl) ?_
        refine r_get (v := .ref a2) M w 0 14 clX12 rfl (by decide) G1481 rfl rfl dX12_startSo_73 ?_
        refine lv_bipush (v := 75) hx hb dX12_startSo_76 (by decide) ?_
        refine lv_iload_n hx hb dX12_startSo_78 rfl (lv_at hl 0 rfl) ?_
        refine r_iadd (v := (78 : Int32)) M (by decide +kernel) dX12_startSo_79 ?_
        refine lv_aload_n hx hb dX12_startSo_80 rfl (lv_at hl 1 rfl) ?_
        refine r_get (v := .ref a2) M w 0 14 clX12 rfl (by decide) G1481 rfl rfl dX12_startSo_81 ?_
        refine lv_bipush (v := 23) hx hb dX12_startSo_84 (by decide) ?_
        refine lv_iload_n hx hb dX12_startSo_86 rfl (lv_at hl 0 rfl) ?_
        refine r_iadd (v := (26 : Int32)) M (by decide +kernel) dX12_startSo_87 ?_
        refine r_iald (v := (0 : Int32)) M w 1 rfl (vin (by decide +kernel)) (by decide +kernel) dX12_startSo_88 ?_
        refine r_iast (ws' := [(a0, .inr (11, [.int 0, .ref a1, .int 0, .int 0, .int 900, .int 0, .int 0, .int 0, .int 0, .int 0, .int 0, .int 0, .long 0, .int 0, .ref a2, .ref a3, .ref a4, .ref a5, .ref a6, .ref a7, .ref a8, .ref a9, .ref a10, .ref a11, .int 0, .ref a12, .ref a13, .ref a14, .ref a15, .int 0, .int 0, .int 0, .ref a16, .int (-1), .int (-1), .ref a17, .ref a18, .int 0, .ref a19, .int 0, .int 0, .ref a20, .ref a21, .int 0, .int 0, .ref a22, .int 0, .int 0, .int 0, .int 0])), (a2, .inl (T 0, 329, .inl cn75))]) M w 1 rfl (vin (by decide +kernel)) rfl dX12_startSo_89 (fun H locs w => ?_)
        refine lv_iinc (v := (4 : Int32)) (lv' := [(1, .int 4), (0, .ref a0)]) hx hb dX12_startSo_90 hl (k := 0) rfl (by decide +kernel) (by decide) rfl (fun ls hl => ?_)
        refine lv_goto (tgt := 38) hx hb dX12_startSo_93 (by decide) ?_
        refine lv_iload_n hx hb dX12_startSo_38 rfl (lv_at hl 0 rfl) ?_
        refine lv_bipush (v := 9) hx hb dX12_startSo_39 (by decide) ?_
        refine lv_icmp_ge (tgt := 96) hx hb dX12_startSo_41 (by decide) (fun c => absurd c (by decide +kernel)) (fun _ => ?_)
        refine lv_aload_n hx hb dX12_startSo_44 rfl (lv_at hl 1 rfl) ?_
        refine r_get (v := .ref a2) M w 0 14 clX12 rfl (by decide) G1481 rfl rfl dX12_startSo_45 ?_
        refine lv_bipush (v := 57) hx hb dX12_startSo_48 (by decide) ?_
        refine lv_iload_n hx hb dX12_startSo_50 rfl (lv_at hl 0 rfl) ?_
        refine r_iadd (v := (61 : Int32)) M (by decide +kernel) dX12_startSo_51 ?_
        refine lv_aload_n hx hb dX12_startSo_52 rfl (lv_at hl 1 rfl) ?_
        refine r_get (v := .ref a2) M w 0 14 clX12 rfl (by decide) G1481 rfl rfl dX12_startSo_53 ?_
        refine lv_bipush (v := 32) hx hb dX12_startSo_56 (by decide) ?_
        refine lv_iload_n hx hb dX12_startSo_58 rfl (lv_at hl 0 rfl) ?_
        refine r_iadd (v := (36 : Int32)) M (by decide +kernel) dX12_startSo_59 ?_
        refine r_iald (v := (-1 : Int32)) M w 1 rfl (vin (by decide +kernel)) (by decide +kernel) dX12_startSo_60 ?_
        refine r_iast (ws' := [(a0, .inr (11, [.int 0, .ref a1, .int 0, .int 0, .int 900, .int 0, .int 0, .int 0, .int 0, .int 0, .int 0, .int 0, .long 0, .int 0, .ref a2, .ref a3, .ref a4, .ref a5, .ref a6, .ref a7, .ref a8, .ref a9, .ref a10, .ref a11, .int 0, .ref a12, .ref a13, .ref a14, .ref a15, .int 0, .int 0, .int 0, .ref a16, .int (-1), .int (-1), .ref a17, .ref a18, .int 0, .ref a19, .int 0, .int 0, .ref a20, .ref a21, .int 0, .int 0, .ref a22, .int 0, .int 0, .int 0, .int 0])), (a2, .inl (T 0, 329, .inl cn76))]) M w 1 rfl (vin (by decide +kernel)) rfl dX12_startSo_61 (fun H locs w => ?_)
        refine lv_aload_n hx hb dX12_startSo_62 rfl (lv_at hl 1 rfl) ?_
        refine r_get (v := .ref a2) M w 0 14 clX12 rfl (by decide) G1481 rfl rfl dX12_startSo_63 ?_
        refine lv_bipush (v := 66) hx hb dX12_startSo_66 (by decide) ?_
        refine lv_iload_n hx hb dX12_startSo_68 rfl (lv_at hl 0 rfl) ?_
        refine r_iadd (v := (70 : Int32)) M (by decide +kernel) dX12_startSo_69 ?_
        refine lv_iconst (v := (-1)) hx hb dX12_startSo_70 (by decide) ?_
        refine r_iast (ws' := [(a0, .inr (11, [.int 0, .ref a1, .int 0, .int 0, .int 900, .int 0, .int 0, .int 0, .int 0, .int 0, .int 0, .int 0, .long 0, .int 0, .ref a2, .ref a3, .ref a4, .ref a5, .ref a6, .ref a7, .ref a8, .ref a9, .ref a10, .ref a11, .int 0, .ref a12, .ref a13, .ref a14, .ref a15, .int 0, .int 0, .int 0, .ref a16, .int (-1), .int (-1), .ref a17, .ref a18, .int 0, .ref a19, .int 0, .int 0, .ref a20, .ref a21, .int 0, .int 0, .ref a22, .int 0, .int 0, .int 0, .int 0])), (a2, .inl (T 0, 329, .inl cn77))]) M w 1 rfl (vin (by decide +kernel)) rfl dX12_startSo_71 (fun H locs w => ?_)
        refine lv_aload_n hx hb dX12_startSo_72 rfl (lv_at hl 1 rfl) ?_
        refine r_get (v := .ref a2) M w 0 14 clX12 rfl (by decide) G1481 rfl rfl dX12_startSo_73 ?_
        refine lv_bipush (v := 75) hx hb dX12_startSo_76 (by decide) ?_
        refine lv_iload_n hx hb dX12_startSo_78 rfl (lv_at hl 0 rfl) ?_
        refine r_iadd (v := (79 : Int32)) M (by decide +kernel) dX12_startSo_79 ?_
        refine lv_aload_n hx hb dX12_startSo_80 rfl (lv_at hl 1 rfl) ?_
        refine r_get (v := .ref a2) M w 0 14 clX12 rfl (by decide) G1481 rfl rfl dX12_startSo_81 ?_
        refine lv_bipush (v := 23) hx hb dX12_startSo_84 (by decide) ?_
        refine lv_iload_n hx hb dX12_startSo_86 rfl (lv_at hl 0 rfl) ?_
        refine r_iadd (v := (27 : Int32)) M (by decide +kernel) dX12_startSo_87 ?_
        refine r_iald (v := (0 : Int32)) M w 1 rfl (vin (by decide +kernel)) (by decide +kernel) dX12_startSo_88 ?_
        refine r_iast (ws' := [(a0, .inr (11, [.int 0, .ref a1, .int 0, .int 0, .int 900, .int 0, .int 0, .int 0, .int 0, .int 0, .int 0, .int 0, .long 0, .int 0, .ref a2, .ref a3, .ref a4, .ref a5, .ref a6, .ref a7, .ref a8, .ref a9, .ref a10, .ref a11, .int 0, .ref a12, .ref a13, .ref a14, .ref a15, .int 0, .int 0, .int 0, .ref a16, .int (-1), .int (-1), .ref a17, .ref a18, .int 0, .ref a19, .int 0, .int 0, .ref a20, .ref a21, .int 0, .int 0, .ref a22, .int 0, .int 0, .int 0, .int 0])), (a2, .inl (T 0, 329, .inl cn78))]) M w 1 rfl (vin (by decide +kernel)) rfl dX12_startSo_89 (fun H locs w => ?_)
        refine lv_iinc (v := (5 : Int32)) (lv' := [(1, .int 5), (0, .ref a0)]) hx hb dX12_startSo_90 hl (k := 0) rfl (by decide +kernel) (by decide) rfl (fun ls hl => ?_)
        refine lv_goto (tgt := 38) hx hb dX12_startSo_93 (by decide) ?_
        refine lv_iload_n hx hb dX12_startSo_38 rfl (lv_at hl 0 rfl) ?_
        refine lv_bipush (v := 9) hx hb dX12_startSo_39 (by decide) ?_
        refine lv_icmp_ge (tgt := 96) hx hb dX12_startSo_41 (by decide) (fun c => absurd c (by decide +kernel)) (fun _ => ?_)
        refine lv_aload_n hx hb dX12_startSo_44 rfl (lv_at hl 1 rfl) ?_
        refine r_get (v := .ref a2) M w 0 14 clX12 rfl (by decide) G1481 rfl rfl dX12_startSo_45 ?_
        refine lv_bipush (v := 57) hx hb dX12_startSo_48 (by decide) ?_
        refine lv_iload_n hx hb dX12_startSo_50 rfl (lv_at hl 0 rfl) ?_
        refine r_iadd (v := (62 : Int32)) M (by decide +kernel) dX12_startSo_51 ?_
        refine lv_aload_n hx hb dX12_startSo_52 rfl (lv_at hl 1 rfl) ?_
        refine r_get (v := .ref a2) M w 0 14 clX12 rfl (by decide) G1481 rfl rfl dX12_startSo_53 ?_
        refine lv_bipush (v := 32) hx hb dX12_startSo_56 (by decide) ?_
        refine lv_iload_n hx hb dX12_startSo_58 rfl (lv_at hl 0 rfl) ?_
        refine r_iadd (v := (37 : Int32)) M (by decide +kernel) dX12_startSo_59 ?_
        refine r_iald (v := (-1 : Int32)) M w 1 rfl (vin (by decide +kernel)) (by decide +kernel) dX12_startSo_60 ?_
        refine r_iast (ws' := [(a0, .inr (11, [.int 0, .ref a1, .int 0, .int 0, .int 900, .int 0, .int 0, .int 0, .int 0, .int 0, .int 0, .int 0, .long 0, .int 0, .ref a2, .ref a3, .ref a4, .ref a5, .ref a6, .ref a7, .ref a8, .ref a9, .ref a10, .ref a11, .int 0, .ref a12, .ref a13, .ref a14, .ref a15, .int 0, .int 0, .int 0, .ref a16, .int (-1), .int (-1), .ref a17, .ref a18, .int 0, .ref a19, .int 0, .int 0, .ref a20, .ref a21, .int 0, .int 0, .ref a22, .int 0, .int 0, .int 0, .int 0])), (a2, .inl (T 0, 329, .inl cn79))]) M w 1 rfl (vin (by decide +kernel)) rfl dX12_startSo_61 (fun H locs w => ?_)
        refine lv_aload_n hx hb dX12_startSo_62 rfl (lv_at hl 1 rfl) ?_
        refine r_get (v := .ref a2) M w 0 14 clX12 rfl (by decide) G1481 rfl rfl dX12_startSo_63 ?_
        refine lv_bipush (v := 66) hx hb dX12_startSo_66 (by decide) ?_
        refine lv_iload_n hx hb dX12_startSo_68 rfl (lv_at hl 0 rfl) ?_
        refine r_iadd (v := (71 : Int32)) M (by decide +kernel) dX12_startSo_69 ?_
        refine lv_iconst (v := (-1)) hx hb dX12_startSo_70 (by decide) ?_
        refine r_iast (ws' := [(a0, .inr (11, [.int 0, .ref a1, .int 0, .int 0, .int 900, .int 0, .int 0, .int 0, .int 0, .int 0, .int 0, .int 0, .long 0, .int 0, .ref a2, .ref a3, .ref a4, .ref a5, .ref a6, .ref a7, .ref a8, .ref a9, .ref a10, .ref a11, .int 0, .ref a12, .ref a13, .ref a14, .ref a15, .int 0, .int 0, .int 0, .ref a16, .int (-1), .int (-1), .ref a17, .ref a18, .int 0, .ref a19, .int 0, .int 0, .ref a20, .ref a21, .int 0, .int 0, .ref a22, .int 0, .int 0, .int 0, .int 0])), (a2, .inl (T 0, 329, .inl cn80))]) M w 1 rfl (vin (by decide +kernel)) rfl dX12_startSo_71 (fun H locs w => ?_)
        refine lv_aload_n hx hb dX12_startSo_72 rfl (lv_at hl 1 rfl) ?_
        refine r_get (v := .ref a2) M w 0 14 clX12 rfl (by decide) G1481 rfl rfl dX12_startSo_73 ?_
        refine lv_bipush (v := 75) hx hb dX12_startSo_76 (by decide) ?_
        refine lv_iload_n hx hb dX12_startSo_78 rfl (lv_at hl 0 rfl) ?_
        refine r_iadd (v := (80 : Int32)) M (by decide +kernel) dX12_startSo_79 ?_
        refine lv_aload_n hx hb dX12_startSo_80 rfl (lv_at hl 1 rfl) ?_
        refine r_get (v := .ref a2) M w 0 14 clX12 rfl (by decide) G1481 rfl rfl dX12_startSo_81 ?_
        refine lv_bipush (v := 23) hx hb dX12_startSo_84 (by decide) ?_
        refine lv_iload_n hx hb dX12_startSo_86 rfl (lv_at hl 0 rfl) ?_
        refine r_iadd (v := (28 : Int32)) M (by decide +kernel) dX12_startSo_87 ?_
        refine r_iald (v := (0 : Int32)) M w 1 rfl (vin (by decide +kernel)) (by decide +kernel) dX12_startSo_88 ?_
        refine r_iast (ws' := [(a0, .inr (11, [.int 0, .ref a1, .int 0, .int 0, .int 900, .int 0, .int 0, .int 0, .int 0, .int 0, .int 0, .int 0, .long 0, .int 0, .ref a2, .ref a3, .ref a4, .ref a5, .ref a6, .ref a7, .ref a8, .ref a9, .ref a10, .ref a11, .int 0, .ref a12, .ref a13, .ref a14, .ref a15, .int 0, .int 0, .int 0, .ref a16, .int (-1), .int (-1), .ref a17, .ref a18, .int 0, .ref a19, .int 0, .int 0, .ref a20, .ref a21, .int 0, .int 0, .ref a22, .int 0, .int 0, .int 0, .int 0])), (a2, .inl (T 0, 329, .inl cn81))]) M w 1 rfl (vin (by decide +kernel)) rfl dX12_startSo_89 (fun H locs w => ?_)
        refine lv_iinc (v := (6 : Int32)) (lv' := [(1, .int 6), (0, .ref a0)]) hx hb dX12_startSo_90 hl (k := 0) rfl (by decide +kernel) (by decide) rfl (fun ls hl => ?_)
        refine lv_goto (tgt := 38) hx hb dX12_startSo_93 (by decide) ?_
        refine lv_iload_n hx hb dX12_startSo_38 rfl (lv_at hl 0 rfl) ?_
        refine lv_bipush (v := 9) hx hb dX12_startSo_39 (by decide) ?_
        refine lv_icmp_ge (tgt := 96) hx hb dX12_startSo_41 (by decide) (fun c => absurd c (by decide +kernel)) (fun _ => ?_)
        refine lv_aload_n hx hb dX12_startSo_44 rfl (lv_at hl 1 rfl) ?_
        refine r_get (v := .ref a2) M w 0 14 clX12 rfl (by decide) G1481 rfl rfl dX12_startSo_45 ?_
        refine lv_bipush (v := 57) hx hb dX12_startSo_48 (by decide) ?_
        refine lv_iload_n hx hb dX12_startSo_50 rfl (lv_at hl 0 rfl) ?_
        refine r_iadd (v := (63 : Int32)) M (by decide +kernel) dX12_startSo_51 ?_
        refine lv_aload_n hx hb dX12_startSo_52 rfl (lv_at hl 1 rfl) ?_
        refine r_get (v := .ref a2) M w 0 14 clX12 rfl (by decide) G1481 rfl rfl dX12_startSo_53 ?_
        refine lv_bipush (v := 32) hx hb dX12_startSo_56 (by decide) ?_
        refine lv_iload_n hx hb dX12_startSo_58 rfl (lv_at hl 0 rfl) ?_
        refine r_iadd (v := (38 : Int32)) M (by decide +kernel) dX12_startSo_59 ?_
        refine r_iald (v := (-1 : Int32)) M w 1 rfl (vin (by decide +kernel)) (by decide +kernel) dX12_startSo_60 ?_
        refine r_iast (ws' := [(a0, .inr (11, [.int 0, .ref a1, .int 0, .int 0, .int 900, .int 0, .int 0, .int 0, .int 0, .int 0, .int 0, .int 0, .long 0, .int 0, .ref a2, .ref a3, .ref a4, .ref a5, .ref a6, .ref a7, .ref a8, .ref a9, .ref a10, .ref a11, .int 0, .ref a12, .ref a13, .ref a14, .ref a15, .int 0, .int 0, .int 0, .ref a16, .int (-1), .int (-1), .ref a17, .ref a18, .int 0, .ref a19, .int 0, .int 0, .ref a20, .ref a21, .int 0, .int 0, .ref a22, .int 0, .int 0, .int 0, .int 0])), (a2, .inl (T 0, 329, .inl cn82))]) M w 1 rfl (vin (by decide +kernel)) rfl dX12_startSo_61 (fun H locs w => ?_)
        refine lv_aload_n hx hb dX12_startSo_62 rfl (lv_at hl 1 rfl) ?_
        refine r_get (v := .ref a2) M w 0 14 clX12 rfl (by decide) G1481 rfl rfl dX12_startSo_63 ?_
        refine lv_bipush (v := 66) hx hb dX12_startSo_66 (by decide) ?_
        refine lv_iload_n hx hb dX12_startSo_68 rfl (lv_at hl 0 rfl) ?_
        refine r_iadd (v := (72 : Int32)) M (by decide +kernel) dX12_startSo_69 ?_
        refine lv_iconst (v := (-1)) hx hb dX12_startSo_70 (by decide) ?_
        refine r_iast (ws' := [(a0, .inr (11, [.int 0, .ref a1, .int 0, .int 0, .int 900, .int 0, .int 0, .int 0, .int 0, .int 0, .int 0, .int 0, .long 0, .int 0, .ref a2, .ref a3, .ref a4, .ref a5, .ref a6, .ref a7, .ref a8, .ref a9, .ref a10, .ref a11, .int 0, .ref a12, .ref a13, .ref a14, .ref a15, .int 0, .int 0, .int 0, .ref a16, .int (-1), .int (-1), .ref a17, .ref a18, .int 0, .ref a19, .int 0, .int 0, .ref a20, .ref a21, .int 0, .int 0, .ref a22, .int 0, .int 0, .int 0, .int 0])), (a2, .inl (T 0, 329, .inl cn83))]) M w 1 rfl (vin (by decide +kernel)) rfl dX12_startSo_71 (fun H locs w => ?_)
        refine lv_aload_n hx hb dX12_startSo_72 rfl (lv_at hl 1 rfl) ?_
        refine r_get (v := .ref a2) M w 0 14 clX12 rfl (by decide) G1481 rfl rfl dX12_startSo_73 ?_
        refine lv_bipush (v := 75) hx hb dX12_startSo_76 (by decide) ?_
        refine lv_iload_n hx hb dX12_startSo_78 rfl (lv_at hl 0 rfl) ?_
        refine r_iadd (v := (81 : Int32)) M (by decide +kernel) dX12_startSo_79 ?_
        refine lv_aload_n hx hb dX12_startSo_80 rfl (lv_at hl 1 rfl) ?_
        refine r_get (v := .ref a2) M w 0 14 clX12 rfl (by decide) G1481 rfl rfl dX12_startSo_81 ?_
        refine lv_bipush (v := 23) hx hb dX12_startSo_84 (by decide) ?_
        refine lv_iload_n hx hb dX12_startSo_86 rfl (lv_at hl 0 rfl) ?_
        refine r_iadd (v := (29 : Int32)) M (by decide +kernel) dX12_startSo_87 ?_
        refine r_iald (v := (0 : Int32)) M w 1 rfl (vin (by decide +kernel)) (by decide +kernel) dX12_startSo_88 ?_
        refine r_iast (ws' := [(a0, .inr (11, [.int 0, .ref a1, .int 0, .int 0, .int 900, .int 0, .int 0, .int 0, .int 0, .int 0, .int 0, .int 0, .long 0, .int 0, .ref a2, .ref a3, .ref a4, .ref a5, .ref a6, .ref a7, .ref a8, .ref a9, .ref a10, .ref a11, .int 0, .ref a12, .ref a13, .ref a14, .ref a15, .int 0, .int 0, .int 0, .ref a16, .int (-1), .int (-1), .ref a17, .ref a18, .int 0, .ref a19, .int 0, .int 0, .ref a20, .ref a21, .int 0, .int 0, .ref a22, .int 0, .int 0, .int 0, .int 0])), (a2, .inl (T 0, 329, .inl cn84))]) M w 1 rfl (vin (by decide +kernel)) rfl dX12_startSo_89 (fun H locs w => ?_)
        refine lv_iinc (v := (7 : Int32)) (lv' := [(1, .int 7), (0, .ref a0)]) hx hb dX12_startSo_90 hl (k := 0) rfl (by decide +kernel) (by decide) rfl (fun ls hl => ?_)
        refine lv_goto (tgt := 38) hx hb dX12_startSo_93 (by decide) ?_
        refine lv_iload_n hx hb dX12_startSo_38 rfl (lv_at hl 0 rfl) ?_
        refine lv_bipush (v := 9) hx hb dX12_startSo_39 (by decide) ?_
        refine lv_icmp_ge (tgt := 96) hx hb dX12_startSo_41 (by decide) (fun c => absurd c (by decide +kernel)) (fun _ => ?_)
        refine lv_aload_n hx hb dX12_startSo_44 rfl (lv_at hl 1 rfl) ?_
        refine r_get (v := .ref a2) M w 0 14 clX12 rfl (by decide) G1481 rfl rfl dX12_startSo_45 ?_
        refine lv_bipush (v := 57) hx hb dX12_startSo_48 (by decide) ?_
        refine lv_iload_n hx hb dX12_startSo_50 rfl (lv_at hl 0 rfl) ?_
        refine r_iadd (v := (64 : Int32)) M (by decide +kernel) dX12_startSo_51 ?_
        refine lv_aload_n hx hb dX12_startSo_52 rfl (lv_at hl 1 rfl) ?_
        refine r_get (v := .ref a2) M w 0 14 clX12 rfl (by decide) G1481 rfl rfl dX12_startSo_53 ?_
        refine lv_bipush (v := 32) hx hb dX12_startSo_56 (by decide) ?_
        refine lv_iload_n hx hb dX12_startSo_58 rfl (lv_at hl 0 rfl) ?_
        refine r_iadd (v := (39 : Int32)) M (by decide +kernel) dX12_startSo_59 ?_
        refine r_iald (v := (-1 : Int32)) M w 1 rfl (vin (by decide +kernel)) (by decide +kernel) dX12_startSo_60 ?_
        refine r_iast (ws' := [(a0, .inr (11, [.int 0, .ref a1, .int 0, .int 0, .int 900, .int 0, .int 0, .int 0, .int 0, .int 0, .int 0, .int 0, .long 0, .int 0, .ref a2, .ref a3, .ref a4, .ref a5, .ref a6, .ref a7, .ref a8, .ref a9, .ref a10, .ref a11, .int 0, .ref a12, .ref a13, .ref a14, .ref a15, .int 0, .int 0, .int 0, .ref a16, .int (-1), .int (-1), .ref a17, .ref a18, .int 0, .ref a19, .int 0, .int 0, .ref a20, .ref a21, .int 0, .int 0, .ref a22, .int 0, .int 0, .int 0, .int 0])), (a2, .inl (T 0, 329, .inl cn85))]) M w 1 rfl (vin (by decide +kernel)) rfl dX12_startSo_61 (fun H locs w => ?_)
        refine lv_aload_n hx hb dX12_startSo_62 rfl (lv_at hl 1 rfl) ?_
        refine r_get (v := .ref a2) M w 0 14 clX12 rfl (by decide) G1481 rfl rfl dX12_startSo_63 ?_
        refine lv_bipush (v := 66) hx hb dX12_startSo_66 (by decide) ?_
        refine lv_iload_n hx hb dX12_startSo_68 rfl (lv_at hl 0 rfl) ?_
        refine r_iadd (v := (73 : Int32)) M (by decide +kernel) dX12_startSo_69 ?_
        refine lv_iconst (v := (-1)) hx hb dX12_startSo_70 (by decide) ?_
        refine r_iast (ws' := [(a0, .inr (11, [.int 0, .ref a1, .int 0, .int 0, .int 900, .int 0, .int 0, .int 0, .int 0, .int 0, .int 0, .int 0, .long 0, .int 0, .ref a2, .ref a3, .ref a4, .ref a5, .ref a6, .ref a7, .ref a8, .ref a9, .ref a10, .ref a11, .int 0, .ref a12, .ref a13, .ref a14, .ref a15, .int 0, .int 0, .int 0, .ref a16, .int (-1), .int (-1), .ref a17, .ref a18, .int 0, .ref a19, .int 0, .int 0, .ref a20, .ref a21, .int 0, .int 0, .ref a22, .int 0, .int 0, .int 0, .int 0])), (a2, .inl (T 0, 329, .inl cn86))]) M w 1 rfl (vin (by decide +kernel)) rfl dX12_startSo_71 (fun H locs w => ?_)
        refine lv_aload_n hx hb dX12_startSo_72 rfl (lv_at hl 1 rfl) ?_
        refine r_get (v := .ref a2) M w 0 14 clX12 rfl (by decide) G1481 rfl rfl dX12_startSo_73 ?_
        refine lv_bipush (v := 75) hx hb dX12_startSo_76 (by decide) ?_
        refine lv_iload_n hx hb dX12_startSo_78 rfl (lv_at hl 0 rfl) ?_
        refine r_iadd (v := (82 : Int32)) M (by decide +kernel) dX12_startSo_79 ?_
        refine lv_aload_n hx hb dX12_startSo_80 rfl (lv_at hl 1 rfl) ?_
        refine r_get (v := .ref a2) M w 0 14 clX12 rfl (by decide) G1481 rfl rfl dX12_startSo_81 ?_
        refine lv_bipush (v := 23) hx hb dX12_startSo_84 (by decide) ?_
        refine lv_iload_n hx hb dX12_startSo_86 rfl (lv_at hl 0 rfl) ?_
        refine r_iadd (v := (30 : Int32)) M (by decide +kernel) dX12_startSo_87 ?_
        refine r_iald (v := (0 : Int32)) M w 1 rfl (vin (by decide +kernel)) (by decide +kernel) dX12_startSo_88 ?_
        refine r_iast (ws' := [(a0, .inr (11, [.int 0, .ref a1, .int 0, .int 0, .int 900, .int 0, .int 0, .int 0, .int 0, .int 0, .int 0, .int 0, .long 0, .int 0, .ref a2, .ref a3, .ref a4, .ref a5, .ref a6, .ref a7, .ref a8, .ref a9, .ref a10, .ref a11, .int 0, .ref a12, .ref a13, .ref a14, .ref a15, .int 0, .int 0, .int 0, .ref a16, .int (-1), .int (-1), .ref a17, .ref a18, .int 0, .ref a19, .int 0, .int 0, .ref a20, .ref a21, .int 0, .int 0, .ref a22, .int 0, .int 0, .int 0, .int 0])), (a2, .inl (T 0, 329, .inl cn87))]) M w 1 rfl (vin (by decide +kernel)) rfl dX12_startSo_89 (fun H locs w => ?_)
        refine lv_iinc (v := (8 : Int32)) (lv' := [(1, .int 8), (0, .ref a0)]) hx hb dX12_startSo_90 hl (k := 0) rfl (by decide +kernel) (by decide) rfl (fun ls hl => ?_)
        refine lv_goto (tgt := 38) hx hb dX12_startSo_93 (by decide) ?_
        refine lv_iload_n hx hb dX12_startSo_38 rfl (lv_at hl 0 rfl) ?_
        refine lv_bipush (v := 9) hx hb dX12_startSo_39 (by decide) ?_
        refine lv_icmp_ge (tgt := 96) hx hb dX12_startSo_41 (by decide) (fun c => absurd c (by decide +kernel)) (fun _ => ?_)
        refine lv_aload_n hx hb dX12_startSo_44 rfl (lv_at hl 1 rfl) ?_
        refine r_get (v := .ref a2) M w 0 14 clX12 rfl (by decide) G1481 rfl rfl dX12_startSo_45 ?_
        refine lv_bipush (v := 57) hx hb dX12_startSo_48 (by decide) ?_
        refine lv_iload_n hx hb dX12_startSo_50 rfl (lv_at hl 0 rfl) ?_
        refine r_iadd (v := (65 : Int32)) M (by decide +kernel) dX12_startSo_51 ?_
        refine lv_aload_n hx hb dX12_startSo_52 rfl (lv_at hl 1 rfl) ?_
        refine r_get (v := .ref a2) M w 0 14 clX12 rfl (by decide) G1481 rfl rfl dX12_startSo_53 ?_
        refine lv_bipush (v := 32) hx hb dX12_startSo_56 (by decide) ?_
        refine lv_iload_n hx hb dX12_startSo_58 rfl (lv_at hl 0 rfl) ?_
        refine r_iadd (v := (40 : Int32)) M (by decide +kernel) dX12_startSo_59 ?_
        refine r_iald (v := (-1 : Int32)) M w 1 rfl (vin (by decide +kernel)) (by decide +kernel) dX12_startSo_60 ?_
        refine r_iast (ws' := [(a0, .inr (11, [.int 0, .ref a1, .int 0, .int 0, .int 900, .int 0, .int 0, .int 0, .int 0, .int 0, .int 0, .int 0, .long 0, .int 0, .ref a2, .ref a3, .ref a4, .ref a5, .ref a6, .ref a7, .ref a8, .ref a9, .ref a10, .ref a11, .int 0, .ref a12, .ref a13, .ref a14, .ref a15, .int 0, .int 0, .int 0, .ref a16, .int (-1), .int (-1), .ref a17, .ref a18, .int 0, .ref a19, .int 0, .int 0, .ref a20, .ref a21, .int 0, .int 0, .ref a22, .int 0, .int 0, .int 0, .int 0])), (a2, .inl (T 0, 329, .inl cn88))]) M w 1 rfl (vin (by decide +kernel)) rfl dX12_startSo_61 (fun H locs w => ?_)
        refine lv_aload_n hx hb dX12_startSo_62 rfl (lv_at hl 1 rfl) ?_
        refine r_get (v := .ref a2) M w 0 14 clX12 rfl (by decide) G1481 rfl rfl dX12_startSo_63 ?_
        refine lv_bipush (v := 66) hx hb dX12_startSo_66 (by decide) ?_
        refine lv_iload_n hx hb dX12_startSo_68 rfl (lv_at hl 0 rfl) ?_
        refine r_iadd (v := (74 : Int32)) M (by decide +kernel) dX12_startSo_69 ?_
        refine lv_iconst (v := (-1)) hx hb dX12_startSo_70 (by decide) ?_
        refine r_iast (ws' := [(a0, .inr (11, [.int 0, .ref a1, .int 0, .int 0, .int 900, .int 0, .int 0, .int 0, .int 0, .int 0, .int 0, .int 0, .long 0, .int 0, .ref a2, .ref a3, .ref a4, .ref a5, .ref a6, .ref a7, .ref a8, .ref a9, .ref a10, .ref a11, .int 0, .ref a12, .ref a13, .ref a14, .ref a15, .int 0, .int 0, .int 0, .ref a16, .int (-1), .int (-1), .ref a17, .ref a18, .int 0, .ref a19, .int 0, .int 0, .ref a20, .ref a21, .int 0, .int 0, .ref a22, .int 0, .int 0, .int 0, .int 0])), (a2, .inl (T 0, 329, .inl cn89))]) M w 1 rfl (vin (by decide +kernel)) rfl dX12_startSo_71 (fun H locs w => ?_)
        refine lv_aload_n hx hb dX12_startSo_72 rfl (lv_at hl 1 rfl) ?_
        refine r_get (v := .ref a2) M w 0 14 clX12 rfl (by decide) G1481 rfl rfl dX12_startSo_73 ?_
        refine lv_bipush (v := 75) hx hb dX12_startSo_76 (by decide) ?_
        refine lv_iload_n hx hb dX12_startSo_78 rfl (lv_at hl 0 rfl) ?_
        refine r_iadd (v := (83 : Int32)) M (by decide +kernel) dX12_startSo_79 ?_
        refine lv_aload_n hx hb dX12_startSo_80 rfl (lv_at hl 1 rfl) ?_
        refine r_get (v := .ref a2) M w 0 14 clX12 rfl (by decide) G1481 rfl rfl dX12_startSo_81 ?_
        refine lv_bipush (v := 23) hx hb dX12_startSo_84 (by decide) ?_
        refine lv_iload_n hx hb dX12_startSo_86 rfl (lv_at hl 0 rfl) ?_
        refine r_iadd (v := (31 : Int32)) M (by decide +kernel) dX12_startSo_87 ?_
        refine r_iald (v := (0 : Int32)) M w 1 rfl (vin (by decide +kernel)) (by decide +kernel) dX12_startSo_88 ?_
        refine r_iast (ws' := [(a0, .inr (11, [.int 0, .ref a1, .int 0, .int 0, .int 900, .int 0, .int 0, .int 0, .int 0, .int 0, .int 0, .int 0, .long 0, .int 0, .ref a2, .ref a3, .ref a4, .ref a5, .ref a6, .ref a7, .ref a8, .ref a9, .ref a10, .ref a11, .int 0, .ref a12, .ref a13, .ref a14, .ref a15, .int 0, .int 0, .int 0, .ref a16, .int (-1), .int (-1), .ref a17, .ref a18, .int 0, .ref a19, .int 0, .int 0, .ref a20, .ref a21, .int 0, .int 0, .ref a22, .int 0, .int 0, .int 0, .int 0])), (a2, .inl (T 0, 329, .inl cn90))]) M w 1 rfl (vin (by decide +kernel)) rfl dX12_startSo_89 (fun H locs w => ?_)
        refine lv_iinc (v := (9 : Int32)) (lv' := [(1, .int 9), (0, .ref a0)]) hx hb dX12_startSo_90 hl (k := 0) rfl (by decide +kernel) (by decide) rfl (fun ls hl => ?_)
        refine lv_goto (tgt := 38) hx hb dX12_startSo_93 (by decide) ?_
        refine lv_iload_n hx hb dX12_startSo_38 rfl (lv_at hl 0 rfl) ?_
        refine lv_bipush (v := 9) hx hb dX12_startSo_39 (by decide) ?_
        refine lv_icmp_ge (tgt := 96) hx hb dX12_startSo_41 (by decide) (fun _ => ?_) (fun c => absurd (by decide +kernel) c)
        refine lv_iconst (v := 0) hx hb dX12_startSo_96 (by decide) ?_
        refine lv_istore_n (lv' := [(1, .int 0), (0, .ref a0)]) hx hb dX12_startSo_97 rfl hl (by decide) rfl (fun ls hl => ?_)
        refine lv_iload_n hx hb dX12_startSo_98 rfl (lv_at hl 0 rfl) ?_
        refine lv_bipush (v := 9) hx hb dX12_startSo_99 (by decide) ?_
        refine lv_icmp_ge (tgt := 141) hx hb dX12_startSo_101 (by decide) (fun c => absurd c (by decide +kernel)) (fun _ => ?_)
        refine lv_aload_n hx hb dX12_startSo_104 rfl (lv_at hl 1 rfl) ?_
        refine r_get (v := .ref a2) M w 0 14 clX12 rfl (by decide) G1481 rfl rfl dX12_startSo_105 ?_
        refine lv_bipush (v := 57) hx hb dX12_startSo_108 (by decide) ?_
        refine lv_iload_n hx hb dX12_startSo_110 rfl (lv_at hl 0 rfl) ?_
        refine r_iadd (v := (57 : Int32)) M (by decide +kernel) dX12_startSo_111 ?_
        refine r_iald (v := (-1 : Int32)) M w 1 rfl (vin (by decide +kernel)) (by decide +kernel) dX12_startSo_112 ?_
        refine lv_iconst (v := (-1)) hx hb dX12_startSo_113 (by decide) ?_
        refine lv_icmp_eq (tgt := 135) hx hb dX12_startSo_114 (by decide) (fun _ => ?_) (fun c => absurd (by decide +kernel) c)
        refine lv_iinc (v := (1 : Int32)) (lv' := [(1, .int 1), (0, .ref a0)]) hx hb dX12_startSo_135 hl (k := 0) rfl (by decide +kernel) (by decide) rfl (fun ls hl => ?_)
        refine lv_goto (tgt := 98) hx hb dX12_startSo_138 (by decide) ?_
        refine lv_iload_n hx hb dX12_startSo_98 rfl (lv_at hl 0 rfl) ?_
        refine lv_bipush (v := 9) hx hb dX12_startSo_99 (by decide) ?_
        refine lv_icmp_ge (tgt := 141) hx hb dX12_startSo_101 (by decide) (fun c => absurd c (by decide +kernel)) (fun _ => ?_)
        refine lv_aload_n hx hb dX12_startSo_104 rfl (lv_at hl 1 rfl) ?_
        refine r_get (v := .ref a2) M w 0 14 clX12 rfl (by decide) G1481 rfl rfl dX12_startSo_105 ?_
        refine lv_bipush (v := 57) hx hb dX12_startSo_108 (by decide) ?_
        refine lv_iload_n hx hb dX12_startSo_110 rfl (lv_at hl 0 rfl) ?_
        refine r_iadd (v := (58 : Int32)) M (by decide +kernel) dX12_startSo_111 ?_
        refine r_iald (v := (-1 : Int32)) M w 1 rfl (vin (by decide +kernel)) (by decide +kernel) dX12_startSo_112 ?_
        refine lv_iconst (v := (-1)) hx hb dX12_startSo_113 (by decide) ?_
        refine lv_icmp_eq (tgt := 135) hx hb dX12_startSo_114 (by decide) (fun _ => ?_) (fun c => absurd (by decide +kernel) c)
        refine lv_iinc (v := (2 : Int32)) (lv' := [(1, .int 2), (0, .ref a0)]) hx hb dX12_startSo_135 hl (k := 0) rfl (by decide +kernel) (by decide) rfl (fun ls hl => ?_)
        refine lv_goto (tgt := 98) hx hb dX12_startSo_138 (by decide) ?_
        refine lv_iload_n hx hb dX12_startSo_98 rfl (lv_at hl 0 rfl) ?_
        refine lv_bipush (v := 9) hx hb dX12_startSo_99 (by decide) ?_
        refine lv_icmp_ge (tgt := 141) hx hb dX12_startSo_101 (by decide) (fun c => absurd c (by decide +kernel)) (fun _ => ?_)
        refine lv_aload_n hx hb dX12_startSo_104 rfl (lv_at hl 1 rfl) ?_
        refine r_get (v := .ref a2) M w 0 14 clX12 rfl (by decide) G1481 rfl rfl dX12_startSo_105 ?_
        refine lv_bipush (v := 57) hx hb dX12_startSo_108 (by decide) ?_
        refine lv_iload_n hx hb dX12_startSo_110 rfl (lv_at hl 0 rfl) ?_
        refine r_iadd (v := (59 : Int32)) M (by decide +kernel) dX12_startSo_111 ?_
        refine r_iald (v := (-1 : Int32)) M w 1 rfl (vin (by decide +kernel)) (by decide +kernel) dX12_startSo_112 ?_
        refine lv_iconst (v := (-1)) hx hb dX12_startSo_113 (by decide) ?_
        refine lv_icmp_eq (tgt := 135) hx hb dX12_startSo_114 (by decide) (fun _ => ?_) (fun c => absurd (by decide +kernel) c)
        refine lv_iinc (v := (3 : Int32)) (lv' := [(1, .int 3), (0, .ref a0)]) hx hb dX12_startSo_135 hl (k := 0) rfl (by decide +kernel) (by decide) rfl (fun ls hl => ?_)
        refine lv_goto (tgt := 98) hx hb dX12_startSo_138 (by decide) ?_
        refine lv_iload_n hx hb dX12_startSo_98 rfl (lv_at hl 0 rfl) ?_
        refine lv_bipush (v := 9) hx hb dX12_startSo_99 (by decide) ?_
        refine lv_icmp_ge (tgt := 141) hx hb dX12_startSo_101 (by decide) (fun c => absurd c (by decide +kernel)) (fun _ => ?_)
        refine lv_aload_n hx hb dX12_startSo_104 rfl (lv_at hl 1 rfl) ?_
        refine r_get (v := .ref a2) M w 0 14 clX12 rfl (by decide) G1481 rfl rfl dX12_startSo_105 ?_
        refine lv_bipush (v := 57) hx hb dX12_startSo_108 (by decide) ?_
        refine lv_iload_n hx hb dX12_startSo_110 rfl (lv_at hl 0 rfl) ?_
        refine r_iadd (v := (60 : Int32)) M (by decide +kernel) dX12_startSo_111 ?_
        refine r_iald (v := (-1 : Int32)) M w 1 rfl (vin (by decide +kernel)) (by decide +kernel) dX12_startSo_112 ?_
        refine lv_iconst (v := (-1)) hx hb dX12_startSo_113 (by decide) ?_
        refine lv_icmp_eq (tgt := 135) hx hb dX12_startSo_114 (by decide) (fun _ => ?_) (fun c => absurd (by decide +kernel) c)
        refine lv_iinc (v := (4 : Int32)) (lv' := [(1, .int 4), (0, .ref a0)]) hx hb dX12_startSo_135 hl (k := 0) rfl (by decide +kernel) (by decide) rfl (fun ls hl => ?_)
        refine lv_goto (tgt := 98) hx hb dX12_startSo_138 (by decide) ?_
        refine lv_iload_n hx hb dX12_startSo_98 rfl (lv_at hl 0 rfl) ?_
        refine lv_bipush (v := 9) hx hb dX12_startSo_99 (by decide) ?_
        refine lv_icmp_ge (tgt := 141) hx hb dX12_startSo_101 (by decide) (fun c => absurd c (by decide +kernel)) (fun _ => ?_)
        refine lv_aload_n hx hb dX12_startSo_104 rfl (lv_at hl 1 rfl) ?_
        refine r_get (v := .ref a2) M w 0 14 clX12 rfl (by decide) G1481 rfl rfl dX12_startSo_105 ?_
        refine lv_bipush (v := 57) hx hb dX12_startSo_108 (by decide) ?_
        refine lv_iload_n hx hb dX12_startSo_110 rfl (lv_at hl 0 rfl) ?_
        refine r_iadd (v := (61 : Int32)) M (by decide +kernel) dX12_startSo_111 ?_
        refine r_iald (v := (-1 : Int32)) M w 1 rfl (vin (by decide +kernel)) (by decide +kernel) dX12_startSo_112 ?_
        refine lv_iconst (v := (-1)) hx hb dX12_startSo_113 (by decide) ?_
        refine lv_icmp_eq (tgt := 135) hx hb dX12_startSo_114 (by decide) (fun _ => ?_) (fun c => absurd (by decide +kernel) c)
        refine lv_iinc (v := (5 : Int32)) (lv' := [(1, .int 5), (0, .ref a0)]) hx hb dX12_startSo_135 hl (k := 0) rfl (by decide +kernel) (by decide) rfl (fun ls hl => ?_)
        refine lv_goto (tgt := 98) hx hb dX12_startSo_138 (by decide) ?_
        refine lv_iload_n hx hb dX12_startSo_98 rfl (lv_at hl 0 rfl) ?_
        refine lv_bipush (v := 9) hx hb dX12_startSo_99 (by decide) ?_
        refine lv_icmp_ge (tgt := 141) hx hb dX12_startSo_101 (by decide) (fun c => absurd c (by decide +kernel)) (fun _ => ?_)
        refine lv_aload_n hx hb dX12_startSo_104 rfl (lv_at hl 1 rfl) ?_
        refine r_get (v := .ref a2) M w 0 14 clX12 rfl (by decide) G1481 rfl rfl dX12_startSo_105 ?_
        refine lv_bipush (v := 57) hx hb dX12_startSo_108 (by decide) ?_
        refine lv_iload_n hx hb dX12_startSo_110 rfl (lv_at hl 0 rfl) ?_
        refine r_iadd (v := (62 : Int32)) M (by decide +kernel) dX12_startSo_111 ?_
        refine r_iald (v := (-1 : Int32)) M w 1 rfl (vin (by decide +kernel)) (by decide +kernel) dX12_startSo_112 ?_
        refine lv_iconst (v := (-1)) hx hb dX12_startSo_113 (by decide) ?_
        refine lv_icmp_eq (tgt := 135) hx hb dX12_startSo_114 (by decide) (fun _ => ?_) (fun c => absurd (by decide +kernel) c)
        refine lv_iinc (v := (6 : Int32)) (lv' := [(1, .int 6), (0, .ref a0)]) hx hb dX12_startSo_135 hl (k := 0) rfl (by decide +kernel) (by decide) rfl (fun ls hl => ?_)
        refine lv_goto (tgt := 98) hx hb dX12_startSo_138 (by decide) ?_
        refine lv_iload_n hx hb dX12_startSo_98 rfl (lv_at hl 0 rfl) ?_
        refine lv_bipush (v := 9) hx hb dX12_startSo_99 (by decide) ?_
        refine lv_icmp_ge (tgt := 141) hx hb dX12_startSo_101 (by decide) (fun c => absurd c (by decide +kernel)) (fun _ => ?_)
        refine lv_aload_n hx hb dX12_startSo_104 rfl (lv_at hl 1 rfl) ?_
        refine r_get (v := .ref a2) M w 0 14 clX12 rfl (by decide) G1481 rfl rfl dX12_startSo_105 ?_
        refine lv_bipush (v := 57) hx hb dX12_startSo_108 (by decide) ?_
        refine lv_iload_n hx hb dX12_startSo_110 rfl (lv_at hl 0 rfl) ?_
        refine r_iadd (v := (63 : Int32)) M (by decide +kernel) dX12_startSo_111 ?_
        refine r_iald (v := (-1 : Int32)) M w 1 rfl (vin (by decide +kernel)) (by decide +kernel) dX12_startSo_112 ?_
        refine lv_iconst (v := (-1)) hx hb dX12_startSo_113 (by decide) ?_
        refine lv_icmp_eq (tgt := 135) hx hb dX12_startSo_114 (by decide) (fun _ => ?_) (fun c => absurd (by decide +kernel) c)
        refine lv_iinc (v := (7 : Int32)) (lv' := [(1, .int 7), (0, .ref a0)]) hx hb dX12_startSo_135 hl (k := 0) rfl (by decide +kernel) (by decide) rfl (fun ls hl => ?_)
        refine lv_goto (tgt := 98) hx hb dX12_startSo_138 (by decide) ?_
        refine lv_iload_n hx hb dX12_startSo_98 rfl (lv_at hl 0 rfl) ?_
        refine lv_bipush (v := 9) hx hb dX12_startSo_99 (by decide) ?_
        refine lv_icmp_ge (tgt := 141) hx hb dX12_startSo_101 (by decide) (fun c => absurd c (by decide +kernel)) (fun _ => ?_)
        refine lv_aload_n hx hb dX12_startSo_104 rfl (lv_at hl 1 rfl) ?_
        refine r_get (v := .ref a2) M w 0 14 clX12 rfl (by decide) G1481 rfl rfl dX12_startSo_105 ?_
        refine lv_bipush (v := 57) hx hb dX12_startSo_108 (by decide) ?_
        refine lv_iload_n hx hb dX12_startSo_110 rfl (lv_at hl 0 rfl) ?_
        refine r_iadd (v := (64 : Int32)) M (by decide +kernel) dX12_startSo_111 ?_
        refine r_iald (v := (-1 : Int32)) M w 1 rfl (vin (by decide +kernel)) (by decide +kernel) dX12_startSo_112 ?_
        refine lv_iconst (v := (-1)) hx hb dX12_startSo_113 (by decide) ?_
        refine lv_icmp_eq (tgt := 135) hx hb dX12_startSo_114 (by decide) (fun _ => ?_) (fun c => absurd (by decide +kernel) c)
        refine lv_iinc (v := (8 : Int32)) (lv' := [(1, .int 8), (0, .ref a0)]) hx hb dX12_startSo_135 hl (k := 0) rfl (by decide +kernel) (by decide) rfl (fun ls hl => ?_)
        refine lv_goto (tgt := 98) hx hb dX12_startSo_138 (by decide) ?_
        refine lv_iload_n hx hb dX12_startSo_98 rfl (lv_at hl 0 rfl) ?_
        refine lv_bipush (v := 9) hx hb dX12_startSo_99 (by decide) ?_
        refine lv_icmp_ge (tgt := 141) hx hb dX12_startSo_101 (by decide) (fun c => absurd c (by decide +kernel)) (fun _ => ?_)
        refine lv_aload_n hx hb dX12_startSo_104 rfl (lv_at hl 1 rfl) ?_
        refine r_get (v := .ref a2) M w 0 14 clX12 rfl (by decide) G1481 rfl rfl dX12_startSo_105 ?_
        refine lv_bipush (v := 57) hx hb dX12_startSo_108 (by decide) ?_
        refine lv_iload_n hx hb dX12_startSo_110 rfl (lv_at hl 0 rfl) ?_
        refine r_iadd (v := (65 : Int32)) M (by decide +kernel) dX12_startSo_111 ?_
        refine r_iald (v := (-1 : Int32)) M w 1 rfl (vin (by decide +kernel)) (by decide +kernel) dX12_startSo_112 ?_
        refine lv_iconst (v := (-1)) hx hb dX12_startSo_113 (by decide) ?_
        refine lv_icmp_eq (tgt := 135) hx hb dX12_startSo_114 (by decide) (fun _ => ?_) (fun c => absurd (by decide +kernel) c)
        refine lv_iinc (v := (9 : Int32)) (lv' := [(1, .int 9), (0, .ref a0)]) hx hb dX12_startSo_135 hl (k := 0) rfl (by decide +kernel) (by decide) rfl (fun ls hl => ?_)
        refine lv_goto (tgt := 98) hx hb dX12_startSo_138 (by decide) ?_
        refine lv_iload_n hx hb dX12_startSo_98 rfl (lv_at hl 0 rfl) ?_
        refine lv_bipush (v := 9) hx hb dX12_startSo_99 (by decide) ?_
        refine lv_icmp_ge (tgt := 141) hx hb dX12_startSo_101 (by decide) (fun _ => ?_) (fun c => absurd (by decide +kernel) c)
        exact ret () _ _ _ _ _ [0, 1] dX12_startSo_141 trivial w (by decide) rfl
      · have hi2 : i < 329 := ix_in2 (n := 329) (by decide) (by omega) (by decide) c_1
        refine lv_aload_n hx hb dX12_startSo_10 rfl (lv_at hl 1 rfl) ?_
        refine r_get (v := .ref a2) M w 0 14 clX12 rfl (by decide) G1481 rfl rfl dX12_startSo_11 ?_
        refine lv_iload_n hx hb dX12_startSo_14 rfl (lv_at hl 0 rfl) ?_
        refine lv_iconst (v := 0) hx hb dX12_startSo_15 (by decide) ?_
        refine r_iast (ws' := [(a0, .inr (11, [.int 0, .ref a1, .int 0, .int 0, .int 900, .int 0, .int 0, .int 0, .int 0, .int 0, .int 0, .int 0, .long 0, .int 0, .ref a2, .ref a3, .ref a4, .ref a5, .ref a6, .ref a7, .ref a8, .ref a9, .ref a10, .ref a11, .int 0, .ref a12, .ref a13, .ref a14, .ref a15, .int 0, .int 0, .int 0, .ref a16, .int (-1), .int (-1), .ref a17, .ref a18, .int 0, .ref a19, .int 0, .int 0, .ref a20, .ref a21, .int 0, .int 0, .ref a22, .int 0, .int 0, .int 0, .int 0])), (a2, .inl (T 0, 329, .inl (upd (rngc 53 i (0 : Int32) cn58) (Int32.toNatClampNeg (nI i)) (0 : Int32))))]) M w 1 rfl (ix_in (by omega) (by decide)) rfl dX12_startSo_16 (fun H locs w => ?_)
        refine lv_iinc (v := (nI (i + 1))) (lv' := [(1, .int (nI (i + 1))), (0, .ref a0)]) hx hb dX12_startSo_17 hl (k := 0) rfl (ix_add (k := 1) (by decide) (by omega)) (by decide) rfl (fun ls hl => ?_)
        refine lv_goto (tgt := 3) hx hb dX12_startSo_20 (by decide) ?_
        rw [show (upd (rngc 53 i (0 : Int32) cn58) (Int32.toNatClampNeg (nI i)) (0 : Int32)) = (rngc 53 (i + 1) (0 : Int32) cn58) from rngc_step (nI_clamp (by omega)) (by omega)] at w
        exact ih (i + 1) _ _ _ (by omega) (by omega) (by omega) w (lv_sub hl [0, 1] rfl)
  exact loop 330 53 _ _ _ (by decide) (by decide) (by decide) w hl
set_option maxRecDepth 100000 in
set_option maxHeartbeats 4000000 in
theorem c48_X12_city (l : Launch) (D : va_G) (T : Nat → ClassId) (sz : Nat) (a0 a1 a2 a3 a4 a5 a6 a7 a8 a9 a10 a11 a12 a13 a14 a15 a16 a17 a18 a19 a20 a21 a22 : Nat) : Met l yX12_city (Cond.code yX12_city cX12_city 3 (some .int) :: GW) (Rm 2 0 0) (cPre [.ref a0] D T [(a0, .inr (11, [.int 0, .ref a1, .int 0, .int 0, .int 0, .int 0, .int 0, .int 0, .int 0, .int 0, .int 0, .int 0, .long 0, .int 0, .ref a2, .ref a3, .ref a4, .ref a5, .ref a6, .ref a7, .ref a8, .ref a9, .ref a10, .ref a11, .int 0, .ref a12, .ref a13, .ref a14, .ref a15, .int 0, .int 0, .int 0, .ref a16, .int (-1), .int (-1), .ref a17, .ref a18, .int 0, .ref a19, .int 0, .int 0, .ref a20, .ref a21, .int 0, .int 0, .ref a22, .int 0, .int 0, .int 0, .int 0])), (a2, .inl (T 0, 329, .inl cn45)), (a3, .inl (T 0, 53, .inl cn13)), (a7, .inl (T 1, 12, .inr (.inl (fun _ => 0)))), (a8, .inl (T 1, 12, .inr (.inl (fun _ => 0)))), (a11, .inl (T 2, 3, .inl cn9))] sz) (qI D [(a0, .inr (11, [.int 0, .ref a1, .int 0, .int 0, .int 0, .int 0, .int 0, .int 0, .int 0, .int 0, .int 0, .int 0, .long 0, .int 0, .ref a2, .ref a3, .ref a4, .ref a5, .ref a6, .ref a7, .ref a8, .ref a9, .ref a10, .ref a11, .int 0, .ref a12, .ref a13, .ref a14, .ref a15, .int 0, .int 0, .int 0, .ref a16, .int (-1), .int (-1), .ref a17, .ref a18, .int 0, .ref a19, .int 0, .int 0, .ref a20, .ref a21, .int 0, .int 0, .ref a22, .int 0, .int 0, .int 0, .int 0])), (a2, .inl (T 0, 329, .inl cn45)), (a3, .inl (T 0, 53, .inl cn13)), (a7, .inl (T 1, 12, .inr (.inl (fun _ => 0)))), (a8, .inl (T 1, 12, .inr (.inl (fun _ => 0)))), (a11, .inl (T 2, 3, .inl cn9))] sz (fun (v : Int32) (u : Unit) => (0 : Int32) = v) (fun u => [])) 0 0 (va_A [(a0, .inr (11, [.int 0, .ref a1, .int 0, .int 0, .int 0, .int 0, .int 0, .int 0, .int 0, .int 0, .int 0, .int 0, .long 0, .int 0, .ref a2, .ref a3, .ref a4, .ref a5, .ref a6, .ref a7, .ref a8, .ref a9, .ref a10, .ref a11, .int 0, .ref a12, .ref a13, .ref a14, .ref a15, .int 0, .int 0, .int 0, .ref a16, .int (-1), .int (-1), .ref a17, .ref a18, .int 0, .ref a19, .int 0, .int 0, .ref a20, .ref a21, .int 0, .int 0, .ref a22, .int 0, .int 0, .int 0, .int 0])), (a2, .inl (T 0, 329, .inl cn45)), (a3, .inl (T 0, 53, .inl cn13)), (a7, .inl (T 1, 12, .inr (.inl (fun _ => 0)))), (a8, .inl (T 1, 12, .inr (.inl (fun _ => 0)))), (a11, .inl (T 2, 3, .inl cn9))] sz) := by
  refine e_I (by decide) (Nat.le_of_ble_eq_true rfl) ?_
  intro p e s m args below meth c A Q ls M hin w ret hl
  have hx := M.1.1
  have hb := M.1.2.1
  have hl : lv_has ls 3 [(0, .ref a0)] := hl
  refine lv_aload_n hx hb dX12_city_0 rfl (lv_at hl 0 rfl) ?_
  refine lv_sipush (v := 900) hx hb dX12_city_1 (by decide) ?_
  refine k_V (ce := 0) (sl := 0) (rest := []) (wr := [(a2, .inl (T 0, 329, .inl cn45)), (a3, .inl (T 0, 53, .inl cn13)), (a7, .inl (T 1, 12, .inr (.inl (fun _ => 0)))), (a8, .inl (T 1, 12, .inr (.inl (fun _ => 0)))), (a11, .inl (T 2, 3, .inl cn9))]) (r_V (f := 1) [0] M w V_HookedCityModel_224 G1625 G47 (c45_X12_begin l D T _ a0 a1 a2 a3 a4 a5 a6 a7 a8 a9 a10 a11 a12 a13 a14 a15 a16 a17 a18 a19 a20 a21 a22) 0 clX12 rfl rfl (by decide) rfl hl.1 rfl (Nat.le_of_ble_eq_true rfl) dX12_city_4 (by decide) (by decide) (by decide) (by decide)) w [0] [1, 2, 3, 4, 5] rfl rfl (by decide) (by decide) rfl rfl (fun _ H locs hp w => ?_)
  have w : WD D A s.heap [(a2, .inl (T 0, 329, .inl cn45)), (a3, .inl (T 0, 53, .inl cn13)), (a7, .inl (T 1, 12, .inr (.inl (fun _ => 0)))), (a8, .inl (T 1, 12, .inr (.inl (fun _ => 0)))), (a11, .inl (T 2, 3, .inl cn9)), (a0, .inr (11, [.int 0, .ref a1, .int 0, .int 0, .int 900, .int 0, .int 0, .int 0, .int 0, .int 0, .int 0, .int 0, .long 0, .int 0, .ref a2, .ref a3, .ref a4, .ref a5, .ref a6, .ref a7, .ref a8, .ref a9, .ref a10, .ref a11, .int 0, .ref a12, .ref a13, .ref a14, .ref a15, .int 0, .int 0, .int 0, .ref a16, .int (-1), .int (-1), .ref a17, .ref a18, .int 0, .ref a19, .int 0, .int 0, .ref a20, .ref a21, .int 0, .int 0, .ref a22, .int 0, .int 0, .int 0, .int 0]))] H locs := w
  refine lv_aload_n hx hb dX12_city_7 rfl (lv_at hl 0 rfl) ?_
  refine k_V (ce := 0) (sl := 0) (rest := []) (wr := [(a2, .inl (T 0, 329, .inl cn45)), (a7, .inl (T 1, 12, .inr (.inl (fun _ => 0)))), (a8, .inl (T 1, 12, .inr (.inl (fun _ => 0))))]) (r_V (f := 0) [5, 1, 4] M w V_HookedCityModel_169 G1461 G45 (c46_X12_startRead l D T _ a0 a1 a2 a3 a4 a5 a6 a7 a8 a9 a10 a11 a12 a13 a14 a15 a16 a17 a18 a19 a20 a21 a22) 5 clX12 rfl rfl (by decide) rfl hl.1 rfl (Nat.le_of_ble_eq_true rfl) dX12_city_8 (by decide) (by decide) (by decide) (by decide)) w [5, 1, 4] [0, 2, 3] rfl rfl (by decide) (by decide) rfl rfl (fun _ H locs hp w => ?_)
  have w : WD D A s.heap [(a2, .inl (T 0, 329, .inl cn45)), (a7, .inl (T 1, 12, .inr (.inl (fun _ => 0)))), (a8, .inl (T 1, 12, .inr (.inl (fun _ => 0)))), (a0, .inr (11, [.int 0, .ref a1, .int 0, .int 0, .int 900, .int 0, .int 0, .int 0, .int 0, .int 0, .int 0, .int 0, .long 0, .int 0, .ref a2, .ref a3, .ref a4, .ref a5, .ref a6, .ref a7, .ref a8, .ref a9, .ref a10, .ref a11, .int 0, .ref a12, .ref a13, .ref a14, .ref a15, .int 0, .int 0, .int 0, .ref a16, .int (-1), .int (-1), .ref a17, .ref a18, .int 0, .ref a19, .int 0, .int 0, .ref a20, .ref a21, .int 0, .int 0, .ref a22, .int 0, .int 0, .int 0, .int 0])), (a3, .inl (T 0, 53, .inl cn56)), (a11, .inl (T 2, 3, .inl cn52))] H locs := w
  refine lv_iconst (v := 0) hx hb dX12_city_11 (by decide) ?_
  refine lv_istore_n (lv' := [(1, .int 0), (0, .ref a0)]) hx hb dX12_city_12 rfl hl (by decide) rfl (fun ls hl => ?_)
  refine lv_aload_n hx hb dX12_city_13 rfl (lv_at hl 1 rfl) ?_
  refine r_get (v := .int 0) M w 3 7 clX12 rfl (by decide) G1474 rfl rfl dX12_city_14 ?_
  refine lv_if_eq (tgt := 47) hx hb dX12_city_17 (by decide) (fun _ => ?_) (fun c => absurd (by decide +kernel) c)
  refine lv_iconst (v := 0) hx hb dX12_city_47 (by decide) ?_
  refine lv_istore_n (lv' := [(2, .int 0), (1, .int 0), (0, .ref a0)]) hx hb dX12_city_48 rfl hl (by decide) rfl (fun ls hl => ?_)
  have w : WD D A s.heap [(a2, .inl (T 0, 329, .inl (shc 0 0 0 0 cn56 cn45))), (a7, .inl (T 1, 12, .inr (.inl (fun _ => 0)))), (a8, .inl (T 1, 12, .inr (.inl (fun _ => 0)))), (a0, .inr (11, [.int 0, .ref a1, .int 0, .int 0, .int 900, .int 0, .int 0, .int 0, .int 0, .int 0, .int 0, .int 0, .long 0, .int 0, .ref a2, .ref a3, .ref a4, .ref a5, .ref a6, .ref a7, .ref a8, .ref a9, .ref a10, .ref a11, .int 0, .ref a12, .ref a13, .ref a14, .ref a15, .int 0, .int 0, .int 0, .ref a16, .int (-1), .int (-1), .ref a17, .ref a18, .int 0, .ref a19, .int 0, .int 0, .ref a20, .ref a21, .int 0, .int 0, .ref a22, .int 0, .int 0, .int 0, .int 0])), (a3, .inl (T 0, 53, .inl cn56)), (a11, .inl (T 2, 3, .inl cn52))] _ _ := w.to (by simp only [shc_0])
  have loop : ∀ (k i : Nat) (H : Heap) (locs : List Loc) (ls : Array Slot), 0 ≤ i → i ≤ 53 → 53 < i + k → WD D A s.heap [(a2, .inl (T 0, 329, .inl (shc 0 i 0 0 cn56 cn45))), (a7, .inl (T 1, 12, .inr (.inl (fun _ => 0)))), (a8, .inl (T 1, 12, .inr (.inl (fun _ => 0)))), (a0, .inr (11, [.int 0, .ref a1, .int 0, .int 0, .int 900, .int 0, .int 0, .int 0, .int 0, .int 0, .int 0, .int 0, .long 0, .int 0, .ref a2, .ref a3, .ref a4, .ref a5, .ref a6, .ref a7, .ref a8, .ref a9, .ref a10, .ref a11, .int 0, .ref a12, .ref a13, .ref a14, .ref a15, .int 0, .int 0, .int 0, .ref a16, .int (-1), .int (-1), .ref a17, .ref a18, .int 0, .ref a19, .int 0, .int 0, .ref a20, .ref a21, .int 0, .int 0, .ref a22, .int 0, .int 0, .int 0, .int 0])), (a3, .inl (T 0, 53, .inl cn56)), (a11, .inl (T 2, 3, .inl cn52))] H locs → lv_has ls 3 [(2, .int (nI i)), (1, .int 0), (0, .ref a0)] → W p l e (Rm 2 0 0) s m args below meth c H locs 0 0 Q (F0 m 49 ls []) := by
    intro k
    induction k with
    | zero => intro i H locs ls h0 h1 h2; exact absurd h2 (by omega)
    | succ k ih =>
      intro i H locs ls hi0 hi1 hi2 w hl
      refine lv_iload_n hx hb dX12_city_49 rfl (lv_at hl 0 rfl) ?_
      refine lv_bipush (v := 53) hx hb dX12_city_50 (by decide) ?_
      refine lv_icmp_ge (tgt := 73) hx hb dX12_city_52 (by decide) (fun c_1 => ?_) (fun c_1 => ?_)
      · have hi2 : 53 ≤ i := ix_exit (n := 53) (by decide) (by omega) (by decide) c_1
        obtain rfl : i = 53 := by omega
        have w : WD D A s.heap [(a2, .inl (T 0, 329, .inl cn58)), (a7, .inl (T 1, 12, .inr (.inl (fun _ => 0)))), (a8, .inl (T 1, 12, .inr (.inl (fun _ => 0)))), (a0, .inr (11, [.int 0, .ref a1, .int 0, .int 0, .int 900, .int 0, .int 0, .int 0, .int 0, .int 0, .int 0, .int 0, .long 0, .int 0, .ref a2, .ref a3, .ref a4, .ref a5, .ref a6, .ref a7, .ref a8, .ref a9, .ref a10, .ref a11, .int 0, .ref a12, .ref a13, .ref a14, .ref a15, .int 0, .int 0, .int 0, .ref a16, .int (-1), .int (-1), .ref a17, .ref a18, .int 0, .ref a19, .int 0, .int 0, .ref a20, .ref a21, .int 0, .int 0, .ref a22, .int 0, .int 0, .int 0, .int 0])), (a3, .inl (T 0, 53, .inl cn56)), (a11, .inl (T 2, 3, .inl cn52))] H locs := w
        have hl : lv_has ls 3 [(2, .int 53), (1, .int 0), (0, .ref a0)] := hl
        refine lv_iconst (v := 0) hx hb dX12_city_73 (by decide) ?_
        refine lv_istore_n (lv' := [(2, .int 0), (1, .int 0), (0, .ref a0)]) hx hb dX12_city_74 rfl hl (by decide) rfl (fun ls hl => ?_)
        have w : WD D A s.heap [(a2, .inl (T 0, 329, .inl cn58)), (a7, .inl (T 1, 12, .inr (.inl (shc 0 0 0 0 (fun _ => 0) (fun _ => 0))))), (a8, .inl (T 1, 12, .inr (.inl (fun _ => 0)))), (a0, .inr (11, [.int 0, .ref a1, .int 0, .int 0, .int 900, .int 0, .int 0, .int 0, .int 0, .int 0, .int 0, .int 0, .long 0, .int 0, .ref a2, .ref a3, .ref a4, .ref a5, .ref a6, .ref a7, .ref a8, .ref a9, .ref a10, .ref a11, .int 0, .ref a12, .ref a13, .ref a14, .ref a15, .int 0, .int 0, .int 0, .ref a16, .int (-1), .int (-1), .ref a17, .ref a18, .int 0, .ref a19, .int 0, .int 0, .ref a20, .ref a21, .int 0, .int 0, .ref a22, .int 0, .int 0, .int 0, .int 0])), (a3, .inl (T 0, 53, .inl cn56)), (a11, .inl (T 2, 3, .inl cn52))] H locs := w.to (by simp only [shc_0])
        have loop : ∀ (k i : Nat) (H : Heap) (locs : List Loc) (ls : Array Slot), 0 ≤ i → i ≤ 12 → 12 < i + k → WD D A s.heap [(a2, .inl (T 0, 329, .inl cn58)), (a7, .inl (T 1, 12, .inr (.inl (shc 0 i 0 0 (fun _ => 0) (fun _ => 0))))), (a8, .inl (T 1, 12, .inr (.inl (fun _ => 0)))), (a0, .inr (11, [.int 0, .ref a1, .int 0, .int 0, .int 900, .int 0, .int 0, .int 0, .int 0, .int 0, .int 0, .int 0, .long 0, .int 0, .ref a2, .ref a3, .ref a4, .ref a5, .ref a6, .ref a7, .ref a8, .ref a9, .ref a10, .ref a11, .int 0, .ref a12, .ref a13, .ref a14, .ref a15, .int 0, .int 0, .int 0, .ref a16, .int (-1), .int (-1), .ref a17, .ref a18, .int 0, .ref a19, .int 0, .int 0, .ref a20, .ref a21, .int 0, .int 0, .ref a22, .int 0, .int 0, .int 0, .int 0])), (a3, .inl (T 0, 53, .inl cn56)), (a11, .inl (T 2, 3, .inl cn52))] H locs → lv_has ls 3 [(2, .int (nI i)), (1, .int 0), (0, .ref a0)] → W p l e (Rm 2 0 0) s m args below meth c H locs 0 0 Q (F0 m 75 ls []) := by
          intro k
          induction k with
          | zero => intro i H locs ls h0 h1 h2; exact absurd h2 (by omega)
          | succ k ih =>
            intro i H locs ls hi0 hi1 hi2 w hl
            refine lv_iload_n hx hb dX12_city_75 rfl (lv_at hl 0 rfl) ?_
            refine lv_bipush (v := 12) hx hb dX12_city_76 (by decide) ?_
            refine lv_icmp_ge (tgt := 99) hx hb dX12_city_78 (by decide) (fun c_2 => ?_) (fun c_2 => ?_)
            · have hi2 : 12 ≤ i := ix_exit (n := 12) (by decide) (by omega) (by decide) c_2
              obtain rfl : i = 12 := by omega
              have w : WD D A s.heap [(a2, .inl (T 0, 329, .inl cn58)), (a7, .inl (T 1, 12, .inr (.inl cn60))), (a8, .inl (T 1, 12, .inr (.inl (fun _ => 0)))), (a0, .inr (11, [.int 0, .ref a1, .int 0, .int 0, .int 900, .int 0, .int 0, .int 0, .int 0, .int 0, .int 0, .int 0, .long 0, .int 0, .ref a2, .ref a3, .ref a4, .ref a5, .ref a6, .ref a7, .ref a8, .ref a9, .ref a10, .ref a11, .int 0, .ref a12, .ref a13, .ref a14, .ref a15, .int 0, .int 0, .int 0, .ref a16, .int (-1), .int (-1), .ref a17, .ref a18, .int 0, .ref a19, .int 0, .int 0, .ref a20, .ref a21, .int 0, .int 0, .ref a22, .int 0, .int 0, .int 0, .int 0])), (a3, .inl (T 0, 53, .inl cn56)), (a11, .inl (T 2, 3, .inl cn52))] H locs := w
              have hl : lv_has ls 3 [(2, .int 12), (1, .int 0), (0, .ref a0)] := hl
              refine lv_aload_n hx hb dX12_city_99 rfl (lv_at hl 2 rfl) ?_
              refine k_V (ce := 0) (sl := 0) (rest := []) (wr := [(a7, .inl (T 1, 12, .inr (.inl cn60))), (a8, .inl (T 1, 12, .inr (.inl (fun _ => 0)))), (a3, .inl (T 0, 53, .inl cn56)), (a11, .inl (T 2, 3, .inl cn52))]) (r_V (f := 0) [3, 0] M w V_HookedCityModel_172 G1465 G46 (c47_X12_startSo l D T _ a0 a1 a2 a3 a4 a5 a6 a7 a8 a9 a10 a11 a12 a13 a14 a15 a16 a17 a18 a19 a20 a21 a22) 3 clX12 rfl rfl (by decide) rfl hl.1 rfl (Nat.le_of_ble_eq_true rfl) dX12_city_100 (by decide) (by decide) (by decide) (by decide)) w [3, 0] [1, 2, 4, 5] rfl rfl (by decide) (by decide) rfl rfl (fun _ H locs hp w => ?_)
              have w : WD D A s.heap [(a7, .inl (T 1, 12, .inr (.inl cn60))), (a8, .inl (T 1, 12, .inr (.inl (fun _ => 0)))), (a3, .inl (T 0, 53, .inl cn56)), (a11, .inl (T 2, 3, .inl cn52)), (a0, .inr (11, [.int 0, .ref a1, .int 0, .int 0, .int 900, .int 0, .int 0, .int 0, .int 0, .int 0, .int 0, .int 0, .long 0, .int 0, .ref a2, .ref a3, .ref a4, .ref a5, .ref a6, .ref a7, .ref a8, .ref a9, .ref a10, .ref a11, .int 0, .ref a12, .ref a13, .ref a14, .ref a15, .int 0, .int 0, .int 0, .ref a16, .int (-1), .int (-1), .ref a17, .ref a18, .int 0, .ref a19, .int 0, .int 0, .ref a20, .ref a21, .int 0, .int 0, .ref a22, .int 0, .int 0, .int 0, .int 0])), (a2, .inl (T 0, 329, .inl cn90))] H locs := w
              refine lv_aload_n hx hb dX12_city_103 rfl (lv_at hl 2 rfl) ?_
              refine lv_iconst (v := 0) hx hb dX12_city_104 (by decide) ?_
              refine r_put (ws' := [(a7, .inl (T 1, 12, .inr (.inl cn60))), (a8, .inl (T 1, 12, .inr (.inl (fun _ => 0)))), (a3, .inl (T 0, 53, .inl cn56)), (a11, .inl (T 2, 3, .inl cn52)), (a0, .inr (11, [.int 0, .ref a1, .int 0, .int 0, .int 900, .int 0, .int 0, .int 0, .int 0, .int 0, .int 0, .int 0, .long 0, .int 0, .ref a2, .ref a3, .ref a4, .ref a5, .ref a6, .ref a7, .ref a8, .ref a9, .ref a10, .ref a11, .int 0, .ref a12, .ref a13, .ref a14, .ref a15, .int 0, .int 0, .int 0, .ref a16, .int (-1), .int (-1), .ref a17, .ref a18, .int 0, .ref a19, .int 0, .int 0, .ref a20, .ref a21, .int 0, .int 0, .ref a22, .int 0, .int 0, .int 0, .int 0])), (a2, .inl (T 0, 329, .inl cn90))]) M w 4 24 clX12 rfl (by decide) G1491 rfl rfl rfl rfl (Nat.le_of_ble_eq_true rfl) rfl dX12_city_105 (fun H locs w => ?_)
              refine lv_aload_n hx hb dX12_city_108 rfl (lv_at hl 2 rfl) ?_
              refine lv_iconst (v := 0) hx hb dX12_city_109 (by decide) ?_
              refine r_put (ws' := [(a7, .inl (T 1, 12, .inr (.inl cn60))), (a8, .inl (T 1, 12, .inr (.inl (fun _ => 0)))), (a3, .inl (T 0, 53, .inl cn56)), (a11, .inl (T 2, 3, .inl cn52)), (a0, .inr (11, [.int 0, .ref a1, .int 0, .int 0, .int 900, .int 0, .int 0, .int 0, .int 0, .int 0, .int 0, .int 0, .long 0, .int 0, .ref a2, .ref a3, .ref a4, .ref a5, .ref a6, .ref a7, .ref a8, .ref a9, .ref a10, .ref a11, .int 0, .ref a12, .ref a13, .ref a14, .ref a15, .int 0, .int 0, .int 0, .ref a16, .int (-1), .int (-1), .ref a17, .ref a18, .int 0, .ref a19, .int 0, .int 0, .ref a20, .ref a21, .int 0, .int 0, .ref a22, .int 0, .int 0, .int 0, .int 0])), (a2, .inl (T 0, 329, .inl cn90))]) M w 4 31 clX12 rfl (by decide) G1498 rfl rfl (by decide +kernel) (by decide +kernel) (Nat.le_of_ble_eq_true rfl) rfl dX12_city_110 (fun H locs w => ?_)
              refine lv_iload_n hx hb dX12_city_113 rfl (lv_at hl 1 rfl) ?_
              exact ret _ () _ _ _ _ _ [] dX12_city_114 rfl w (by decide) rfl
            · have hi2 : i < 12 := ix_in2 (n := 12) (by decide) (by omega) (by decide) c_2
              refine lv_aload_n hx hb dX12_city_81 rfl (lv_at hl 2 rfl) ?_
              refine r_get (v := .ref a7) M w 3 19 clX12 rfl (by decide) G1486 rfl rfl dX12_city_82 ?_
              refine lv_iload_n hx hb dX12_city_85 rfl (lv_at hl 0 rfl) ?_
              refine lv_aload_n hx hb dX12_city_86 rfl (lv_at hl 2 rfl) ?_
              refine r_get (v := .ref a8) M w 3 20 clX12 rfl (by decide) G1487 rfl rfl dX12_city_87 ?_
              refine lv_iload_n hx hb dX12_city_90 rfl (lv_at hl 0 rfl) ?_
              refine r_lald (v := ((fun _ => 0) (Int32.toNatClampNeg (nI i)))) M w 2 rfl (ix_in (by omega) (by decide)) rfl dX12_city_91 ?_
              refine r_last (ws' := [(a2, .inl (T 0, 329, .inl cn58)), (a7, .inl (T 1, 12, .inr (.inl (vp_updL (shc 0 i 0 0 (fun _ => 0) (fun _ => 0)) (Int32.toNatClampNeg (nI i)) ((fun _ => 0) (Int32.toNatClampNeg (nI i))))))), (a8, .inl (T 1, 12, .inr (.inl (fun _ => 0)))), (a0, .inr (11, [.int 0, .ref a1, .int 0, .int 0, .int 900, .int 0, .int 0, .int 0, .int 0, .int 0, .int 0, .int 0, .long 0, .int 0, .ref a2, .ref a3, .ref a4, .ref a5, .ref a6, .ref a7, .ref a8, .ref a9, .ref a10, .ref a11, .int 0, .ref a12, .ref a13, .ref a14, .ref a15, .int 0, .int 0, .int 0, .ref a16, .int (-1), .int (-1), .ref a17, .ref a18, .int 0, .ref a19, .int 0, .int 0, .ref a20, .ref a21, .int 0, .int 0, .ref a22, .int 0, .int 0, .int 0, .int 0])), (a3, .inl (T 0, 53, .inl cn56)), (a11, .inl (T 2, 3, .inl cn52))]) M w 1 rfl (ix_in (by omega) (by decide)) rfl dX12_city_92 (fun H locs w => ?_)
              refine lv_iinc (v := (nI (i + 1))) (lv' := [(2, .int (nI (i + 1))), (1, .int 0), (0, .ref a0)]) hx hb dX12_city_93 hl (k := 0) rfl (ix_add (k := 1) (by decide) (by omega)) (by decide) rfl (fun ls hl => ?_)
              refine lv_goto (tgt := 75) hx hb dX12_city_96 (by decide) ?_
              rw [show (vp_updL (shc 0 i 0 0 (fun _ => 0) (fun _ => 0)) (Int32.toNatClampNeg (nI i)) ((fun _ => 0) (Int32.toNatClampNeg (nI i)))) = (shc 0 (i + 1) 0 0 (fun _ => 0) (fun _ => 0)) from shc_stepL (g := (fun _ => 0)) (k := (Int32.toNatClampNeg (nI i))) (i := (Int32.toNatClampNeg (nI i))) (nI_clamp (by omega)) ((nI_clamp (by omega)).trans (by omega)) (by omega)] at w
              exact ih (i + 1) _ _ _ (by omega) (by omega) (by omega) w (lv_sub hl [0, 1, 2] rfl)
        exact loop 13 0 _ _ _ (by decide) (by decide) (by decide) w hl
      · have hi2 : i < 53 := ix_in2 (n := 53) (by decide) (by omega) (by decide) c_1
        refine lv_aload_n hx hb dX12_city_55 rfl (lv_at hl 2 rfl) ?_
        refine r_get (v := .ref a2) M w 3 14 clX12 rfl (by decide) G1481 rfl rfl dX12_city_56 ?_
        refine lv_iload_n hx hb dX12_city_59 rfl (lv_at hl 0 rfl) ?_
        refine lv_aload_n hx hb dX12_city_60 rfl (lv_at hl 2 rfl) ?_
        refine r_get (v := .ref a3) M w 3 15 clX12 rfl (by decide) G1482 rfl rfl dX12_city_61 ?_
        refine lv_iload_n hx hb dX12_city_64 rfl (lv_at hl 0 rfl) ?_
        refine r_iald (v := (cn56 (Int32.toNatClampNeg (nI i)))) M w 4 rfl (ix_in (by omega) (by decide)) rfl dX12_city_65 ?_
        refine r_iast (ws' := [(a2, .inl (T 0, 329, .inl (upd (shc 0 i 0 0 cn56 cn45) (Int32.toNatClampNeg (nI i)) (cn56 (Int32.toNatClampNeg (nI i)))))), (a7, .inl (T 1, 12, .inr (.inl (fun _ => 0)))), (a8, .inl (T 1, 12, .inr (.inl (fun _ => 0)))), (a0, .inr (11, [.int 0, .ref a1, .int 0, .int 0, .int 900, .int 0, .int 0, .int 0, .int 0, .int 0, .int 0, .int 0, .long 0, .int 0, .ref a2, .ref a3, .ref a4, .ref a5, .ref a6, .ref a7, .ref a8, .ref a9, .ref a10, .ref a11, .int 0, .ref a12, .ref a13, .ref a14, .ref a15, .int 0, .int 0, .int 0, .ref a16, .int (-1), .int (-1), .ref a17, .ref a18, .int 0, .ref a19, .int 0, .int 0, .ref a20, .ref a21, .int 0, .int 0, .ref a22, .int 0, .int 0, .int 0, .int 0])), (a3, .inl (T 0, 53, .inl cn56)), (a11, .inl (T 2, 3, .inl cn52))]) M w 0 rfl (ix_in (by omega) (by decide)) rfl dX12_city_66 (fun H locs w => ?_)
        refine lv_iinc (v := (nI (i + 1))) (lv' := [(2, .int (nI (i + 1))), (1, .int 0), (0, .ref a0)]) hx hb dX12_city_67 hl (k := 0) rfl (ix_add (k := 1) (by decide) (by omega)) (by decide) rfl (fun ls hl => ?_)
        refine lv_goto (tgt := 49) hx hb dX12_city_70 (by decide) ?_
        rw [show (upd (shc 0 i 0 0 cn56 cn45) (Int32.toNatClampNeg (nI i)) (cn56 (Int32.toNatClampNeg (nI i)))) = (shc 0 (i + 1) 0 0 cn56 cn45) from shc_step (g := cn56) (k := (Int32.toNatClampNeg (nI i))) (i := (Int32.toNatClampNeg (nI i))) (nI_clamp (by omega)) ((nI_clamp (by omega)).trans (by omega)) (by omega)] at w
        exact ih (i + 1) _ _ _ (by omega) (by omega) (by omega) w (lv_sub hl [0, 1, 2] rfl)
  exact loop 54 0 _ _ _ (by decide) (by decide) (by decide) w hl
set_option maxRecDepth 100000 in
set_option maxHeartbeats 4000000 in
theorem c49_X11_fault (l : Launch) (D : va_G) (T : Nat → ClassId) (sz : Nat) (a0 a1 a2 a3 a4 a5 a6 a7 a8 a9 a10 a11 a12 a13 a14 a15 : Nat) : Met l yX11_fault (Cond.code yX11_fault cX11_fault 1 (some .int) :: GW) (Rm 0 0 0) (cPre [.ref a0] D T [(a0, .inr (10, [.ref a1, .ref a2, .ref a3, .ref a4, .ref a5, .ref a6, .ref a7, .ref a8, .ref a9, .ref a10, .ref a11, .ref a12, .ref a13, .ref a14, .int 0, .int 0, .int 0])), (a1, .inr (8, [.ref a15, .int 0, .int 0, .int 0, .int 0, .int 0, .null, .long 0, .int 0, .int 0, .int 0, .int 0]))] sz) (qI D [(a0, .inr (10, [.ref a1, .ref a2, .ref a3, .ref a4, .ref a5, .ref a6, .ref a7, .ref a8, .ref a9, .ref a10, .ref a11, .ref a12, .ref a13, .ref a14, .int 0, .int 0, .int 0])), (a1, .inr (8, [.ref a15, .int 0, .int 0, .int 0, .int 0, .int 0, .null, .long 0, .int 0, .int 0, .int 0, .int 0]))] sz (fun (v : Int32) (u : Unit) => (0 : Int32) = v) (fun u => [])) 0 0 (va_A [(a0, .inr (10, [.ref a1, .ref a2, .ref a3, .ref a4, .ref a5, .ref a6, .ref a7, .ref a8, .ref a9, .ref a10, .ref a11, .ref a12, .ref a13, .ref a14, .int 0, .int 0, .int 0])), (a1, .inr (8, [.ref a15, .int 0, .int 0, .int 0, .int 0, .int 0, .null, .long 0, .int 0, .int 0, .int 0, .int 0]))] sz) := by
  refine e_I (by decide) (Nat.le_of_ble_eq_true rfl) ?_
  intro p e s m args below meth c A Q ls M hin w ret hl
  have hx := M.1.1
  have hb := M.1.2.1
  have hl : lv_has ls 1 [(0, .ref a0)] := hl
  refine lv_aload_n hx hb dX11_fault_0 rfl (lv_at hl 0 rfl) ?_
  refine r_get (v := .ref a1) M w 0 0 clX11 rfl (by decide) G497 rfl rfl dX11_fault_1 ?_
  refine r_getN (v := .int 0) M w 1 10 clX8 rfl (by decide) N180 rfl rfl dX11_fault_4 ?_
  exact ret _ () _ _ _ _ _ [] dX11_fault_7 rfl w (by decide) rfl
set_option maxRecDepth 100000 in
set_option maxHeartbeats 4000000 in
theorem c50_X12_fault (l : Launch) (D : va_G) (T : Nat → ClassId) (sz : Nat) (a0 a1 a2 a3 a4 a5 a6 a7 a8 a9 a10 a11 a12 a13 a14 a15 a16 a17 a18 a19 a20 a21 a22 : Nat) : Met l yX12_fault (Cond.code yX12_fault cX12_fault 1 (some .int) :: GW) (Rm 0 0 0) (cPre [.ref a0] D T [(a0, .inr (11, [.int 0, .ref a1, .int 0, .int 0, .int 0, .int 0, .int 0, .int 0, .int 0, .int 0, .int 0, .int 0, .long 0, .int 0, .ref a2, .ref a3, .ref a4, .ref a5, .ref a6, .ref a7, .ref a8, .ref a9, .ref a10, .ref a11, .int 0, .ref a12, .ref a13, .ref a14, .ref a15, .int 0, .int 0, .int 0, .ref a16, .int (-1), .int (-1), .ref a17, .ref a18, .int 0, .ref a19, .int 0, .int 0, .ref a20, .ref a21, .int 0, .int 0, .ref a22, .int 0, .int 0, .int 0, .int 0]))] sz) (qI D [(a0, .inr (11, [.int 0, .ref a1, .int 0, .int 0, .int 0, .int 0, .int 0, .int 0, .int 0, .int 0, .int 0, .int 0, .long 0, .int 0, .ref a2, .ref a3, .ref a4, .ref a5, .ref a6, .ref a7, .ref a8, .ref a9, .ref a10, .ref a11, .int 0, .ref a12, .ref a13, .ref a14, .ref a15, .int 0, .int 0, .int 0, .ref a16, .int (-1), .int (-1), .ref a17, .ref a18, .int 0, .ref a19, .int 0, .int 0, .ref a20, .ref a21, .int 0, .int 0, .ref a22, .int 0, .int 0, .int 0, .int 0]))] sz (fun (v : Int32) (u : Unit) => (0 : Int32) = v) (fun u => [])) 0 0 (va_A [(a0, .inr (11, [.int 0, .ref a1, .int 0, .int 0, .int 0, .int 0, .int 0, .int 0, .int 0, .int 0, .int 0, .int 0, .long 0, .int 0, .ref a2, .ref a3, .ref a4, .ref a5, .ref a6, .ref a7, .ref a8, .ref a9, .ref a10, .ref a11, .int 0, .ref a12, .ref a13, .ref a14, .ref a15, .int 0, .int 0, .int 0, .ref a16, .int (-1), .int (-1), .ref a17, .ref a18, .int 0, .ref a19, .int 0, .int 0, .ref a20, .ref a21, .int 0, .int 0, .ref a22, .int 0, .int 0, .int 0, .int 0]))] sz) := by
  refine e_I (by decide) (Nat.le_of_ble_eq_true rfl) ?_
  intro p e s m args below meth c A Q ls M hin w ret hl
  have hx := M.1.1
  have hb := M.1.2.1
  have hl : lv_has ls 1 [(0, .ref a0)] := hl
  refine lv_aload_n hx hb dX12_fault_0 rfl (lv_at hl 0 rfl) ?_
  refine lv_iconst (v := 0) hx hb dX12_fault_1 (by decide) ?_
  refine r_put (ws' := [(a0, .inr (11, [.int 0, .ref a1, .int 0, .int 0, .int 0, .int 0, .int 0, .int 0, .int 0, .int 0, .int 0, .int 0, .long 0, .int 0, .ref a2, .ref a3, .ref a4, .ref a5, .ref a6, .ref a7, .ref a8, .ref a9, .ref a10, .ref a11, .int 0, .ref a12, .ref a13, .ref a14, .ref a15, .int 0, .int 0, .int 0, .ref a16, .int (-1), .int (-1), .ref a17, .ref a18, .int 0, .ref a19, .int 0, .int 0, .ref a20, .ref a21, .int 0, .int 0, .ref a22, .int 0, .int 0, .int 0, .int 0]))]) M w 0 0 clX12 rfl (by decide) G1467 rfl rfl rfl rfl (Nat.le_of_ble_eq_true rfl) rfl dX12_fault_2 (fun H locs w => ?_)
  refine lv_aload_n hx hb dX12_fault_5 rfl (lv_at hl 0 rfl) ?_
  refine r_get (v := .int 0) M w 0 10 clX12 rfl (by decide) G1477 rfl rfl dX12_fault_6 ?_
  exact ret _ () _ _ _ _ _ [] dX12_fault_9 rfl w (by decide) rfl
set_option maxRecDepth 100000 in
set_option maxHeartbeats 4000000 in
theorem c51_X11_isMaid (l : Launch) (D : va_G) (T : Nat → ClassId) (sz : Nat) (a0 a1 a2 a3 a4 a5 a6 a7 a8 a9 a10 a11 a12 a13 a14 a15 a16 a17 a18 a19 a20 a21 a22 a23 : Nat) (x0 : Int32) : Met l yX11_isMaid (Cond.code yX11_isMaid cX11_isMaid 2 (some .boolean) :: GW) (Rm 0 0 0) (cPre [.ref a0, .int x0] D T [(a0, .inr (10, [.ref a1, .ref a2, .ref a3, .ref a4, .ref a5, .ref a6, .ref a7, .ref a8, .ref a9, .ref a10, .ref a11, .ref a12, .ref a13, .ref a14, .int 0, .int 0, .int 0])), (a11, .inr (9, [.ref a15, .ref a16, .ref a17, .ref a18, .ref a19, .ref a20, .ref a21, .ref a22, .ref a23, .int 0, .int 0, .int 0, .int 0, .int 12, .int 1, .int 0, .int 0, .int 0]))] sz) (qI D [(a0, .inr (10, [.ref a1, .ref a2, .ref a3, .ref a4, .ref a5, .ref a6, .ref a7, .ref a8, .ref a9, .ref a10, .ref a11, .ref a12, .ref a13, .ref a14, .int 0, .int 0, .int 0])), (a11, .inr (9, [.ref a15, .ref a16, .ref a17, .ref a18, .ref a19, .ref a20, .ref a21, .ref a22, .ref a23, .int 0, .int 0, .int 0, .int 0, .int 12, .int 1, .int 0, .int 0, .int 0]))] sz (fun (v : Int32) (u : Unit) => (0 : Int32) = v) (fun u => [(a0, .inr (10, [.ref a1, .ref a2, .ref a3, .ref a4, .ref a5, .ref a6, .ref a7, .ref a8, .ref a9, .ref a10, .ref a11, .ref a12, .ref a13, .ref a14, .int 0, .int 0, .int 0])), (a11, .inr (9, [.ref a15, .ref a16, .ref a17, .ref a18, .ref a19, .ref a20, .ref a21, .ref a22, .ref a23, .int 0, .int 0, .int 0, .int 0, .int 12, .int 1, .int 0, .int 0, .int 0]))])) 0 0 (va_A [(a0, .inr (10, [.ref a1, .ref a2, .ref a3, .ref a4, .ref a5, .ref a6, .ref a7, .ref a8, .ref a9, .ref a10, .ref a11, .ref a12, .ref a13, .ref a14, .int 0, .int 0, .int 0])), (a11, .inr (9, [.ref a15, .ref a16, .ref a17, .ref a18, .ref a19, .ref a20, .ref a21, .ref a22, .ref a23, .int 0, .int 0, .int 0, .int 0, .int 12, .int 1, .int 0, .int 0, .int 0]))] sz) := by
  refine e_Z (by decide) (Nat.le_of_ble_eq_true rfl) ?_
  intro p e s m args below meth c A Q ls M hin w ret hl
  have hx := M.1.1
  have hb := M.1.2.1
  have hl : lv_has ls 2 [(0, .ref a0), (1, .int x0)] := hl
  refine lv_iload_n hx hb dX11_isMaid_0 rfl (lv_at hl 1 rfl) ?_
  refine lv_if_lt (tgt := 19) hx hb dX11_isMaid_1 (by decide) (fun c_1 => ?_) (fun c_1 => ?_)
  · refine lv_iconst (v := 0) hx hb dX11_isMaid_19 (by decide) ?_
    exact ret _ () _ _ _ _ _ [0, 1] dX11_isMaid_20 (by decide +kernel) rfl w (by decide) rfl
  · refine lv_iload_n hx hb dX11_isMaid_4 rfl (lv_at hl 1 rfl) ?_
    refine lv_aload_n hx hb dX11_isMaid_5 rfl (lv_at hl 0 rfl) ?_
    refine r_get (v := .ref a11) M w 0 10 clX11 rfl (by decide) G507 rfl rfl dX11_isMaid_6 ?_
    refine r_getN (v := .int 0) M w 1 10 clX9 rfl (by decide) N395 rfl rfl dX11_isMaid_9 ?_
    refine lv_icmp_ge (tgt := 19) hx hb dX11_isMaid_12 (by decide) (fun c_2 => ?_) (fun c_2 => ?_)
    · refine lv_iconst (v := 0) hx hb dX11_isMaid_19 (by decide) ?_
      exact ret _ () _ _ _ _ _ [0, 1] dX11_isMaid_20 (by decide +kernel) rfl w (by decide) rfl
    · exfalso
      simp only [fa_lt, fa_le, fa_eq] at c_1 c_2
      have e0 : (0 : Int32).toInt = 0 := (by decide)
      omega
set_option maxRecDepth 100000 in
set_option maxHeartbeats 4000000 in
theorem c52_X11_maid (l : Launch) (D : va_G) (T : Nat → ClassId) (sz : Nat) (a0 a1 a2 a3 a4 a5 a6 a7 a8 a9 a10 a11 a12 a13 a14 a15 a16 a17 a18 a19 a20 a21 a22 a23 : Nat) (x0 : Int32) (x1 : Int32) : Met l yX11_maid (Cond.code yX11_maid cX11_maid 3 (some .int) :: GW) (Rm 1 0 0) (cPre [.ref a0, .int x0, .int x1] D T [(a0, .inr (10, [.ref a1, .ref a2, .ref a3, .ref a4, .ref a5, .ref a6, .ref a7, .ref a8, .ref a9, .ref a10, .ref a11, .ref a12, .ref a13, .ref a14, .int 0, .int 0, .int 0])), (a11, .inr (9, [.ref a15, .ref a16, .ref a17, .ref a18, .ref a19, .ref a20, .ref a21, .ref a22, .ref a23, .int 0, .int 0, .int 0, .int 0, .int 12, .int 1, .int 0, .int 0, .int 0]))] sz) (qI D [(a0, .inr (10, [.ref a1, .ref a2, .ref a3, .ref a4, .ref a5, .ref a6, .ref a7, .ref a8, .ref a9, .ref a10, .ref a11, .ref a12, .ref a13, .ref a14, .int 0, .int 0, .int 0])), (a11, .inr (9, [.ref a15, .ref a16, .ref a17, .ref a18, .ref a19, .ref a20, .ref a21, .ref a22, .ref a23, .int 0, .int 0, .int 0, .int 0, .int 12, .int 1, .int 0, .int 0, .int 0]))] sz (fun (v : Int32) (u : Unit) => (-1 : Int32) = v) (fun u => [])) 0 0 (va_A [(a0, .inr (10, [.ref a1, .ref a2, .ref a3, .ref a4, .ref a5, .ref a6, .ref a7, .ref a8, .ref a9, .ref a10, .ref a11, .ref a12, .ref a13, .ref a14, .int 0, .int 0, .int 0])), (a11, .inr (9, [.ref a15, .ref a16, .ref a17, .ref a18, .ref a19, .ref a20, .ref a21, .ref a22, .ref a23, .int 0, .int 0, .int 0, .int 0, .int 12, .int 1, .int 0, .int 0, .int 0]))] sz) := by
  refine e_I (by decide) (Nat.le_of_ble_eq_true rfl) ?_
  intro p e s m args below meth c A Q ls M hin w ret hl
  have hx := M.1.1
  have hb := M.1.2.1
  have hl : lv_has ls 3 [(0, .ref a0), (1, .int x0), (2, .int x1)] := hl
  refine lv_aload_n hx hb dX11_maid_0 rfl (lv_at hl 0 rfl) ?_
  refine lv_iload_n hx hb dX11_maid_1 rfl (lv_at hl 1 rfl) ?_
  refine k_I (ce := 0) (sl := 0) (rest := []) (wr := []) (r_V (f := 0) [0, 1] M w V_HookedCity_166 G813 G15 (c51_X11_isMaid l D T _ a0 a1 a2 a3 a4 a5 a6 a7 a8 a9 a10 a11 a12 a13 a14 a15 a16 a17 a18 a19 a20 a21 a22 a23 x0) 0 clX11 rfl rfl (by decide) rfl hl.1 rfl (Nat.le_of_ble_eq_true rfl) dX11_maid_2 (by decide) (by decide) (by decide) (by decide)) w [0, 1] [] rfl rfl (by decide) (by decide) rfl rfl (fun v _ H locs hp w => ?_)
  have hp : (0 : Int32) = v := hp
  subst hp
  have w : WD D A s.heap [(a0, .inr (10, [.ref a1, .ref a2, .ref a3, .ref a4, .ref a5, .ref a6, .ref a7, .ref a8, .ref a9, .ref a10, .ref a11, .ref a12, .ref a13, .ref a14, .int 0, .int 0, .int 0])), (a11, .inr (9, [.ref a15, .ref a16, .ref a17, .ref a18, .ref a19, .ref a20, .ref a21, .ref a22, .ref a23, .int 0, .int 0, .int 0, .int 0, .int 12, .int 1, .int 0, .int 0, .int 0]))] H locs := w
  refine lv_if_eq (tgt := 17) hx hb dX11_maid_5 (by decide) (fun _ => ?_) (fun c => absurd (by decide +kernel) c)
  refine lv_iconst (v := (-1)) hx hb dX11_maid_17 (by decide) ?_
  exact ret _ () _ _ _ _ _ [] dX11_maid_18 rfl w (by decide) rfl
set_option maxRecDepth 100000 in
set_option maxHeartbeats 4000000 in
theorem c53_X12_isIn (l : Launch) (D : va_G) (T : Nat → ClassId) (sz : Nat) (x0 : Int32) : Met l yX12_isIn (Cond.code yX12_isIn cX12_isIn 3 (some .boolean) :: GW) (Rm 0 0 0) (cPre [.int x0, .int 0, .int (-1)] D T [] sz) (qI D [] sz (fun (v : Int32) (u : Unit) => (0 : Int32) = v) (fun u => [])) 0 0 (va_A [] sz) := by
  refine e_Z (by decide) (Nat.le_of_ble_eq_true rfl) ?_
  intro p e s m args below meth c A Q ls M hin w ret hl
  have hx := M.1.1
  have hb := M.1.2.1
  have hl : lv_has ls 3 [(0, .int x0), (1, .int 0), (2, .int (-1))] := hl
  refine lv_iload_n hx hb dX12_isIn_0 rfl (lv_at hl 0 rfl) ?_
  refine lv_iload_n hx hb dX12_isIn_1 rfl (lv_at hl 1 rfl) ?_
  refine lv_icmp_lt (tgt := 14) hx hb dX12_isIn_2 (by decide) (fun c_1 => ?_) (fun c_1 => ?_)
  · refine lv_iconst (v := 0) hx hb dX12_isIn_14 (by decide) ?_
    exact ret _ () _ _ _ _ _ [] dX12_isIn_15 (by decide +kernel) rfl w (by decide) rfl
  · refine lv_iload_n hx hb dX12_isIn_5 rfl (lv_at hl 0 rfl) ?_
    refine lv_iload_n hx hb dX12_isIn_6 rfl (lv_at hl 2 rfl) ?_
    refine lv_icmp_gt (tgt := 14) hx hb dX12_isIn_7 (by decide) (fun c_2 => ?_) (fun c_2 => ?_)
    · refine lv_iconst (v := 0) hx hb dX12_isIn_14 (by decide) ?_
      exact ret _ () _ _ _ _ _ [] dX12_isIn_15 (by decide +kernel) rfl w (by decide) rfl
    · exfalso
      simp only [fa_lt, fa_le, fa_eq] at c_1 c_2
      have em1 : (-1 : Int32).toInt = -1 := (by decide)
      have e0 : (0 : Int32).toInt = 0 := (by decide)
      omega
set_option maxRecDepth 100000 in
set_option maxHeartbeats 4000000 in
theorem c54_X12_isMaid (l : Launch) (D : va_G) (T : Nat → ClassId) (sz : Nat) (a0 a1 a2 a3 a4 a5 a6 a7 a8 a9 a10 a11 a12 a13 a14 a15 a16 a17 a18 a19 a20 a21 a22 : Nat) (x0 : Int32) : Met l yX12_isMaid (Cond.code yX12_isMaid cX12_isMaid 2 (some .boolean) :: GW) (Rm 1 0 0) (cPre [.ref a0, .int x0] D T [(a0, .inr (11, [.int 0, .ref a1, .int 0, .int 0, .int 0, .int 0, .int 0, .int 0, .int 0, .int 0, .int 0, .int 0, .long 0, .int 0, .ref a2, .ref a3, .ref a4, .ref a5, .ref a6, .ref a7, .ref a8, .ref a9, .ref a10, .ref a11, .int 0, .ref a12, .ref a13, .ref a14, .ref a15, .int 0, .int 0, .int 0, .ref a16, .int (-1), .int (-1), .ref a17, .ref a18, .int 0, .ref a19, .int 0, .int 0, .ref a20, .ref a21, .int 0, .int 0, .ref a22, .int 0, .int 0, .int 0, .int 0])), (a2, .inl (T 0, 329, .inl cn45))] sz) (qI D [(a0, .inr (11, [.int 0, .ref a1, .int 0, .int 0, .int 0, .int 0, .int 0, .int 0, .int 0, .int 0, .int 0, .int 0, .long 0, .int 0, .ref a2, .ref a3, .ref a4, .ref a5, .ref a6, .ref a7, .ref a8, .ref a9, .ref a10, .ref a11, .int 0, .ref a12, .ref a13, .ref a14, .ref a15, .int 0, .int 0, .int 0, .ref a16, .int (-1), .int (-1), .ref a17, .ref a18, .int 0, .ref a19, .int 0, .int 0, .ref a20, .ref a21, .int 0, .int 0, .ref a22, .int 0, .int 0, .int 0, .int 0])), (a2, .inl (T 0, 329, .inl cn45))] sz (fun (v : Int32) (u : Unit) => (0 : Int32) = v) (fun u => [(a0, .inr (11, [.int 0, .ref a1, .int 0, .int 0, .int 0, .int 0, .int 0, .int 0, .int 0, .int 0, .int 0, .int 0, .long 0, .int 0, .ref a2, .ref a3, .ref a4, .ref a5, .ref a6, .ref a7, .ref a8, .ref a9, .ref a10, .ref a11, .int 0, .ref a12, .ref a13, .ref a14, .ref a15, .int 0, .int 0, .int 0, .ref a16, .int (-1), .int (-1), .ref a17, .ref a18, .int 0, .ref a19, .int 0, .int 0, .ref a20, .ref a21, .int 0, .int 0, .ref a22, .int 0, .int 0, .int 0, .int 0])), (a2, .inl (T 0, 329, .inl cn45))])) 0 0 (va_A [(a0, .inr (11, [.int 0, .ref a1, .int 0, .int 0, .int 0, .int 0, .int 0, .int 0, .int 0, .int 0, .int 0, .int 0, .long 0, .int 0, .ref a2, .ref a3, .ref a4, .ref a5, .ref a6, .ref a7, .ref a8, .ref a9, .ref a10, .ref a11, .int 0, .ref a12, .ref a13, .ref a14, .ref a15, .int 0, .int 0, .int 0, .ref a16, .int (-1), .int (-1), .ref a17, .ref a18, .int 0, .ref a19, .int 0, .int 0, .ref a20, .ref a21, .int 0, .int 0, .ref a22, .int 0, .int 0, .int 0, .int 0])), (a2, .inl (T 0, 329, .inl cn45))] sz) := by
  refine e_Z (by decide) (Nat.le_of_ble_eq_true rfl) ?_
  intro p e s m args below meth c A Q ls M hin w ret hl
  have hx := M.1.1
  have hb := M.1.2.1
  have hl : lv_has ls 2 [(0, .ref a0), (1, .int x0)] := hl
  refine lv_iload_n hx hb dX12_isMaid_0 rfl (lv_at hl 1 rfl) ?_
  refine lv_iconst (v := 0) hx hb dX12_isMaid_1 (by decide) ?_
  refine lv_aload_n hx hb dX12_isMaid_2 rfl (lv_at hl 0 rfl) ?_
  refine r_get (v := .ref a2) M w 0 14 clX12 rfl (by decide) G1481 rfl rfl dX12_isMaid_3 ?_
  refine lv_iconst (v := 1) hx hb dX12_isMaid_6 (by decide) ?_
  refine r_iald (v := (0 : Int32)) M w 1 rfl (vin (by decide +kernel)) (by decide +kernel) dX12_isMaid_7 ?_
  refine lv_iconst (v := 1) hx hb dX12_isMaid_8 (by decide) ?_
  refine r_isub (v := (-1 : Int32)) M (by decide +kernel) dX12_isMaid_9 ?_
  refine k_I (ce := 0) (sl := 0) (rest := []) (wr := [(a0, .inr (11, [.int 0, .ref a1, .int 0, .int 0, .int 0, .int 0, .int 0, .int 0, .int 0, .int 0, .int 0, .int 0, .long 0, .int 0, .ref a2, .ref a3, .ref a4, .ref a5, .ref a6, .ref a7, .ref a8, .ref a9, .ref a10, .ref a11, .int 0, .ref a12, .ref a13, .ref a14, .ref a15, .int 0, .int 0, .int 0, .ref a16, .int (-1), .int (-1), .ref a17, .ref a18, .int 0, .ref a19, .int 0, .int 0, .ref a20, .ref a21, .int 0, .int 0, .ref a22, .int 0, .int 0, .int 0, .int 0])), (a2, .inl (T 0, 329, .inl cn45))]) (r_S (f := 0) [] M w V_HookedCityModel_75 G1697 (c53_X12_isIn l D T _ x0) rfl (by decide) rfl hl.1 rfl (Nat.le_of_ble_eq_true rfl) dX12_isMaid_10 (by decide) (by decide) (by decide) (by decide)) w [] [0, 1] rfl rfl (by decide) (by decide) rfl rfl (fun v _ H locs hp w => ?_)
  have hp : (0 : Int32) = v := hp
  subst hp
  have w : WD D A s.heap [(a0, .inr (11, [.int 0, .ref a1, .int 0, .int 0, .int 0, .int 0, .int 0, .int 0, .int 0, .int 0, .int 0, .int 0, .long 0, .int 0, .ref a2, .ref a3, .ref a4, .ref a5, .ref a6, .ref a7, .ref a8, .ref a9, .ref a10, .ref a11, .int 0, .ref a12, .ref a13, .ref a14, .ref a15, .int 0, .int 0, .int 0, .ref a16, .int (-1), .int (-1), .ref a17, .ref a18, .int 0, .ref a19, .int 0, .int 0, .ref a20, .ref a21, .int 0, .int 0, .ref a22, .int 0, .int 0, .int 0, .int 0])), (a2, .inl (T 0, 329, .inl cn45))] H locs := w
  exact ret _ () _ _ _ _ _ [0, 1] dX12_isMaid_13 (by decide +kernel) rfl w (by decide) rfl
set_option maxRecDepth 100000 in
set_option maxHeartbeats 4000000 in
theorem c55_X12_maid (l : Launch) (D : va_G) (T : Nat → ClassId) (sz : Nat) (a0 a1 a2 a3 a4 a5 a6 a7 a8 a9 a10 a11 a12 a13 a14 a15 a16 a17 a18 a19 a20 a21 a22 : Nat) (x0 : Int32) (x1 : Int32) : Met l yX12_maid (Cond.code yX12_maid cX12_maid 3 (some .int) :: GW) (Rm 2 0 0) (cPre [.ref a0, .int x0, .int x1] D T [(a0, .inr (11, [.int 0, .ref a1, .int 0, .int 0, .int 0, .int 0, .int 0, .int 0, .int 0, .int 0, .int 0, .int 0, .long 0, .int 0, .ref a2, .ref a3, .ref a4, .ref a5, .ref a6, .ref a7, .ref a8, .ref a9, .ref a10, .ref a11, .int 0, .ref a12, .ref a13, .ref a14, .ref a15, .int 0, .int 0, .int 0, .ref a16, .int (-1), .int (-1), .ref a17, .ref a18, .int 0, .ref a19, .int 0, .int 0, .ref a20, .ref a21, .int 0, .int 0, .ref a22, .int 0, .int 0, .int 0, .int 0])), (a2, .inl (T 0, 329, .inl cn45))] sz) (qI D [(a0, .inr (11, [.int 0, .ref a1, .int 0, .int 0, .int 0, .int 0, .int 0, .int 0, .int 0, .int 0, .int 0, .int 0, .long 0, .int 0, .ref a2, .ref a3, .ref a4, .ref a5, .ref a6, .ref a7, .ref a8, .ref a9, .ref a10, .ref a11, .int 0, .ref a12, .ref a13, .ref a14, .ref a15, .int 0, .int 0, .int 0, .ref a16, .int (-1), .int (-1), .ref a17, .ref a18, .int 0, .ref a19, .int 0, .int 0, .ref a20, .ref a21, .int 0, .int 0, .ref a22, .int 0, .int 0, .int 0, .int 0])), (a2, .inl (T 0, 329, .inl cn45))] sz (fun (v : Int32) (u : Unit) => (-1 : Int32) = v) (fun u => [])) 0 0 (va_A [(a0, .inr (11, [.int 0, .ref a1, .int 0, .int 0, .int 0, .int 0, .int 0, .int 0, .int 0, .int 0, .int 0, .int 0, .long 0, .int 0, .ref a2, .ref a3, .ref a4, .ref a5, .ref a6, .ref a7, .ref a8, .ref a9, .ref a10, .ref a11, .int 0, .ref a12, .ref a13, .ref a14, .ref a15, .int 0, .int 0, .int 0, .ref a16, .int (-1), .int (-1), .ref a17, .ref a18, .int 0, .ref a19, .int 0, .int 0, .ref a20, .ref a21, .int 0, .int 0, .ref a22, .int 0, .int 0, .int 0, .int 0])), (a2, .inl (T 0, 329, .inl cn45))] sz) := by
  refine e_I (by decide) (Nat.le_of_ble_eq_true rfl) ?_
  intro p e s m args below meth c A Q ls M hin w ret hl
  have hx := M.1.1
  have hb := M.1.2.1
  have hl : lv_has ls 3 [(0, .ref a0), (1, .int x0), (2, .int x1)] := hl
  refine lv_aload_n hx hb dX12_maid_0 rfl (lv_at hl 0 rfl) ?_
  refine lv_iconst (v := 0) hx hb dX12_maid_1 (by decide) ?_
  refine r_put (ws' := [(a0, .inr (11, [.int 0, .ref a1, .int 0, .int 0, .int 0, .int 0, .int 0, .int 0, .int 0, .int 0, .int 0, .int 0, .long 0, .int 0, .ref a2, .ref a3, .ref a4, .ref a5, .ref a6, .ref a7, .ref a8, .ref a9, .ref a10, .ref a11, .int 0, .ref a12, .ref a13, .ref a14, .ref a15, .int 0, .int 0, .int 0, .ref a16, .int (-1), .int (-1), .ref a17, .ref a18, .int 0, .ref a19, .int 0, .int 0, .ref a20, .ref a21, .int 0, .int 0, .ref a22, .int 0, .int 0, .int 0, .int 0])), (a2, .inl (T 0, 329, .inl cn45))]) M w 0 0 clX12 rfl (by decide) G1467 rfl rfl rfl rfl (Nat.le_of_ble_eq_true rfl) rfl dX12_maid_2 (fun H locs w => ?_)
  refine lv_aload_n hx hb dX12_maid_5 rfl (lv_at hl 0 rfl) ?_
  refine lv_iload_n hx hb dX12_maid_6 rfl (lv_at hl 1 rfl) ?_
  refine k_I (ce := 0) (sl := 0) (rest := []) (wr := []) (r_V (f := 1) [0, 1] M w V_HookedCityModel_252 G1760 G72 (c54_X12_isMaid l D T _ a0 a1 a2 a3 a4 a5 a6 a7 a8 a9 a10 a11 a12 a13 a14 a15 a16 a17 a18 a19 a20 a21 a22 x0) 0 clX12 rfl rfl (by decide) rfl hl.1 rfl (Nat.le_of_ble_eq_true rfl) dX12_maid_7 (by decide) (by decide) (by decide) (by decide)) w [0, 1] [] rfl rfl (by decide) (by decide) rfl rfl (fun v _ H locs hp w => ?_)
  have hp : (0 : Int32) = v := hp
  subst hp
  have w : WD D A s.heap [(a0, .inr (11, [.int 0, .ref a1, .int 0, .int 0, .int 0, .int 0, .int 0, .int 0, .int 0, .int 0, .int 0, .int 0, .long 0, .int 0, .ref a2, .ref a3, .ref a4, .ref a5, .ref a6, .ref a7, .ref a8, .ref a9, .ref a10, .ref a11, .int 0, .ref a12, .ref a13, .ref a14, .ref a15, .int 0, .int 0, .int 0, .ref a16, .int (-1), .int (-1), .ref a17, .ref a18, .int 0, .ref a19, .int 0, .int 0, .ref a20, .ref a21, .int 0, .int 0, .ref a22, .int 0, .int 0, .int 0, .int 0])), (a2, .inl (T 0, 329, .inl cn45))] H locs := w
  refine lv_if_eq (tgt := 43) hx hb dX12_maid_10 (by decide) (fun _ => ?_) (fun c => absurd (by decide +kernel) c)
  refine lv_iconst (v := (-1)) hx hb dX12_maid_43 (by decide) ?_
  exact ret _ () _ _ _ _ _ [] dX12_maid_44 rfl w (by decide) rfl
set_option maxRecDepth 100000 in
set_option maxHeartbeats 4000000 in
theorem c56_X7_openOnes (l : Launch) (D : va_G) (T : Nat → ClassId) (sz : Nat) (a0 a1 a2 a3 a4 a5 a6 a7 a8 a9 a10 : Nat) : Met l yX7_openOnes (Cond.code yX7_openOnes cX7_openOnes 4 (some .int) :: GW) (Rm 0 0 0) (cPre [.ref a0, .ref a1] D T [(a1, .inr (9, [.ref a2, .ref a3, .ref a4, .ref a5, .ref a6, .ref a7, .ref a8, .ref a9, .ref a10, .int 0, .int 0, .int 0, .int 0, .int 12, .int 1, .int 0, .int 0, .int 0]))] sz) (qI D [(a1, .inr (9, [.ref a2, .ref a3, .ref a4, .ref a5, .ref a6, .ref a7, .ref a8, .ref a9, .ref a10, .int 0, .int 0, .int 0, .int 0, .int 12, .int 1, .int 0, .int 0, .int 0]))] sz (fun (v : Int32) (u : Unit) => (0 : Int32) = v) (fun u => [(a1, .inr (9, [.ref a2, .ref a3, .ref a4, .ref a5, .ref a6, .ref a7, .ref a8, .ref a9, .ref a10, .int 0, .int 0, .int 0, .int 0, .int 12, .int 1, .int 0, .int 0, .int 0]))])) 0 0 (va_A [(a1, .inr (9, [.ref a2, .ref a3, .ref a4, .ref a5, .ref a6, .ref a7, .ref a8, .ref a9, .ref a10, .int 0, .int 0, .int 0, .int 0, .int 12, .int 1, .int 0, .int 0, .int 0]))] sz) := by
  refine e_I (by decide) (Nat.le_of_ble_eq_true rfl) ?_
  intro p e s m args below meth c A Q ls M hin w ret hl
  have hx := M.1.1
  have hb := M.1.2.1
  have hl : lv_has ls 4 [(0, .ref a0), (1, .ref a1)] := hl
  refine lv_iconst (v := 0) hx hb dX7_openOnes_0 (by decide) ?_
  refine lv_istore_n (lv' := [(2, .int 0), (0, .ref a0), (1, .ref a1)]) hx hb dX7_openOnes_1 rfl hl (by decide) rfl (fun ls hl => ?_)
  refine lv_iconst (v := 0) hx hb dX7_openOnes_2 (by decide) ?_
  refine lv_istore_n (lv' := [(3, .int 0), (2, .int 0), (0, .ref a0), (1, .ref a1)]) hx hb dX7_openOnes_3 rfl hl (by decide) rfl (fun ls hl => ?_)
  refine lv_iload_n hx hb dX7_openOnes_4 rfl (lv_at hl 0 rfl) ?_
  refine lv_aload_n hx hb dX7_openOnes_5 rfl (lv_at hl 3 rfl) ?_
  refine r_getN (v := .int 0) M w 0 9 clX9 rfl (by decide) N390 rfl rfl dX7_openOnes_6 ?_
  refine lv_icmp_ge (tgt := 38) hx hb dX7_openOnes_9 (by decide) (fun _ => ?_) (fun c => absurd (by decide +kernel) c)
  refine lv_iload_n hx hb dX7_openOnes_38 rfl (lv_at hl 1 rfl) ?_
  exact ret _ () _ _ _ _ _ [0] dX7_openOnes_39 rfl w (by decide) rfl
set_option maxRecDepth 100000 in
set_option maxHeartbeats 4000000 in
theorem c57_X7_bareOnes (l : Launch) (D : va_G) (T : Nat → ClassId) (sz : Nat) (a0 a1 a2 a3 a4 a5 a6 a7 a8 a9 a10 : Nat) : Met l yX7_bareOnes (Cond.code yX7_bareOnes cX7_bareOnes 4 (some .int) :: GW) (Rm 0 0 0) (cPre [.ref a0, .ref a1] D T [(a1, .inr (9, [.ref a2, .ref a3, .ref a4, .ref a5, .ref a6, .ref a7, .ref a8, .ref a9, .ref a10, .int 0, .int 0, .int 0, .int 0, .int 12, .int 1, .int 0, .int 0, .int 0]))] sz) (qI D [(a1, .inr (9, [.ref a2, .ref a3, .ref a4, .ref a5, .ref a6, .ref a7, .ref a8, .ref a9, .ref a10, .int 0, .int 0, .int 0, .int 0, .int 12, .int 1, .int 0, .int 0, .int 0]))] sz (fun (v : Int32) (u : Unit) => (0 : Int32) = v) (fun u => [(a1, .inr (9, [.ref a2, .ref a3, .ref a4, .ref a5, .ref a6, .ref a7, .ref a8, .ref a9, .ref a10, .int 0, .int 0, .int 0, .int 0, .int 12, .int 1, .int 0, .int 0, .int 0]))])) 0 0 (va_A [(a1, .inr (9, [.ref a2, .ref a3, .ref a4, .ref a5, .ref a6, .ref a7, .ref a8, .ref a9, .ref a10, .int 0, .int 0, .int 0, .int 0, .int 12, .int 1, .int 0, .int 0, .int 0]))] sz) := by
  refine e_I (by decide) (Nat.le_of_ble_eq_true rfl) ?_
  intro p e s m args below meth c A Q ls M hin w ret hl
  have hx := M.1.1
  have hb := M.1.2.1
  have hl : lv_has ls 4 [(0, .ref a0), (1, .ref a1)] := hl
  refine lv_iconst (v := 0) hx hb dX7_bareOnes_0 (by decide) ?_
  refine lv_istore_n (lv' := [(2, .int 0), (0, .ref a0), (1, .ref a1)]) hx hb dX7_bareOnes_1 rfl hl (by decide) rfl (fun ls hl => ?_)
  refine lv_iconst (v := 0) hx hb dX7_bareOnes_2 (by decide) ?_
  refine lv_istore_n (lv' := [(3, .int 0), (2, .int 0), (0, .ref a0), (1, .ref a1)]) hx hb dX7_bareOnes_3 rfl hl (by decide) rfl (fun ls hl => ?_)
  refine lv_iload_n hx hb dX7_bareOnes_4 rfl (lv_at hl 0 rfl) ?_
  refine lv_aload_n hx hb dX7_bareOnes_5 rfl (lv_at hl 3 rfl) ?_
  refine r_getN (v := .int 0) M w 0 9 clX9 rfl (by decide) N390 rfl rfl dX7_bareOnes_6 ?_
  refine lv_icmp_ge (tgt := 38) hx hb dX7_bareOnes_9 (by decide) (fun _ => ?_) (fun c => absurd (by decide +kernel) c)
  refine lv_iload_n hx hb dX7_bareOnes_38 rfl (lv_at hl 1 rfl) ?_
  exact ret _ () _ _ _ _ _ [0] dX7_bareOnes_39 rfl w (by decide) rfl
set_option maxRecDepth 100000 in
set_option maxHeartbeats 4000000 in
theorem c58_X7_tornOnes (l : Launch) (D : va_G) (T : Nat → ClassId) (sz : Nat) (a0 a1 a2 a3 a4 a5 a6 a7 a8 a9 a10 : Nat) : Met l yX7_tornOnes (Cond.code yX7_tornOnes cX7_tornOnes 4 (some .int) :: GW) (Rm 0 0 0) (cPre [.ref a0, .ref a1] D T [(a1, .inr (9, [.ref a2, .ref a3, .ref a4, .ref a5, .ref a6, .ref a7, .ref a8, .ref a9, .ref a10, .int 0, .int 0, .int 0, .int 0, .int 12, .int 1, .int 0, .int 0, .int 0]))] sz) (qI D [(a1, .inr (9, [.ref a2, .ref a3, .ref a4, .ref a5, .ref a6, .ref a7, .ref a8, .ref a9, .ref a10, .int 0, .int 0, .int 0, .int 0, .int 12, .int 1, .int 0, .int 0, .int 0]))] sz (fun (v : Int32) (u : Unit) => (0 : Int32) = v) (fun u => [(a1, .inr (9, [.ref a2, .ref a3, .ref a4, .ref a5, .ref a6, .ref a7, .ref a8, .ref a9, .ref a10, .int 0, .int 0, .int 0, .int 0, .int 12, .int 1, .int 0, .int 0, .int 0]))])) 0 0 (va_A [(a1, .inr (9, [.ref a2, .ref a3, .ref a4, .ref a5, .ref a6, .ref a7, .ref a8, .ref a9, .ref a10, .int 0, .int 0, .int 0, .int 0, .int 12, .int 1, .int 0, .int 0, .int 0]))] sz) := by
  refine e_I (by decide) (Nat.le_of_ble_eq_true rfl) ?_
  intro p e s m args below meth c A Q ls M hin w ret hl
  have hx := M.1.1
  have hb := M.1.2.1
  have hl : lv_has ls 4 [(0, .ref a0), (1, .ref a1)] := hl
  refine lv_iconst (v := 0) hx hb dX7_tornOnes_0 (by decide) ?_
  refine lv_istore_n (lv' := [(2, .int 0), (0, .ref a0), (1, .ref a1)]) hx hb dX7_tornOnes_1 rfl hl (by decide) rfl (fun ls hl => ?_)
  refine lv_iconst (v := 0) hx hb dX7_tornOnes_2 (by decide) ?_
  refine lv_istore_n (lv' := [(3, .int 0), (2, .int 0), (0, .ref a0), (1, .ref a1)]) hx hb dX7_tornOnes_3 rfl hl (by decide) rfl (fun ls hl => ?_)
  refine lv_iload_n hx hb dX7_tornOnes_4 rfl (lv_at hl 0 rfl) ?_
  refine lv_aload_n hx hb dX7_tornOnes_5 rfl (lv_at hl 3 rfl) ?_
  refine r_getN (v := .int 0) M w 0 9 clX9 rfl (by decide) N390 rfl rfl dX7_tornOnes_6 ?_
  refine lv_icmp_ge (tgt := 37) hx hb dX7_tornOnes_9 (by decide) (fun _ => ?_) (fun c => absurd (by decide +kernel) c)
  refine lv_iload_n hx hb dX7_tornOnes_37 rfl (lv_at hl 1 rfl) ?_
  exact ret _ () _ _ _ _ _ [0] dX7_tornOnes_38 rfl w (by decide) rfl
set_option maxRecDepth 100000 in
set_option maxHeartbeats 4000000 in
theorem c59_X9_wearsOn (l : Launch) (D : va_G) (T : Nat → ClassId) (sz : Nat) (a0 a1 a2 a3 a4 a5 a6 a7 a8 a9 : Nat) : Met l yX9_wearsOn (Cond.code yX9_wearsOn cX9_wearsOn 2 (some .boolean) :: GW) (Rm 0 0 0) (cPre [.ref a0, .int 0] D T [(a0, .inr (9, [.ref a1, .ref a2, .ref a3, .ref a4, .ref a5, .ref a6, .ref a7, .ref a8, .ref a9, .int 0, .int 0, .int 0, .int 0, .int 12, .int 1, .int 0, .int 0, .int 0]))] sz) (qI D [(a0, .inr (9, [.ref a1, .ref a2, .ref a3, .ref a4, .ref a5, .ref a6, .ref a7, .ref a8, .ref a9, .int 0, .int 0, .int 0, .int 0, .int 12, .int 1, .int 0, .int 0, .int 0]))] sz (fun (v : Int32) (u : Unit) => (1 : Int32) = v) (fun u => [(a0, .inr (9, [.ref a1, .ref a2, .ref a3, .ref a4, .ref a5, .ref a6, .ref a7, .ref a8, .ref a9, .int 0, .int 0, .int 0, .int 0, .int 12, .int 1, .int 0, .int 0, .int 0]))])) 0 0 (va_A [(a0, .inr (9, [.ref a1, .ref a2, .ref a3, .ref a4, .ref a5, .ref a6, .ref a7, .ref a8, .ref a9, .int 0, .int 0, .int 0, .int 0, .int 12, .int 1, .int 0, .int 0, .int 0]))] sz) := by
  refine e_Z (by decide) (Nat.le_of_ble_eq_true rfl) ?_
  intro p e s m args below meth c A Q ls M hin w ret hl
  have hx := M.1.1
  have hb := M.1.2.1
  have hl : lv_has ls 2 [(0, .ref a0), (1, .int 0)] := hl
  refine lv_iload_n hx hb dX9_wearsOn_0 rfl (lv_at hl 1 rfl) ?_
  refine lv_sipush (v := 400) hx hb dX9_wearsOn_1 (by decide) ?_
  refine lv_icmp_ge (tgt := 31) hx hb dX9_wearsOn_4 (by decide) (fun c => absurd c (by decide +kernel)) (fun _ => ?_)
  refine lv_aload_n hx hb dX9_wearsOn_7 rfl (lv_at hl 0 rfl) ?_
  refine r_get (v := .int 12) M w 0 13 clX9 rfl (by decide) G400 rfl rfl dX9_wearsOn_8 ?_
  refine lv_if_le (tgt := 31) hx hb dX9_wearsOn_11 (by decide) (fun c => absurd c (by decide +kernel)) (fun _ => ?_)
  refine lv_iload_n hx hb dX9_wearsOn_14 rfl (lv_at hl 1 rfl) ?_
  refine lv_aload_n hx hb dX9_wearsOn_15 rfl (lv_at hl 0 rfl) ?_
  refine r_get (v := .int 12) M w 0 13 clX9 rfl (by decide) G400 rfl rfl dX9_wearsOn_16 ?_
  refine r_irem (v := (0 : Int32)) M (by decide +kernel) (by decide) dX9_wearsOn_19 ?_
  refine lv_aload_n hx hb dX9_wearsOn_20 rfl (lv_at hl 0 rfl) ?_
  refine r_get (v := .int 1) M w 0 14 clX9 rfl (by decide) G402 rfl rfl dX9_wearsOn_21 ?_
  refine lv_icmp_ge (tgt := 31) hx hb dX9_wearsOn_24 (by decide) (fun c => absurd c (by decide +kernel)) (fun _ => ?_)
  refine lv_iconst (v := 1) hx hb dX9_wearsOn_27 (by decide) ?_
  refine lv_goto (tgt := 32) hx hb dX9_wearsOn_28 (by decide) ?_
  exact ret _ () _ _ _ _ _ [0] dX9_wearsOn_32 (by decide +kernel) rfl w (by decide) rfl
set_option maxRecDepth 100000 in
set_option maxHeartbeats 4000000 in
theorem c60_X11_now (l : Launch) (D : va_G) (T : Nat → ClassId) (sz : Nat) (a0 a1 a2 a3 a4 a5 a6 a7 a8 a9 a10 a11 a12 a13 a14 a15 a16 a17 a18 a19 a20 a21 a22 a23 a24 a25 a26 a27 : Nat) (x0 : Int32) : Met l yX11_now (Cond.code yX11_now cX11_now 2 (some .int) :: GW) (Rm 1 0 0) (cPre [.ref a0, .int x0] D T [(a0, .inr (10, [.ref a1, .ref a2, .ref a3, .ref a4, .ref a5, .ref a6, .ref a7, .ref a8, .ref a9, .ref a10, .ref a11, .ref a12, .ref a13, .ref a14, .int 0, .int 0, .int 0])), (a2, .inr (7, [.ref a15, .ref a16, .ref a17, .ref a18, .int 0, .int 0, .int 0, .int 0])), (a11, .inr (9, [.ref a19, .ref a20, .ref a21, .ref a22, .ref a23, .ref a24, .ref a25, .ref a26, .ref a27, .int 0, .int 0, .int 0, .int 0, .int 12, .int 1, .int 0, .int 0, .int 0]))] sz) (qI D [(a0, .inr (10, [.ref a1, .ref a2, .ref a3, .ref a4, .ref a5, .ref a6, .ref a7, .ref a8, .ref a9, .ref a10, .ref a11, .ref a12, .ref a13, .ref a14, .int 0, .int 0, .int 0])), (a2, .inr (7, [.ref a15, .ref a16, .ref a17, .ref a18, .int 0, .int 0, .int 0, .int 0])), (a11, .inr (9, [.ref a19, .ref a20, .ref a21, .ref a22, .ref a23, .ref a24, .ref a25, .ref a26, .ref a27, .int 0, .int 0, .int 0, .int 0, .int 12, .int 1, .int 0, .int 0, .int 0]))] sz (fun (v : Int32) (u : Unit) => (x0 = (0 : Int32) ∧ (0 : Int32) = v) ∨ (¬ x0 = (0 : Int32) ∧ x0 = (1 : Int32) ∧ (0 : Int32) = v) ∨ (¬ x0 = (0 : Int32) ∧ ¬ x0 = (1 : Int32) ∧ x0 = (2 : Int32) ∧ (0 : Int32) = v) ∨ (¬ x0 = (0 : Int32) ∧ ¬ x0 = (1 : Int32) ∧ ¬ x0 = (2 : Int32) ∧ x0 = (3 : Int32) ∧ (0 : Int32) = v) ∨ (¬ x0 = (0 : Int32) ∧ ¬ x0 = (1 : Int32) ∧ ¬ x0 = (2 : Int32) ∧ ¬ x0 = (3 : Int32) ∧ x0 = (4 : Int32) ∧ (0 : Int32) = v) ∨ (¬ x0 = (0 : Int32) ∧ ¬ x0 = (1 : Int32) ∧ ¬ x0 = (2 : Int32) ∧ ¬ x0 = (3 : Int32) ∧ ¬ x0 = (4 : Int32) ∧ x0 = (5 : Int32) ∧ (0 : Int32) = v) ∨ (¬ x0 = (0 : Int32) ∧ ¬ x0 = (1 : Int32) ∧ ¬ x0 = (2 : Int32) ∧ ¬ x0 = (3 : Int32) ∧ ¬ x0 = (4 : Int32) ∧ ¬ x0 = (5 : Int32) ∧ x0 = (6 : Int32) ∧ (0 : Int32) = v) ∨ (¬ x0 = (0 : Int32) ∧ ¬ x0 = (1 : Int32) ∧ ¬ x0 = (2 : Int32) ∧ ¬ x0 = (3 : Int32) ∧ ¬ x0 = (4 : Int32) ∧ ¬ x0 = (5 : Int32) ∧ ¬ x0 = (6 : Int32) ∧ x0 = (7 : Int32) ∧ (1 : Int32) = v) ∨ (¬ x0 = (0 : Int32) ∧ ¬ x0 = (1 : Int32) ∧ ¬ x0 = (2 : Int32) ∧ ¬ x0 = (3 : Int32) ∧ ¬ x0 = (4 : Int32) ∧ ¬ x0 = (5 : Int32) ∧ ¬ x0 = (6 : Int32) ∧ ¬ x0 = (7 : Int32) ∧ (-1 : Int32) = v)) (fun u => [])) 0 0 (va_A [(a0, .inr (10, [.ref a1, .ref a2, .ref a3, .ref a4, .ref a5, .ref a6, .ref a7, .ref a8, .ref a9, .ref a10, .ref a11, .ref a12, .ref a13, .ref a14, .int 0, .int 0, .int 0])), (a2, .inr (7, [.ref a15, .ref a16, .ref a17, .ref a18, .int 0, .int 0, .int 0, .int 0])), (a11, .inr (9, [.ref a19, .ref a20, .ref a21, .ref a22, .ref a23, .ref a24, .ref a25, .ref a26, .ref a27, .int 0, .int 0, .int 0, .int 0, .int 12, .int 1, .int 0, .int 0, .int 0]))] sz) := by
  refine e_I (by decide) (Nat.le_of_ble_eq_true rfl) ?_
  intro p e s m args below meth c A Q ls M hin w ret hl
  have hx := M.1.1
  have hb := M.1.2.1
  have hl : lv_has ls 2 [(0, .ref a0), (1, .int x0)] := hl
  refine lv_iload_n hx hb dX11_now_0 rfl (lv_at hl 1 rfl) ?_
  by_cases c_1 : x0 = (0 : Int32)
  · refine lv_tableIn (off := 47) (tgt := 48) hx hb dX11_now_1 (by rw [c_1]; decide) (by rw [c_1]; decide) (by rw [c_1]; decide +kernel) (by decide) ?_
    refine lv_aload_n hx hb dX11_now_48 rfl (lv_at hl 0 rfl) ?_
    refine r_get (v := .ref a2) M w 0 1 clX11 rfl (by decide) G498 rfl rfl dX11_now_49 ?_
    refine r_getN (v := .int 0) M w 1 4 clX7 rfl (by decide) N231 rfl rfl dX11_now_52 ?_
    exact ret _ () _ _ _ _ _ [] dX11_now_55 (Or.inl ⟨c_1, rfl⟩) w (by decide) rfl
  by_cases c_2 : x0 = (1 : Int32)
  · refine lv_tableIn (off := 55) (tgt := 56) hx hb dX11_now_1 (by rw [c_2]; decide) (by rw [c_2]; decide) (by rw [c_2]; decide +kernel) (by decide) ?_
    refine lv_aload_n hx hb dX11_now_56 rfl (lv_at hl 0 rfl) ?_
    refine r_get (v := .ref a2) M w 0 1 clX11 rfl (by decide) G498 rfl rfl dX11_now_57 ?_
    refine lv_aload_n hx hb dX11_now_60 rfl (lv_at hl 0 rfl) ?_
    refine r_get (v := .ref a11) M w 0 10 clX11 rfl (by decide) G507 rfl rfl dX11_now_61 ?_
    refine k_I (ce := 0) (sl := 0) (rest := []) (wr := [(a0, .inr (10, [.ref a1, .ref a2, .ref a3, .ref a4, .ref a5, .ref a6, .ref a7, .ref a8, .ref a9, .ref a10, .ref a11, .ref a12, .ref a13, .ref a14, .int 0, .int 0, .int 0])), (a2, .inr (7, [.ref a15, .ref a16, .ref a17, .ref a18, .int 0, .int 0, .int 0, .int 0]))]) (r_V (f := 0) [2] M w V_HookedCity_178 G820 G821 (c56_X7_openOnes l D T _ a2 a11 a19 a20 a21 a22 a23 a24 a25 a26 a27) 1 clX7 rfl rfl (by decide) rfl hl.1 rfl (Nat.le_of_ble_eq_true rfl) dX11_now_64 (by decide) (by decide) (by decide) (by decide)) w [2] [0, 1] rfl rfl (by decide) (by decide) rfl rfl (fun v _ H locs hp w => ?_)
    have hp : (0 : Int32) = v := hp
    subst hp
    have w : WD D A s.heap [(a0, .inr (10, [.ref a1, .ref a2, .ref a3, .ref a4, .ref a5, .ref a6, .ref a7, .ref a8, .ref a9, .ref a10, .ref a11, .ref a12, .ref a13, .ref a14, .int 0, .int 0, .int 0])), (a2, .inr (7, [.ref a15, .ref a16, .ref a17, .ref a18, .int 0, .int 0, .int 0, .int 0])), (a11, .inr (9, [.ref a19, .ref a20, .ref a21, .ref a22, .ref a23, .ref a24, .ref a25, .ref a26, .ref a27, .int 0, .int 0, .int 0, .int 0, .int 12, .int 1, .int 0, .int 0, .int 0]))] H locs := w
    exact ret _ () _ _ _ _ _ [] dX11_now_67 (Or.inr (Or.inl ⟨c_1, c_2, rfl⟩)) w (by decide) rfl
  by_cases c_3 : x0 = (2 : Int32)
  · refine lv_tableIn (off := 67) (tgt := 68) hx hb dX11_now_1 (by rw [c_3]; decide) (by rw [c_3]; decide) (by rw [c_3]; decide +kernel) (by decide) ?_
    refine lv_aload_n hx hb dX11_now_68 rfl (lv_at hl 0 rfl) ?_
    refine r_get (v := .ref a2) M w 0 1 clX11 rfl (by decide) G498 rfl rfl dX11_now_69 ?_
    refine lv_aload_n hx hb dX11_now_72 rfl (lv_at hl 0 rfl) ?_
    refine r_get (v := .ref a11) M w 0 10 clX11 rfl (by decide) G507 rfl rfl dX11_now_73 ?_
    refine k_I (ce := 0) (sl := 0) (rest := []) (wr := [(a0, .inr (10, [.ref a1, .ref a2, .ref a3, .ref a4, .ref a5, .ref a6, .ref a7, .ref a8, .ref a9, .ref a10, .ref a11, .ref a12, .ref a13, .ref a14, .int 0, .int 0, .int 0])), (a2, .inr (7, [.ref a15, .ref a16, .ref a17, .ref a18, .int 0, .int 0, .int 0, .int 0]))]) (r_V (f := 0) [2] M w V_HookedCity_182 G824 G825 (c57_X7_bareOnes l D T _ a2 a11 a19 a20 a21 a22 a23 a24 a25 a26 a27) 1 clX7 rfl rfl (by decide) rfl hl.1 rfl (Nat.le_of_ble_eq_true rfl) dX11_now_76 (by decide) (by decide) (by decide) (by decide)) w [2] [0, 1] rfl rfl (by decide) (by decide) rfl rfl (fun v _ H locs hp w => ?_)
    have hp : (0 : Int32) = v := hp
    subst hp
    have w : WD D A s.heap [(a0, .inr (10, [.ref a1, .ref a2, .ref a3, .ref a4, .ref a5, .ref a6, .ref a7, .ref a8, .ref a9, .ref a10, .ref a11, .ref a12, .ref a13, .ref a14, .int 0, .int 0, .int 0])), (a2, .inr (7, [.ref a15, .ref a16, .ref a17, .ref a18, .int 0, .int 0, .int 0, .int 0])), (a11, .inr (9, [.ref a19, .ref a20, .ref a21, .ref a22, .ref a23, .ref a24, .ref a25, .ref a26, .ref a27, .int 0, .int 0, .int 0, .int 0, .int 12, .int 1, .int 0, .int 0, .int 0]))] H locs := w
    exact ret _ () _ _ _ _ _ [] dX11_now_79 (Or.inr (Or.inr (Or.inl ⟨c_1, c_2, c_3, rfl⟩))) w (by decide) rfl
  by_cases c_4 : x0 = (3 : Int32)
  · refine lv_tableIn (off := 79) (tgt := 80) hx hb dX11_now_1 (by rw [c_4]; decide) (by rw [c_4]; decide) (by rw [c_4]; decide +kernel) (by decide) ?_
    refine lv_aload_n hx hb dX11_now_80 rfl (lv_at hl 0 rfl) ?_
    refine r_get (v := .ref a2) M w 0 1 clX11 rfl (by decide) G498 rfl rfl dX11_now_81 ?_
    refine lv_aload_n hx hb dX11_now_84 rfl (lv_at hl 0 rfl) ?_
    refine r_get (v := .ref a11) M w 0 10 clX11 rfl (by decide) G507 rfl rfl dX11_now_85 ?_
    refine k_I (ce := 0) (sl := 0) (rest := []) (wr := [(a0, .inr (10, [.ref a1, .ref a2, .ref a3, .ref a4, .ref a5, .ref a6, .ref a7, .ref a8, .ref a9, .ref a10, .ref a11, .ref a12, .ref a13, .ref a14, .int 0, .int 0, .int 0])), (a2, .inr (7, [.ref a15, .ref a16, .ref a17, .ref a18, .int 0, .int 0, .int 0, .int 0]))]) (r_V (f := 0) [2] M w V_HookedCity_185 G828 G829 (c58_X7_tornOnes l D T _ a2 a11 a19 a20 a21 a22 a23 a24 a25 a26 a27) 1 clX7 rfl rfl (by decide) rfl hl.1 rfl (Nat.le_of_ble_eq_true rfl) dX11_now_88 (by decide) (by decide) (by decide) (by decide)) w [2] [0, 1] rfl rfl (by decide) (by decide) rfl rfl (fun v _ H locs hp w => ?_)
    have hp : (0 : Int32) = v := hp
    subst hp
    have w : WD D A s.heap [(a0, .inr (10, [.ref a1, .ref a2, .ref a3, .ref a4, .ref a5, .ref a6, .ref a7, .ref a8, .ref a9, .ref a10, .ref a11, .ref a12, .ref a13, .ref a14, .int 0, .int 0, .int 0])), (a2, .inr (7, [.ref a15, .ref a16, .ref a17, .ref a18, .int 0, .int 0, .int 0, .int 0])), (a11, .inr (9, [.ref a19, .ref a20, .ref a21, .ref a22, .ref a23, .ref a24, .ref a25, .ref a26, .ref a27, .int 0, .int 0, .int 0, .int 0, .int 12, .int 1, .int 0, .int 0, .int 0]))] H locs := w
    exact ret _ () _ _ _ _ _ [] dX11_now_91 (Or.inr (Or.inr (Or.inr (Or.inl ⟨c_1, c_2, c_3, c_4, rfl⟩)))) w (by decide) rfl
  by_cases c_5 : x0 = (4 : Int32)
  · refine lv_tableIn (off := 91) (tgt := 92) hx hb dX11_now_1 (by rw [c_5]; decide) (by rw [c_5]; decide) (by rw [c_5]; decide +kernel) (by decide) ?_
    refine lv_aload_n hx hb dX11_now_92 rfl (lv_at hl 0 rfl) ?_
    refine r_get (v := .ref a2) M w 0 1 clX11 rfl (by decide) G498 rfl rfl dX11_now_93 ?_
    refine r_getN (v := .int 0) M w 1 5 clX7 rfl (by decide) N233 rfl rfl dX11_now_96 ?_
    exact ret _ () _ _ _ _ _ [] dX11_now_99 (Or.inr (Or.inr (Or.inr (Or.inr (Or.inl ⟨c_1, c_2, c_3, c_4, c_5, rfl⟩))))) w (by decide) rfl
  by_cases c_6 : x0 = (5 : Int32)
  · refine lv_tableIn (off := 99) (tgt := 100) hx hb dX11_now_1 (by rw [c_6]; decide) (by rw [c_6]; decide) (by rw [c_6]; decide +kernel) (by decide) ?_
    refine lv_aload_n hx hb dX11_now_100 rfl (lv_at hl 0 rfl) ?_
    refine r_get (v := .ref a2) M w 0 1 clX11 rfl (by decide) G498 rfl rfl dX11_now_101 ?_
    refine r_getN (v := .int 0) M w 1 6 clX7 rfl (by decide) N235 rfl rfl dX11_now_104 ?_
    exact ret _ () _ _ _ _ _ [] dX11_now_107 (Or.inr (Or.inr (Or.inr (Or.inr (Or.inr (Or.inl ⟨c_1, c_2, c_3, c_4, c_5, c_6, rfl⟩)))))) w (by decide) rfl
  by_cases c_7 : x0 = (6 : Int32)
  · refine lv_tableIn (off := 107) (tgt := 108) hx hb dX11_now_1 (by rw [c_7]; decide) (by rw [c_7]; decide) (by rw [c_7]; decide +kernel) (by decide) ?_
    refine lv_aload_n hx hb dX11_now_108 rfl (lv_at hl 0 rfl) ?_
    refine r_get (v := .ref a2) M w 0 1 clX11 rfl (by decide) G498 rfl rfl dX11_now_109 ?_
    refine r_getN (v := .int 0) M w 1 7 clX7 rfl (by decide) N237 rfl rfl dX11_now_112 ?_
    exact ret _ () _ _ _ _ _ [] dX11_now_115 (Or.inr (Or.inr (Or.inr (Or.inr (Or.inr (Or.inr (Or.inl ⟨c_1, c_2, c_3, c_4, c_5, c_6, c_7, rfl⟩))))))) w (by decide) rfl
  by_cases c_8 : x0 = (7 : Int32)
  · refine lv_tableIn (off := 115) (tgt := 116) hx hb dX11_now_1 (by rw [c_8]; decide) (by rw [c_8]; decide) (by rw [c_8]; decide +kernel) (by decide) ?_
    refine lv_aload_n hx hb dX11_now_116 rfl (lv_at hl 0 rfl) ?_
    refine r_get (v := .ref a11) M w 0 10 clX11 rfl (by decide) G507 rfl rfl dX11_now_117 ?_
    refine lv_aload_n hx hb dX11_now_120 rfl (lv_at hl 0 rfl) ?_
    refine r_get (v := .ref a2) M w 0 1 clX11 rfl (by decide) G498 rfl rfl dX11_now_121 ?_
    refine r_getN (v := .int 0) M w 1 4 clX7 rfl (by decide) N231 rfl rfl dX11_now_124 ?_
    refine k_I (ce := 0) (sl := 0) (rest := []) (wr := [(a0, .inr (10, [.ref a1, .ref a2, .ref a3, .ref a4, .ref a5, .ref a6, .ref a7, .ref a8, .ref a9, .ref a10, .ref a11, .ref a12, .ref a13, .ref a14, .int 0, .int 0, .int 0])), (a2, .inr (7, [.ref a15, .ref a16, .ref a17, .ref a18, .int 0, .int 0, .int 0, .int 0]))]) (r_V (f := 0) [2] M w V_HookedCity_197 G832 G833 (c59_X9_wearsOn l D T _ a11 a19 a20 a21 a22 a23 a24 a25 a26 a27) 2 clX9 rfl rfl (by decide) rfl hl.1 rfl (Nat.le_of_ble_eq_true rfl) dX11_now_127 (by decide) (by decide) (by decide) (by decide)) w [2] [0, 1] rfl rfl (by decide) (by decide) rfl rfl (fun v _ H locs hp w => ?_)
    have hp : (1 : Int32) = v := hp
    subst hp
    have w : WD D A s.heap [(a0, .inr (10, [.ref a1, .ref a2, .ref a3, .ref a4, .ref a5, .ref a6, .ref a7, .ref a8, .ref a9, .ref a10, .ref a11, .ref a12, .ref a13, .ref a14, .int 0, .int 0, .int 0])), (a2, .inr (7, [.ref a15, .ref a16, .ref a17, .ref a18, .int 0, .int 0, .int 0, .int 0])), (a11, .inr (9, [.ref a19, .ref a20, .ref a21, .ref a22, .ref a23, .ref a24, .ref a25, .ref a26, .ref a27, .int 0, .int 0, .int 0, .int 0, .int 12, .int 1, .int 0, .int 0, .int 0]))] H locs := w
    refine lv_if_eq (tgt := 137) hx hb dX11_now_130 (by decide) (fun c => absurd c (by decide +kernel)) (fun _ => ?_)
    refine lv_iconst (v := 1) hx hb dX11_now_133 (by decide) ?_
    refine lv_goto (tgt := 138) hx hb dX11_now_134 (by decide) ?_
    exact ret _ () _ _ _ _ _ [] dX11_now_138 (Or.inr (Or.inr (Or.inr (Or.inr (Or.inr (Or.inr (Or.inr (Or.inl ⟨c_1, c_2, c_3, c_4, c_5, c_6, c_7, c_8, rfl⟩)))))))) w (by decide) rfl
  have h9 : (x0).toInt < 0 ∨ 7 < (x0).toInt := by
    have nc_1 : ¬ (x0).toInt = 0 := fun h => c_1 ((fa_eq _ _).mpr (h.trans (by decide)))
    have nc_2 : ¬ (x0).toInt = 1 := fun h => c_2 ((fa_eq _ _).mpr (h.trans (by decide)))
    have nc_3 : ¬ (x0).toInt = 2 := fun h => c_3 ((fa_eq _ _).mpr (h.trans (by decide)))
    have nc_4 : ¬ (x0).toInt = 3 := fun h => c_4 ((fa_eq _ _).mpr (h.trans (by decide)))
    have nc_5 : ¬ (x0).toInt = 4 := fun h => c_5 ((fa_eq _ _).mpr (h.trans (by decide)))
    have nc_6 : ¬ (x0).toInt = 5 := fun h => c_6 ((fa_eq _ _).mpr (h.trans (by decide)))
    have nc_7 : ¬ (x0).toInt = 6 := fun h => c_7 ((fa_eq _ _).mpr (h.trans (by decide)))
    have nc_8 : ¬ (x0).toInt = 7 := fun h => c_8 ((fa_eq _ _).mpr (h.trans (by decide)))
    omega
  refine lv_tableOut (tgt := 139) hx hb dX11_now_1 h9 (by decide) ?_
  refine lv_iconst (v := (-1)) hx hb dX11_now_139 (by decide) ?_
  exact ret _ () _ _ _ _ _ [] dX11_now_140 (Or.inr (Or.inr (Or.inr (Or.inr (Or.inr (Or.inr (Or.inr (Or.inr (⟨c_1, c_2, c_3, c_4, c_5, c_6, c_7, c_8, rfl⟩))))))))) w (by decide) rfl
set_option maxRecDepth 100000 in
set_option maxHeartbeats 4000000 in
theorem c61_X12_opens (l : Launch) (D : va_G) (T : Nat → ClassId) (sz : Nat) (a0 a1 a2 a3 a4 a5 a6 a7 a8 a9 a10 a11 a12 a13 a14 a15 a16 a17 a18 a19 a20 a21 a22 : Nat) : Met l yX12_opens (Cond.code yX12_opens cX12_opens 3 (some .int) :: GW) (Rm 0 0 0) (cPre [.ref a0] D T [(a0, .inr (11, [.int 0, .ref a1, .int 0, .int 0, .int 0, .int 0, .int 0, .int 0, .int 0, .int 0, .int 0, .int 0, .long 0, .int 0, .ref a2, .ref a3, .ref a4, .ref a5, .ref a6, .ref a7, .ref a8, .ref a9, .ref a10, .ref a11, .int 0, .ref a12, .ref a13, .ref a14, .ref a15, .int 0, .int 0, .int 0, .ref a16, .int (-1), .int (-1), .ref a17, .ref a18, .int 0, .ref a19, .int 0, .int 0, .ref a20, .ref a21, .int 0, .int 0, .ref a22, .int 0, .int 0, .int 0, .int 0])), (a2, .inl (T 0, 329, .inl cn45))] sz) (qI D [(a0, .inr (11, [.int 0, .ref a1, .int 0, .int 0, .int 0, .int 0, .int 0, .int 0, .int 0, .int 0, .int 0, .int 0, .long 0, .int 0, .ref a2, .ref a3, .ref a4, .ref a5, .ref a6, .ref a7, .ref a8, .ref a9, .ref a10, .ref a11, .int 0, .ref a12, .ref a13, .ref a14, .ref a15, .int 0, .int 0, .int 0, .ref a16, .int (-1), .int (-1), .ref a17, .ref a18, .int 0, .ref a19, .int 0, .int 0, .ref a20, .ref a21, .int 0, .int 0, .ref a22, .int 0, .int 0, .int 0, .int 0])), (a2, .inl (T 0, 329, .inl cn45))] sz (fun (v : Int32) (u : Unit) => (0 : Int32) = v) (fun u => [(a0, .inr (11, [.int 0, .ref a1, .int 0, .int 0, .int 0, .int 0, .int 0, .int 0, .int 0, .int 0, .int 0, .int 0, .long 0, .int 0, .ref a2, .ref a3, .ref a4, .ref a5, .ref a6, .ref a7, .ref a8, .ref a9, .ref a10, .ref a11, .int 0, .ref a12, .ref a13, .ref a14, .ref a15, .int 0, .int 0, .int 0, .ref a16, .int (-1), .int (-1), .ref a17, .ref a18, .int 0, .ref a19, .int 0, .int 0, .ref a20, .ref a21, .int 0, .int 0, .ref a22, .int 0, .int 0, .int 0, .int 0])), (a2, .inl (T 0, 329, .inl cn45))])) 0 0 (va_A [(a0, .inr (11, [.int 0, .ref a1, .int 0, .int 0, .int 0, .int 0, .int 0, .int 0, .int 0, .int 0, .int 0, .int 0, .long 0, .int 0, .ref a2, .ref a3, .ref a4, .ref a5, .ref a6, .ref a7, .ref a8, .ref a9, .ref a10, .ref a11, .int 0, .ref a12, .ref a13, .ref a14, .ref a15, .int 0, .int 0, .int 0, .ref a16, .int (-1), .int (-1), .ref a17, .ref a18, .int 0, .ref a19, .int 0, .int 0, .ref a20, .ref a21, .int 0, .int 0, .ref a22, .int 0, .int 0, .int 0, .int 0])), (a2, .inl (T 0, 329, .inl cn45))] sz) := by
  refine e_I (by decide) (Nat.le_of_ble_eq_true rfl) ?_
  intro p e s m args below meth c A Q ls M hin w ret hl
  have hx := M.1.1
  have hb := M.1.2.1
  have hl : lv_has ls 3 [(0, .ref a0)] := hl
  refine lv_iconst (v := 0) hx hb dX12_opens_0 (by decide) ?_
  refine lv_istore_n (lv' := [(1, .int 0), (0, .ref a0)]) hx hb dX12_opens_1 rfl hl (by decide) rfl (fun ls hl => ?_)
  refine lv_iconst (v := 0) hx hb dX12_opens_2 (by decide) ?_
  refine lv_istore_n (lv' := [(2, .int 0), (1, .int 0), (0, .ref a0)]) hx hb dX12_opens_3 rfl hl (by decide) rfl (fun ls hl => ?_)
  refine lv_iload_n hx hb dX12_opens_4 rfl (lv_at hl 0 rfl) ?_
  refine lv_aload_n hx hb dX12_opens_5 rfl (lv_at hl 2 rfl) ?_
  refine r_get (v := .ref a2) M w 0 14 clX12 rfl (by decide) G1481 rfl rfl dX12_opens_6 ?_
  refine lv_iconst (v := 0) hx hb dX12_opens_9 (by decide) ?_
  refine r_iald (v := (0 : Int32)) M w 1 rfl (vin (by decide +kernel)) (by decide +kernel) dX12_opens_10 ?_
  refine lv_icmp_ge (tgt := 34) hx hb dX12_opens_11 (by decide) (fun _ => ?_) (fun c => absurd (by decide +kernel) c)
  refine lv_iload_n hx hb dX12_opens_34 rfl (lv_at hl 1 rfl) ?_
  exact ret _ () _ _ _ _ _ [0, 1] dX12_opens_35 rfl w (by decide) rfl
set_option maxRecDepth 100000 in
set_option maxHeartbeats 4000000 in
theorem c62_X12_isJuly (l : Launch) (D : va_G) (T : Nat → ClassId) (sz : Nat) (a0 a1 a2 a3 a4 a5 a6 a7 a8 a9 a10 a11 a12 a13 a14 a15 a16 a17 a18 a19 a20 a21 a22 : Nat) : Met l yX12_isJuly (Cond.code yX12_isJuly cX12_isJuly 1 (some .boolean) :: GW) (Rm 0 0 0) (cPre [.ref a0] D T [(a0, .inr (11, [.int 0, .ref a1, .int 0, .int 0, .int 0, .int 0, .int 0, .int 0, .int 0, .int 0, .int 0, .int 0, .long 0, .int 0, .ref a2, .ref a3, .ref a4, .ref a5, .ref a6, .ref a7, .ref a8, .ref a9, .ref a10, .ref a11, .int 0, .ref a12, .ref a13, .ref a14, .ref a15, .int 0, .int 0, .int 0, .ref a16, .int (-1), .int (-1), .ref a17, .ref a18, .int 0, .ref a19, .int 0, .int 0, .ref a20, .ref a21, .int 0, .int 0, .ref a22, .int 0, .int 0, .int 0, .int 0])), (a2, .inl (T 0, 329, .inl cn45))] sz) (qI D [(a0, .inr (11, [.int 0, .ref a1, .int 0, .int 0, .int 0, .int 0, .int 0, .int 0, .int 0, .int 0, .int 0, .int 0, .long 0, .int 0, .ref a2, .ref a3, .ref a4, .ref a5, .ref a6, .ref a7, .ref a8, .ref a9, .ref a10, .ref a11, .int 0, .ref a12, .ref a13, .ref a14, .ref a15, .int 0, .int 0, .int 0, .ref a16, .int (-1), .int (-1), .ref a17, .ref a18, .int 0, .ref a19, .int 0, .int 0, .ref a20, .ref a21, .int 0, .int 0, .ref a22, .int 0, .int 0, .int 0, .int 0])), (a2, .inl (T 0, 329, .inl cn45))] sz (fun (v : Int32) (u : Unit) => (1 : Int32) = v) (fun u => [(a0, .inr (11, [.int 0, .ref a1, .int 0, .int 0, .int 0, .int 0, .int 0, .int 0, .int 0, .int 0, .int 0, .int 0, .long 0, .int 0, .ref a2, .ref a3, .ref a4, .ref a5, .ref a6, .ref a7, .ref a8, .ref a9, .ref a10, .ref a11, .int 0, .ref a12, .ref a13, .ref a14, .ref a15, .int 0, .int 0, .int 0, .ref a16, .int (-1), .int (-1), .ref a17, .ref a18, .int 0, .ref a19, .int 0, .int 0, .ref a20, .ref a21, .int 0, .int 0, .ref a22, .int 0, .int 0, .int 0, .int 0])), (a2, .inl (T 0, 329, .inl cn45))])) 0 0 (va_A [(a0, .inr (11, [.int 0, .ref a1, .int 0, .int 0, .int 0, .int 0, .int 0, .int 0, .int 0, .int 0, .int 0, .int 0, .long 0, .int 0, .ref a2, .ref a3, .ref a4, .ref a5, .ref a6, .ref a7, .ref a8, .ref a9, .ref a10, .ref a11, .int 0, .ref a12, .ref a13, .ref a14, .ref a15, .int 0, .int 0, .int 0, .ref a16, .int (-1), .int (-1), .ref a17, .ref a18, .int 0, .ref a19, .int 0, .int 0, .ref a20, .ref a21, .int 0, .int 0, .ref a22, .int 0, .int 0, .int 0, .int 0])), (a2, .inl (T 0, 329, .inl cn45))] sz) := by
  refine e_Z (by decide) (Nat.le_of_ble_eq_true rfl) ?_
  intro p e s m args below meth c A Q ls M hin w ret hl
  have hx := M.1.1
  have hb := M.1.2.1
  have hl : lv_has ls 1 [(0, .ref a0)] := hl
  refine lv_aload_n hx hb dX12_isJuly_0 rfl (lv_at hl 0 rfl) ?_
  refine r_get (v := .ref a2) M w 0 14 clX12 rfl (by decide) G1481 rfl rfl dX12_isJuly_1 ?_
  refine lv_bipush (v := 53) hx hb dX12_isJuly_4 (by decide) ?_
  refine r_iald (v := (0 : Int32)) M w 1 rfl (vin (by decide +kernel)) (by decide +kernel) dX12_isJuly_6 ?_
  refine lv_aload_n hx hb dX12_isJuly_7 rfl (lv_at hl 0 rfl) ?_
  refine r_get (v := .ref a2) M w 0 14 clX12 rfl (by decide) G1481 rfl rfl dX12_isJuly_8 ?_
  refine lv_iconst (v := 3) hx hb dX12_isJuly_11 (by decide) ?_
  refine r_iald (v := (12 : Int32)) M w 1 rfl (vin (by decide +kernel)) (by decide +kernel) dX12_isJuly_12 ?_
  refine r_irem (v := (0 : Int32)) M (by decide +kernel) (by decide) dX12_isJuly_13 ?_
  refine lv_aload_n hx hb dX12_isJuly_14 rfl (lv_at hl 0 rfl) ?_
  refine r_get (v := .ref a2) M w 0 14 clX12 rfl (by decide) G1481 rfl rfl dX12_isJuly_15 ?_
  refine lv_iconst (v := 4) hx hb dX12_isJuly_18 (by decide) ?_
  refine r_iald (v := (1 : Int32)) M w 1 rfl (vin (by decide +kernel)) (by decide +kernel) dX12_isJuly_19 ?_
  refine lv_icmp_ge (tgt := 27) hx hb dX12_isJuly_20 (by decide) (fun c => absurd c (by decide +kernel)) (fun _ => ?_)
  refine lv_iconst (v := 1) hx hb dX12_isJuly_23 (by decide) ?_
  refine lv_goto (tgt := 28) hx hb dX12_isJuly_24 (by decide) ?_
  exact ret _ () _ _ _ _ _ [0, 1] dX12_isJuly_28 (by decide +kernel) rfl w (by decide) rfl
set_option maxRecDepth 100000 in
set_option maxHeartbeats 4000000 in
theorem c63_X12_now (l : Launch) (D : va_G) (T : Nat → ClassId) (sz : Nat) (a0 a1 a2 a3 a4 a5 a6 a7 a8 a9 a10 a11 a12 a13 a14 a15 a16 a17 a18 a19 a20 a21 a22 : Nat) (x0 : Int32) : Met l yX12_now (Cond.code yX12_now cX12_now 4 (some .int) :: GW) (Rm 1 0 0) (cPre [.ref a0, .int x0] D T [(a0, .inr (11, [.int 0, .ref a1, .int 0, .int 0, .int 0, .int 0, .int 0, .int 0, .int 0, .int 0, .int 0, .int 0, .long 0, .int 0, .ref a2, .ref a3, .ref a4, .ref a5, .ref a6, .ref a7, .ref a8, .ref a9, .ref a10, .ref a11, .int 0, .ref a12, .ref a13, .ref a14, .ref a15, .int 0, .int 0, .int 0, .ref a16, .int (-1), .int (-1), .ref a17, .ref a18, .int 0, .ref a19, .int 0, .int 0, .ref a20, .ref a21, .int 0, .int 0, .ref a22, .int 0, .int 0, .int 0, .int 0])), (a2, .inl (T 0, 329, .inl cn45))] sz) (qI D [(a0, .inr (11, [.int 0, .ref a1, .int 0, .int 0, .int 0, .int 0, .int 0, .int 0, .int 0, .int 0, .int 0, .int 0, .long 0, .int 0, .ref a2, .ref a3, .ref a4, .ref a5, .ref a6, .ref a7, .ref a8, .ref a9, .ref a10, .ref a11, .int 0, .ref a12, .ref a13, .ref a14, .ref a15, .int 0, .int 0, .int 0, .ref a16, .int (-1), .int (-1), .ref a17, .ref a18, .int 0, .ref a19, .int 0, .int 0, .ref a20, .ref a21, .int 0, .int 0, .ref a22, .int 0, .int 0, .int 0, .int 0])), (a2, .inl (T 0, 329, .inl cn45))] sz (fun (v : Int32) (u : Unit) => (x0 = (0 : Int32) ∧ (0 : Int32) = v) ∨ (¬ x0 = (0 : Int32) ∧ x0 = (1 : Int32) ∧ (0 : Int32) = v) ∨ (¬ x0 = (0 : Int32) ∧ ¬ x0 = (1 : Int32) ∧ x0 = (2 : Int32) ∧ (0 : Int32) = v) ∨ (¬ x0 = (0 : Int32) ∧ ¬ x0 = (1 : Int32) ∧ ¬ x0 = (2 : Int32) ∧ x0 = (3 : Int32) ∧ (0 : Int32) = v) ∨ (¬ x0 = (0 : Int32) ∧ ¬ x0 = (1 : Int32) ∧ ¬ x0 = (2 : Int32) ∧ ¬ x0 = (3 : Int32) ∧ x0 = (4 : Int32) ∧ (0 : Int32) = v) ∨ (¬ x0 = (0 : Int32) ∧ ¬ x0 = (1 : Int32) ∧ ¬ x0 = (2 : Int32) ∧ ¬ x0 = (3 : Int32) ∧ ¬ x0 = (4 : Int32) ∧ x0 = (5 : Int32) ∧ (0 : Int32) = v) ∨ (¬ x0 = (0 : Int32) ∧ ¬ x0 = (1 : Int32) ∧ ¬ x0 = (2 : Int32) ∧ ¬ x0 = (3 : Int32) ∧ ¬ x0 = (4 : Int32) ∧ ¬ x0 = (5 : Int32) ∧ x0 = (6 : Int32) ∧ (0 : Int32) = v) ∨ (¬ x0 = (0 : Int32) ∧ ¬ x0 = (1 : Int32) ∧ ¬ x0 = (2 : Int32) ∧ ¬ x0 = (3 : Int32) ∧ ¬ x0 = (4 : Int32) ∧ ¬ x0 = (5 : Int32) ∧ ¬ x0 = (6 : Int32) ∧ x0 = (7 : Int32) ∧ (1 : Int32) = v) ∨ (¬ x0 = (0 : Int32) ∧ ¬ x0 = (1 : Int32) ∧ ¬ x0 = (2 : Int32) ∧ ¬ x0 = (3 : Int32) ∧ ¬ x0 = (4 : Int32) ∧ ¬ x0 = (5 : Int32) ∧ ¬ x0 = (6 : Int32) ∧ ¬ x0 = (7 : Int32) ∧ (-1 : Int32) = v)) (fun u => [])) 0 0 (va_A [(a0, .inr (11, [.int 0, .ref a1, .int 0, .int 0, .int 0, .int 0, .int 0, .int 0, .int 0, .int 0, .int 0, .int 0, .long 0, .int 0, .ref a2, .ref a3, .ref a4, .ref a5, .ref a6, .ref a7, .ref a8, .ref a9, .ref a10, .ref a11, .int 0, .ref a12, .ref a13, .ref a14, .ref a15, .int 0, .int 0, .int 0, .ref a16, .int (-1), .int (-1), .ref a17, .ref a18, .int 0, .ref a19, .int 0, .int 0, .ref a20, .ref a21, .int 0, .int 0, .ref a22, .int 0, .int 0, .int 0, .int 0])), (a2, .inl (T 0, 329, .inl cn45))] sz) := by
  refine e_I (by decide) (Nat.le_of_ble_eq_true rfl) ?_
  intro p e s m args below meth c A Q ls M hin w ret hl
  have hx := M.1.1
  have hb := M.1.2.1
  have hl : lv_has ls 4 [(0, .ref a0), (1, .int x0)] := hl
  refine lv_aload_n hx hb dX12_now_0 rfl (lv_at hl 0 rfl) ?_
  refine lv_iconst (v := 0) hx hb dX12_now_1 (by decide) ?_
  refine r_put (ws' := [(a0, .inr (11, [.int 0, .ref a1, .int 0, .int 0, .int 0, .int 0, .int 0, .int 0, .int 0, .int 0, .int 0, .int 0, .long 0, .int 0, .ref a2, .ref a3, .ref a4, .ref a5, .ref a6, .ref a7, .ref a8, .ref a9, .ref a10, .ref a11, .int 0, .ref a12, .ref a13, .ref a14, .ref a15, .int 0, .int 0, .int 0, .ref a16, .int (-1), .int (-1), .ref a17, .ref a18, .int 0, .ref a19, .int 0, .int 0, .ref a20, .ref a21, .int 0, .int 0, .ref a22, .int 0, .int 0, .int 0, .int 0])), (a2, .inl (T 0, 329, .inl cn45))]) M w 0 0 clX12 rfl (by decide) G1467 rfl rfl rfl rfl (Nat.le_of_ble_eq_true rfl) rfl dX12_now_2 (fun H locs w => ?_)
  refine lv_iconst (v := 0) hx hb dX12_now_5 (by decide) ?_
  refine lv_istore_n (lv' := [(2, .int 0), (0, .ref a0), (1, .int x0)]) hx hb dX12_now_6 rfl hl (by decide) rfl (fun ls hl => ?_)
  refine lv_iload_n hx hb dX12_now_7 rfl (lv_at hl 2 rfl) ?_
  by_cases c_1 : x0 = (0 : Int32)
  · refine lv_tableIn (off := 48) (tgt := 56) hx hb dX12_now_8 (by rw [c_1]; decide) (by rw [c_1]; decide) (by rw [c_1]; decide +kernel) (by decide) ?_
    refine lv_aload_n hx hb dX12_now_56 rfl (lv_at hl 1 rfl) ?_
    refine r_get (v := .ref a2) M w 0 14 clX12 rfl (by decide) G1481 rfl rfl dX12_now_57 ?_
    refine lv_bipush (v := 53) hx hb dX12_now_60 (by decide) ?_
    refine r_iald (v := (0 : Int32)) M w 1 rfl (vin (by decide +kernel)) (by decide +kernel) dX12_now_62 ?_
    exact ret _ () _ _ _ _ _ [] dX12_now_63 (Or.inl ⟨c_1, rfl⟩) w (by decide) rfl
  by_cases c_2 : x0 = (1 : Int32)
  · refine lv_tableIn (off := 56) (tgt := 64) hx hb dX12_now_8 (by rw [c_2]; decide) (by rw [c_2]; decide) (by rw [c_2]; decide +kernel) (by decide) ?_
    refine lv_aload_n hx hb dX12_now_64 rfl (lv_at hl 1 rfl) ?_
    refine k_I (ce := 0) (sl := 0) (rest := []) (wr := []) (r_V (f := 0) [0, 1] M w V_HookedCityModel_258 G1768 G73 (c61_X12_opens l D T _ a0 a1 a2 a3 a4 a5 a6 a7 a8 a9 a10 a11 a12 a13 a14 a15 a16 a17 a18 a19 a20 a21 a22) 0 clX12 rfl rfl (by decide) rfl hl.1 rfl (Nat.le_of_ble_eq_true rfl) dX12_now_65 (by decide) (by decide) (by decide) (by decide)) w [0, 1] [] rfl rfl (by decide) (by decide) rfl rfl (fun v _ H locs hp w => ?_)
    have hp : (0 : Int32) = v := hp
    subst hp
    have w : WD D A s.heap [(a0, .inr (11, [.int 0, .ref a1, .int 0, .int 0, .int 0, .int 0, .int 0, .int 0, .int 0, .int 0, .int 0, .int 0, .long 0, .int 0, .ref a2, .ref a3, .ref a4, .ref a5, .ref a6, .ref a7, .ref a8, .ref a9, .ref a10, .ref a11, .int 0, .ref a12, .ref a13, .ref a14, .ref a15, .int 0, .int 0, .int 0, .ref a16, .int (-1), .int (-1), .ref a17, .ref a18, .int 0, .ref a19, .int 0, .int 0, .ref a20, .ref a21, .int 0, .int 0, .ref a22, .int 0, .int 0, .int 0, .int 0])), (a2, .inl (T 0, 329, .inl cn45))] H locs := w
    exact ret _ () _ _ _ _ _ [] dX12_now_68 (Or.inr (Or.inl ⟨c_1, c_2, rfl⟩)) w (by decide) rfl
  by_cases c_3 : x0 = (2 : Int32)
  · refine lv_tableIn (off := 61) (tgt := 69) hx hb dX12_now_8 (by rw [c_3]; decide) (by rw [c_3]; decide) (by rw [c_3]; decide +kernel) (by decide) ?_
    refine lv_iconst (v := 0) hx hb dX12_now_69 (by decide) ?_
    refine lv_istore_n (lv' := [(3, .int 0), (2, .int 0), (0, .ref a0), (1, .int x0)]) hx hb dX12_now_70 rfl hl (by decide) rfl (fun ls hl => ?_)
    refine lv_iload_n hx hb dX12_now_71 rfl (lv_at hl 0 rfl) ?_
    refine lv_aload_n hx hb dX12_now_72 rfl (lv_at hl 2 rfl) ?_
    refine r_get (v := .ref a2) M w 0 14 clX12 rfl (by decide) G1481 rfl rfl dX12_now_73 ?_
    refine lv_iconst (v := 0) hx hb dX12_now_76 (by decide) ?_
    refine r_iald (v := (0 : Int32)) M w 1 rfl (vin (by decide +kernel)) (by decide +kernel) dX12_now_77 ?_
    refine lv_icmp_ge (tgt := 101) hx hb dX12_now_78 (by decide) (fun _ => ?_) (fun c => absurd (by decide +kernel) c)
    refine lv_iload_n hx hb dX12_now_101 rfl (lv_at hl 1 rfl) ?_
    exact ret _ () _ _ _ _ _ [] dX12_now_102 (Or.inr (Or.inr (Or.inl ⟨c_1, c_2, c_3, rfl⟩))) w (by decide) rfl
  by_cases c_4 : x0 = (3 : Int32)
  · refine lv_tableIn (off := 95) (tgt := 103) hx hb dX12_now_8 (by rw [c_4]; decide) (by rw [c_4]; decide) (by rw [c_4]; decide +kernel) (by decide) ?_
    refine lv_iconst (v := 0) hx hb dX12_now_103 (by decide) ?_
    refine lv_istore_n (lv' := [(3, .int 0), (2, .int 0), (0, .ref a0), (1, .int x0)]) hx hb dX12_now_104 rfl hl (by decide) rfl (fun ls hl => ?_)
    refine lv_iload_n hx hb dX12_now_105 rfl (lv_at hl 0 rfl) ?_
    refine lv_aload_n hx hb dX12_now_106 rfl (lv_at hl 2 rfl) ?_
    refine r_get (v := .ref a2) M w 0 14 clX12 rfl (by decide) G1481 rfl rfl dX12_now_107 ?_
    refine lv_iconst (v := 0) hx hb dX12_now_110 (by decide) ?_
    refine r_iald (v := (0 : Int32)) M w 1 rfl (vin (by decide +kernel)) (by decide +kernel) dX12_now_111 ?_
    refine lv_icmp_ge (tgt := 135) hx hb dX12_now_112 (by decide) (fun _ => ?_) (fun c => absurd (by decide +kernel) c)
    refine lv_iload_n hx hb dX12_now_135 rfl (lv_at hl 1 rfl) ?_
    exact ret _ () _ _ _ _ _ [] dX12_now_136 (Or.inr (Or.inr (Or.inr (Or.inl ⟨c_1, c_2, c_3, c_4, rfl⟩)))) w (by decide) rfl
  by_cases c_5 : x0 = (4 : Int32)
  · refine lv_tableIn (off := 129) (tgt := 137) hx hb dX12_now_8 (by rw [c_5]; decide) (by rw [c_5]; decide) (by rw [c_5]; decide +kernel) (by decide) ?_
    refine lv_aload_n hx hb dX12_now_137 rfl (lv_at hl 1 rfl) ?_
    refine r_get (v := .ref a2) M w 0 14 clX12 rfl (by decide) G1481 rfl rfl dX12_now_138 ?_
    refine lv_bipush (v := 54) hx hb dX12_now_141 (by decide) ?_
    refine r_iald (v := (0 : Int32)) M w 1 rfl (vin (by decide +kernel)) (by decide +kernel) dX12_now_143 ?_
    exact ret _ () _ _ _ _ _ [] dX12_now_144 (Or.inr (Or.inr (Or.inr (Or.inr (Or.inl ⟨c_1, c_2, c_3, c_4, c_5, rfl⟩))))) w (by decide) rfl
  by_cases c_6 : x0 = (5 : Int32)
  · refine lv_tableIn (off := 137) (tgt := 145) hx hb dX12_now_8 (by rw [c_6]; decide) (by rw [c_6]; decide) (by rw [c_6]; decide +kernel) (by decide) ?_
    refine lv_aload_n hx hb dX12_now_145 rfl (lv_at hl 1 rfl) ?_
    refine r_get (v := .ref a2) M w 0 14 clX12 rfl (by decide) G1481 rfl rfl dX12_now_146 ?_
    refine lv_bipush (v := 55) hx hb dX12_now_149 (by decide) ?_
    refine r_iald (v := (0 : Int32)) M w 1 rfl (vin (by decide +kernel)) (by decide +kernel) dX12_now_151 ?_
    exact ret _ () _ _ _ _ _ [] dX12_now_152 (Or.inr (Or.inr (Or.inr (Or.inr (Or.inr (Or.inl ⟨c_1, c_2, c_3, c_4, c_5, c_6, rfl⟩)))))) w (by decide) rfl
  by_cases c_7 : x0 = (6 : Int32)
  · refine lv_tableIn (off := 145) (tgt := 153) hx hb dX12_now_8 (by rw [c_7]; decide) (by rw [c_7]; decide) (by rw [c_7]; decide +kernel) (by decide) ?_
    refine lv_aload_n hx hb dX12_now_153 rfl (lv_at hl 1 rfl) ?_
    refine r_get (v := .ref a2) M w 0 14 clX12 rfl (by decide) G1481 rfl rfl dX12_now_154 ?_
    refine lv_bipush (v := 56) hx hb dX12_now_157 (by decide) ?_
    refine r_iald (v := (0 : Int32)) M w 1 rfl (vin (by decide +kernel)) (by decide +kernel) dX12_now_159 ?_
    exact ret _ () _ _ _ _ _ [] dX12_now_160 (Or.inr (Or.inr (Or.inr (Or.inr (Or.inr (Or.inr (Or.inl ⟨c_1, c_2, c_3, c_4, c_5, c_6, c_7, rfl⟩))))))) w (by decide) rfl
  by_cases c_8 : x0 = (7 : Int32)
  · refine lv_tableIn (off := 153) (tgt := 161) hx hb dX12_now_8 (by rw [c_8]; decide) (by rw [c_8]; decide) (by rw [c_8]; decide +kernel) (by decide) ?_
    refine lv_aload_n hx hb dX12_now_161 rfl (lv_at hl 1 rfl) ?_
    refine k_I (ce := 0) (sl := 0) (rest := []) (wr := []) (r_V (f := 0) [0, 1] M w V_HookedCityModel_267 G1784 G77 (c62_X12_isJuly l D T _ a0 a1 a2 a3 a4 a5 a6 a7 a8 a9 a10 a11 a12 a13 a14 a15 a16 a17 a18 a19 a20 a21 a22) 0 clX12 rfl rfl (by decide) rfl hl.1 rfl (Nat.le_of_ble_eq_true rfl) dX12_now_162 (by decide) (by decide) (by decide) (by decide)) w [0, 1] [] rfl rfl (by decide) (by decide) rfl rfl (fun v _ H locs hp w => ?_)
    have hp : (1 : Int32) = v := hp
    subst hp
    have w : WD D A s.heap [(a0, .inr (11, [.int 0, .ref a1, .int 0, .int 0, .int 0, .int 0, .int 0, .int 0, .int 0, .int 0, .int 0, .int 0, .long 0, .int 0, .ref a2, .ref a3, .ref a4, .ref a5, .ref a6, .ref a7, .ref a8, .ref a9, .ref a10, .ref a11, .int 0, .ref a12, .ref a13, .ref a14, .ref a15, .int 0, .int 0, .int 0, .ref a16, .int (-1), .int (-1), .ref a17, .ref a18, .int 0, .ref a19, .int 0, .int 0, .ref a20, .ref a21, .int 0, .int 0, .ref a22, .int 0, .int 0, .int 0, .int 0])), (a2, .inl (T 0, 329, .inl cn45))] H locs := w
    refine lv_if_eq (tgt := 172) hx hb dX12_now_165 (by decide) (fun c => absurd c (by decide +kernel)) (fun _ => ?_)
    refine lv_iconst (v := 1) hx hb dX12_now_168 (by decide) ?_
    refine lv_goto (tgt := 173) hx hb dX12_now_169 (by decide) ?_
    exact ret _ () _ _ _ _ _ [] dX12_now_173 (Or.inr (Or.inr (Or.inr (Or.inr (Or.inr (Or.inr (Or.inr (Or.inl ⟨c_1, c_2, c_3, c_4, c_5, c_6, c_7, c_8, rfl⟩)))))))) w (by decide) rfl
  have h9 : (x0).toInt < 0 ∨ 7 < (x0).toInt := by
    have nc_1 : ¬ (x0).toInt = 0 := fun h => c_1 ((fa_eq _ _).mpr (h.trans (by decide)))
    have nc_2 : ¬ (x0).toInt = 1 := fun h => c_2 ((fa_eq _ _).mpr (h.trans (by decide)))
    have nc_3 : ¬ (x0).toInt = 2 := fun h => c_3 ((fa_eq _ _).mpr (h.trans (by decide)))
    have nc_4 : ¬ (x0).toInt = 3 := fun h => c_4 ((fa_eq _ _).mpr (h.trans (by decide)))
    have nc_5 : ¬ (x0).toInt = 4 := fun h => c_5 ((fa_eq _ _).mpr (h.trans (by decide)))
    have nc_6 : ¬ (x0).toInt = 5 := fun h => c_6 ((fa_eq _ _).mpr (h.trans (by decide)))
    have nc_7 : ¬ (x0).toInt = 6 := fun h => c_7 ((fa_eq _ _).mpr (h.trans (by decide)))
    have nc_8 : ¬ (x0).toInt = 7 := fun h => c_8 ((fa_eq _ _).mpr (h.trans (by decide)))
    omega
  refine lv_tableOut (tgt := 174) hx hb dX12_now_8 h9 (by decide) ?_
  refine lv_iconst (v := (-1)) hx hb dX12_now_174 (by decide) ?_
  exact ret _ () _ _ _ _ _ [] dX12_now_175 (Or.inr (Or.inr (Or.inr (Or.inr (Or.inr (Or.inr (Or.inr (Or.inr (⟨c_1, c_2, c_3, c_4, c_5, c_6, c_7, c_8, rfl⟩))))))))) w (by decide) rfl
