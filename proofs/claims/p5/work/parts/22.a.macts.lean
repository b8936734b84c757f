theorem dX12_isPerson_0 : decode cX12_isPerson 0 = .ok (.iload_n 1, 1) := by decide +kernel
theorem dX12_isPerson_1 : decode cX12_isPerson 1 = .ok (.iconst 0, 1) := by decide +kernel
theorem dX12_isPerson_2 : decode cX12_isPerson 2 = .ok (.aload_n 0, 1) := by decide +kernel
theorem dX12_isPerson_3 : decode cX12_isPerson 3 = .ok (.getfield 98, 3) := by decide +kernel
theorem dX12_isPerson_6 : decode cX12_isPerson 6 = .ok (.iconst 0, 1) := by decide +kernel
theorem dX12_isPerson_7 : decode cX12_isPerson 7 = .ok (.iaload, 1) := by decide +kernel
theorem dX12_isPerson_8 : decode cX12_isPerson 8 = .ok (.iconst 1, 1) := by decide +kernel
theorem dX12_isPerson_9 : decode cX12_isPerson 9 = .ok (.isub, 1) := by decide +kernel
theorem dX12_isPerson_10 : decode cX12_isPerson 10 = .ok (.invokestatic 75, 3) := by decide +kernel
theorem dX12_isPerson_13 : decode cX12_isPerson 13 = .ok (.ireturn, 1) := by decide +kernel
theorem dX12_isMaid_0 : decode cX12_isMaid 0 = .ok (.iload_n 1, 1) := by decide +kernel
theorem dX12_isMaid_1 : decode cX12_isMaid 1 = .ok (.iconst 0, 1) := by decide +kernel
theorem dX12_isMaid_2 : decode cX12_isMaid 2 = .ok (.aload_n 0, 1) := by decide +kernel
theorem dX12_isMaid_3 : decode cX12_isMaid 3 = .ok (.getfield 98, 3) := by decide +kernel
theorem dX12_isMaid_6 : decode cX12_isMaid 6 = .ok (.iconst 1, 1) := by decide +kernel
theorem dX12_isMaid_7 : decode cX12_isMaid 7 = .ok (.iaload, 1) := by decide +kernel
theorem dX12_isMaid_8 : decode cX12_isMaid 8 = .ok (.iconst 1, 1) := by decide +kernel
theorem dX12_isMaid_9 : decode cX12_isMaid 9 = .ok (.isub, 1) := by decide +kernel
theorem dX12_isMaid_10 : decode cX12_isMaid 10 = .ok (.invokestatic 75, 3) := by decide +kernel
theorem dX12_isMaid_13 : decode cX12_isMaid 13 = .ok (.ireturn, 1) := by decide +kernel
theorem dX12_isOpen_0 : decode cX12_isOpen 0 = .ok (.aload_n 0, 1) := by decide +kernel
theorem dX12_isOpen_1 : decode cX12_isOpen 1 = .ok (.getfield 98, 3) := by decide +kernel
theorem dX12_isOpen_4 : decode cX12_isOpen 4 = .ok (.bipush 57, 2) := by decide +kernel
theorem dX12_isOpen_6 : decode cX12_isOpen 6 = .ok (.iload_n 1, 1) := by decide +kernel
theorem dX12_isOpen_7 : decode cX12_isOpen 7 = .ok (.iadd, 1) := by decide +kernel
theorem dX12_isOpen_8 : decode cX12_isOpen 8 = .ok (.iaload, 1) := by decide +kernel
theorem dX12_isOpen_9 : decode cX12_isOpen 9 = .ok (.iconst (-1), 1) := by decide +kernel
theorem dX12_isOpen_10 : decode cX12_isOpen 10 = .ok (.if_icmp .ne 7, 3) := by decide +kernel
theorem dX12_isOpen_17 : decode cX12_isOpen 17 = .ok (.iconst 0, 1) := by decide +kernel
theorem dX12_isOpen_18 : decode cX12_isOpen 18 = .ok (.ireturn, 1) := by decide +kernel
theorem dX12_isOpen_13 : decode cX12_isOpen 13 = .ok (.iconst 1, 1) := by decide +kernel
theorem dX12_isOpen_14 : decode cX12_isOpen 14 = .ok (.goto 4, 3) := by decide +kernel
theorem dX12_isBare_0 : decode cX12_isBare 0 = .ok (.aload_n 0, 1) := by decide +kernel
theorem dX12_isBare_1 : decode cX12_isBare 1 = .ok (.getfield 98, 3) := by decide +kernel
theorem dX12_isBare_4 : decode cX12_isBare 4 = .ok (.bipush 66, 2) := by decide +kernel
theorem dX12_isBare_6 : decode cX12_isBare 6 = .ok (.iload_n 1, 1) := by decide +kernel
theorem dX12_isBare_7 : decode cX12_isBare 7 = .ok (.iadd, 1) := by decide +kernel
theorem dX12_isBare_8 : decode cX12_isBare 8 = .ok (.iaload, 1) := by decide +kernel
theorem dX12_isBare_9 : decode cX12_isBare 9 = .ok (.iconst (-1), 1) := by decide +kernel
theorem dX12_isBare_10 : decode cX12_isBare 10 = .ok (.if_icmp .ne 7, 3) := by decide +kernel
theorem dX12_isBare_17 : decode cX12_isBare 17 = .ok (.iconst 0, 1) := by decide +kernel
theorem dX12_isBare_18 : decode cX12_isBare 18 = .ok (.ireturn, 1) := by decide +kernel
theorem dX12_isBare_13 : decode cX12_isBare 13 = .ok (.iconst 1, 1) := by decide +kernel
theorem dX12_isBare_14 : decode cX12_isBare 14 = .ok (.goto 4, 3) := by decide +kernel
theorem dX12_isTorn_0 : decode cX12_isTorn 0 = .ok (.aload_n 0, 1) := by decide +kernel
theorem dX12_isTorn_1 : decode cX12_isTorn 1 = .ok (.getfield 98, 3) := by decide +kernel
theorem dX12_isTorn_4 : decode cX12_isTorn 4 = .ok (.bipush 75, 2) := by decide +kernel
theorem dX12_isTorn_6 : decode cX12_isTorn 6 = .ok (.iload_n 1, 1) := by decide +kernel
theorem dX12_isTorn_7 : decode cX12_isTorn 7 = .ok (.iadd, 1) := by decide +kernel
theorem dX12_isTorn_8 : decode cX12_isTorn 8 = .ok (.iaload, 1) := by decide +kernel
theorem dX12_isTorn_9 : decode cX12_isTorn 9 = .ok (.ifCond .ne 7, 3) := by decide +kernel
theorem dX12_isTorn_16 : decode cX12_isTorn 16 = .ok (.iconst 0, 1) := by decide +kernel
theorem dX12_isTorn_17 : decode cX12_isTorn 17 = .ok (.ireturn, 1) := by decide +kernel
theorem dX12_isTorn_12 : decode cX12_isTorn 12 = .ok (.iconst 1, 1) := by decide +kernel
theorem dX12_isTorn_13 : decode cX12_isTorn 13 = .ok (.goto 4, 3) := by decide +kernel
theorem dX12_maid_0 : decode cX12_maid 0 = .ok (.aload_n 0, 1) := by decide +kernel
theorem dX12_maid_1 : decode cX12_maid 1 = .ok (.iconst 0, 1) := by decide +kernel
theorem dX12_maid_2 : decode cX12_maid 2 = .ok (.putfield 1, 3) := by decide +kernel
theorem dX12_maid_5 : decode cX12_maid 5 = .ok (.aload_n 0, 1) := by decide +kernel
theorem dX12_maid_6 : decode cX12_maid 6 = .ok (.iload_n 1, 1) := by decide +kernel
theorem dX12_maid_7 : decode cX12_maid 7 = .ok (.invokevirtual 252, 3) := by decide +kernel
theorem G1757 : Cond.code ⟨"HookedCityModel", "isMaid", "(I)Z"⟩ prog_14_method_44_code 2 (some .boolean) ∈ GW := gw_i 1757 (by decide +kernel) rfl
theorem G1754 : Cond.methodLink "HookedCityModel" 252 ⟨"HookedCityModel", "isMaid", "(I)Z"⟩ ∈ GW := gw_i 1754 (by decide +kernel) rfl
theorem V_HookedCityModel_252 : VL "HookedCityModel" 252 yX12_isMaid cX12_isMaid 2 (some .boolean) 1 := ⟨G1757, G1754, G131, by decide +kernel, by decide +kernel, by decide +kernel⟩
theorem G1756 : Cond.instanceMethod ⟨"HookedCityModel", "isMaid", "(I)Z"⟩ ∈ GW := gw_i 1756 (by decide +kernel) rfl
theorem G72 : Cond.selects "HookedCityModel" ⟨"HookedCityModel", "isMaid", "(I)Z"⟩ ⟨"HookedCityModel", "isMaid", "(I)Z"⟩ ∈ GW := gw_i 72 (by decide +kernel) rfl
theorem dX12_maid_10 : decode cX12_maid 10 = .ok (.ifCond .eq 33, 3) := by decide +kernel
theorem dX12_maid_43 : decode cX12_maid 43 = .ok (.iconst (-1), 1) := by decide +kernel
theorem dX12_maid_44 : decode cX12_maid 44 = .ok (.ireturn, 1) := by decide +kernel
theorem dX12_maid_13 : decode cX12_maid 13 = .ok (.iload_n 2, 1) := by decide +kernel
theorem dX12_maid_14 : decode cX12_maid 14 = .ok (.iconst 0, 1) := by decide +kernel
theorem dX12_maid_15 : decode cX12_maid 15 = .ok (.iconst 1, 1) := by decide +kernel
theorem dX12_maid_16 : decode cX12_maid 16 = .ok (.invokestatic 75, 3) := by decide +kernel
theorem dX12_maid_19 : decode cX12_maid 19 = .ok (.ifCond .eq 24, 3) := by decide +kernel
theorem dX12_maid_22 : decode cX12_maid 22 = .ok (.aload_n 0, 1) := by decide +kernel
theorem dX12_maid_23 : decode cX12_maid 23 = .ok (.getfield 98, 3) := by decide +kernel
theorem dX12_maid_26 : decode cX12_maid 26 = .ok (.iload_n 2, 1) := by decide +kernel
theorem dX12_maid_27 : decode cX12_maid 27 = .ok (.ifCond .ne 8, 3) := by decide +kernel
theorem dX12_maid_35 : decode cX12_maid 35 = .ok (.bipush 84, 2) := by decide +kernel
theorem dX12_maid_37 : decode cX12_maid 37 = .ok (.iload_n 1, 1) := by decide +kernel
theorem dX12_maid_38 : decode cX12_maid 38 = .ok (.iadd, 1) := by decide +kernel
theorem dX12_maid_39 : decode cX12_maid 39 = .ok (.iaload, 1) := by decide +kernel
theorem dX12_maid_40 : decode cX12_maid 40 = .ok (.goto 4, 3) := by decide +kernel
theorem dX12_maid_30 : decode cX12_maid 30 = .ok (.bipush 41, 2) := by decide +kernel
theorem dX12_maid_32 : decode cX12_maid 32 = .ok (.goto 5, 3) := by decide +kernel
theorem dX12_opens_0 : decode cX12_opens 0 = .ok (.iconst 0, 1) := by decide +kernel
theorem dX12_opens_1 : decode cX12_opens 1 = .ok (.istore_n 1, 1) := by decide +kernel
theorem dX12_opens_2 : decode cX12_opens 2 = .ok (.iconst 0, 1) := by decide +kernel
theorem dX12_opens_3 : decode cX12_opens 3 = .ok (.istore_n 2, 1) := by decide +kernel
theorem dX12_opens_4 : decode cX12_opens 4 = .ok (.iload_n 2, 1) := by decide +kernel
theorem dX12_opens_5 : decode cX12_opens 5 = .ok (.aload_n 0, 1) := by decide +kernel
theorem dX12_opens_6 : decode cX12_opens 6 = .ok (.getfield 98, 3) := by decide +kernel
theorem dX12_opens_9 : decode cX12_opens 9 = .ok (.iconst 0, 1) := by decide +kernel
theorem dX12_opens_10 : decode cX12_opens 10 = .ok (.iaload, 1) := by decide +kernel
theorem dX12_opens_11 : decode cX12_opens 11 = .ok (.if_icmp .ge 23, 3) := by decide +kernel
theorem dX12_opens_34 : decode cX12_opens 34 = .ok (.iload_n 1, 1) := by decide +kernel
theorem dX12_opens_35 : decode cX12_opens 35 = .ok (.ireturn, 1) := by decide +kernel
theorem dX12_opens_14 : decode cX12_opens 14 = .ok (.aload_n 0, 1) := by decide +kernel
theorem dX12_opens_15 : decode cX12_opens 15 = .ok (.iload_n 2, 1) := by decide +kernel
theorem dX12_opens_16 : decode cX12_opens 16 = .ok (.invokevirtual 255, 3) := by decide +kernel
theorem G1769 : Cond.code ⟨"HookedCityModel", "isOpen", "(I)Z"⟩ prog_14_method_45_code 2 (some .boolean) ∈ GW := gw_i 1769 (by decide +kernel) rfl
theorem G1766 : Cond.methodLink "HookedCityModel" 255 ⟨"HookedCityModel", "isOpen", "(I)Z"⟩ ∈ GW := gw_i 1766 (by decide +kernel) rfl
theorem V_HookedCityModel_255 : VL "HookedCityModel" 255 yX12_isOpen cX12_isOpen 2 (some .boolean) 1 := ⟨G1769, G1766, G131, by decide +kernel, by decide +kernel, by decide +kernel⟩
theorem G1768 : Cond.instanceMethod ⟨"HookedCityModel", "isOpen", "(I)Z"⟩ ∈ GW := gw_i 1768 (by decide +kernel) rfl
theorem G74 : Cond.selects "HookedCityModel" ⟨"HookedCityModel", "isOpen", "(I)Z"⟩ ⟨"HookedCityModel", "isOpen", "(I)Z"⟩ ∈ GW := gw_i 74 (by decide +kernel) rfl
theorem dX12_opens_19 : decode cX12_opens 19 = .ok (.ifCond .eq 9, 3) := by decide +kernel
theorem dX12_opens_28 : decode cX12_opens 28 = .ok (.iinc 2 1, 3) := by decide +kernel
theorem dX12_opens_31 : decode cX12_opens 31 = .ok (.goto (-27), 3) := by decide +kernel
theorem dX12_opens_22 : decode cX12_opens 22 = .ok (.iload_n 1, 1) := by decide +kernel
theorem dX12_opens_23 : decode cX12_opens 23 = .ok (.iconst 1, 1) := by decide +kernel
theorem dX12_opens_24 : decode cX12_opens 24 = .ok (.iload_n 2, 1) := by decide +kernel
theorem dX12_opens_25 : decode cX12_opens 25 = .ok (.ishl, 1) := by decide +kernel
theorem dX12_opens_26 : decode cX12_opens 26 = .ok (.ior, 1) := by decide +kernel
theorem dX12_opens_27 : decode cX12_opens 27 = .ok (.istore_n 1, 1) := by decide +kernel
theorem dX12_isJuly_0 : decode cX12_isJuly 0 = .ok (.aload_n 0, 1) := by decide +kernel
theorem dX12_isJuly_1 : decode cX12_isJuly 1 = .ok (.getfield 98, 3) := by decide +kernel
theorem dX12_isJuly_4 : decode cX12_isJuly 4 = .ok (.bipush 53, 2) := by decide +kernel
theorem dX12_isJuly_6 : decode cX12_isJuly 6 = .ok (.iaload, 1) := by decide +kernel
theorem dX12_isJuly_7 : decode cX12_isJuly 7 = .ok (.aload_n 0, 1) := by decide +kernel
theorem dX12_isJuly_8 : decode cX12_isJuly 8 = .ok (.getfield 98, 3) := by decide +kernel
theorem dX12_isJuly_11 : decode cX12_isJuly 11 = .ok (.iconst 3, 1) := by decide +kernel
theorem dX12_isJuly_12 : decode cX12_isJuly 12 = .ok (.iaload, 1) := by decide +kernel
theorem dX12_isJuly_13 : decode cX12_isJuly 13 = .ok (.irem, 1) := by decide +kernel
theorem dX12_isJuly_14 : decode cX12_isJuly 14 = .ok (.aload_n 0, 1) := by decide +kernel
theorem dX12_isJuly_15 : decode cX12_isJuly 15 = .ok (.getfield 98, 3) := by decide +kernel
theorem dX12_isJuly_18 : decode cX12_isJuly 18 = .ok (.iconst 4, 1) := by decide +kernel
theorem dX12_isJuly_19 : decode cX12_isJuly 19 = .ok (.iaload, 1) := by decide +kernel
theorem dX12_isJuly_20 : decode cX12_isJuly 20 = .ok (.if_icmp .ge 7, 3) := by decide +kernel
theorem dX12_isJuly_27 : decode cX12_isJuly 27 = .ok (.iconst 0, 1) := by decide +kernel
theorem dX12_isJuly_28 : decode cX12_isJuly 28 = .ok (.ireturn, 1) := by decide +kernel
theorem dX12_isJuly_23 : decode cX12_isJuly 23 = .ok (.iconst 1, 1) := by decide +kernel
theorem dX12_isJuly_24 : decode cX12_isJuly 24 = .ok (.goto 4, 3) := by decide +kernel
theorem dX12_now_0 : decode cX12_now 0 = .ok (.aload_n 0, 1) := by decide +kernel
theorem dX12_now_1 : decode cX12_now 1 = .ok (.iconst 0, 1) := by decide +kernel
theorem dX12_now_2 : decode cX12_now 2 = .ok (.putfield 1, 3) := by decide +kernel
theorem dX12_now_5 : decode cX12_now 5 = .ok (.iconst 0, 1) := by decide +kernel
theorem dX12_now_6 : decode cX12_now 6 = .ok (.istore_n 2, 1) := by decide +kernel
theorem dX12_now_7 : decode cX12_now 7 = .ok (.iload_n 1, 1) := by decide +kernel
theorem dX12_now_8 : decode cX12_now 8 = .ok (.tableswitch 166 0 7 #[48, 56, 61, 95, 129, 137, 145, 153], 48) := by decide +kernel
theorem dX12_now_56 : decode cX12_now 56 = .ok (.aload_n 0, 1) := by decide +kernel
theorem dX12_now_57 : decode cX12_now 57 = .ok (.getfield 98, 3) := by decide +kernel
theorem dX12_now_60 : decode cX12_now 60 = .ok (.bipush 53, 2) := by decide +kernel
theorem dX12_now_62 : decode cX12_now 62 = .ok (.iaload, 1) := by decide +kernel
theorem dX12_now_63 : decode cX12_now 63 = .ok (.ireturn, 1) := by decide +kernel
theorem dX12_now_64 : decode cX12_now 64 = .ok (.aload_n 0, 1) := by decide +kernel
theorem dX12_now_65 : decode cX12_now 65 = .ok (.invokevirtual 258, 3) := by decide +kernel
theorem G1765 : Cond.code ⟨"HookedCityModel", "opens", "()I"⟩ prog_14_method_53_code 3 (some .int) ∈ GW := gw_i 1765 (by decide +kernel) rfl
theorem G1762 : Cond.methodLink "HookedCityModel" 258 ⟨"HookedCityModel", "opens", "()I"⟩ ∈ GW := gw_i 1762 (by decide +kernel) rfl
theorem V_HookedCityModel_258 : VL "HookedCityModel" 258 yX12_opens cX12_opens 3 (some .int) 0 := ⟨G1765, G1762, G131, by decide +kernel, by decide +kernel, by decide +kernel⟩
theorem G1764 : Cond.instanceMethod ⟨"HookedCityModel", "opens", "()I"⟩ ∈ GW := gw_i 1764 (by decide +kernel) rfl
theorem G73 : Cond.selects "HookedCityModel" ⟨"HookedCityModel", "opens", "()I"⟩ ⟨"HookedCityModel", "opens", "()I"⟩ ∈ GW := gw_i 73 (by decide +kernel) rfl
theorem dX12_now_68 : decode cX12_now 68 = .ok (.ireturn, 1) := by decide +kernel
theorem dX12_now_69 : decode cX12_now 69 = .ok (.iconst 0, 1) := by decide +kernel
theorem dX12_now_70 : decode cX12_now 70 = .ok (.istore_n 3, 1) := by decide +kernel
theorem dX12_now_71 : decode cX12_now 71 = .ok (.iload_n 3, 1) := by decide +kernel
theorem dX12_now_72 : decode cX12_now 72 = .ok (.aload_n 0, 1) := by decide +kernel
theorem dX12_now_73 : decode cX12_now 73 = .ok (.getfield 98, 3) := by decide +kernel
theorem dX12_now_76 : decode cX12_now 76 = .ok (.iconst 0, 1) := by decide +kernel
theorem dX12_now_77 : decode cX12_now 77 = .ok (.iaload, 1) := by decide +kernel
theorem dX12_now_78 : decode cX12_now 78 = .ok (.if_icmp .ge 23, 3) := by decide +kernel
theorem dX12_now_101 : decode cX12_now 101 = .ok (.iload_n 2, 1) := by decide +kernel
theorem dX12_now_102 : decode cX12_now 102 = .ok (.ireturn, 1) := by decide +kernel
theorem dX12_now_81 : decode cX12_now 81 = .ok (.aload_n 0, 1) := by decide +kernel
theorem dX12_now_82 : decode cX12_now 82 = .ok (.iload_n 3, 1) := by decide +kernel
theorem dX12_now_83 : decode cX12_now 83 = .ok (.invokevirtual 261, 3) := by decide +kernel
theorem G1773 : Cond.code ⟨"HookedCityModel", "isBare", "(I)Z"⟩ prog_14_method_46_code 2 (some .boolean) ∈ GW := gw_i 1773 (by decide +kernel) rfl
theorem G1770 : Cond.methodLink "HookedCityModel" 261 ⟨"HookedCityModel", "isBare", "(I)Z"⟩ ∈ GW := gw_i 1770 (by decide +kernel) rfl
theorem V_HookedCityModel_261 : VL "HookedCityModel" 261 yX12_isBare cX12_isBare 2 (some .boolean) 1 := ⟨G1773, G1770, G131, by decide +kernel, by decide +kernel, by decide +kernel⟩
theorem G1772 : Cond.instanceMethod ⟨"HookedCityModel", "isBare", "(I)Z"⟩ ∈ GW := gw_i 1772 (by decide +kernel) rfl
theorem G75 : Cond.selects "HookedCityModel" ⟨"HookedCityModel", "isBare", "(I)Z"⟩ ⟨"HookedCityModel", "isBare", "(I)Z"⟩ ∈ GW := gw_i 75 (by decide +kernel) rfl
theorem dX12_now_86 : decode cX12_now 86 = .ok (.ifCond .eq 9, 3) := by decide +kernel
theorem dX12_now_95 : decode cX12_now 95 = .ok (.iinc 3 1, 3) := by decide +kernel
theorem dX12_now_98 : decode cX12_now 98 = .ok (.goto (-27), 3) := by decide +kernel
theorem dX12_now_89 : decode cX12_now 89 = .ok (.iload_n 2, 1) := by decide +kernel
theorem dX12_now_90 : decode cX12_now 90 = .ok (.iconst 1, 1) := by decide +kernel
theorem dX12_now_91 : decode cX12_now 91 = .ok (.iload_n 3, 1) := by decide +kernel
theorem dX12_now_92 : decode cX12_now 92 = .ok (.ishl, 1) := by decide +kernel
theorem dX12_now_93 : decode cX12_now 93 = .ok (.ior, 1) := by decide +kernel
theorem dX12_now_94 : decode cX12_now 94 = .ok (.istore_n 2, 1) := by decide +kernel
theorem dX12_now_103 : decode cX12_now 103 = .ok (.iconst 0, 1) := by decide +kernel
theorem dX12_now_104 : decode cX12_now 104 = .ok (.istore_n 3, 1) := by decide +kernel
theorem dX12_now_105 : decode cX12_now 105 = .ok (.iload_n 3, 1) := by decide +kernel
theorem dX12_now_106 : decode cX12_now 106 = .ok (.aload_n 0, 1) := by decide +kernel
theorem dX12_now_107 : decode cX12_now 107 = .ok (.getfield 98, 3) := by decide +kernel
theorem dX12_now_110 : decode cX12_now 110 = .ok (.iconst 0, 1) := by decide +kernel
theorem dX12_now_111 : decode cX12_now 111 = .ok (.iaload, 1) := by decide +kernel
theorem dX12_now_112 : decode cX12_now 112 = .ok (.if_icmp .ge 23, 3) := by decide +kernel
theorem dX12_now_135 : decode cX12_now 135 = .ok (.iload_n 2, 1) := by decide +kernel
theorem dX12_now_136 : decode cX12_now 136 = .ok (.ireturn, 1) := by decide +kernel
theorem dX12_now_115 : decode cX12_now 115 = .ok (.aload_n 0, 1) := by decide +kernel
theorem dX12_now_116 : decode cX12_now 116 = .ok (.iload_n 3, 1) := by decide +kernel
theorem dX12_now_117 : decode cX12_now 117 = .ok (.invokevirtual 264, 3) := by decide +kernel
theorem G1777 : Cond.code ⟨"HookedCityModel", "isTorn", "(I)Z"⟩ prog_14_method_47_code 2 (some .boolean) ∈ GW := gw_i 1777 (by decide +kernel) rfl
theorem G1774 : Cond.methodLink "HookedCityModel" 264 ⟨"HookedCityModel", "isTorn", "(I)Z"⟩ ∈ GW := gw_i 1774 (by decide +kernel) rfl
theorem V_HookedCityModel_264 : VL "HookedCityModel" 264 yX12_isTorn cX12_isTorn 2 (some .boolean) 1 := ⟨G1777, G1774, G131, by decide +kernel, by decide +kernel, by decide +kernel⟩
theorem G1776 : Cond.instanceMethod ⟨"HookedCityModel", "isTorn", "(I)Z"⟩ ∈ GW := gw_i 1776 (by decide +kernel) rfl
theorem G76 : Cond.selects "HookedCityModel" ⟨"HookedCityModel", "isTorn", "(I)Z"⟩ ⟨"HookedCityModel", "isTorn", "(I)Z"⟩ ∈ GW := gw_i 76 (by decide +kernel) rfl
theorem dX12_now_120 : decode cX12_now 120 = .ok (.ifCond .eq 9, 3) := by decide +kernel
theorem dX12_now_129 : decode cX12_now 129 = .ok (.iinc 3 1, 3) := by decide +kernel
theorem dX12_now_132 : decode cX12_now 132 = .ok (.goto (-27), 3) := by decide +kernel
theorem dX12_now_123 : decode cX12_now 123 = .ok (.iload_n 2, 1) := by decide +kernel
theorem dX12_now_124 : decode cX12_now 124 = .ok (.iconst 1, 1) := by decide +kernel
theorem dX12_now_125 : decode cX12_now 125 = .ok (.iload_n 3, 1) := by decide +kernel
theorem dX12_now_126 : decode cX12_now 126 = .ok (.ishl, 1) := by decide +kernel
theorem dX12_now_127 : decode cX12_now 127 = .ok (.ior, 1) := by decide +kernel
theorem dX12_now_128 : decode cX12_now 128 = .ok (.istore_n 2, 1) := by decide +kernel
theorem dX12_now_137 : decode cX12_now 137 = .ok (.aload_n 0, 1) := by decide +kernel
theorem dX12_now_138 : decode cX12_now 138 = .ok (.getfield 98, 3) := by decide +kernel
theorem dX12_now_141 : decode cX12_now 141 = .ok (.bipush 54, 2) := by decide +kernel
theorem dX12_now_143 : decode cX12_now 143 = .ok (.iaload, 1) := by decide +kernel
theorem dX12_now_144 : decode cX12_now 144 = .ok (.ireturn, 1) := by decide +kernel
theorem dX12_now_145 : decode cX12_now 145 = .ok (.aload_n 0, 1) := by decide +kernel
theorem dX12_now_146 : decode cX12_now 146 = .ok (.getfield 98, 3) := by decide +kernel
theorem dX12_now_149 : decode cX12_now 149 = .ok (.bipush 55, 2) := by decide +kernel
theorem dX12_now_151 : decode cX12_now 151 = .ok (.iaload, 1) := by decide +kernel
theorem dX12_now_152 : decode cX12_now 152 = .ok (.ireturn, 1) := by decide +kernel
theorem dX12_now_153 : decode cX12_now 153 = .ok (.aload_n 0, 1) := by decide +kernel
theorem dX12_now_154 : decode cX12_now 154 = .ok (.getfield 98, 3) := by decide +kernel
theorem dX12_now_157 : decode cX12_now 157 = .ok (.bipush 56, 2) := by decide +kernel
theorem dX12_now_159 : decode cX12_now 159 = .ok (.iaload, 1) := by decide +kernel
theorem dX12_now_160 : decode cX12_now 160 = .ok (.ireturn, 1) := by decide +kernel
theorem dX12_now_161 : decode cX12_now 161 = .ok (.aload_n 0, 1) := by decide +kernel
theorem dX12_now_162 : decode cX12_now 162 = .ok (.invokevirtual 267, 3) := by decide +kernel
theorem G1781 : Cond.code ⟨"HookedCityModel", "isJuly", "()Z"⟩ prog_14_method_54_code 1 (some .boolean) ∈ GW := gw_i 1781 (by decide +kernel) rfl
theorem G1778 : Cond.methodLink "HookedCityModel" 267 ⟨"HookedCityModel", "isJuly", "()Z"⟩ ∈ GW := gw_i 1778 (by decide +kernel) rfl
theorem V_HookedCityModel_267 : VL "HookedCityModel" 267 yX12_isJuly cX12_isJuly 1 (some .boolean) 0 := ⟨G1781, G1778, G131, by decide +kernel, by decide +kernel, by decide +kernel⟩
theorem G1780 : Cond.instanceMethod ⟨"HookedCityModel", "isJuly", "()Z"⟩ ∈ GW := gw_i 1780 (by decide +kernel) rfl
theorem G77 : Cond.selects "HookedCityModel" ⟨"HookedCityModel", "isJuly", "()Z"⟩ ⟨"HookedCityModel", "isJuly", "()Z"⟩ ∈ GW := gw_i 77 (by decide +kernel) rfl
theorem dX12_now_165 : decode cX12_now 165 = .ok (.ifCond .eq 7, 3) := by decide +kernel
theorem dX12_now_172 : decode cX12_now 172 = .ok (.iconst 0, 1) := by decide +kernel
theorem dX12_now_173 : decode cX12_now 173 = .ok (.ireturn, 1) := by decide +kernel
theorem dX12_now_168 : decode cX12_now 168 = .ok (.iconst 1, 1) := by decide +kernel
theorem dX12_now_169 : decode cX12_now 169 = .ok (.goto 4, 3) := by decide +kernel
theorem dX12_now_174 : decode cX12_now 174 = .ok (.iconst (-1), 1) := by decide +kernel
theorem dX12_now_175 : decode cX12_now 175 = .ok (.ireturn, 1) := by decide +kernel
theorem dX12_whyButton_0 : decode cX12_whyButton 0 = .ok (.iload_n 1, 1) := by decide +kernel
theorem dX12_whyButton_1 : decode cX12_whyButton 1 = .ok (.iload_n 2, 1) := by decide +kernel
theorem dX12_whyButton_2 : decode cX12_whyButton 2 = .ok (.if_icmp .ne 5, 3) := by decide +kernel
theorem dX12_whyButton_7 : decode cX12_whyButton 7 = .ok (.aload_n 0, 1) := by decide +kernel
theorem dX12_whyButton_8 : decode cX12_whyButton 8 = .ok (.getfield 98, 3) := by decide +kernel
theorem dX12_whyButton_11 : decode cX12_whyButton 11 = .ok (.bipush 44, 2) := by decide +kernel
theorem dX12_whyButton_13 : decode cX12_whyButton 13 = .ok (.iload_n 1, 1) := by decide +kernel
theorem dX12_whyButton_14 : decode cX12_whyButton 14 = .ok (.iadd, 1) := by decide +kernel
theorem dX12_whyButton_15 : decode cX12_whyButton 15 = .ok (.iaload, 1) := by decide +kernel
theorem dX12_whyButton_16 : decode cX12_whyButton 16 = .ok (.iload_n 2, 1) := by decide +kernel
theorem dX12_whyButton_17 : decode cX12_whyButton 17 = .ok (.invokestatic 206, 3) := by decide +kernel
theorem dX12_whyButton_20 : decode cX12_whyButton 20 = .ok (.ifCond .ne 5, 3) := by decide +kernel
theorem dX12_whyButton_25 : decode cX12_whyButton 25 = .ok (.aload_n 0, 1) := by decide +kernel
theorem dX12_whyButton_26 : decode cX12_whyButton 26 = .ok (.getfield 98, 3) := by decide +kernel
theorem dX12_whyButton_29 : decode cX12_whyButton 29 = .ok (.bipush 14, 2) := by decide +kernel
theorem dX12_whyButton_31 : decode cX12_whyButton 31 = .ok (.iload_n 1, 1) := by decide +kernel
theorem dX12_whyButton_32 : decode cX12_whyButton 32 = .ok (.iadd, 1) := by decide +kernel
theorem dX12_whyButton_33 : decode cX12_whyButton 33 = .ok (.iaload, 1) := by decide +kernel
theorem dX12_whyButton_34 : decode cX12_whyButton 34 = .ok (.aload_n 0, 1) := by decide +kernel
theorem dX12_whyButton_35 : decode cX12_whyButton 35 = .ok (.getfield 98, 3) := by decide +kernel
theorem dX12_whyButton_38 : decode cX12_whyButton 38 = .ok (.iconst 5, 1) := by decide +kernel
theorem dX12_whyButton_39 : decode cX12_whyButton 39 = .ok (.iload_n 2, 1) := by decide +kernel
theorem dX12_whyButton_40 : decode cX12_whyButton 40 = .ok (.iadd, 1) := by decide +kernel
theorem dX12_whyButton_41 : decode cX12_whyButton 41 = .ok (.iaload, 1) := by decide +kernel
theorem dX12_whyButton_42 : decode cX12_whyButton 42 = .ok (.if_icmp .eq 5, 3) := by decide +kernel
theorem dX12_whyButton_47 : decode cX12_whyButton 47 = .ok (.aload_n 0, 1) := by decide +kernel
theorem dX12_whyButton_48 : decode cX12_whyButton 48 = .ok (.iload_n 1, 1) := by decide +kernel
theorem dX12_whyButton_49 : decode cX12_whyButton 49 = .ok (.invokevirtual 255, 3) := by decide +kernel
theorem dX12_whyButton_52 : decode cX12_whyButton 52 = .ok (.ifCond .ne 5, 3) := by decide +kernel
theorem dX12_whyButton_57 : decode cX12_whyButton 57 = .ok (.aload_n 0, 1) := by decide +kernel
theorem dX12_whyButton_58 : decode cX12_whyButton 58 = .ok (.iload_n 2, 1) := by decide +kernel
theorem dX12_whyButton_59 : decode cX12_whyButton 59 = .ok (.invokevirtual 261, 3) := by decide +kernel
theorem dX12_whyButton_62 : decode cX12_whyButton 62 = .ok (.ifCond .ne 6, 3) := by decide +kernel
theorem dX12_whyButton_68 : decode cX12_whyButton 68 = .ok (.aload_n 0, 1) := by decide +kernel
theorem dX12_whyButton_69 : decode cX12_whyButton 69 = .ok (.iload_n 2, 1) := by decide +kernel
theorem dX12_whyButton_70 : decode cX12_whyButton 70 = .ok (.invokevirtual 264, 3) := by decide +kernel
theorem dX12_whyButton_73 : decode cX12_whyButton 73 = .ok (.ifCond .eq 8, 3) := by decide +kernel
theorem dX12_whyButton_81 : decode cX12_whyButton 81 = .ok (.iconst 0, 1) := by decide +kernel
theorem dX12_whyButton_82 : decode cX12_whyButton 82 = .ok (.ireturn, 1) := by decide +kernel
theorem dX12_whyButton_76 : decode cX12_whyButton 76 = .ok (.bipush 7, 2) := by decide +kernel
theorem dX12_whyButton_78 : decode cX12_whyButton 78 = .ok (.goto 4, 3) := by decide +kernel
theorem dX12_whyButton_65 : decode cX12_whyButton 65 = .ok (.bipush 6, 2) := by decide +kernel
theorem dX12_whyButton_67 : decode cX12_whyButton 67 = .ok (.ireturn, 1) := by decide +kernel
theorem dX12_whyButton_55 : decode cX12_whyButton 55 = .ok (.iconst 5, 1) := by decide +kernel
theorem dX12_whyButton_56 : decode cX12_whyButton 56 = .ok (.ireturn, 1) := by decide +kernel
theorem dX12_whyButton_45 : decode cX12_whyButton 45 = .ok (.iconst 4, 1) := by decide +kernel
theorem dX12_whyButton_46 : decode cX12_whyButton 46 = .ok (.ireturn, 1) := by decide +kernel
theorem dX12_whyButton_23 : decode cX12_whyButton 23 = .ok (.iconst 3, 1) := by decide +kernel
theorem dX12_whyButton_24 : decode cX12_whyButton 24 = .ok (.ireturn, 1) := by decide +kernel
theorem dX12_whyButton_5 : decode cX12_whyButton 5 = .ok (.iconst 2, 1) := by decide +kernel
theorem dX12_whyButton_6 : decode cX12_whyButton 6 = .ok (.ireturn, 1) := by decide +kernel
theorem dX12_isTired_0 : decode cX12_isTired 0 = .ok (.aload_n 0, 1) := by decide +kernel
theorem dX12_isTired_1 : decode cX12_isTired 1 = .ok (.getfield 98, 3) := by decide +kernel
theorem dX12_isTired_4 : decode cX12_isTired 4 = .ok (.bipush 84, 2) := by decide +kernel
theorem dX12_isTired_6 : decode cX12_isTired 6 = .ok (.iload_n 1, 1) := by decide +kernel
theorem dX12_isTired_7 : decode cX12_isTired 7 = .ok (.iadd, 1) := by decide +kernel
theorem dX12_isTired_8 : decode cX12_isTired 8 = .ok (.iaload, 1) := by decide +kernel
theorem dX12_isTired_9 : decode cX12_isTired 9 = .ok (.aload_n 0, 1) := by decide +kernel
theorem dX12_isTired_10 : decode cX12_isTired 10 = .ok (.getfield 98, 3) := by decide +kernel
theorem dX12_isTired_13 : decode cX12_isTired 13 = .ok (.bipush 41, 2) := by decide +kernel
theorem dX12_isTired_15 : decode cX12_isTired 15 = .ok (.iload_n 1, 1) := by decide +kernel
theorem dX12_isTired_16 : decode cX12_isTired 16 = .ok (.iadd, 1) := by decide +kernel
theorem dX12_isTired_17 : decode cX12_isTired 17 = .ok (.iaload, 1) := by decide +kernel
theorem dX12_isTired_18 : decode cX12_isTired 18 = .ok (.if_icmp .ne 7, 3) := by decide +kernel
theorem dX12_isTired_25 : decode cX12_isTired 25 = .ok (.iconst 0, 1) := by decide +kernel
theorem dX12_isTired_26 : decode cX12_isTired 26 = .ok (.ireturn, 1) := by decide +kernel
theorem dX12_isTired_21 : decode cX12_isTired 21 = .ok (.iconst 1, 1) := by decide +kernel
theorem dX12_isTired_22 : decode cX12_isTired 22 = .ok (.goto 4, 3) := by decide +kernel
theorem dX12_out_0 : decode cX12_out 0 = .ok (.aload_n 0, 1) := by decide +kernel
theorem dX12_out_1 : decode cX12_out 1 = .ok (.getfield 98, 3) := by decide +kernel
theorem dX12_out_4 : decode cX12_out 4 = .ok (.bipush 66, 2) := by decide +kernel
theorem dX12_out_6 : decode cX12_out 6 = .ok (.aload_n 0, 1) := by decide +kernel
theorem dX12_out_7 : decode cX12_out 7 = .ok (.getfield 98, 3) := by decide +kernel
theorem dX12_out_10 : decode cX12_out 10 = .ok (.bipush 57, 2) := by decide +kernel
theorem dX12_out_12 : decode cX12_out 12 = .ok (.iload_n 1, 1) := by decide +kernel
theorem dX12_out_13 : decode cX12_out 13 = .ok (.iadd, 1) := by decide +kernel
theorem dX12_out_14 : decode cX12_out 14 = .ok (.iaload, 1) := by decide +kernel
theorem dX12_out_15 : decode cX12_out 15 = .ok (.iadd, 1) := by decide +kernel
theorem dX12_out_16 : decode cX12_out 16 = .ok (.iconst (-1), 1) := by decide +kernel
theorem dX12_out_17 : decode cX12_out 17 = .ok (.iastore, 1) := by decide +kernel
theorem dX12_out_18 : decode cX12_out 18 = .ok (.aload_n 0, 1) := by decide +kernel
theorem dX12_out_19 : decode cX12_out 19 = .ok (.getfield 98, 3) := by decide +kernel
theorem dX12_out_22 : decode cX12_out 22 = .ok (.bipush 57, 2) := by decide +kernel
theorem dX12_out_24 : decode cX12_out 24 = .ok (.iload_n 1, 1) := by decide +kernel
theorem dX12_out_25 : decode cX12_out 25 = .ok (.iadd, 1) := by decide +kernel
theorem dX12_out_26 : decode cX12_out 26 = .ok (.iconst (-1), 1) := by decide +kernel
theorem dX12_out_27 : decode cX12_out 27 = .ok (.iastore, 1) := by decide +kernel
theorem dX12_out_28 : decode cX12_out 28 = .ok (.return_, 1) := by decide +kernel
theorem dX12_snap_0 : decode cX12_snap 0 = .ok (.aload_n 0, 1) := by decide +kernel
theorem dX12_snap_1 : decode cX12_snap 1 = .ok (.getfield 233, 3) := by decide +kernel
theorem dX12_snap_4 : decode cX12_snap 4 = .ok (.bipush 8, 2) := by decide +kernel
theorem dX12_snap_6 : decode cX12_snap 6 = .ok (.if_icmp .ne 43, 3) := by decide +kernel
theorem dX12_snap_49 : decode cX12_snap 49 = .ok (.iconst 0, 1) := by decide +kernel
theorem dX12_snap_50 : decode cX12_snap 50 = .ok (.istore_n 1, 1) := by decide +kernel
theorem dX12_snap_51 : decode cX12_snap 51 = .ok (.iload_n 1, 1) := by decide +kernel
theorem dX12_snap_52 : decode cX12_snap 52 = .ok (.bipush 34, 2) := by decide +kernel
theorem dX12_snap_54 : decode cX12_snap 54 = .ok (.if_icmp .ge 32, 3) := by decide +kernel
theorem dX12_snap_86 : decode cX12_snap 86 = .ok (.aload_n 0, 1) := by decide +kernel
theorem dX12_snap_87 : decode cX12_snap 87 = .ok (.dup, 1) := by decide +kernel
theorem dX12_snap_88 : decode cX12_snap 88 = .ok (.getfield 233, 3) := by decide +kernel
theorem dX12_snap_91 : decode cX12_snap 91 = .ok (.iconst 1, 1) := by decide +kernel
theorem dX12_snap_92 : decode cX12_snap 92 = .ok (.iadd, 1) := by decide +kernel
theorem dX12_snap_93 : decode cX12_snap 93 = .ok (.putfield 233, 3) := by decide +kernel
theorem dX12_snap_96 : decode cX12_snap 96 = .ok (.return_, 1) := by decide +kernel
theorem dX12_snap_57 : decode cX12_snap 57 = .ok (.aload_n 0, 1) := by decide +kernel
theorem dX12_snap_58 : decode cX12_snap 58 = .ok (.getfield 107, 3) := by decide +kernel
theorem G1480 : Cond.fieldLink "HookedCityModel" 107 "HookedCityModel" "snaps" "[I" ∈ GW := gw_i 1480 (by decide +kernel) rfl
theorem dX12_snap_61 : decode cX12_snap 61 = .ok (.bipush 34, 2) := by decide +kernel
theorem dX12_snap_63 : decode cX12_snap 63 = .ok (.aload_n 0, 1) := by decide +kernel
theorem dX12_snap_64 : decode cX12_snap 64 = .ok (.getfield 233, 3) := by decide +kernel
theorem dX12_snap_67 : decode cX12_snap 67 = .ok (.imul, 1) := by decide +kernel
theorem dX12_snap_68 : decode cX12_snap 68 = .ok (.iload_n 1, 1) := by decide +kernel
theorem dX12_snap_69 : decode cX12_snap 69 = .ok (.iadd, 1) := by decide +kernel
theorem dX12_snap_70 : decode cX12_snap 70 = .ok (.aload_n 0, 1) := by decide +kernel
theorem dX12_snap_71 : decode cX12_snap 71 = .ok (.getfield 98, 3) := by decide +kernel
theorem dX12_snap_74 : decode cX12_snap 74 = .ok (.bipush 53, 2) := by decide +kernel
theorem dX12_snap_76 : decode cX12_snap 76 = .ok (.iload_n 1, 1) := by decide +kernel
theorem dX12_snap_77 : decode cX12_snap 77 = .ok (.iadd, 1) := by decide +kernel
theorem dX12_snap_78 : decode cX12_snap 78 = .ok (.iaload, 1) := by decide +kernel
theorem dX12_snap_79 : decode cX12_snap 79 = .ok (.iastore, 1) := by decide +kernel
theorem dX12_snap_80 : decode cX12_snap 80 = .ok (.iinc 1 1, 3) := by decide +kernel
theorem dX12_snap_83 : decode cX12_snap 83 = .ok (.goto (-32), 3) := by decide +kernel
theorem dX12_snap_9 : decode cX12_snap 9 = .ok (.iconst 0, 1) := by decide +kernel
theorem dX12_snap_10 : decode cX12_snap 10 = .ok (.istore_n 1, 1) := by decide +kernel
theorem dX12_snap_11 : decode cX12_snap 11 = .ok (.iload_n 1, 1) := by decide +kernel
theorem dX12_snap_12 : decode cX12_snap 12 = .ok (.sipush 238, 3) := by decide +kernel
theorem dX12_snap_15 : decode cX12_snap 15 = .ok (.if_icmp .ge 24, 3) := by decide +kernel
theorem dX12_snap_39 : decode cX12_snap 39 = .ok (.aload_n 0, 1) := by decide +kernel
theorem dX12_snap_40 : decode cX12_snap 40 = .ok (.dup, 1) := by decide +kernel
theorem dX12_snap_41 : decode cX12_snap 41 = .ok (.getfield 233, 3) := by decide +kernel
theorem dX12_snap_44 : decode cX12_snap 44 = .ok (.iconst 1, 1) := by decide +kernel
theorem dX12_snap_45 : decode cX12_snap 45 = .ok (.isub, 1) := by decide +kernel
theorem dX12_snap_46 : decode cX12_snap 46 = .ok (.putfield 233, 3) := by decide +kernel
theorem dX12_snap_18 : decode cX12_snap 18 = .ok (.aload_n 0, 1) := by decide +kernel
theorem dX12_snap_19 : decode cX12_snap 19 = .ok (.getfield 107, 3) := by decide +kernel
theorem dX12_snap_22 : decode cX12_snap 22 = .ok (.iload_n 1, 1) := by decide +kernel
theorem dX12_snap_23 : decode cX12_snap 23 = .ok (.aload_n 0, 1) := by decide +kernel
theorem dX12_snap_24 : decode cX12_snap 24 = .ok (.getfield 107, 3) := by decide +kernel
theorem dX12_snap_27 : decode cX12_snap 27 = .ok (.iload_n 1, 1) := by decide +kernel
theorem dX12_snap_28 : decode cX12_snap 28 = .ok (.bipush 34, 2) := by decide +kernel
theorem dX12_snap_30 : decode cX12_snap 30 = .ok (.iadd, 1) := by decide +kernel
theorem dX12_snap_31 : decode cX12_snap 31 = .ok (.iaload, 1) := by decide +kernel
theorem dX12_snap_32 : decode cX12_snap 32 = .ok (.iastore, 1) := by decide +kernel
theorem dX12_snap_33 : decode cX12_snap 33 = .ok (.iinc 1 1, 3) := by decide +kernel
theorem dX12_snap_36 : decode cX12_snap 36 = .ok (.goto (-25), 3) := by decide +kernel
theorem dX12_why_0 : decode cX12_why 0 = .ok (.iload_n 1, 1) := by decide +kernel
theorem dX12_why_1 : decode cX12_why 1 = .ok (.lookupswitch 73 #[(0, 27), (1, 47)], 27) := by decide +kernel
theorem dX12_why_28 : decode cX12_why 28 = .ok (.aload_n 0, 1) := by decide +kernel
theorem dX12_why_29 : decode cX12_why 29 = .ok (.iload_n 2, 1) := by decide +kernel
theorem dX12_why_30 : decode cX12_why 30 = .ok (.invokevirtual 270, 3) := by decide +kernel
theorem G1797 : Cond.code ⟨"HookedCityModel", "isTired", "(I)Z"⟩ prog_14_method_58_code 2 (some .boolean) ∈ GW := gw_i 1797 (by decide +kernel) rfl
theorem G1794 : Cond.methodLink "HookedCityModel" 270 ⟨"HookedCityModel", "isTired", "(I)Z"⟩ ∈ GW := gw_i 1794 (by decide +kernel) rfl
theorem V_HookedCityModel_270 : VL "HookedCityModel" 270 yX12_isTired cX12_isTired 2 (some .boolean) 1 := ⟨G1797, G1794, G131, by decide +kernel, by decide +kernel, by decide +kernel⟩
theorem G1796 : Cond.instanceMethod ⟨"HookedCityModel", "isTired", "(I)Z"⟩ ∈ GW := gw_i 1796 (by decide +kernel) rfl
theorem G80 : Cond.selects "HookedCityModel" ⟨"HookedCityModel", "isTired", "(I)Z"⟩ ⟨"HookedCityModel", "isTired", "(I)Z"⟩ ∈ GW := gw_i 80 (by decide +kernel) rfl
theorem dX12_why_33 : decode cX12_why 33 = .ok (.ifCond .eq 7, 3) := by decide +kernel
theorem dX12_why_40 : decode cX12_why 40 = .ok (.aload_n 0, 1) := by decide +kernel
theorem dX12_why_41 : decode cX12_why 41 = .ok (.iload_n 3, 1) := by decide +kernel
theorem dX12_why_42 : decode cX12_why 42 = .ok (.iload 4, 2) := by decide +kernel
theorem dX12_why_44 : decode cX12_why 44 = .ok (.invokevirtual 273, 3) := by decide +kernel
theorem G1801 : Cond.code ⟨"HookedCityModel", "whyButton", "(II)I"⟩ prog_14_method_57_code 3 (some .int) ∈ GW := gw_i 1801 (by decide +kernel) rfl
theorem G1798 : Cond.methodLink "HookedCityModel" 273 ⟨"HookedCityModel", "whyButton", "(II)I"⟩ ∈ GW := gw_i 1798 (by decide +kernel) rfl
theorem V_HookedCityModel_273 : VL "HookedCityModel" 273 yX12_whyButton cX12_whyButton 3 (some .int) 2 := ⟨G1801, G1798, G131, by decide +kernel, by decide +kernel, by decide +kernel⟩
theorem G1800 : Cond.instanceMethod ⟨"HookedCityModel", "whyButton", "(II)I"⟩ ∈ GW := gw_i 1800 (by decide +kernel) rfl
theorem G81 : Cond.selects "HookedCityModel" ⟨"HookedCityModel", "whyButton", "(II)I"⟩ ⟨"HookedCityModel", "whyButton", "(II)I"⟩ ∈ GW := gw_i 81 (by decide +kernel) rfl
theorem dX12_why_47 : decode cX12_why 47 = .ok (.ireturn, 1) := by decide +kernel
theorem dX12_why_36 : decode cX12_why 36 = .ok (.iconst 1, 1) := by decide +kernel
theorem dX12_why_37 : decode cX12_why 37 = .ok (.goto 10, 3) := by decide +kernel
theorem dX12_live_0 : decode cX12_live 0 = .ok (.iload_n 1, 1) := by decide +kernel
theorem dX12_live_1 : decode cX12_live 1 = .ok (.lookupswitch 93 #[(0, 27), (1, 74)], 27) := by decide +kernel
theorem dX12_live_28 : decode cX12_live 28 = .ok (.aload_n 0, 1) := by decide +kernel
theorem dX12_live_29 : decode cX12_live 29 = .ok (.getfield 98, 3) := by decide +kernel
theorem dX12_live_32 : decode cX12_live 32 = .ok (.bipush 57, 2) := by decide +kernel
theorem dX12_live_34 : decode cX12_live 34 = .ok (.iload_n 3, 1) := by decide +kernel
theorem dX12_live_35 : decode cX12_live 35 = .ok (.iadd, 1) := by decide +kernel
theorem dX12_live_36 : decode cX12_live 36 = .ok (.iload 4, 2) := by decide +kernel
theorem dX12_live_38 : decode cX12_live 38 = .ok (.iastore, 1) := by decide +kernel
theorem dX12_live_39 : decode cX12_live 39 = .ok (.aload_n 0, 1) := by decide +kernel
theorem dX12_live_40 : decode cX12_live 40 = .ok (.getfield 98, 3) := by decide +kernel
theorem dX12_live_43 : decode cX12_live 43 = .ok (.bipush 66, 2) := by decide +kernel
theorem dX12_live_45 : decode cX12_live 45 = .ok (.iload 4, 2) := by decide +kernel
theorem dX12_live_47 : decode cX12_live 47 = .ok (.iadd, 1) := by decide +kernel
theorem dX12_live_48 : decode cX12_live 48 = .ok (.iload_n 3, 1) := by decide +kernel
theorem dX12_live_49 : decode cX12_live 49 = .ok (.iastore, 1) := by decide +kernel
theorem dX12_live_50 : decode cX12_live 50 = .ok (.aload_n 0, 1) := by decide +kernel
theorem dX12_live_51 : decode cX12_live 51 = .ok (.getfield 98, 3) := by decide +kernel
theorem dX12_live_54 : decode cX12_live 54 = .ok (.bipush 84, 2) := by decide +kernel
theorem dX12_live_56 : decode cX12_live 56 = .ok (.iload_n 2, 1) := by decide +kernel
theorem dX12_live_57 : decode cX12_live 57 = .ok (.iadd, 1) := by decide +kernel
theorem dX12_live_58 : decode cX12_live 58 = .ok (.dup2, 1) := by decide +kernel
theorem dX12_live_59 : decode cX12_live 59 = .ok (.iaload, 1) := by decide +kernel
theorem dX12_live_60 : decode cX12_live 60 = .ok (.iconst 1, 1) := by decide +kernel
theorem dX12_live_61 : decode cX12_live 61 = .ok (.iadd, 1) := by decide +kernel
theorem dX12_live_62 : decode cX12_live 62 = .ok (.iastore, 1) := by decide +kernel
theorem dX12_live_63 : decode cX12_live 63 = .ok (.aload_n 0, 1) := by decide +kernel
theorem dX12_live_64 : decode cX12_live 64 = .ok (.getfield 98, 3) := by decide +kernel
theorem dX12_live_67 : decode cX12_live 67 = .ok (.bipush 55, 2) := by decide +kernel
theorem dX12_live_69 : decode cX12_live 69 = .ok (.dup2, 1) := by decide +kernel
theorem dX12_live_70 : decode cX12_live 70 = .ok (.iaload, 1) := by decide +kernel
theorem dX12_live_71 : decode cX12_live 71 = .ok (.iconst 1, 1) := by decide +kernel
theorem dX12_live_72 : decode cX12_live 72 = .ok (.iadd, 1) := by decide +kernel
theorem dX12_live_73 : decode cX12_live 73 = .ok (.iastore, 1) := by decide +kernel
theorem dX12_live_74 : decode cX12_live 74 = .ok (.return_, 1) := by decide +kernel
theorem dX12_act_0 : decode cX12_act 0 = .ok (.iload 5, 2) := by decide +kernel
theorem dX12_act_2 : decode cX12_act 2 = .ok (.ifCond .ne 5, 3) := by decide +kernel
theorem dX12_act_7 : decode cX12_act 7 = .ok (.aload_n 0, 1) := by decide +kernel
theorem dX12_act_8 : decode cX12_act 8 = .ok (.iload_n 1, 1) := by decide +kernel
theorem dX12_act_9 : decode cX12_act 9 = .ok (.iload_n 2, 1) := by decide +kernel
theorem dX12_act_10 : decode cX12_act 10 = .ok (.iload_n 3, 1) := by decide +kernel
theorem dX12_act_11 : decode cX12_act 11 = .ok (.iload 4, 2) := by decide +kernel
theorem dX12_act_13 : decode cX12_act 13 = .ok (.invokevirtual 280, 3) := by decide +kernel
theorem G1793 : Cond.code ⟨"HookedCityModel", "why", "(IIII)I"⟩ prog_14_method_59_code 5 (some .int) ∈ GW := gw_i 1793 (by decide +kernel) rfl
theorem G1790 : Cond.methodLink "HookedCityModel" 280 ⟨"HookedCityModel", "why", "(IIII)I"⟩ ∈ GW := gw_i 1790 (by decide +kernel) rfl
theorem V_HookedCityModel_280 : VL "HookedCityModel" 280 yX12_why cX12_why 5 (some .int) 4 := ⟨G1793, G1790, G131, by decide +kernel, by decide +kernel, by decide +kernel⟩
theorem G1792 : Cond.instanceMethod ⟨"HookedCityModel", "why", "(IIII)I"⟩ ∈ GW := gw_i 1792 (by decide +kernel) rfl
theorem G79 : Cond.selects "HookedCityModel" ⟨"HookedCityModel", "why", "(IIII)I"⟩ ⟨"HookedCityModel", "why", "(IIII)I"⟩ ∈ GW := gw_i 79 (by decide +kernel) rfl
theorem dX12_act_16 : decode cX12_act 16 = .ok (.istore 6, 2) := by decide +kernel
theorem dX12_act_18 : decode cX12_act 18 = .ok (.iload 6, 2) := by decide +kernel
theorem dX12_act_20 : decode cX12_act 20 = .ok (.ifCond .eq 6, 3) := by decide +kernel
theorem dX12_act_26 : decode cX12_act 26 = .ok (.aload_n 0, 1) := by decide +kernel
theorem dX12_act_27 : decode cX12_act 27 = .ok (.invokevirtual 284, 3) := by decide +kernel
theorem G1805 : Cond.code ⟨"HookedCityModel", "snap", "()V"⟩ prog_14_method_56_code 2 none ∈ GW := gw_i 1805 (by decide +kernel) rfl
theorem G1802 : Cond.methodLink "HookedCityModel" 284 ⟨"HookedCityModel", "snap", "()V"⟩ ∈ GW := gw_i 1802 (by decide +kernel) rfl
theorem V_HookedCityModel_284 : VL "HookedCityModel" 284 yX12_snap cX12_snap 2 none 0 := ⟨G1805, G1802, G131, by decide +kernel, by decide +kernel, by decide +kernel⟩
theorem G1804 : Cond.instanceMethod ⟨"HookedCityModel", "snap", "()V"⟩ ∈ GW := gw_i 1804 (by decide +kernel) rfl
theorem G82 : Cond.selects "HookedCityModel" ⟨"HookedCityModel", "snap", "()V"⟩ ⟨"HookedCityModel", "snap", "()V"⟩ ∈ GW := gw_i 82 (by decide +kernel) rfl
theorem dX12_act_30 : decode cX12_act 30 = .ok (.aload_n 0, 1) := by decide +kernel
theorem dX12_act_31 : decode cX12_act 31 = .ok (.iload_n 1, 1) := by decide +kernel
theorem dX12_act_32 : decode cX12_act 32 = .ok (.iload_n 2, 1) := by decide +kernel
theorem dX12_act_33 : decode cX12_act 33 = .ok (.iload_n 3, 1) := by decide +kernel
theorem dX12_act_34 : decode cX12_act 34 = .ok (.iload 4, 2) := by decide +kernel
theorem dX12_act_36 : decode cX12_act 36 = .ok (.invokevirtual 287, 3) := by decide +kernel
theorem G1809 : Cond.code ⟨"HookedCityModel", "live", "(IIII)V"⟩ prog_14_method_61_code 5 none ∈ GW := gw_i 1809 (by decide +kernel) rfl
theorem G1806 : Cond.methodLink "HookedCityModel" 287 ⟨"HookedCityModel", "live", "(IIII)V"⟩ ∈ GW := gw_i 1806 (by decide +kernel) rfl
theorem V_HookedCityModel_287 : VL "HookedCityModel" 287 yX12_live cX12_live 5 none 4 := ⟨G1809, G1806, G131, by decide +kernel, by decide +kernel, by decide +kernel⟩
theorem G1808 : Cond.instanceMethod ⟨"HookedCityModel", "live", "(IIII)V"⟩ ∈ GW := gw_i 1808 (by decide +kernel) rfl
theorem G83 : Cond.selects "HookedCityModel" ⟨"HookedCityModel", "live", "(IIII)V"⟩ ⟨"HookedCityModel", "live", "(IIII)V"⟩ ∈ GW := gw_i 83 (by decide +kernel) rfl
theorem dX12_act_39 : decode cX12_act 39 = .ok (.iconst 0, 1) := by decide +kernel
theorem dX12_act_40 : decode cX12_act 40 = .ok (.ireturn, 1) := by decide +kernel
theorem dX12_act_23 : decode cX12_act 23 = .ok (.iload 6, 2) := by decide +kernel
theorem dX12_act_25 : decode cX12_act 25 = .ok (.ireturn, 1) := by decide +kernel
theorem dX12_act_5 : decode cX12_act 5 = .ok (.iconst (-1), 1) := by decide +kernel
theorem dX12_act_6 : decode cX12_act 6 = .ok (.ireturn, 1) := by decide +kernel
theorem dX12_button_0 : decode cX12_button 0 = .ok (.aload_n 0, 1) := by decide +kernel
theorem dX12_button_1 : decode cX12_button 1 = .ok (.iconst 0, 1) := by decide +kernel
theorem dX12_button_2 : decode cX12_button 2 = .ok (.putfield 1, 3) := by decide +kernel
theorem dX12_button_5 : decode cX12_button 5 = .ok (.aload_n 0, 1) := by decide +kernel
theorem dX12_button_6 : decode cX12_button 6 = .ok (.iconst 0, 1) := by decide +kernel
theorem dX12_button_7 : decode cX12_button 7 = .ok (.iload_n 1, 1) := by decide +kernel
theorem dX12_button_8 : decode cX12_button 8 = .ok (.iload_n 2, 1) := by decide +kernel
theorem dX12_button_9 : decode cX12_button 9 = .ok (.iload_n 3, 1) := by decide +kernel
theorem dX12_button_10 : decode cX12_button 10 = .ok (.aload_n 0, 1) := by decide +kernel
theorem dX12_button_11 : decode cX12_button 11 = .ok (.iload_n 1, 1) := by decide +kernel
theorem dX12_button_12 : decode cX12_button 12 = .ok (.invokevirtual 252, 3) := by decide +kernel
theorem dX12_button_15 : decode cX12_button 15 = .ok (.ifCond .eq 23, 3) := by decide +kernel
theorem dX12_button_38 : decode cX12_button 38 = .ok (.iconst 0, 1) := by decide +kernel
theorem dX12_button_39 : decode cX12_button 39 = .ok (.invokevirtual 291, 3) := by decide +kernel
theorem G1789 : Cond.code ⟨"HookedCityModel", "act", "(IIIIZ)I"⟩ prog_14_method_62_code 7 (some .int) ∈ GW := gw_i 1789 (by decide +kernel) rfl
theorem G1786 : Cond.methodLink "HookedCityModel" 291 ⟨"HookedCityModel", "act", "(IIIIZ)I"⟩ ∈ GW := gw_i 1786 (by decide +kernel) rfl
theorem V_HookedCityModel_291 : VL "HookedCityModel" 291 yX12_act cX12_act 7 (some .int) 5 := ⟨G1789, G1786, G131, by decide +kernel, by decide +kernel, by decide +kernel⟩
theorem G1788 : Cond.instanceMethod ⟨"HookedCityModel", "act", "(IIIIZ)I"⟩ ∈ GW := gw_i 1788 (by decide +kernel) rfl
theorem G78 : Cond.selects "HookedCityModel" ⟨"HookedCityModel", "act", "(IIIIZ)I"⟩ ⟨"HookedCityModel", "act", "(IIIIZ)I"⟩ ∈ GW := gw_i 78 (by decide +kernel) rfl
theorem dX12_button_42 : decode cX12_button 42 = .ok (.ireturn, 1) := by decide +kernel
theorem dX12_button_18 : decode cX12_button 18 = .ok (.aload_n 0, 1) := by decide +kernel
theorem dX12_button_19 : decode cX12_button 19 = .ok (.iload_n 2, 1) := by decide +kernel
theorem dX12_button_20 : decode cX12_button 20 = .ok (.invokevirtual 240, 3) := by decide +kernel
theorem G1737 : Cond.code ⟨"HookedCityModel", "isPerson", "(I)Z"⟩ prog_14_method_43_code 2 (some .boolean) ∈ GW := gw_i 1737 (by decide +kernel) rfl
theorem G1734 : Cond.methodLink "HookedCityModel" 240 ⟨"HookedCityModel", "isPerson", "(I)Z"⟩ ∈ GW := gw_i 1734 (by decide +kernel) rfl
theorem V_HookedCityModel_240 : VL "HookedCityModel" 240 yX12_isPerson cX12_isPerson 2 (some .boolean) 1 := ⟨G1737, G1734, G131, by decide +kernel, by decide +kernel, by decide +kernel⟩
theorem G1736 : Cond.instanceMethod ⟨"HookedCityModel", "isPerson", "(I)Z"⟩ ∈ GW := gw_i 1736 (by decide +kernel) rfl
theorem G68 : Cond.selects "HookedCityModel" ⟨"HookedCityModel", "isPerson", "(I)Z"⟩ ⟨"HookedCityModel", "isPerson", "(I)Z"⟩ ∈ GW := gw_i 68 (by decide +kernel) rfl
theorem dX12_button_23 : decode cX12_button 23 = .ok (.ifCond .eq 15, 3) := by decide +kernel
theorem dX12_button_26 : decode cX12_button 26 = .ok (.aload_n 0, 1) := by decide +kernel
theorem dX12_button_27 : decode cX12_button 27 = .ok (.iload_n 3, 1) := by decide +kernel
theorem dX12_button_28 : decode cX12_button 28 = .ok (.invokevirtual 240, 3) := by decide +kernel
theorem dX12_button_31 : decode cX12_button 31 = .ok (.ifCond .eq 7, 3) := by decide +kernel
theorem dX12_button_34 : decode cX12_button 34 = .ok (.iconst 1, 1) := by decide +kernel
theorem dX12_button_35 : decode cX12_button 35 = .ok (.goto 4, 3) := by decide +kernel
theorem dX12_why_48 : decode cX12_why 48 = .ok (.aload_n 0, 1) := by decide +kernel
theorem dX12_why_49 : decode cX12_why 49 = .ok (.iload_n 2, 1) := by decide +kernel
theorem dX12_why_50 : decode cX12_why 50 = .ok (.invokevirtual 270, 3) := by decide +kernel
theorem dX12_why_53 : decode cX12_why 53 = .ok (.ifCond .eq 7, 3) := by decide +kernel
theorem dX12_why_60 : decode cX12_why 60 = .ok (.aload_n 0, 1) := by decide +kernel
theorem dX12_why_61 : decode cX12_why 61 = .ok (.iload_n 3, 1) := by decide +kernel
theorem dX12_why_62 : decode cX12_why 62 = .ok (.invokevirtual 255, 3) := by decide +kernel
theorem dX12_why_65 : decode cX12_why 65 = .ok (.ifCond .eq 7, 3) := by decide +kernel
theorem dX12_why_72 : decode cX12_why 72 = .ok (.iconst 0, 1) := by decide +kernel
theorem dX12_why_73 : decode cX12_why 73 = .ok (.ireturn, 1) := by decide +kernel
theorem dX12_why_68 : decode cX12_why 68 = .ok (.iconst 2, 1) := by decide +kernel
theorem dX12_why_69 : decode cX12_why 69 = .ok (.goto 4, 3) := by decide +kernel
theorem dX12_why_56 : decode cX12_why 56 = .ok (.iconst 1, 1) := by decide +kernel
theorem dX12_why_57 : decode cX12_why 57 = .ok (.goto 16, 3) := by decide +kernel
theorem dX12_live_75 : decode cX12_live 75 = .ok (.aload_n 0, 1) := by decide +kernel
theorem dX12_live_76 : decode cX12_live 76 = .ok (.iload_n 3, 1) := by decide +kernel
theorem dX12_live_77 : decode cX12_live 77 = .ok (.invokevirtual 277, 3) := by decide +kernel
theorem G1813 : Cond.code ⟨"HookedCityModel", "out", "(I)V"⟩ prog_14_method_60_code 2 none ∈ GW := gw_i 1813 (by decide +kernel) rfl
theorem G1810 : Cond.methodLink "HookedCityModel" 277 ⟨"HookedCityModel", "out", "(I)V"⟩ ∈ GW := gw_i 1810 (by decide +kernel) rfl
theorem V_HookedCityModel_277 : VL "HookedCityModel" 277 yX12_out cX12_out 2 none 1 := ⟨G1813, G1810, G131, by decide +kernel, by decide +kernel, by decide +kernel⟩
theorem G1812 : Cond.instanceMethod ⟨"HookedCityModel", "out", "(I)V"⟩ ∈ GW := gw_i 1812 (by decide +kernel) rfl
theorem G84 : Cond.selects "HookedCityModel" ⟨"HookedCityModel", "out", "(I)V"⟩ ⟨"HookedCityModel", "out", "(I)V"⟩ ∈ GW := gw_i 84 (by decide +kernel) rfl
theorem dX12_live_80 : decode cX12_live 80 = .ok (.aload_n 0, 1) := by decide +kernel
theorem dX12_live_81 : decode cX12_live 81 = .ok (.getfield 98, 3) := by decide +kernel
theorem dX12_live_84 : decode cX12_live 84 = .ok (.bipush 84, 2) := by decide +kernel
theorem dX12_live_86 : decode cX12_live 86 = .ok (.iload_n 2, 1) := by decide +kernel
theorem dX12_live_87 : decode cX12_live 87 = .ok (.iadd, 1) := by decide +kernel
theorem dX12_live_88 : decode cX12_live 88 = .ok (.dup2, 1) := by decide +kernel
theorem dX12_live_89 : decode cX12_live 89 = .ok (.iaload, 1) := by decide +kernel
theorem dX12_live_90 : decode cX12_live 90 = .ok (.iconst 1, 1) := by decide +kernel
theorem dX12_live_91 : decode cX12_live 91 = .ok (.iadd, 1) := by decide +kernel
theorem dX12_live_92 : decode cX12_live 92 = .ok (.iastore, 1) := by decide +kernel
theorem dX12_live_93 : decode cX12_live 93 = .ok (.return_, 1) := by decide +kernel
theorem dX12_loose_0 : decode cX12_loose 0 = .ok (.aload_n 0, 1) := by decide +kernel
theorem dX12_loose_1 : decode cX12_loose 1 = .ok (.iconst 0, 1) := by decide +kernel
theorem dX12_loose_2 : decode cX12_loose 2 = .ok (.putfield 1, 3) := by decide +kernel
theorem dX12_loose_5 : decode cX12_loose 5 = .ok (.aload_n 0, 1) := by decide +kernel
theorem dX12_loose_6 : decode cX12_loose 6 = .ok (.iconst 1, 1) := by decide +kernel
theorem dX12_loose_7 : decode cX12_loose 7 = .ok (.iload_n 1, 1) := by decide +kernel
theorem dX12_loose_8 : decode cX12_loose 8 = .ok (.iload_n 2, 1) := by decide +kernel
theorem dX12_loose_9 : decode cX12_loose 9 = .ok (.iconst 0, 1) := by decide +kernel
theorem dX12_loose_10 : decode cX12_loose 10 = .ok (.aload_n 0, 1) := by decide +kernel
theorem dX12_loose_11 : decode cX12_loose 11 = .ok (.iload_n 1, 1) := by decide +kernel
theorem dX12_loose_12 : decode cX12_loose 12 = .ok (.invokevirtual 252, 3) := by decide +kernel
theorem dX12_loose_15 : decode cX12_loose 15 = .ok (.ifCond .eq 15, 3) := by decide +kernel
theorem dX12_loose_30 : decode cX12_loose 30 = .ok (.iconst 0, 1) := by decide +kernel
theorem dX12_loose_31 : decode cX12_loose 31 = .ok (.invokevirtual 291, 3) := by decide +kernel
theorem dX12_loose_34 : decode cX12_loose 34 = .ok (.ireturn, 1) := by decide +kernel
theorem dX12_loose_18 : decode cX12_loose 18 = .ok (.aload_n 0, 1) := by decide +kernel
theorem dX12_loose_19 : decode cX12_loose 19 = .ok (.iload_n 2, 1) := by decide +kernel
theorem dX12_loose_20 : decode cX12_loose 20 = .ok (.invokevirtual 240, 3) := by decide +kernel
theorem dX12_loose_23 : decode cX12_loose 23 = .ok (.ifCond .eq 7, 3) := by decide +kernel
theorem dX12_loose_26 : decode cX12_loose 26 = .ok (.iconst 1, 1) := by decide +kernel
theorem dX12_loose_27 : decode cX12_loose 27 = .ok (.goto 4, 3) := by decide +kernel
theorem dX12_why_74 : decode cX12_why 74 = .ok (.aload_n 0, 1) := by decide +kernel
theorem dX12_why_75 : decode cX12_why 75 = .ok (.getfield 98, 3) := by decide +kernel
theorem dX12_why_78 : decode cX12_why 78 = .ok (.bipush 75, 2) := by decide +kernel
theorem dX12_why_80 : decode cX12_why 80 = .ok (.iload_n 2, 1) := by decide +kernel
theorem dX12_why_81 : decode cX12_why 81 = .ok (.iadd, 1) := by decide +kernel
theorem dX12_why_82 : decode cX12_why 82 = .ok (.iaload, 1) := by decide +kernel
theorem dX12_why_83 : decode cX12_why 83 = .ok (.aload_n 0, 1) := by decide +kernel
theorem dX12_why_84 : decode cX12_why 84 = .ok (.getfield 98, 3) := by decide +kernel
theorem dX12_why_87 : decode cX12_why 87 = .ok (.bipush 23, 2) := by decide +kernel
theorem dX12_why_89 : decode cX12_why 89 = .ok (.iload_n 2, 1) := by decide +kernel
theorem dX12_why_90 : decode cX12_why 90 = .ok (.iadd, 1) := by decide +kernel
theorem dX12_why_91 : decode cX12_why 91 = .ok (.iaload, 1) := by decide +kernel
theorem dX12_why_92 : decode cX12_why 92 = .ok (.if_icmp .ne 7, 3) := by decide +kernel
theorem dX12_why_99 : decode cX12_why 99 = .ok (.aload_n 0, 1) := by decide +kernel
theorem dX12_why_100 : decode cX12_why 100 = .ok (.getfield 98, 3) := by decide +kernel
theorem dX12_why_103 : decode cX12_why 103 = .ok (.bipush 54, 2) := by decide +kernel
theorem dX12_why_105 : decode cX12_why 105 = .ok (.iaload, 1) := by decide +kernel
theorem dX12_why_106 : decode cX12_why 106 = .ok (.ifCond .ne 7, 3) := by decide +kernel
theorem dX12_why_113 : decode cX12_why 113 = .ok (.iconst 0, 1) := by decide +kernel
theorem dX12_why_114 : decode cX12_why 114 = .ok (.ireturn, 1) := by decide +kernel
theorem dX12_why_109 : decode cX12_why 109 = .ok (.iconst 2, 1) := by decide +kernel
theorem dX12_why_110 : decode cX12_why 110 = .ok (.goto 4, 3) := by decide +kernel
theorem dX12_why_95 : decode cX12_why 95 = .ok (.iconst 1, 1) := by decide +kernel
theorem dX12_why_96 : decode cX12_why 96 = .ok (.goto 18, 3) := by decide +kernel
theorem dX12_live_94 : decode cX12_live 94 = .ok (.aload_n 0, 1) := by decide +kernel
theorem dX12_live_95 : decode cX12_live 95 = .ok (.getfield 98, 3) := by decide +kernel
theorem dX12_live_98 : decode cX12_live 98 = .ok (.bipush 75, 2) := by decide +kernel
theorem dX12_live_100 : decode cX12_live 100 = .ok (.iload_n 2, 1) := by decide +kernel
theorem dX12_live_101 : decode cX12_live 101 = .ok (.iadd, 1) := by decide +kernel
theorem dX12_live_102 : decode cX12_live 102 = .ok (.aload_n 0, 1) := by decide +kernel
theorem dX12_live_103 : decode cX12_live 103 = .ok (.getfield 98, 3) := by decide +kernel
theorem dX12_live_106 : decode cX12_live 106 = .ok (.bipush 23, 2) := by decide +kernel
theorem dX12_live_108 : decode cX12_live 108 = .ok (.iload_n 2, 1) := by decide +kernel
theorem dX12_live_109 : decode cX12_live 109 = .ok (.iadd, 1) := by decide +kernel
theorem dX12_live_110 : decode cX12_live 110 = .ok (.iaload, 1) := by decide +kernel
theorem dX12_live_111 : decode cX12_live 111 = .ok (.iastore, 1) := by decide +kernel
theorem dX12_live_112 : decode cX12_live 112 = .ok (.aload_n 0, 1) := by decide +kernel
theorem dX12_live_113 : decode cX12_live 113 = .ok (.getfield 98, 3) := by decide +kernel
theorem dX12_live_116 : decode cX12_live 116 = .ok (.bipush 54, 2) := by decide +kernel
theorem dX12_live_118 : decode cX12_live 118 = .ok (.dup2, 1) := by decide +kernel
theorem dX12_live_119 : decode cX12_live 119 = .ok (.iaload, 1) := by decide +kernel
theorem dX12_live_120 : decode cX12_live 120 = .ok (.iconst 1, 1) := by decide +kernel
theorem dX12_live_121 : decode cX12_live 121 = .ok (.isub, 1) := by decide +kernel
theorem dX12_live_122 : decode cX12_live 122 = .ok (.iastore, 1) := by decide +kernel
theorem dX12_live_123 : decode cX12_live 123 = .ok (.return_, 1) := by decide +kernel
theorem dX12_mend_0 : decode cX12_mend 0 = .ok (.aload_n 0, 1) := by decide +kernel
theorem dX12_mend_1 : decode cX12_mend 1 = .ok (.iconst 0, 1) := by decide +kernel
theorem dX12_mend_2 : decode cX12_mend 2 = .ok (.putfield 1, 3) := by decide +kernel
theorem dX12_mend_5 : decode cX12_mend 5 = .ok (.aload_n 0, 1) := by decide +kernel
theorem dX12_mend_6 : decode cX12_mend 6 = .ok (.iconst 2, 1) := by decide +kernel
theorem dX12_mend_7 : decode cX12_mend 7 = .ok (.iload_n 1, 1) := by decide +kernel
theorem dX12_mend_8 : decode cX12_mend 8 = .ok (.iconst 0, 1) := by decide +kernel
theorem dX12_mend_9 : decode cX12_mend 9 = .ok (.iconst 0, 1) := by decide +kernel
theorem dX12_mend_10 : decode cX12_mend 10 = .ok (.aload_n 0, 1) := by decide +kernel
theorem dX12_mend_11 : decode cX12_mend 11 = .ok (.iload_n 1, 1) := by decide +kernel
theorem dX12_mend_12 : decode cX12_mend 12 = .ok (.invokevirtual 240, 3) := by decide +kernel
theorem dX12_mend_15 : decode cX12_mend 15 = .ok (.invokevirtual 291, 3) := by decide +kernel
theorem dX12_mend_18 : decode cX12_mend 18 = .ok (.ireturn, 1) := by decide +kernel
theorem dX12_wears_0 : decode cX12_wears 0 = .ok (.iconst 0, 1) := by decide +kernel
theorem dX12_wears_1 : decode cX12_wears 1 = .ok (.istore_n 1, 1) := by decide +kernel
theorem dX12_wears_2 : decode cX12_wears 2 = .ok (.iload_n 1, 1) := by decide +kernel
theorem dX12_wears_3 : decode cX12_wears 3 = .ok (.aload_n 0, 1) := by decide +kernel
theorem dX12_wears_4 : decode cX12_wears 4 = .ok (.getfield 98, 3) := by decide +kernel
theorem dX12_wears_7 : decode cX12_wears 7 = .ok (.iconst 0, 1) := by decide +kernel
theorem dX12_wears_8 : decode cX12_wears 8 = .ok (.iaload, 1) := by decide +kernel
theorem dX12_wears_9 : decode cX12_wears 9 = .ok (.if_icmp .ge 68, 3) := by decide +kernel
theorem dX12_wears_77 : decode cX12_wears 77 = .ok (.return_, 1) := by decide +kernel
theorem dX12_wears_12 : decode cX12_wears 12 = .ok (.aload_n 0, 1) := by decide +kernel
theorem dX12_wears_13 : decode cX12_wears 13 = .ok (.iload_n 1, 1) := by decide +kernel
theorem dX12_wears_14 : decode cX12_wears 14 = .ok (.invokevirtual 261, 3) := by decide +kernel
theorem dX12_wears_17 : decode cX12_wears 17 = .ok (.ifCond .eq 6, 3) := by decide +kernel
theorem dX12_wears_23 : decode cX12_wears 23 = .ok (.aload_n 0, 1) := by decide +kernel
theorem dX12_wears_24 : decode cX12_wears 24 = .ok (.getfield 98, 3) := by decide +kernel
theorem dX12_wears_27 : decode cX12_wears 27 = .ok (.bipush 75, 2) := by decide +kernel
theorem dX12_wears_29 : decode cX12_wears 29 = .ok (.iload_n 1, 1) := by decide +kernel
theorem dX12_wears_30 : decode cX12_wears 30 = .ok (.iadd, 1) := by decide +kernel
theorem dX12_wears_31 : decode cX12_wears 31 = .ok (.dup2, 1) := by decide +kernel
theorem dX12_wears_32 : decode cX12_wears 32 = .ok (.iaload, 1) := by decide +kernel
theorem dX12_wears_33 : decode cX12_wears 33 = .ok (.iconst 1, 1) := by decide +kernel
theorem dX12_wears_34 : decode cX12_wears 34 = .ok (.isub, 1) := by decide +kernel
theorem dX12_wears_35 : decode cX12_wears 35 = .ok (.iastore, 1) := by decide +kernel
theorem dX12_wears_36 : decode cX12_wears 36 = .ok (.aload_n 0, 1) := by decide +kernel
theorem dX12_wears_37 : decode cX12_wears 37 = .ok (.iload_n 1, 1) := by decide +kernel
theorem dX12_wears_38 : decode cX12_wears 38 = .ok (.invokevirtual 264, 3) := by decide +kernel
theorem dX12_wears_41 : decode cX12_wears 41 = .ok (.ifCond .ne 6, 3) := by decide +kernel
theorem dX12_wears_47 : decode cX12_wears 47 = .ok (.aload_n 0, 1) := by decide +kernel
theorem dX12_wears_48 : decode cX12_wears 48 = .ok (.aload_n 0, 1) := by decide +kernel
theorem dX12_wears_49 : decode cX12_wears 49 = .ok (.getfield 98, 3) := by decide +kernel
theorem dX12_wears_52 : decode cX12_wears 52 = .ok (.bipush 66, 2) := by decide +kernel
theorem dX12_wears_54 : decode cX12_wears 54 = .ok (.iload_n 1, 1) := by decide +kernel
theorem dX12_wears_55 : decode cX12_wears 55 = .ok (.iadd, 1) := by decide +kernel
theorem dX12_wears_56 : decode cX12_wears 56 = .ok (.iaload, 1) := by decide +kernel
theorem dX12_wears_57 : decode cX12_wears 57 = .ok (.invokevirtual 277, 3) := by decide +kernel
theorem dX12_wears_60 : decode cX12_wears 60 = .ok (.aload_n 0, 1) := by decide +kernel
theorem dX12_wears_61 : decode cX12_wears 61 = .ok (.getfield 98, 3) := by decide +kernel
theorem dX12_wears_64 : decode cX12_wears 64 = .ok (.bipush 56, 2) := by decide +kernel
theorem dX12_wears_66 : decode cX12_wears 66 = .ok (.dup2, 1) := by decide +kernel
theorem dX12_wears_67 : decode cX12_wears 67 = .ok (.iaload, 1) := by decide +kernel
theorem dX12_wears_68 : decode cX12_wears 68 = .ok (.iconst 1, 1) := by decide +kernel
theorem dX12_wears_69 : decode cX12_wears 69 = .ok (.iadd, 1) := by decide +kernel
theorem dX12_wears_70 : decode cX12_wears 70 = .ok (.iastore, 1) := by decide +kernel
theorem dX12_wears_71 : decode cX12_wears 71 = .ok (.iinc 1 1, 3) := by decide +kernel
theorem dX12_wears_74 : decode cX12_wears 74 = .ok (.goto (-72), 3) := by decide +kernel
theorem dX12_wears_44 : decode cX12_wears 44 = .ok (.goto 27, 3) := by decide +kernel
theorem dX12_wears_20 : decode cX12_wears 20 = .ok (.goto 51, 3) := by decide +kernel
theorem dX12_oneDay_0 : decode cX12_oneDay 0 = .ok (.aload_n 0, 1) := by decide +kernel
theorem dX12_oneDay_1 : decode cX12_oneDay 1 = .ok (.invokevirtual 267, 3) := by decide +kernel
theorem dX12_oneDay_4 : decode cX12_oneDay 4 = .ok (.ifCond .eq 7, 3) := by decide +kernel
theorem dX12_oneDay_11 : decode cX12_oneDay 11 = .ok (.iconst 0, 1) := by decide +kernel
theorem dX12_oneDay_12 : decode cX12_oneDay 12 = .ok (.istore_n 1, 1) := by decide +kernel
theorem dX12_oneDay_13 : decode cX12_oneDay 13 = .ok (.iload_n 1, 1) := by decide +kernel
theorem dX12_oneDay_14 : decode cX12_oneDay 14 = .ok (.iconst 3, 1) := by decide +kernel
theorem dX12_oneDay_15 : decode cX12_oneDay 15 = .ok (.if_icmp .ge 19, 3) := by decide +kernel
theorem dX12_oneDay_34 : decode cX12_oneDay 34 = .ok (.aload_n 0, 1) := by decide +kernel
theorem dX12_oneDay_35 : decode cX12_oneDay 35 = .ok (.getfield 98, 3) := by decide +kernel
theorem dX12_oneDay_38 : decode cX12_oneDay 38 = .ok (.bipush 53, 2) := by decide +kernel
theorem dX12_oneDay_40 : decode cX12_oneDay 40 = .ok (.dup2, 1) := by decide +kernel
theorem dX12_oneDay_41 : decode cX12_oneDay 41 = .ok (.iaload, 1) := by decide +kernel
theorem dX12_oneDay_42 : decode cX12_oneDay 42 = .ok (.iconst 1, 1) := by decide +kernel
theorem dX12_oneDay_43 : decode cX12_oneDay 43 = .ok (.iadd, 1) := by decide +kernel
theorem dX12_oneDay_44 : decode cX12_oneDay 44 = .ok (.iastore, 1) := by decide +kernel
theorem dX12_oneDay_45 : decode cX12_oneDay 45 = .ok (.return_, 1) := by decide +kernel
theorem dX12_oneDay_18 : decode cX12_oneDay 18 = .ok (.aload_n 0, 1) := by decide +kernel
theorem dX12_oneDay_19 : decode cX12_oneDay 19 = .ok (.getfield 98, 3) := by decide +kernel
theorem dX12_oneDay_22 : decode cX12_oneDay 22 = .ok (.bipush 84, 2) := by decide +kernel
theorem dX12_oneDay_24 : decode cX12_oneDay 24 = .ok (.iload_n 1, 1) := by decide +kernel
theorem dX12_oneDay_25 : decode cX12_oneDay 25 = .ok (.iadd, 1) := by decide +kernel
theorem dX12_oneDay_26 : decode cX12_oneDay 26 = .ok (.iconst 0, 1) := by decide +kernel
theorem dX12_oneDay_27 : decode cX12_oneDay 27 = .ok (.iastore, 1) := by decide +kernel
theorem dX12_oneDay_28 : decode cX12_oneDay 28 = .ok (.iinc 1 1, 3) := by decide +kernel
theorem dX12_oneDay_31 : decode cX12_oneDay 31 = .ok (.goto (-18), 3) := by decide +kernel
theorem dX12_oneDay_7 : decode cX12_oneDay 7 = .ok (.aload_n 0, 1) := by decide +kernel
theorem dX12_oneDay_8 : decode cX12_oneDay 8 = .ok (.invokevirtual 295, 3) := by decide +kernel
theorem G1844 : Cond.code ⟨"HookedCityModel", "wears", "()V"⟩ prog_14_method_67_code 2 none ∈ GW := gw_i 1844 (by decide +kernel) rfl
theorem G1841 : Cond.methodLink "HookedCityModel" 295 ⟨"HookedCityModel", "wears", "()V"⟩ ∈ GW := gw_i 1841 (by decide +kernel) rfl
theorem V_HookedCityModel_295 : VL "HookedCityModel" 295 yX12_wears cX12_wears 2 none 0 := ⟨G1844, G1841, G131, by decide +kernel, by decide +kernel, by decide +kernel⟩
theorem G1843 : Cond.instanceMethod ⟨"HookedCityModel", "wears", "()V"⟩ ∈ GW := gw_i 1843 (by decide +kernel) rfl
theorem G87 : Cond.selects "HookedCityModel" ⟨"HookedCityModel", "wears", "()V"⟩ ⟨"HookedCityModel", "wears", "()V"⟩ ∈ GW := gw_i 87 (by decide +kernel) rfl
theorem dX12_passDays_0 : decode cX12_passDays 0 = .ok (.iload_n 1, 1) := by decide +kernel
theorem dX12_passDays_1 : decode cX12_passDays 1 = .ok (.sipush 400, 3) := by decide +kernel
theorem dX12_passDays_4 : decode cX12_passDays 4 = .ok (.aload_n 0, 1) := by decide +kernel
theorem dX12_passDays_5 : decode cX12_passDays 5 = .ok (.getfield 98, 3) := by decide +kernel
theorem dX12_passDays_8 : decode cX12_passDays 8 = .ok (.bipush 53, 2) := by decide +kernel
theorem dX12_passDays_10 : decode cX12_passDays 10 = .ok (.iaload, 1) := by decide +kernel
theorem dX12_passDays_11 : decode cX12_passDays 11 = .ok (.isub, 1) := by decide +kernel
theorem dX12_passDays_12 : decode cX12_passDays 12 = .ok (.invokestatic 298, 3) := by decide +kernel
theorem G1836 : Cond.code ⟨"HookedCityModel", "least", "(II)I"⟩ prog_14_method_10_code 2 (some .int) ∈ GW := gw_i 1836 (by decide +kernel) rfl
theorem G1834 : Cond.methodLink "HookedCityModel" 298 ⟨"HookedCityModel", "least", "(II)I"⟩ ∈ GW := gw_i 1834 (by decide +kernel) rfl
theorem V_HookedCityModel_298 : VL "HookedCityModel" 298 yX12_least cX12_least 2 (some .int) 2 := ⟨G1836, G1834, G131, by decide +kernel, by decide +kernel, by decide +kernel⟩
theorem G1835 : Cond.static ⟨"HookedCityModel", "least", "(II)I"⟩ ∈ GW := gw_i 1835 (by decide +kernel) rfl
theorem dX12_passDays_15 : decode cX12_passDays 15 = .ok (.istore_n 2, 1) := by decide +kernel
theorem dX12_passDays_16 : decode cX12_passDays 16 = .ok (.iconst 0, 1) := by decide +kernel
theorem dX12_passDays_17 : decode cX12_passDays 17 = .ok (.istore_n 3, 1) := by decide +kernel
theorem dX12_passDays_18 : decode cX12_passDays 18 = .ok (.iload_n 3, 1) := by decide +kernel
theorem dX12_passDays_19 : decode cX12_passDays 19 = .ok (.iload_n 2, 1) := by decide +kernel
theorem dX12_passDays_20 : decode cX12_passDays 20 = .ok (.if_icmp .ge 13, 3) := by decide +kernel
theorem dX12_passDays_33 : decode cX12_passDays 33 = .ok (.iload_n 2, 1) := by decide +kernel
theorem dX12_passDays_34 : decode cX12_passDays 34 = .ok (.ireturn, 1) := by decide +kernel
theorem dX12_passDays_23 : decode cX12_passDays 23 = .ok (.aload_n 0, 1) := by decide +kernel
theorem dX12_passDays_24 : decode cX12_passDays 24 = .ok (.invokevirtual 301, 3) := by decide +kernel
theorem G1840 : Cond.code ⟨"HookedCityModel", "oneDay", "()V"⟩ prog_14_method_68_code 2 none ∈ GW := gw_i 1840 (by decide +kernel) rfl
theorem G1837 : Cond.methodLink "HookedCityModel" 301 ⟨"HookedCityModel", "oneDay", "()V"⟩ ∈ GW := gw_i 1837 (by decide +kernel) rfl
theorem V_HookedCityModel_301 : VL "HookedCityModel" 301 yX12_oneDay cX12_oneDay 2 none 0 := ⟨G1840, G1837, G131, by decide +kernel, by decide +kernel, by decide +kernel⟩
theorem G1839 : Cond.instanceMethod ⟨"HookedCityModel", "oneDay", "()V"⟩ ∈ GW := gw_i 1839 (by decide +kernel) rfl
theorem G86 : Cond.selects "HookedCityModel" ⟨"HookedCityModel", "oneDay", "()V"⟩ ⟨"HookedCityModel", "oneDay", "()V"⟩ ∈ GW := gw_i 86 (by decide +kernel) rfl
theorem dX12_passDays_27 : decode cX12_passDays 27 = .ok (.iinc 3 1, 3) := by decide +kernel
theorem dX12_passDays_30 : decode cX12_passDays 30 = .ok (.goto (-12), 3) := by decide +kernel
theorem dX12_days_0 : decode cX12_days 0 = .ok (.aload_n 0, 1) := by decide +kernel
theorem dX12_days_1 : decode cX12_days 1 = .ok (.iconst 0, 1) := by decide +kernel
theorem dX12_days_2 : decode cX12_days 2 = .ok (.putfield 1, 3) := by decide +kernel
theorem dX12_days_5 : decode cX12_days 5 = .ok (.iload_n 1, 1) := by decide +kernel
theorem dX12_days_6 : decode cX12_days 6 = .ok (.iconst 1, 1) := by decide +kernel
theorem dX12_days_7 : decode cX12_days 7 = .ok (.bipush 60, 2) := by decide +kernel
theorem dX12_days_9 : decode cX12_days 9 = .ok (.invokestatic 75, 3) := by decide +kernel
theorem dX12_days_12 : decode cX12_days 12 = .ok (.ifCond .ne 5, 3) := by decide +kernel
theorem dX12_days_15 : decode cX12_days 15 = .ok (.iconst (-1), 1) := by decide +kernel
theorem dX12_days_16 : decode cX12_days 16 = .ok (.ireturn, 1) := by decide +kernel
theorem dX12_days_17 : decode cX12_days 17 = .ok (.aload_n 0, 1) := by decide +kernel
theorem dX12_days_18 : decode cX12_days 18 = .ok (.getfield 98, 3) := by decide +kernel
theorem dX12_days_21 : decode cX12_days 21 = .ok (.bipush 53, 2) := by decide +kernel
theorem dX12_days_23 : decode cX12_days 23 = .ok (.iaload, 1) := by decide +kernel
theorem dX12_days_24 : decode cX12_days 24 = .ok (.sipush 400, 3) := by decide +kernel
theorem dX12_days_27 : decode cX12_days 27 = .ok (.if_icmp .ne 5, 3) := by decide +kernel
theorem dX12_days_32 : decode cX12_days 32 = .ok (.aload_n 0, 1) := by decide +kernel
theorem dX12_days_33 : decode cX12_days 33 = .ok (.invokevirtual 284, 3) := by decide +kernel
theorem dX12_days_36 : decode cX12_days 36 = .ok (.aload_n 0, 1) := by decide +kernel
theorem dX12_days_37 : decode cX12_days 37 = .ok (.iload_n 1, 1) := by decide +kernel
theorem dX12_days_38 : decode cX12_days 38 = .ok (.invokevirtual 304, 3) := by decide +kernel
theorem G1833 : Cond.code ⟨"HookedCityModel", "passDays", "(I)I"⟩ prog_14_method_69_code 4 (some .int) ∈ GW := gw_i 1833 (by decide +kernel) rfl
theorem G1830 : Cond.methodLink "HookedCityModel" 304 ⟨"HookedCityModel", "passDays", "(I)I"⟩ ∈ GW := gw_i 1830 (by decide +kernel) rfl
theorem V_HookedCityModel_304 : VL "HookedCityModel" 304 yX12_passDays cX12_passDays 4 (some .int) 1 := ⟨G1833, G1830, G131, by decide +kernel, by decide +kernel, by decide +kernel⟩
theorem G1832 : Cond.instanceMethod ⟨"HookedCityModel", "passDays", "(I)I"⟩ ∈ GW := gw_i 1832 (by decide +kernel) rfl
theorem G85 : Cond.selects "HookedCityModel" ⟨"HookedCityModel", "passDays", "(I)I"⟩ ⟨"HookedCityModel", "passDays", "(I)I"⟩ ∈ GW := gw_i 85 (by decide +kernel) rfl
theorem dX12_days_41 : decode cX12_days 41 = .ok (.ireturn, 1) := by decide +kernel
theorem dX12_days_30 : decode cX12_days 30 = .ok (.iconst 0, 1) := by decide +kernel
theorem dX12_days_31 : decode cX12_days 31 = .ok (.ireturn, 1) := by decide +kernel
theorem dX12_undo_0 : decode cX12_undo 0 = .ok (.aload_n 0, 1) := by decide +kernel
theorem dX12_undo_1 : decode cX12_undo 1 = .ok (.iconst 0, 1) := by decide +kernel
theorem dX12_undo_2 : decode cX12_undo 2 = .ok (.putfield 1, 3) := by decide +kernel
theorem dX12_undo_5 : decode cX12_undo 5 = .ok (.aload_n 0, 1) := by decide +kernel
theorem dX12_undo_6 : decode cX12_undo 6 = .ok (.getfield 233, 3) := by decide +kernel
theorem dX12_undo_9 : decode cX12_undo 9 = .ok (.ifCond .ne 5, 3) := by decide +kernel
theorem dX12_undo_14 : decode cX12_undo 14 = .ok (.aload_n 0, 1) := by decide +kernel
theorem dX12_undo_15 : decode cX12_undo 15 = .ok (.dup, 1) := by decide +kernel
theorem dX12_undo_16 : decode cX12_undo 16 = .ok (.getfield 233, 3) := by decide +kernel
theorem dX12_undo_19 : decode cX12_undo 19 = .ok (.iconst 1, 1) := by decide +kernel
theorem dX12_undo_20 : decode cX12_undo 20 = .ok (.isub, 1) := by decide +kernel
theorem dX12_undo_21 : decode cX12_undo 21 = .ok (.putfield 233, 3) := by decide +kernel
theorem dX12_undo_24 : decode cX12_undo 24 = .ok (.iconst 0, 1) := by decide +kernel
theorem dX12_undo_25 : decode cX12_undo 25 = .ok (.istore_n 1, 1) := by decide +kernel
theorem dX12_undo_26 : decode cX12_undo 26 = .ok (.iload_n 1, 1) := by decide +kernel
theorem dX12_undo_27 : decode cX12_undo 27 = .ok (.bipush 34, 2) := by decide +kernel
theorem dX12_undo_29 : decode cX12_undo 29 = .ok (.if_icmp .ge 32, 3) := by decide +kernel
theorem dX12_undo_61 : decode cX12_undo 61 = .ok (.aload_n 0, 1) := by decide +kernel
theorem dX12_undo_62 : decode cX12_undo 62 = .ok (.getfield 233, 3) := by decide +kernel
theorem dX12_undo_65 : decode cX12_undo 65 = .ok (.ireturn, 1) := by decide +kernel
theorem dX12_undo_32 : decode cX12_undo 32 = .ok (.aload_n 0, 1) := by decide +kernel
theorem dX12_undo_33 : decode cX12_undo 33 = .ok (.getfield 98, 3) := by decide +kernel
theorem dX12_undo_36 : decode cX12_undo 36 = .ok (.bipush 53, 2) := by decide +kernel
theorem dX12_undo_38 : decode cX12_undo 38 = .ok (.iload_n 1, 1) := by decide +kernel
theorem dX12_undo_39 : decode cX12_undo 39 = .ok (.iadd, 1) := by decide +kernel
theorem dX12_undo_40 : decode cX12_undo 40 = .ok (.aload_n 0, 1) := by decide +kernel
theorem dX12_undo_41 : decode cX12_undo 41 = .ok (.getfield 107, 3) := by decide +kernel
theorem dX12_undo_44 : decode cX12_undo 44 = .ok (.bipush 34, 2) := by decide +kernel
theorem dX12_undo_46 : decode cX12_undo 46 = .ok (.aload_n 0, 1) := by decide +kernel
theorem dX12_undo_47 : decode cX12_undo 47 = .ok (.getfield 233, 3) := by decide +kernel
theorem dX12_undo_50 : decode cX12_undo 50 = .ok (.imul, 1) := by decide +kernel
theorem dX12_undo_51 : decode cX12_undo 51 = .ok (.iload_n 1, 1) := by decide +kernel
theorem dX12_undo_52 : decode cX12_undo 52 = .ok (.iadd, 1) := by decide +kernel
theorem dX12_undo_53 : decode cX12_undo 53 = .ok (.iaload, 1) := by decide +kernel
theorem dX12_undo_54 : decode cX12_undo 54 = .ok (.iastore, 1) := by decide +kernel
theorem dX12_undo_55 : decode cX12_undo 55 = .ok (.iinc 1 1, 3) := by decide +kernel
theorem dX12_undo_58 : decode cX12_undo 58 = .ok (.goto (-32), 3) := by decide +kernel
theorem dX12_undo_12 : decode cX12_undo 12 = .ok (.iconst (-1), 1) := by decide +kernel
theorem dX12_undo_13 : decode cX12_undo 13 = .ok (.ireturn, 1) := by decide +kernel
theorem dX12_draw_0 : decode cX12_draw 0 = .ok (.aload_n 0, 1) := by decide +kernel
theorem dX12_draw_1 : decode cX12_draw 1 = .ok (.aload_n 0, 1) := by decide +kernel
theorem dX12_draw_2 : decode cX12_draw 2 = .ok (.getfield 351, 3) := by decide +kernel
theorem G1503 : Cond.fieldLink "HookedCityModel" 351 "HookedCityModel" "seed" "I" ∈ GW := gw_i 1503 (by decide +kernel) rfl
theorem dX12_draw_5 : decode cX12_draw 5 = .ok (.ldc_w 354, 3) := by decide +kernel
theorem G1966 : Cond.constant "HookedCityModel" 354 1103515245 ∈ GW := gw_i 1966 (by decide +kernel) rfl
theorem dX12_draw_8 : decode cX12_draw 8 = .ok (.imul, 1) := by decide +kernel
theorem dX12_draw_9 : decode cX12_draw 9 = .ok (.sipush 12345, 3) := by decide +kernel
theorem dX12_draw_12 : decode cX12_draw 12 = .ok (.iadd, 1) := by decide +kernel
theorem dX12_draw_13 : decode cX12_draw 13 = .ok (.putfield 351, 3) := by decide +kernel
theorem dX12_draw_16 : decode cX12_draw 16 = .ok (.aload_n 0, 1) := by decide +kernel
theorem dX12_draw_17 : decode cX12_draw 17 = .ok (.getfield 351, 3) := by decide +kernel
theorem dX12_draw_20 : decode cX12_draw 20 = .ok (.bipush 8, 2) := by decide +kernel
theorem dX12_draw_22 : decode cX12_draw 22 = .ok (.iushr, 1) := by decide +kernel
theorem dX12_draw_23 : decode cX12_draw 23 = .ok (.iload_n 1, 1) := by decide +kernel
theorem dX12_draw_24 : decode cX12_draw 24 = .ok (.irem, 1) := by decide +kernel
theorem dX12_draw_25 : decode cX12_draw 25 = .ok (.ireturn, 1) := by decide +kernel
theorem dX12_drawsFor_0 : decode cX12_drawsFor 0 = .ok (.aload_n 0, 1) := by decide +kernel
theorem dX12_drawsFor_1 : decode cX12_drawsFor 1 = .ok (.iconst 4, 1) := by decide +kernel
theorem dX12_drawsFor_2 : decode cX12_drawsFor 2 = .ok (.invokevirtual 355, 3) := by decide +kernel
theorem G1965 : Cond.code ⟨"HookedCityModel", "draw", "(I)I"⟩ prog_14_method_96_code 2 (some .int) ∈ GW := gw_i 1965 (by decide +kernel) rfl
theorem G1962 : Cond.methodLink "HookedCityModel" 355 ⟨"HookedCityModel", "draw", "(I)I"⟩ ∈ GW := gw_i 1962 (by decide +kernel) rfl
theorem V_HookedCityModel_355 : VL "HookedCityModel" 355 yX12_draw cX12_draw 2 (some .int) 1 := ⟨G1965, G1962, G131, by decide +kernel, by decide +kernel, by decide +kernel⟩
theorem G1964 : Cond.instanceMethod ⟨"HookedCityModel", "draw", "(I)I"⟩ ∈ GW := gw_i 1964 (by decide +kernel) rfl
theorem G100 : Cond.selects "HookedCityModel" ⟨"HookedCityModel", "draw", "(I)I"⟩ ⟨"HookedCityModel", "draw", "(I)I"⟩ ∈ GW := gw_i 100 (by decide +kernel) rfl
theorem dX12_drawsFor_5 : decode cX12_drawsFor 5 = .ok (.ifCond .ne 7, 3) := by decide +kernel
theorem dX12_drawsFor_12 : decode cX12_drawsFor 12 = .ok (.iconst 0, 1) := by decide +kernel
theorem dX12_drawsFor_13 : decode cX12_drawsFor 13 = .ok (.istore_n 2, 1) := by decide +kernel
theorem dX12_drawsFor_14 : decode cX12_drawsFor 14 = .ok (.aload_n 0, 1) := by decide +kernel
theorem dX12_drawsFor_15 : decode cX12_drawsFor 15 = .ok (.getfield 98, 3) := by decide +kernel
theorem dX12_drawsFor_18 : decode cX12_drawsFor 18 = .ok (.iconst 0, 1) := by decide +kernel
theorem dX12_drawsFor_19 : decode cX12_drawsFor 19 = .ok (.iaload, 1) := by decide +kernel
theorem dX12_drawsFor_20 : decode cX12_drawsFor 20 = .ok (.ifCond .ne 4, 3) := by decide +kernel
theorem dX12_drawsFor_24 : decode cX12_drawsFor 24 = .ok (.aload_n 0, 1) := by decide +kernel
theorem dX12_drawsFor_25 : decode cX12_drawsFor 25 = .ok (.aload_n 0, 1) := by decide +kernel
theorem dX12_drawsFor_26 : decode cX12_drawsFor 26 = .ok (.getfield 98, 3) := by decide +kernel
theorem dX12_drawsFor_29 : decode cX12_drawsFor 29 = .ok (.iconst 0, 1) := by decide +kernel
theorem dX12_drawsFor_30 : decode cX12_drawsFor 30 = .ok (.iaload, 1) := by decide +kernel
theorem dX12_drawsFor_31 : decode cX12_drawsFor 31 = .ok (.invokevirtual 355, 3) := by decide +kernel
theorem dX12_drawsFor_34 : decode cX12_drawsFor 34 = .ok (.istore_n 3, 1) := by decide +kernel
theorem dX12_drawsFor_35 : decode cX12_drawsFor 35 = .ok (.iload_n 2, 1) := by decide +kernel
theorem dX12_drawsFor_36 : decode cX12_drawsFor 36 = .ok (.ifCond .ne 16, 3) := by decide +kernel
theorem dX12_drawsFor_39 : decode cX12_drawsFor 39 = .ok (.aload_n 0, 1) := by decide +kernel
theorem dX12_drawsFor_40 : decode cX12_drawsFor 40 = .ok (.aload_n 0, 1) := by decide +kernel
theorem dX12_drawsFor_41 : decode cX12_drawsFor 41 = .ok (.getfield 98, 3) := by decide +kernel
theorem dX12_drawsFor_44 : decode cX12_drawsFor 44 = .ok (.iconst 0, 1) := by decide +kernel
theorem dX12_drawsFor_45 : decode cX12_drawsFor 45 = .ok (.iaload, 1) := by decide +kernel
theorem dX12_drawsFor_46 : decode cX12_drawsFor 46 = .ok (.invokevirtual 355, 3) := by decide +kernel
theorem dX12_drawsFor_49 : decode cX12_drawsFor 49 = .ok (.goto 4, 3) := by decide +kernel
theorem dX12_drawsFor_53 : decode cX12_drawsFor 53 = .ok (.istore 4, 2) := by decide +kernel
theorem dX12_drawsFor_55 : decode cX12_drawsFor 55 = .ok (.aload_n 0, 1) := by decide +kernel
theorem dX12_drawsFor_56 : decode cX12_drawsFor 56 = .ok (.iload_n 2, 1) := by decide +kernel
theorem dX12_drawsFor_57 : decode cX12_drawsFor 57 = .ok (.iload_n 1, 1) := by decide +kernel
theorem dX12_drawsFor_58 : decode cX12_drawsFor 58 = .ok (.iload_n 3, 1) := by decide +kernel
theorem dX12_drawsFor_59 : decode cX12_drawsFor 59 = .ok (.iload 4, 2) := by decide +kernel
theorem dX12_drawsFor_61 : decode cX12_drawsFor 61 = .ok (.invokevirtual 280, 3) := by decide +kernel
theorem dX12_drawsFor_64 : decode cX12_drawsFor 64 = .ok (.ifCond .ne 12, 3) := by decide +kernel
theorem dX12_drawsFor_76 : decode cX12_drawsFor 76 = .ok (.return_, 1) := by decide +kernel
theorem dX12_drawsFor_67 : decode cX12_drawsFor 67 = .ok (.aload_n 0, 1) := by decide +kernel
theorem dX12_drawsFor_68 : decode cX12_drawsFor 68 = .ok (.iload_n 2, 1) := by decide +kernel
theorem dX12_drawsFor_69 : decode cX12_drawsFor 69 = .ok (.iload_n 1, 1) := by decide +kernel
theorem dX12_drawsFor_70 : decode cX12_drawsFor 70 = .ok (.iload_n 3, 1) := by decide +kernel
theorem dX12_drawsFor_71 : decode cX12_drawsFor 71 = .ok (.iload 4, 2) := by decide +kernel
theorem dX12_drawsFor_73 : decode cX12_drawsFor 73 = .ok (.invokevirtual 287, 3) := by decide +kernel
theorem dX12_drawsFor_23 : decode cX12_drawsFor 23 = .ok (.return_, 1) := by decide +kernel
theorem dX12_drawsFor_8 : decode cX12_drawsFor 8 = .ok (.iconst 1, 1) := by decide +kernel
theorem dX12_drawsFor_9 : decode cX12_drawsFor 9 = .ok (.goto 4, 3) := by decide +kernel
theorem dX12_drawsFor_52 : decode cX12_drawsFor 52 = .ok (.iconst 0, 1) := by decide +kernel
theorem dX12_drawDays_0 : decode cX12_drawDays 0 = .ok (.aload_n 0, 1) := by decide +kernel
theorem dX12_drawDays_1 : decode cX12_drawDays 1 = .ok (.iload_n 2, 1) := by decide +kernel
theorem dX12_drawDays_2 : decode cX12_drawDays 2 = .ok (.putfield 351, 3) := by decide +kernel
theorem dX12_drawDays_5 : decode cX12_drawDays 5 = .ok (.iload_n 1, 1) := by decide +kernel
theorem dX12_drawDays_6 : decode cX12_drawDays 6 = .ok (.sipush 400, 3) := by decide +kernel
theorem dX12_drawDays_9 : decode cX12_drawDays 9 = .ok (.aload_n 0, 1) := by decide +kernel
theorem dX12_drawDays_10 : decode cX12_drawDays 10 = .ok (.getfield 98, 3) := by decide +kernel
theorem dX12_drawDays_13 : decode cX12_drawDays 13 = .ok (.bipush 53, 2) := by decide +kernel
theorem dX12_drawDays_15 : decode cX12_drawDays 15 = .ok (.iaload, 1) := by decide +kernel
theorem dX12_drawDays_16 : decode cX12_drawDays 16 = .ok (.isub, 1) := by decide +kernel
theorem dX12_drawDays_17 : decode cX12_drawDays 17 = .ok (.invokestatic 298, 3) := by decide +kernel
theorem dX12_drawDays_20 : decode cX12_drawDays 20 = .ok (.istore_n 3, 1) := by decide +kernel
theorem dX12_drawDays_21 : decode cX12_drawDays 21 = .ok (.iconst 0, 1) := by decide +kernel
theorem dX12_drawDays_22 : decode cX12_drawDays 22 = .ok (.istore 4, 2) := by decide +kernel
theorem dX12_drawDays_24 : decode cX12_drawDays 24 = .ok (.iload 4, 2) := by decide +kernel
theorem dX12_drawDays_26 : decode cX12_drawDays 26 = .ok (.iload_n 3, 1) := by decide +kernel
theorem dX12_drawDays_27 : decode cX12_drawDays 27 = .ok (.if_icmp .ge 39, 3) := by decide +kernel
theorem dX12_drawDays_66 : decode cX12_drawDays 66 = .ok (.iload_n 3, 1) := by decide +kernel
theorem dX12_drawDays_67 : decode cX12_drawDays 67 = .ok (.ireturn, 1) := by decide +kernel
theorem dX12_drawDays_30 : decode cX12_drawDays 30 = .ok (.iconst 0, 1) := by decide +kernel
theorem dX12_drawDays_31 : decode cX12_drawDays 31 = .ok (.istore 5, 2) := by decide +kernel
theorem dX12_drawDays_33 : decode cX12_drawDays 33 = .ok (.iload 5, 2) := by decide +kernel
theorem dX12_drawDays_35 : decode cX12_drawDays 35 = .ok (.aload_n 0, 1) := by decide +kernel
theorem dX12_drawDays_36 : decode cX12_drawDays 36 = .ok (.getfield 98, 3) := by decide +kernel
theorem dX12_drawDays_39 : decode cX12_drawDays 39 = .ok (.iconst 1, 1) := by decide +kernel
theorem dX12_drawDays_40 : decode cX12_drawDays 40 = .ok (.iaload, 1) := by decide +kernel
theorem dX12_drawDays_41 : decode cX12_drawDays 41 = .ok (.if_icmp .ge 15, 3) := by decide +kernel
theorem dX12_drawDays_56 : decode cX12_drawDays 56 = .ok (.aload_n 0, 1) := by decide +kernel
theorem dX12_drawDays_57 : decode cX12_drawDays 57 = .ok (.invokevirtual 301, 3) := by decide +kernel
theorem dX12_drawDays_60 : decode cX12_drawDays 60 = .ok (.iinc 4 1, 3) := by decide +kernel
theorem dX12_drawDays_63 : decode cX12_drawDays 63 = .ok (.goto (-39), 3) := by decide +kernel
theorem dX12_drawDays_44 : decode cX12_drawDays 44 = .ok (.aload_n 0, 1) := by decide +kernel
theorem dX12_drawDays_45 : decode cX12_drawDays 45 = .ok (.iload 5, 2) := by decide +kernel
theorem dX12_drawDays_47 : decode cX12_drawDays 47 = .ok (.invokevirtual 358, 3) := by decide +kernel
theorem G1961 : Cond.code ⟨"HookedCityModel", "drawsFor", "(I)V"⟩ prog_14_method_97_code 5 none ∈ GW := gw_i 1961 (by decide +kernel) rfl
theorem G1958 : Cond.methodLink "HookedCityModel" 358 ⟨"HookedCityModel", "drawsFor", "(I)V"⟩ ∈ GW := gw_i 1958 (by decide +kernel) rfl
theorem V_HookedCityModel_358 : VL "HookedCityModel" 358 yX12_drawsFor cX12_drawsFor 5 none 1 := ⟨G1961, G1958, G131, by decide +kernel, by decide +kernel, by decide +kernel⟩
theorem G1960 : Cond.instanceMethod ⟨"HookedCityModel", "drawsFor", "(I)V"⟩ ∈ GW := gw_i 1960 (by decide +kernel) rfl
theorem G99 : Cond.selects "HookedCityModel" ⟨"HookedCityModel", "drawsFor", "(I)V"⟩ ⟨"HookedCityModel", "drawsFor", "(I)V"⟩ ∈ GW := gw_i 99 (by decide +kernel) rfl
theorem dX12_drawDays_50 : decode cX12_drawDays 50 = .ok (.iinc 5 1, 3) := by decide +kernel
theorem dX12_drawDays_53 : decode cX12_drawDays 53 = .ok (.goto (-20), 3) := by decide +kernel
theorem dX12_drawn_0 : decode cX12_drawn 0 = .ok (.aload_n 0, 1) := by decide +kernel
theorem dX12_drawn_1 : decode cX12_drawn 1 = .ok (.iconst 0, 1) := by decide +kernel
theorem dX12_drawn_2 : decode cX12_drawn 2 = .ok (.putfield 1, 3) := by decide +kernel
theorem dX12_drawn_5 : decode cX12_drawn 5 = .ok (.iload_n 1, 1) := by decide +kernel
theorem dX12_drawn_6 : decode cX12_drawn 6 = .ok (.iconst 1, 1) := by decide +kernel
theorem dX12_drawn_7 : decode cX12_drawn 7 = .ok (.bipush 60, 2) := by decide +kernel
theorem dX12_drawn_9 : decode cX12_drawn 9 = .ok (.invokestatic 75, 3) := by decide +kernel
theorem dX12_drawn_12 : decode cX12_drawn 12 = .ok (.ifCond .eq 12, 3) := by decide +kernel
theorem dX12_drawn_24 : decode cX12_drawn 24 = .ok (.iconst (-1), 1) := by decide +kernel
theorem dX12_drawn_25 : decode cX12_drawn 25 = .ok (.ireturn, 1) := by decide +kernel
theorem dX12_drawn_15 : decode cX12_drawn 15 = .ok (.aload_n 0, 1) := by decide +kernel
theorem dX12_drawn_16 : decode cX12_drawn 16 = .ok (.getfield 98, 3) := by decide +kernel
theorem dX12_drawn_19 : decode cX12_drawn 19 = .ok (.iconst 1, 1) := by decide +kernel
theorem dX12_drawn_20 : decode cX12_drawn 20 = .ok (.iaload, 1) := by decide +kernel
theorem dX12_drawn_21 : decode cX12_drawn 21 = .ok (.ifCond .ne 5, 3) := by decide +kernel
theorem dX12_drawn_26 : decode cX12_drawn 26 = .ok (.aload_n 0, 1) := by decide +kernel
theorem dX12_drawn_27 : decode cX12_drawn 27 = .ok (.getfield 98, 3) := by decide +kernel
theorem dX12_drawn_30 : decode cX12_drawn 30 = .ok (.bipush 53, 2) := by decide +kernel
theorem dX12_drawn_32 : decode cX12_drawn 32 = .ok (.iaload, 1) := by decide +kernel
theorem dX12_drawn_33 : decode cX12_drawn 33 = .ok (.sipush 400, 3) := by decide +kernel
theorem dX12_drawn_36 : decode cX12_drawn 36 = .ok (.if_icmp .ne 5, 3) := by decide +kernel
theorem dX12_drawn_41 : decode cX12_drawn 41 = .ok (.aload_n 0, 1) := by decide +kernel
theorem dX12_drawn_42 : decode cX12_drawn 42 = .ok (.invokevirtual 284, 3) := by decide +kernel
theorem dX12_drawn_45 : decode cX12_drawn 45 = .ok (.aload_n 0, 1) := by decide +kernel
theorem dX12_drawn_46 : decode cX12_drawn 46 = .ok (.iload_n 1, 1) := by decide +kernel
theorem dX12_drawn_47 : decode cX12_drawn 47 = .ok (.iload_n 2, 1) := by decide +kernel
theorem dX12_drawn_48 : decode cX12_drawn 48 = .ok (.invokevirtual 361, 3) := by decide +kernel
theorem G1957 : Cond.code ⟨"HookedCityModel", "drawDays", "(II)I"⟩ prog_14_method_98_code 6 (some .int) ∈ GW := gw_i 1957 (by decide +kernel) rfl
theorem G1954 : Cond.methodLink "HookedCityModel" 361 ⟨"HookedCityModel", "drawDays", "(II)I"⟩ ∈ GW := gw_i 1954 (by decide +kernel) rfl
theorem V_HookedCityModel_361 : VL "HookedCityModel" 361 yX12_drawDays cX12_drawDays 6 (some .int) 2 := ⟨G1957, G1954, G131, by decide +kernel, by decide +kernel, by decide +kernel⟩
theorem G1956 : Cond.instanceMethod ⟨"HookedCityModel", "drawDays", "(II)I"⟩ ∈ GW := gw_i 1956 (by decide +kernel) rfl
theorem G98 : Cond.selects "HookedCityModel" ⟨"HookedCityModel", "drawDays", "(II)I"⟩ ⟨"HookedCityModel", "drawDays", "(II)I"⟩ ∈ GW := gw_i 98 (by decide +kernel) rfl
theorem dX12_drawn_51 : decode cX12_drawn 51 = .ok (.ireturn, 1) := by decide +kernel
theorem dX12_drawn_39 : decode cX12_drawn 39 = .ok (.iconst 0, 1) := by decide +kernel
theorem dX12_drawn_40 : decode cX12_drawn 40 = .ok (.ireturn, 1) := by decide +kernel
set_option maxRecDepth 100000 in
set_option maxHeartbeats 4000000 in
theorem c68_X12_isPerson (l : Launch) (D : va_G) (T : Nat → ClassId) (sz : Nat) (a0 : Nat) (x0 : Int) (r0 : Int32) (a1 : Nat) (x1 : Int) (x2 : Int) (x3 : Int) (x4 : Int) (x5 : Int) (x6 : Int) (r1 : Int32) (x7 : Int) (x8 : Int) (x9 : Int) (y0 : Int64) (x10 : Int) (a2 : Nat) (a3 : Nat) (a4 : Nat) (a5 : Nat) (a6 : Nat) (a7 : Nat) (a8 : Nat) (a9 : Nat) (a10 : Nat) (a11 : Nat) (x11 : Int) (a12 : Nat) (a13 : Nat) (a14 : Nat) (a15 : Nat) (x12 : Int) (r2 : Int32) (r3 : Int32) (a16 : Nat) (x13 : Int) (x14 : Int) (a17 : Nat) (a18 : Nat) (x15 : Int) (a19 : Nat) (x16 : Int) (r4 : Int32) (a20 : Nat) (a21 : Nat) (x17 : Int) (r5 : Int32) (a22 : Nat) (x18 : Int) (x19 : Int) (x20 : Int) (x21 : Int) (f0 : Int → Int) (x0_a : (-2147483648) ≤ x0) (x0_b : x0 ≤ 2147483647) (x1_a : 0 ≤ x1) (x1_b : x1 ≤ 940) (x2_a : 0 ≤ x2) (x2_b : x2 ≤ 940) (x3_a : 0 ≤ x3) (x3_b : x3 ≤ 940) (x4_a : 0 ≤ x4) (x4_b : x4 ≤ 940) (x5_a : 0 ≤ x5) (x5_b : x5 ≤ 940) (x6_a : 0 ≤ x6) (x6_b : x6 ≤ 4) (x7_a : (-2147483648) ≤ x7) (x7_b : x7 ≤ 2147483647) (x8_a : (-2147483648) ≤ x8) (x8_b : x8 ≤ 2147483647) (x9_a : 0 ≤ x9) (x9_b : x9 ≤ 940) (x10_a : (-2147483648) ≤ x10) (x10_b : x10 ≤ 2147483647) (x11_a : 0 ≤ x11) (x11_b : x11 ≤ 8) (x12_a : 0 ≤ x12) (x12_b : x12 ≤ 9) (x13_a : (-1) ≤ x13) (x13_b : x13 ≤ 9) (x14_a : (-1) ≤ x14) (x14_b : x14 ≤ 8) (x15_a : 0 ≤ x15) (x15_b : x15 ≤ 9) (x16_a : 0 ≤ x16) (x16_b : x16 ≤ 64) (x17_a : 0 ≤ x17) (x17_b : x17 ≤ 40) (x18_a : 0 ≤ x18) (x18_b : x18 ≤ 40) (x19_a : 0 ≤ x19) (x19_b : x19 ≤ 20) (x20_a : 0 ≤ x20) (x20_b : x20 ≤ 8) (x21_a : 0 ≤ x21) (x21_b : x21 ≤ 39) (f0_h : nowI f0) : Met l yX12_isPerson (Cond.code yX12_isPerson cX12_isPerson 2 (some .boolean) :: GW) (Rm 1 0 0) (cPre [.ref a0, .int (iI x0)] D T [(a0, .inr (11, [.int r0, .ref a1, .int (iI x1), .int (iI x2), .int (iI x3), .int (iI x4), .int (iI x5), .int (iI x6), .int r1, .int (iI x7), .int (iI x8), .int (iI x9), .long y0, .int (iI x10), .ref a2, .ref a3, .ref a4, .ref a5, .ref a6, .ref a7, .ref a8, .ref a9, .ref a10, .ref a11, .int (iI x11), .ref a12, .ref a13, .ref a14, .ref a15, .int (iI x12), .int r2, .int r3, .ref a16, .int (iI x13), .int (iI x14), .ref a17, .ref a18, .int (iI x15), .ref a19, .int (iI x16), .int r4, .ref a20, .ref a21, .int (iI x17), .int r5, .ref a22, .int (iI x18), .int (iI x19), .int (iI x20), .int (iI x21)])), (a2, .inl (T 0, 329, .inl (cI f0)))] sz) (qI D [(a0, .inr (11, [.int r0, .ref a1, .int (iI x1), .int (iI x2), .int (iI x3), .int (iI x4), .int (iI x5), .int (iI x6), .int r1, .int (iI x7), .int (iI x8), .int (iI x9), .long y0, .int (iI x10), .ref a2, .ref a3, .ref a4, .ref a5, .ref a6, .ref a7, .ref a8, .ref a9, .ref a10, .ref a11, .int (iI x11), .ref a12, .ref a13, .ref a14, .ref a15, .int (iI x12), .int r2, .int r3, .ref a16, .int (iI x13), .int (iI x14), .ref a17, .ref a18, .int (iI x15), .ref a19, .int (iI x16), .int r4, .ref a20, .ref a21, .int (iI x17), .int r5, .ref a22, .int (iI x18), .int (iI x19), .int (iI x20), .int (iI x21)])), (a2, .inl (T 0, 329, .inl (cI f0)))] sz (fun (v : Int32) (u : Int) => iI u = v ∧ 0 ≤ u ∧ u ≤ 1 ∧ 0 ≤ ((x0 + 4294967296) - (u * 4294967296)) ∧ 0 ≤ (((8 - x0) + 4294967296) - (u * 4294967296)) ∧ (ipQ u x0 (f0 0))) (fun u => [(a0, .inr (11, [.int r0, .ref a1, .int (iI x1), .int (iI x2), .int (iI x3), .int (iI x4), .int (iI x5), .int (iI x6), .int r1, .int (iI x7), .int (iI x8), .int (iI x9), .long y0, .int (iI x10), .ref a2, .ref a3, .ref a4, .ref a5, .ref a6, .ref a7, .ref a8, .ref a9, .ref a10, .ref a11, .int (iI x11), .ref a12, .ref a13, .ref a14, .ref a15, .int (iI x12), .int r2, .int r3, .ref a16, .int (iI x13), .int (iI x14), .ref a17, .ref a18, .int (iI x15), .ref a19, .int (iI x16), .int r4, .ref a20, .ref a21, .int (iI x17), .int r5, .ref a22, .int (iI x18), .int (iI x19), .int (iI x20), .int (iI x21)])), (a2, .inl (T 0, 329, .inl (cI f0)))])) 0 0 (va_A [(a0, .inr (11, [.int r0, .ref a1, .int (iI x1), .int (iI x2), .int (iI x3), .int (iI x4), .int (iI x5), .int (iI x6), .int r1, .int (iI x7), .int (iI x8), .int (iI x9), .long y0, .int (iI x10), .ref a2, .ref a3, .ref a4, .ref a5, .ref a6, .ref a7, .ref a8, .ref a9, .ref a10, .ref a11, .int (iI x11), .ref a12, .ref a13, .ref a14, .ref a15, .int (iI x12), .int r2, .int r3, .ref a16, .int (iI x13), .int (iI x14), .ref a17, .ref a18, .int (iI x15), .ref a19, .int (iI x16), .int r4, .ref a20, .ref a21, .int (iI x17), .int r5, .ref a22, .int (iI x18), .int (iI x19), .int (iI x20), .int (iI x21)])), (a2, .inl (T 0, 329, .inl (cI f0)))] sz) := by
  refine e_Z (by decide) (Nat.le_of_ble_eq_true rfl) ?_
  intro p e s m args below meth c A Q ls M hin w ret hl
  have hx := M.1.1
  have hb := M.1.2.1
  have hl : lv_has ls 2 [(0, .ref a0), (1, .int (iI x0))] := hl
  refine lv_iload_n hx hb dX12_isPerson_0 rfl (lv_at hl 1 rfl) ?_
  refine lv_iconst (v := iI 0) hx hb dX12_isPerson_1 (by decide +kernel) ?_
  refine lv_aload_n hx hb dX12_isPerson_2 rfl (lv_at hl 0 rfl) ?_
  refine r_get (v := .ref a2) M w 0 14 clX12 rfl (by decide) G1477 rfl rfl dX12_isPerson_3 ?_
  refine lv_iconst (v := iI 0) hx hb dX12_isPerson_6 (by decide +kernel) ?_
  refine r_iald (v := iI (f0 0)) M w 1 rfl (iI_in (by decide) (by decide) (by decide)) (cI_at (by omega) (by omega)) dX12_isPerson_7 ?_
  have hh1 : (-2147483648) ≤ (f0 0) ∧ (f0 0) ≤ 2147483647 := f0_h.1 0
  have hh2 : 0 ≤ (f0 0) ∧ (f0 0) ≤ 9 := (f0_h.2.1 0).1 (by omega)
  refine lv_iconst (v := iI 1) hx hb dX12_isPerson_8 (by decide +kernel) ?_
  refine r_isub (v := iI ((f0 0) - 1)) M (iI_sub _ _) dX12_isPerson_9 ?_
  refine k_I (ce := 0) (sl := 0) (rest := []) (wr := [(a0, .inr (11, [.int r0, .ref a1, .int (iI x1), .int (iI x2), .int (iI x3), .int (iI x4), .int (iI x5), .int (iI x6), .int r1, .int (iI x7), .int (iI x8), .int (iI x9), .long y0, .int (iI x10), .ref a2, .ref a3, .ref a4, .ref a5, .ref a6, .ref a7, .ref a8, .ref a9, .ref a10, .ref a11, .int (iI x11), .ref a12, .ref a13, .ref a14, .ref a15, .int (iI x12), .int r2, .int r3, .ref a16, .int (iI x13), .int (iI x14), .ref a17, .ref a18, .int (iI x15), .ref a19, .int (iI x16), .int r4, .ref a20, .ref a21, .int (iI x17), .int r5, .ref a22, .int (iI x18), .int (iI x19), .int (iI x20), .int (iI x21)])), (a2, .inl (T 0, 329, .inl (cI f0)))]) (r_S (f := 0) [] M w V_HookedCityModel_75 G1693 (c6_X12_isIn l D T _ x0 0 ((f0 0) - 1) x0_a x0_b (by decide) (by decide) (by omega) (by omega)) rfl (by decide) rfl hl.1 rfl (Nat.le_of_ble_eq_true rfl) dX12_isPerson_10 (by decide) (by decide) (by decide) (by decide)) w [] [0, 1] rfl rfl (by decide) (by decide) rfl rfl (fun v z3 H locs hp w => ?_)
  have hv : iI z3 = v := hp.1
  subst hv
  have z3_a : 0 ≤ z3 := hp.2.1
  have z3_b : z3 ≤ 1 := hp.2.2.1
  have w : WD D A s.heap [(a0, .inr (11, [.int r0, .ref a1, .int (iI x1), .int (iI x2), .int (iI x3), .int (iI x4), .int (iI x5), .int (iI x6), .int r1, .int (iI x7), .int (iI x8), .int (iI x9), .long y0, .int (iI x10), .ref a2, .ref a3, .ref a4, .ref a5, .ref a6, .ref a7, .ref a8, .ref a9, .ref a10, .ref a11, .int (iI x11), .ref a12, .ref a13, .ref a14, .ref a15, .int (iI x12), .int r2, .int r3, .ref a16, .int (iI x13), .int (iI x14), .ref a17, .ref a18, .int (iI x15), .ref a19, .int (iI x16), .int r4, .ref a20, .ref a21, .int (iI x17), .int r5, .ref a22, .int (iI x18), .int (iI x19), .int (iI x20), .int (iI x21)])), (a2, .inl (T 0, 329, .inl (cI f0)))] H locs := w
  rcases hp.2.2.2 with ⟨c_4, hr⟩ | ⟨c_5, c_6, hr⟩ | ⟨c_7, c_8, hr⟩
  · subst hr
    exact ret _ 0 _ _ _ _ _ [0, 1] dX12_isPerson_13 (by decide +kernel) ⟨rfl, (show (0 : Int) ≤ 0 from by decide), (show (0 : Int) ≤ 1 from by decide), (show 0 ≤ ((x0 + 4294967296) - (0 * 4294967296)) from by omega), (show 0 ≤ (((8 - x0) + 4294967296) - (0 * 4294967296)) from by omega), (show ipQ 0 x0 (f0 0) from (by unfold ipQ; omega))⟩ w (by decide) rfl
  · subst hr
    exact ret _ 0 _ _ _ _ _ [0, 1] dX12_isPerson_13 (by decide +kernel) ⟨rfl, (show (0 : Int) ≤ 0 from by decide), (show (0 : Int) ≤ 1 from by decide), (show 0 ≤ ((x0 + 4294967296) - (0 * 4294967296)) from by omega), (show 0 ≤ (((8 - x0) + 4294967296) - (0 * 4294967296)) from by omega), (show ipQ 0 x0 (f0 0) from (by unfold ipQ; omega))⟩ w (by decide) rfl
  · subst hr
    exact ret _ 1 _ _ _ _ _ [0, 1] dX12_isPerson_13 (by decide +kernel) ⟨rfl, (show (0 : Int) ≤ 1 from by decide), (show (1 : Int) ≤ 1 from by decide), (show 0 ≤ ((x0 + 4294967296) - (1 * 4294967296)) from by omega), (show 0 ≤ (((8 - x0) + 4294967296) - (1 * 4294967296)) from by omega), (show ipQ 1 x0 (f0 0) from (by unfold ipQ; omega))⟩ w (by decide) rfl
set_option maxRecDepth 100000 in
set_option maxHeartbeats 4000000 in
theorem c69_X12_isMaid (l : Launch) (D : va_G) (T : Nat → ClassId) (sz : Nat) (a0 : Nat) (x0 : Int) (r0 : Int32) (a1 : Nat) (x1 : Int) (x2 : Int) (x3 : Int) (x4 : Int) (x5 : Int) (x6 : Int) (r1 : Int32) (x7 : Int) (x8 : Int) (x9 : Int) (y0 : Int64) (x10 : Int) (a2 : Nat) (a3 : Nat) (a4 : Nat) (a5 : Nat) (a6 : Nat) (a7 : Nat) (a8 : Nat) (a9 : Nat) (a10 : Nat) (a11 : Nat) (x11 : Int) (a12 : Nat) (a13 : Nat) (a14 : Nat) (a15 : Nat) (x12 : Int) (r2 : Int32) (r3 : Int32) (a16 : Nat) (x13 : Int) (x14 : Int) (a17 : Nat) (a18 : Nat) (x15 : Int) (a19 : Nat) (x16 : Int) (r4 : Int32) (a20 : Nat) (a21 : Nat) (x17 : Int) (r5 : Int32) (a22 : Nat) (x18 : Int) (x19 : Int) (x20 : Int) (x21 : Int) (f0 : Int → Int) (x0_a : (-2147483648) ≤ x0) (x0_b : x0 ≤ 2147483647) (x1_a : 0 ≤ x1) (x1_b : x1 ≤ 940) (x2_a : 0 ≤ x2) (x2_b : x2 ≤ 940) (x3_a : 0 ≤ x3) (x3_b : x3 ≤ 940) (x4_a : 0 ≤ x4) (x4_b : x4 ≤ 940) (x5_a : 0 ≤ x5) (x5_b : x5 ≤ 940) (x6_a : 0 ≤ x6) (x6_b : x6 ≤ 4) (x7_a : (-2147483648) ≤ x7) (x7_b : x7 ≤ 2147483647) (x8_a : (-2147483648) ≤ x8) (x8_b : x8 ≤ 2147483647) (x9_a : 0 ≤ x9) (x9_b : x9 ≤ 940) (x10_a : (-2147483648) ≤ x10) (x10_b : x10 ≤ 2147483647) (x11_a : 0 ≤ x11) (x11_b : x11 ≤ 8) (x12_a : 0 ≤ x12) (x12_b : x12 ≤ 9) (x13_a : (-1) ≤ x13) (x13_b : x13 ≤ 9) (x14_a : (-1) ≤ x14) (x14_b : x14 ≤ 8) (x15_a : 0 ≤ x15) (x15_b : x15 ≤ 9) (x16_a : 0 ≤ x16) (x16_b : x16 ≤ 64) (x17_a : 0 ≤ x17) (x17_b : x17 ≤ 40) (x18_a : 0 ≤ x18) (x18_b : x18 ≤ 40) (x19_a : 0 ≤ x19) (x19_b : x19 ≤ 20) (x20_a : 0 ≤ x20) (x20_b : x20 ≤ 8) (x21_a : 0 ≤ x21) (x21_b : x21 ≤ 39) (f0_h : nowI f0) : Met l yX12_isMaid (Cond.code yX12_isMaid cX12_isMaid 2 (some .boolean) :: GW) (Rm 1 0 0) (cPre [.ref a0, .int (iI x0)] D T [(a0, .inr (11, [.int r0, .ref a1, .int (iI x1), .int (iI x2), .int (iI x3), .int (iI x4), .int (iI x5), .int (iI x6), .int r1, .int (iI x7), .int (iI x8), .int (iI x9), .long y0, .int (iI x10), .ref a2, .ref a3, .ref a4, .ref a5, .ref a6, .ref a7, .ref a8, .ref a9, .ref a10, .ref a11, .int (iI x11), .ref a12, .ref a13, .ref a14, .ref a15, .int (iI x12), .int r2, .int r3, .ref a16, .int (iI x13), .int (iI x14), .ref a17, .ref a18, .int (iI x15), .ref a19, .int (iI x16), .int r4, .ref a20, .ref a21, .int (iI x17), .int r5, .ref a22, .int (iI x18), .int (iI x19), .int (iI x20), .int (iI x21)])), (a2, .inl (T 0, 329, .inl (cI f0)))] sz) (qI D [(a0, .inr (11, [.int r0, .ref a1, .int (iI x1), .int (iI x2), .int (iI x3), .int (iI x4), .int (iI x5), .int (iI x6), .int r1, .int (iI x7), .int (iI x8), .int (iI x9), .long y0, .int (iI x10), .ref a2, .ref a3, .ref a4, .ref a5, .ref a6, .ref a7, .ref a8, .ref a9, .ref a10, .ref a11, .int (iI x11), .ref a12, .ref a13, .ref a14, .ref a15, .int (iI x12), .int r2, .int r3, .ref a16, .int (iI x13), .int (iI x14), .ref a17, .ref a18, .int (iI x15), .ref a19, .int (iI x16), .int r4, .ref a20, .ref a21, .int (iI x17), .int r5, .ref a22, .int (iI x18), .int (iI x19), .int (iI x20), .int (iI x21)])), (a2, .inl (T 0, 329, .inl (cI f0)))] sz (fun (v : Int32) (u : Int) => iI u = v ∧ 0 ≤ u ∧ u ≤ 1 ∧ 0 ≤ ((x0 + 4294967296) - (u * 4294967296)) ∧ 0 ≤ (((2 - x0) + 4294967296) - (u * 4294967296))) (fun u => [(a0, .inr (11, [.int r0, .ref a1, .int (iI x1), .int (iI x2), .int (iI x3), .int (iI x4), .int (iI x5), .int (iI x6), .int r1, .int (iI x7), .int (iI x8), .int (iI x9), .long y0, .int (iI x10), .ref a2, .ref a3, .ref a4, .ref a5, .ref a6, .ref a7, .ref a8, .ref a9, .ref a10, .ref a11, .int (iI x11), .ref a12, .ref a13, .ref a14, .ref a15, .int (iI x12), .int r2, .int r3, .ref a16, .int (iI x13), .int (iI x14), .ref a17, .ref a18, .int (iI x15), .ref a19, .int (iI x16), .int r4, .ref a20, .ref a21, .int (iI x17), .int r5, .ref a22, .int (iI x18), .int (iI x19), .int (iI x20), .int (iI x21)])), (a2, .inl (T 0, 329, .inl (cI f0)))])) 0 0 (va_A [(a0, .inr (11, [.int r0, .ref a1, .int (iI x1), .int (iI x2), .int (iI x3), .int (iI x4), .int (iI x5), .int (iI x6), .int r1, .int (iI x7), .int (iI x8), .int (iI x9), .long y0, .int (iI x10), .ref a2, .ref a3, .ref a4, .ref a5, .ref a6, .ref a7, .ref a8, .ref a9, .ref a10, .ref a11, .int (iI x11), .ref a12, .ref a13, .ref a14, .ref a15, .int (iI x12), .int r2, .int r3, .ref a16, .int (iI x13), .int (iI x14), .ref a17, .ref a18, .int (iI x15), .ref a19, .int (iI x16), .int r4, .ref a20, .ref a21, .int (iI x17), .int r5, .ref a22, .int (iI x18), .int (iI x19), .int (iI x20), .int (iI x21)])), (a2, .inl (T 0, 329, .inl (cI f0)))] sz) := by
  refine e_Z (by decide) (Nat.le_of_ble_eq_true rfl) ?_
  intro p e s m args below meth c A Q ls M hin w ret hl
  have hx := M.1.1
  have hb := M.1.2.1
  have hl : lv_has ls 2 [(0, .ref a0), (1, .int (iI x0))] := hl
  refine lv_iload_n hx hb dX12_isMaid_0 rfl (lv_at hl 1 rfl) ?_
  refine lv_iconst (v := iI 0) hx hb dX12_isMaid_1 (by decide +kernel) ?_
  refine lv_aload_n hx hb dX12_isMaid_2 rfl (lv_at hl 0 rfl) ?_
  refine r_get (v := .ref a2) M w 0 14 clX12 rfl (by decide) G1477 rfl rfl dX12_isMaid_3 ?_
  refine lv_iconst (v := iI 1) hx hb dX12_isMaid_6 (by decide +kernel) ?_
  refine r_iald (v := iI (f0 1)) M w 1 rfl (iI_in (by decide) (by decide) (by decide)) (cI_at (by omega) (by omega)) dX12_isMaid_7 ?_
  have hh1 : (-2147483648) ≤ (f0 1) ∧ (f0 1) ≤ 2147483647 := f0_h.1 1
  have hh2 : 0 ≤ (f0 1) ∧ (f0 1) ≤ 3 := (f0_h.2.1 1).2.1 (by omega)
  refine lv_iconst (v := iI 1) hx hb dX12_isMaid_8 (by decide +kernel) ?_
  refine r_isub (v := iI ((f0 1) - 1)) M (iI_sub _ _) dX12_isMaid_9 ?_
  refine k_I (ce := 0) (sl := 0) (rest := []) (wr := [(a0, .inr (11, [.int r0, .ref a1, .int (iI x1), .int (iI x2), .int (iI x3), .int (iI x4), .int (iI x5), .int (iI x6), .int r1, .int (iI x7), .int (iI x8), .int (iI x9), .long y0, .int (iI x10), .ref a2, .ref a3, .ref a4, .ref a5, .ref a6, .ref a7, .ref a8, .ref a9, .ref a10, .ref a11, .int (iI x11), .ref a12, .ref a13, .ref a14, .ref a15, .int (iI x12), .int r2, .int r3, .ref a16, .int (iI x13), .int (iI x14), .ref a17, .ref a18, .int (iI x15), .ref a19, .int (iI x16), .int r4, .ref a20, .ref a21, .int (iI x17), .int r5, .ref a22, .int (iI x18), .int (iI x19), .int (iI x20), .int (iI x21)])), (a2, .inl (T 0, 329, .inl (cI f0)))]) (r_S (f := 0) [] M w V_HookedCityModel_75 G1693 (c6_X12_isIn l D T _ x0 0 ((f0 1) - 1) x0_a x0_b (by decide) (by decide) (by omega) (by omega)) rfl (by decide) rfl hl.1 rfl (Nat.le_of_ble_eq_true rfl) dX12_isMaid_10 (by decide) (by decide) (by decide) (by decide)) w [] [0, 1] rfl rfl (by decide) (by decide) rfl rfl (fun v z3 H locs hp w => ?_)
  have hv : iI z3 = v := hp.1
  subst hv
  have z3_a : 0 ≤ z3 := hp.2.1
  have z3_b : z3 ≤ 1 := hp.2.2.1
  have w : WD D A s.heap [(a0, .inr (11, [.int r0, .ref a1, .int (iI x1), .int (iI x2), .int (iI x3), .int (iI x4), .int (iI x5), .int (iI x6), .int r1, .int (iI x7), .int (iI x8), .int (iI x9), .long y0, .int (iI x10), .ref a2, .ref a3, .ref a4, .ref a5, .ref a6, .ref a7, .ref a8, .ref a9, .ref a10, .ref a11, .int (iI x11), .ref a12, .ref a13, .ref a14, .ref a15, .int (iI x12), .int r2, .int r3, .ref a16, .int (iI x13), .int (iI x14), .ref a17, .ref a18, .int (iI x15), .ref a19, .int (iI x16), .int r4, .ref a20, .ref a21, .int (iI x17), .int r5, .ref a22, .int (iI x18), .int (iI x19), .int (iI x20), .int (iI x21)])), (a2, .inl (T 0, 329, .inl (cI f0)))] H locs := w
  rcases hp.2.2.2 with ⟨c_4, hr⟩ | ⟨c_5, c_6, hr⟩ | ⟨c_7, c_8, hr⟩
  · subst hr
    exact ret _ 0 _ _ _ _ _ [0, 1] dX12_isMaid_13 (by decide +kernel) ⟨rfl, (show (0 : Int) ≤ 0 from by decide), (show (0 : Int) ≤ 1 from by decide), (show 0 ≤ ((x0 + 4294967296) - (0 * 4294967296)) from by omega), (show 0 ≤ (((2 - x0) + 4294967296) - (0 * 4294967296)) from by omega)⟩ w (by decide) rfl
  · subst hr
    exact ret _ 0 _ _ _ _ _ [0, 1] dX12_isMaid_13 (by decide +kernel) ⟨rfl, (show (0 : Int) ≤ 0 from by decide), (show (0 : Int) ≤ 1 from by decide), (show 0 ≤ ((x0 + 4294967296) - (0 * 4294967296)) from by omega), (show 0 ≤ (((2 - x0) + 4294967296) - (0 * 4294967296)) from by omega)⟩ w (by decide) rfl
  · subst hr
    exact ret _ 1 _ _ _ _ _ [0, 1] dX12_isMaid_13 (by decide +kernel) ⟨rfl, (show (0 : Int) ≤ 1 from by decide), (show (1 : Int) ≤ 1 from by decide), (show 0 ≤ ((x0 + 4294967296) - (1 * 4294967296)) from by omega), (show 0 ≤ (((2 - x0) + 4294967296) - (1 * 4294967296)) from by omega)⟩ w (by decide) rfl
set_option maxRecDepth 100000 in
set_option maxHeartbeats 4000000 in
theorem c70_X12_isOpen (l : Launch) (D : va_G) (T : Nat → ClassId) (sz : Nat) (a0 : Nat) (x0 : Int) (r0 : Int32) (a1 : Nat) (x1 : Int) (x2 : Int) (x3 : Int) (x4 : Int) (x5 : Int) (x6 : Int) (r1 : Int32) (x7 : Int) (x8 : Int) (x9 : Int) (y0 : Int64) (x10 : Int) (a2 : Nat) (a3 : Nat) (a4 : Nat) (a5 : Nat) (a6 : Nat) (a7 : Nat) (a8 : Nat) (a9 : Nat) (a10 : Nat) (a11 : Nat) (x11 : Int) (a12 : Nat) (a13 : Nat) (a14 : Nat) (a15 : Nat) (x12 : Int) (r2 : Int32) (r3 : Int32) (a16 : Nat) (x13 : Int) (x14 : Int) (a17 : Nat) (a18 : Nat) (x15 : Int) (a19 : Nat) (x16 : Int) (r4 : Int32) (a20 : Nat) (a21 : Nat) (x17 : Int) (r5 : Int32) (a22 : Nat) (x18 : Int) (x19 : Int) (x20 : Int) (x21 : Int) (f0 : Int → Int) (x0_a : 0 ≤ x0) (x0_b : x0 ≤ 8) (x1_a : 0 ≤ x1) (x1_b : x1 ≤ 940) (x2_a : 0 ≤ x2) (x2_b : x2 ≤ 940) (x3_a : 0 ≤ x3) (x3_b : x3 ≤ 940) (x4_a : 0 ≤ x4) (x4_b : x4 ≤ 940) (x5_a : 0 ≤ x5) (x5_b : x5 ≤ 940) (x6_a : 0 ≤ x6) (x6_b : x6 ≤ 4) (x7_a : (-2147483648) ≤ x7) (x7_b : x7 ≤ 2147483647) (x8_a : (-2147483648) ≤ x8) (x8_b : x8 ≤ 2147483647) (x9_a : 0 ≤ x9) (x9_b : x9 ≤ 940) (x10_a : (-2147483648) ≤ x10) (x10_b : x10 ≤ 2147483647) (x11_a : 0 ≤ x11) (x11_b : x11 ≤ 8) (x12_a : 0 ≤ x12) (x12_b : x12 ≤ 9) (x13_a : (-1) ≤ x13) (x13_b : x13 ≤ 9) (x14_a : (-1) ≤ x14) (x14_b : x14 ≤ 8) (x15_a : 0 ≤ x15) (x15_b : x15 ≤ 9) (x16_a : 0 ≤ x16) (x16_b : x16 ≤ 64) (x17_a : 0 ≤ x17) (x17_b : x17 ≤ 40) (x18_a : 0 ≤ x18) (x18_b : x18 ≤ 40) (x19_a : 0 ≤ x19) (x19_b : x19 ≤ 20) (x20_a : 0 ≤ x20) (x20_b : x20 ≤ 8) (x21_a : 0 ≤ x21) (x21_b : x21 ≤ 39) (f0_h : nowI f0) : Met l yX12_isOpen (Cond.code yX12_isOpen cX12_isOpen 2 (some .boolean) :: GW) (Rm 0 0 0) (cPre [.ref a0, .int (iI x0)] D T [(a0, .inr (11, [.int r0, .ref a1, .int (iI x1), .int (iI x2), .int (iI x3), .int (iI x4), .int (iI x5), .int (iI x6), .int r1, .int (iI x7), .int (iI x8), .int (iI x9), .long y0, .int (iI x10), .ref a2, .ref a3, .ref a4, .ref a5, .ref a6, .ref a7, .ref a8, .ref a9, .ref a10, .ref a11, .int (iI x11), .ref a12, .ref a13, .ref a14, .ref a15, .int (iI x12), .int r2, .int r3, .ref a16, .int (iI x13), .int (iI x14), .ref a17, .ref a18, .int (iI x15), .ref a19, .int (iI x16), .int r4, .ref a20, .ref a21, .int (iI x17), .int r5, .ref a22, .int (iI x18), .int (iI x19), .int (iI x20), .int (iI x21)])), (a2, .inl (T 0, 329, .inl (cI f0)))] sz) (qI D [(a0, .inr (11, [.int r0, .ref a1, .int (iI x1), .int (iI x2), .int (iI x3), .int (iI x4), .int (iI x5), .int (iI x6), .int r1, .int (iI x7), .int (iI x8), .int (iI x9), .long y0, .int (iI x10), .ref a2, .ref a3, .ref a4, .ref a5, .ref a6, .ref a7, .ref a8, .ref a9, .ref a10, .ref a11, .int (iI x11), .ref a12, .ref a13, .ref a14, .ref a15, .int (iI x12), .int r2, .int r3, .ref a16, .int (iI x13), .int (iI x14), .ref a17, .ref a18, .int (iI x15), .ref a19, .int (iI x16), .int r4, .ref a20, .ref a21, .int (iI x17), .int r5, .ref a22, .int (iI x18), .int (iI x19), .int (iI x20), .int (iI x21)])), (a2, .inl (T 0, 329, .inl (cI f0)))] sz (fun (v : Int32) (u : Int) => iI u = v ∧ 0 ≤ u ∧ u ≤ 1 ∧ (u = 0 → 0 ≤ f0 (57 + x0))) (fun u => [(a0, .inr (11, [.int r0, .ref a1, .int (iI x1), .int (iI x2), .int (iI x3), .int (iI x4), .int (iI x5), .int (iI x6), .int r1, .int (iI x7), .int (iI x8), .int (iI x9), .long y0, .int (iI x10), .ref a2, .ref a3, .ref a4, .ref a5, .ref a6, .ref a7, .ref a8, .ref a9, .ref a10, .ref a11, .int (iI x11), .ref a12, .ref a13, .ref a14, .ref a15, .int (iI x12), .int r2, .int r3, .ref a16, .int (iI x13), .int (iI x14), .ref a17, .ref a18, .int (iI x15), .ref a19, .int (iI x16), .int r4, .ref a20, .ref a21, .int (iI x17), .int r5, .ref a22, .int (iI x18), .int (iI x19), .int (iI x20), .int (iI x21)])), (a2, .inl (T 0, 329, .inl (cI f0)))])) 0 0 (va_A [(a0, .inr (11, [.int r0, .ref a1, .int (iI x1), .int (iI x2), .int (iI x3), .int (iI x4), .int (iI x5), .int (iI x6), .int r1, .int (iI x7), .int (iI x8), .int (iI x9), .long y0, .int (iI x10), .ref a2, .ref a3, .ref a4, .ref a5, .ref a6, .ref a7, .ref a8, .ref a9, .ref a10, .ref a11, .int (iI x11), .ref a12, .ref a13, .ref a14, .ref a15, .int (iI x12), .int r2, .int r3, .ref a16, .int (iI x13), .int (iI x14), .ref a17, .ref a18, .int (iI x15), .ref a19, .int (iI x16), .int r4, .ref a20, .ref a21, .int (iI x17), .int r5, .ref a22, .int (iI x18), .int (iI x19), .int (iI x20), .int (iI x21)])), (a2, .inl (T 0, 329, .inl (cI f0)))] sz) := by
  refine e_Z (by decide) (Nat.le_of_ble_eq_true rfl) ?_
  intro p e s m args below meth c A Q ls M hin w ret hl
  have hx := M.1.1
  have hb := M.1.2.1
  have hl : lv_has ls 2 [(0, .ref a0), (1, .int (iI x0))] := hl
  refine lv_aload_n hx hb dX12_isOpen_0 rfl (lv_at hl 0 rfl) ?_
  refine r_get (v := .ref a2) M w 0 14 clX12 rfl (by decide) G1477 rfl rfl dX12_isOpen_1 ?_
  refine lv_bipush (v := iI 57) hx hb dX12_isOpen_4 (by decide +kernel) ?_
  refine lv_iload_n hx hb dX12_isOpen_6 rfl (lv_at hl 1 rfl) ?_
  refine r_iadd (v := iI (57 + x0)) M (iI_add _ _) dX12_isOpen_7 ?_
  refine r_iald (v := iI (f0 (57 + x0))) M w 1 rfl (iI_in (by omega) (by omega) (by decide)) (cI_at (by omega) (by omega)) dX12_isOpen_8 ?_
  have hh1 : (-2147483648) ≤ (f0 (57 + x0)) ∧ (f0 (57 + x0)) ≤ 2147483647 := f0_h.1 (57 + x0)
  have hh2 : (-1) ≤ (f0 (57 + x0)) ∧ (f0 (57 + x0)) ≤ 8 := (f0_h.2.1 (57 + x0)).2.2.2.1 (by omega) (by omega)
  refine lv_iconst (v := iI (-1)) hx hb dX12_isOpen_9 (by decide +kernel) ?_
  refine lv_icmp_ne (tgt := 17) hx hb dX12_isOpen_10 (by decide) (fun c_3 => ?_) (fun c_3 => ?_)
  · replace c_3 : ¬ (f0 (57 + x0)) = (-1) := fun h => c_3 ((iI_eq (by omega) (by omega) (by decide) (by decide)).mpr h)
    refine lv_iconst (v := iI 0) hx hb dX12_isOpen_17 (by decide +kernel) ?_
    exact ret _ 0 _ _ _ _ _ [0, 1] dX12_isOpen_18 (by decide +kernel) ⟨rfl, (show (0 : Int) ≤ 0 from by decide), (show (0 : Int) ≤ 1 from by decide), (show 0 = 0 → 0 ≤ f0 (57 + x0) from (fun _ => by omega))⟩ w (by decide) rfl
  · replace c_3 := (iI_eq (by omega) (by omega) (by decide) (by decide)).mp c_3
    refine lv_iconst (v := iI 1) hx hb dX12_isOpen_13 (by decide +kernel) ?_
    refine lv_goto (tgt := 18) hx hb dX12_isOpen_14 (by decide) ?_
    exact ret _ 1 _ _ _ _ _ [0, 1] dX12_isOpen_18 (by decide +kernel) ⟨rfl, (show (0 : Int) ≤ 1 from by decide), (show (1 : Int) ≤ 1 from by decide), (show 1 = 0 → 0 ≤ f0 (57 + x0) from (fun h => absurd h (by decide)))⟩ w (by decide) rfl
set_option maxRecDepth 100000 in
set_option maxHeartbeats 4000000 in
theorem c71_X12_isBare (l : Launch) (D : va_G) (T : Nat → ClassId) (sz : Nat) (a0 : Nat) (x0 : Int) (r0 : Int32) (a1 : Nat) (x1 : Int) (x2 : Int) (x3 : Int) (x4 : Int) (x5 : Int) (x6 : Int) (r1 : Int32) (x7 : Int) (x8 : Int) (x9 : Int) (y0 : Int64) (x10 : Int) (a2 : Nat) (a3 : Nat) (a4 : Nat) (a5 : Nat) (a6 : Nat) (a7 : Nat) (a8 : Nat) (a9 : Nat) (a10 : Nat) (a11 : Nat) (x11 : Int) (a12 : Nat) (a13 : Nat) (a14 : Nat) (a15 : Nat) (x12 : Int) (r2 : Int32) (r3 : Int32) (a16 : Nat) (x13 : Int) (x14 : Int) (a17 : Nat) (a18 : Nat) (x15 : Int) (a19 : Nat) (x16 : Int) (r4 : Int32) (a20 : Nat) (a21 : Nat) (x17 : Int) (r5 : Int32) (a22 : Nat) (x18 : Int) (x19 : Int) (x20 : Int) (x21 : Int) (f0 : Int → Int) (x0_a : 0 ≤ x0) (x0_b : x0 ≤ 8) (x1_a : 0 ≤ x1) (x1_b : x1 ≤ 940) (x2_a : 0 ≤ x2) (x2_b : x2 ≤ 940) (x3_a : 0 ≤ x3) (x3_b : x3 ≤ 940) (x4_a : 0 ≤ x4) (x4_b : x4 ≤ 940) (x5_a : 0 ≤ x5) (x5_b : x5 ≤ 940) (x6_a : 0 ≤ x6) (x6_b : x6 ≤ 4) (x7_a : (-2147483648) ≤ x7) (x7_b : x7 ≤ 2147483647) (x8_a : (-2147483648) ≤ x8) (x8_b : x8 ≤ 2147483647) (x9_a : 0 ≤ x9) (x9_b : x9 ≤ 940) (x10_a : (-2147483648) ≤ x10) (x10_b : x10 ≤ 2147483647) (x11_a : 0 ≤ x11) (x11_b : x11 ≤ 8) (x12_a : 0 ≤ x12) (x12_b : x12 ≤ 9) (x13_a : (-1) ≤ x13) (x13_b : x13 ≤ 9) (x14_a : (-1) ≤ x14) (x14_b : x14 ≤ 8) (x15_a : 0 ≤ x15) (x15_b : x15 ≤ 9) (x16_a : 0 ≤ x16) (x16_b : x16 ≤ 64) (x17_a : 0 ≤ x17) (x17_b : x17 ≤ 40) (x18_a : 0 ≤ x18) (x18_b : x18 ≤ 40) (x19_a : 0 ≤ x19) (x19_b : x19 ≤ 20) (x20_a : 0 ≤ x20) (x20_b : x20 ≤ 8) (x21_a : 0 ≤ x21) (x21_b : x21 ≤ 39) (f0_h : nowI f0) : Met l yX12_isBare (Cond.code yX12_isBare cX12_isBare 2 (some .boolean) :: GW) (Rm 0 0 0) (cPre [.ref a0, .int (iI x0)] D T [(a0, .inr (11, [.int r0, .ref a1, .int (iI x1), .int (iI x2), .int (iI x3), .int (iI x4), .int (iI x5), .int (iI x6), .int r1, .int (iI x7), .int (iI x8), .int (iI x9), .long y0, .int (iI x10), .ref a2, .ref a3, .ref a4, .ref a5, .ref a6, .ref a7, .ref a8, .ref a9, .ref a10, .ref a11, .int (iI x11), .ref a12, .ref a13, .ref a14, .ref a15, .int (iI x12), .int r2, .int r3, .ref a16, .int (iI x13), .int (iI x14), .ref a17, .ref a18, .int (iI x15), .ref a19, .int (iI x16), .int r4, .ref a20, .ref a21, .int (iI x17), .int r5, .ref a22, .int (iI x18), .int (iI x19), .int (iI x20), .int (iI x21)])), (a2, .inl (T 0, 329, .inl (cI f0)))] sz) (qI D [(a0, .inr (11, [.int r0, .ref a1, .int (iI x1), .int (iI x2), .int (iI x3), .int (iI x4), .int (iI x5), .int (iI x6), .int r1, .int (iI x7), .int (iI x8), .int (iI x9), .long y0, .int (iI x10), .ref a2, .ref a3, .ref a4, .ref a5, .ref a6, .ref a7, .ref a8, .ref a9, .ref a10, .ref a11, .int (iI x11), .ref a12, .ref a13, .ref a14, .ref a15, .int (iI x12), .int r2, .int r3, .ref a16, .int (iI x13), .int (iI x14), .ref a17, .ref a18, .int (iI x15), .ref a19, .int (iI x16), .int r4, .ref a20, .ref a21, .int (iI x17), .int r5, .ref a22, .int (iI x18), .int (iI x19), .int (iI x20), .int (iI x21)])), (a2, .inl (T 0, 329, .inl (cI f0)))] sz (fun (v : Int32) (u : Int) => iI u = v ∧ 0 ≤ u ∧ u ≤ 1 ∧ (u = 1 → f0 (66 + x0) = -1) ∧ (u = 0 → 0 ≤ f0 (66 + x0))) (fun u => [(a0, .inr (11, [.int r0, .ref a1, .int (iI x1), .int (iI x2), .int (iI x3), .int (iI x4), .int (iI x5), .int (iI x6), .int r1, .int (iI x7), .int (iI x8), .int (iI x9), .long y0, .int (iI x10), .ref a2, .ref a3, .ref a4, .ref a5, .ref a6, .ref a7, .ref a8, .ref a9, .ref a10, .ref a11, .int (iI x11), .ref a12, .ref a13, .ref a14, .ref a15, .int (iI x12), .int r2, .int r3, .ref a16, .int (iI x13), .int (iI x14), .ref a17, .ref a18, .int (iI x15), .ref a19, .int (iI x16), .int r4, .ref a20, .ref a21, .int (iI x17), .int r5, .ref a22, .int (iI x18), .int (iI x19), .int (iI x20), .int (iI x21)])), (a2, .inl (T 0, 329, .inl (cI f0)))])) 0 0 (va_A [(a0, .inr (11, [.int r0, .ref a1, .int (iI x1), .int (iI x2), .int (iI x3), .int (iI x4), .int (iI x5), .int (iI x6), .int r1, .int (iI x7), .int (iI x8), .int (iI x9), .long y0, .int (iI x10), .ref a2, .ref a3, .ref a4, .ref a5, .ref a6, .ref a7, .ref a8, .ref a9, .ref a10, .ref a11, .int (iI x11), .ref a12, .ref a13, .ref a14, .ref a15, .int (iI x12), .int r2, .int r3, .ref a16, .int (iI x13), .int (iI x14), .ref a17, .ref a18, .int (iI x15), .ref a19, .int (iI x16), .int r4, .ref a20, .ref a21, .int (iI x17), .int r5, .ref a22, .int (iI x18), .int (iI x19), .int (iI x20), .int (iI x21)])), (a2, .inl (T 0, 329, .inl (cI f0)))] sz) := by
  refine e_Z (by decide) (Nat.le_of_ble_eq_true rfl) ?_
  intro p e s m args below meth c A Q ls M hin w ret hl
  have hx := M.1.1
  have hb := M.1.2.1
  have hl : lv_has ls 2 [(0, .ref a0), (1, .int (iI x0))] := hl
  refine lv_aload_n hx hb dX12_isBare_0 rfl (lv_at hl 0 rfl) ?_
  refine r_get (v := .ref a2) M w 0 14 clX12 rfl (by decide) G1477 rfl rfl dX12_isBare_1 ?_
  refine lv_bipush (v := iI 66) hx hb dX12_isBare_4 (by decide +kernel) ?_
  refine lv_iload_n hx hb dX12_isBare_6 rfl (lv_at hl 1 rfl) ?_
  refine r_iadd (v := iI (66 + x0)) M (iI_add _ _) dX12_isBare_7 ?_
  refine r_iald (v := iI (f0 (66 + x0))) M w 1 rfl (iI_in (by omega) (by omega) (by decide)) (cI_at (by omega) (by omega)) dX12_isBare_8 ?_
  have hh1 : (-2147483648) ≤ (f0 (66 + x0)) ∧ (f0 (66 + x0)) ≤ 2147483647 := f0_h.1 (66 + x0)
  have hh2 : (-1) ≤ (f0 (66 + x0)) ∧ (f0 (66 + x0)) ≤ 8 := (f0_h.2.1 (66 + x0)).2.2.2.1 (by omega) (by omega)
  refine lv_iconst (v := iI (-1)) hx hb dX12_isBare_9 (by decide +kernel) ?_
  refine lv_icmp_ne (tgt := 17) hx hb dX12_isBare_10 (by decide) (fun c_3 => ?_) (fun c_3 => ?_)
  · replace c_3 : ¬ (f0 (66 + x0)) = (-1) := fun h => c_3 ((iI_eq (by omega) (by omega) (by decide) (by decide)).mpr h)
    refine lv_iconst (v := iI 0) hx hb dX12_isBare_17 (by decide +kernel) ?_
    exact ret _ 0 _ _ _ _ _ [0, 1] dX12_isBare_18 (by decide +kernel) ⟨rfl, (show (0 : Int) ≤ 0 from by decide), (show (0 : Int) ≤ 1 from by decide), (show 0 = 1 → f0 (66 + x0) = -1 from (fun h => absurd h (by decide))), (show 0 = 0 → 0 ≤ f0 (66 + x0) from (fun _ => by omega))⟩ w (by decide) rfl
  · replace c_3 := (iI_eq (by omega) (by omega) (by decide) (by decide)).mp c_3
    refine lv_iconst (v := iI 1) hx hb dX12_isBare_13 (by decide +kernel) ?_
    refine lv_goto (tgt := 18) hx hb dX12_isBare_14 (by decide) ?_
    exact ret _ 1 _ _ _ _ _ [0, 1] dX12_isBare_18 (by decide +kernel) ⟨rfl, (show (0 : Int) ≤ 1 from by decide), (show (1 : Int) ≤ 1 from by decide), (show 1 = 1 → f0 (66 + x0) = -1 from (fun _ => by omega)), (show 1 = 0 → 0 ≤ f0 (66 + x0) from (fun h => absurd h (by decide)))⟩ w (by decide) rfl
set_option maxRecDepth 100000 in
set_option maxHeartbeats 4000000 in
theorem c72_X12_isTorn (l : Launch) (D : va_G) (T : Nat → ClassId) (sz : Nat) (a0 : Nat) (x0 : Int) (r0 : Int32) (a1 : Nat) (x1 : Int) (x2 : Int) (x3 : Int) (x4 : Int) (x5 : Int) (x6 : Int) (r1 : Int32) (x7 : Int) (x8 : Int) (x9 : Int) (y0 : Int64) (x10 : Int) (a2 : Nat) (a3 : Nat) (a4 : Nat) (a5 : Nat) (a6 : Nat) (a7 : Nat) (a8 : Nat) (a9 : Nat) (a10 : Nat) (a11 : Nat) (x11 : Int) (a12 : Nat) (a13 : Nat) (a14 : Nat) (a15 : Nat) (x12 : Int) (r2 : Int32) (r3 : Int32) (a16 : Nat) (x13 : Int) (x14 : Int) (a17 : Nat) (a18 : Nat) (x15 : Int) (a19 : Nat) (x16 : Int) (r4 : Int32) (a20 : Nat) (a21 : Nat) (x17 : Int) (r5 : Int32) (a22 : Nat) (x18 : Int) (x19 : Int) (x20 : Int) (x21 : Int) (f0 : Int → Int) (x0_a : 0 ≤ x0) (x0_b : x0 ≤ 8) (x1_a : 0 ≤ x1) (x1_b : x1 ≤ 940) (x2_a : 0 ≤ x2) (x2_b : x2 ≤ 940) (x3_a : 0 ≤ x3) (x3_b : x3 ≤ 940) (x4_a : 0 ≤ x4) (x4_b : x4 ≤ 940) (x5_a : 0 ≤ x5) (x5_b : x5 ≤ 940) (x6_a : 0 ≤ x6) (x6_b : x6 ≤ 4) (x7_a : (-2147483648) ≤ x7) (x7_b : x7 ≤ 2147483647) (x8_a : (-2147483648) ≤ x8) (x8_b : x8 ≤ 2147483647) (x9_a : 0 ≤ x9) (x9_b : x9 ≤ 940) (x10_a : (-2147483648) ≤ x10) (x10_b : x10 ≤ 2147483647) (x11_a : 0 ≤ x11) (x11_b : x11 ≤ 8) (x12_a : 0 ≤ x12) (x12_b : x12 ≤ 9) (x13_a : (-1) ≤ x13) (x13_b : x13 ≤ 9) (x14_a : (-1) ≤ x14) (x14_b : x14 ≤ 8) (x15_a : 0 ≤ x15) (x15_b : x15 ≤ 9) (x16_a : 0 ≤ x16) (x16_b : x16 ≤ 64) (x17_a : 0 ≤ x17) (x17_b : x17 ≤ 40) (x18_a : 0 ≤ x18) (x18_b : x18 ≤ 40) (x19_a : 0 ≤ x19) (x19_b : x19 ≤ 20) (x20_a : 0 ≤ x20) (x20_b : x20 ≤ 8) (x21_a : 0 ≤ x21) (x21_b : x21 ≤ 39) (f0_h : nowI f0) : Met l yX12_isTorn (Cond.code yX12_isTorn cX12_isTorn 2 (some .boolean) :: GW) (Rm 0 0 0) (cPre [.ref a0, .int (iI x0)] D T [(a0, .inr (11, [.int r0, .ref a1, .int (iI x1), .int (iI x2), .int (iI x3), .int (iI x4), .int (iI x5), .int (iI x6), .int r1, .int (iI x7), .int (iI x8), .int (iI x9), .long y0, .int (iI x10), .ref a2, .ref a3, .ref a4, .ref a5, .ref a6, .ref a7, .ref a8, .ref a9, .ref a10, .ref a11, .int (iI x11), .ref a12, .ref a13, .ref a14, .ref a15, .int (iI x12), .int r2, .int r3, .ref a16, .int (iI x13), .int (iI x14), .ref a17, .ref a18, .int (iI x15), .ref a19, .int (iI x16), .int r4, .ref a20, .ref a21, .int (iI x17), .int r5, .ref a22, .int (iI x18), .int (iI x19), .int (iI x20), .int (iI x21)])), (a2, .inl (T 0, 329, .inl (cI f0)))] sz) (qI D [(a0, .inr (11, [.int r0, .ref a1, .int (iI x1), .int (iI x2), .int (iI x3), .int (iI x4), .int (iI x5), .int (iI x6), .int r1, .int (iI x7), .int (iI x8), .int (iI x9), .long y0, .int (iI x10), .ref a2, .ref a3, .ref a4, .ref a5, .ref a6, .ref a7, .ref a8, .ref a9, .ref a10, .ref a11, .int (iI x11), .ref a12, .ref a13, .ref a14, .ref a15, .int (iI x12), .int r2, .int r3, .ref a16, .int (iI x13), .int (iI x14), .ref a17, .ref a18, .int (iI x15), .ref a19, .int (iI x16), .int r4, .ref a20, .ref a21, .int (iI x17), .int r5, .ref a22, .int (iI x18), .int (iI x19), .int (iI x20), .int (iI x21)])), (a2, .inl (T 0, 329, .inl (cI f0)))] sz (fun (v : Int32) (u : Int) => iI u = v ∧ 0 ≤ u ∧ u ≤ 1) (fun u => [(a0, .inr (11, [.int r0, .ref a1, .int (iI x1), .int (iI x2), .int (iI x3), .int (iI x4), .int (iI x5), .int (iI x6), .int r1, .int (iI x7), .int (iI x8), .int (iI x9), .long y0, .int (iI x10), .ref a2, .ref a3, .ref a4, .ref a5, .ref a6, .ref a7, .ref a8, .ref a9, .ref a10, .ref a11, .int (iI x11), .ref a12, .ref a13, .ref a14, .ref a15, .int (iI x12), .int r2, .int r3, .ref a16, .int (iI x13), .int (iI x14), .ref a17, .ref a18, .int (iI x15), .ref a19, .int (iI x16), .int r4, .ref a20, .ref a21, .int (iI x17), .int r5, .ref a22, .int (iI x18), .int (iI x19), .int (iI x20), .int (iI x21)])), (a2, .inl (T 0, 329, .inl (cI f0)))])) 0 0 (va_A [(a0, .inr (11, [.int r0, .ref a1, .int (iI x1), .int (iI x2), .int (iI x3), .int (iI x4), .int (iI x5), .int (iI x6), .int r1, .int (iI x7), .int (iI x8), .int (iI x9), .long y0, .int (iI x10), .ref a2, .ref a3, .ref a4, .ref a5, .ref a6, .ref a7, .ref a8, .ref a9, .ref a10, .ref a11, .int (iI x11), .ref a12, .ref a13, .ref a14, .ref a15, .int (iI x12), .int r2, .int r3, .ref a16, .int (iI x13), .int (iI x14), .ref a17, .ref a18, .int (iI x15), .ref a19, .int (iI x16), .int r4, .ref a20, .ref a21, .int (iI x17), .int r5, .ref a22, .int (iI x18), .int (iI x19), .int (iI x20), .int (iI x21)])), (a2, .inl (T 0, 329, .inl (cI f0)))] sz) := by
  refine e_Z (by decide) (Nat.le_of_ble_eq_true rfl) ?_
  intro p e s m args below meth c A Q ls M hin w ret hl
  have hx := M.1.1
  have hb := M.1.2.1
  have hl : lv_has ls 2 [(0, .ref a0), (1, .int (iI x0))] := hl
  refine lv_aload_n hx hb dX12_isTorn_0 rfl (lv_at hl 0 rfl) ?_
  refine r_get (v := .ref a2) M w 0 14 clX12 rfl (by decide) G1477 rfl rfl dX12_isTorn_1 ?_
  refine lv_bipush (v := iI 75) hx hb dX12_isTorn_4 (by decide +kernel) ?_
  refine lv_iload_n hx hb dX12_isTorn_6 rfl (lv_at hl 1 rfl) ?_
  refine r_iadd (v := iI (75 + x0)) M (iI_add _ _) dX12_isTorn_7 ?_
  refine r_iald (v := iI (f0 (75 + x0))) M w 1 rfl (iI_in (by omega) (by omega) (by decide)) (cI_at (by omega) (by omega)) dX12_isTorn_8 ?_
  have hh1 : (-2147483648) ≤ (f0 (75 + x0)) ∧ (f0 (75 + x0)) ≤ 2147483647 := f0_h.1 (75 + x0)
  refine lv_if_ne (tgt := 16) hx hb dX12_isTorn_9 (by decide) (fun c_2 => ?_) (fun c_2 => ?_)
  · replace c_2 : ¬ (f0 (75 + x0)) = 0 := fun h => c_2 ((iz_eq (by omega) (by omega)).mpr h)
    refine lv_iconst (v := iI 0) hx hb dX12_isTorn_16 (by decide +kernel) ?_
    exact ret _ 0 _ _ _ _ _ [0, 1] dX12_isTorn_17 (by decide +kernel) ⟨rfl, (show (0 : Int) ≤ 0 from by decide), (show (0 : Int) ≤ 1 from by decide)⟩ w (by decide) rfl
  · replace c_2 := (iz_eq (by omega) (by omega)).mp c_2
    refine lv_iconst (v := iI 1) hx hb dX12_isTorn_12 (by decide +kernel) ?_
    refine lv_goto (tgt := 17) hx hb dX12_isTorn_13 (by decide) ?_
    exact ret _ 1 _ _ _ _ _ [0, 1] dX12_isTorn_17 (by decide +kernel) ⟨rfl, (show (0 : Int) ≤ 1 from by decide), (show (1 : Int) ≤ 1 from by decide)⟩ w (by decide) rfl
set_option maxRecDepth 100000 in
set_option maxHeartbeats 4000000 in
theorem c73_X12_maid (l : Launch) (D : va_G) (T : Nat → ClassId) (sz : Nat) (a0 : Nat) (x0 : Int) (x1 : Int) (r0 : Int32) (a1 : Nat) (x2 : Int) (x3 : Int) (x4 : Int) (x5 : Int) (x6 : Int) (x7 : Int) (r1 : Int32) (x8 : Int) (x9 : Int) (x10 : Int) (y0 : Int64) (x11 : Int) (a2 : Nat) (a3 : Nat) (a4 : Nat) (a5 : Nat) (a6 : Nat) (a7 : Nat) (a8 : Nat) (a9 : Nat) (a10 : Nat) (a11 : Nat) (x12 : Int) (a12 : Nat) (a13 : Nat) (a14 : Nat) (a15 : Nat) (x13 : Int) (r2 : Int32) (r3 : Int32) (a16 : Nat) (x14 : Int) (x15 : Int) (a17 : Nat) (a18 : Nat) (x16 : Int) (a19 : Nat) (x17 : Int) (r4 : Int32) (a20 : Nat) (a21 : Nat) (x18 : Int) (r5 : Int32) (a22 : Nat) (x19 : Int) (x20 : Int) (x21 : Int) (x22 : Int) (f0 : Int → Int) (x0_a : (-2147483648) ≤ x0) (x0_b : x0 ≤ 2147483647) (x1_a : (-2147483648) ≤ x1) (x1_b : x1 ≤ 2147483647) (x2_a : 0 ≤ x2) (x2_b : x2 ≤ 940) (x3_a : 0 ≤ x3) (x3_b : x3 ≤ 940) (x4_a : 0 ≤ x4) (x4_b : x4 ≤ 940) (x5_a : 0 ≤ x5) (x5_b : x5 ≤ 940) (x6_a : 0 ≤ x6) (x6_b : x6 ≤ 940) (x7_a : 0 ≤ x7) (x7_b : x7 ≤ 4) (x8_a : (-2147483648) ≤ x8) (x8_b : x8 ≤ 2147483647) (x9_a : (-2147483648) ≤ x9) (x9_b : x9 ≤ 2147483647) (x10_a : 0 ≤ x10) (x10_b : x10 ≤ 940) (x11_a : (-2147483648) ≤ x11) (x11_b : x11 ≤ 2147483647) (x12_a : 0 ≤ x12) (x12_b : x12 ≤ 8) (x13_a : 0 ≤ x13) (x13_b : x13 ≤ 9) (x14_a : (-1) ≤ x14) (x14_b : x14 ≤ 9) (x15_a : (-1) ≤ x15) (x15_b : x15 ≤ 8) (x16_a : 0 ≤ x16) (x16_b : x16 ≤ 9) (x17_a : 0 ≤ x17) (x17_b : x17 ≤ 64) (x18_a : 0 ≤ x18) (x18_b : x18 ≤ 40) (x19_a : 0 ≤ x19) (x19_b : x19 ≤ 40) (x20_a : 0 ≤ x20) (x20_b : x20 ≤ 20) (x21_a : 0 ≤ x21) (x21_b : x21 ≤ 8) (x22_a : 0 ≤ x22) (x22_b : x22 ≤ 39) (f0_h : nowI f0) : Met l yX12_maid (Cond.code yX12_maid cX12_maid 3 (some .int) :: GW) (Rm 2 0 0) (cPre [.ref a0, .int (iI x0), .int (iI x1)] D T [(a0, .inr (11, [.int r0, .ref a1, .int (iI x2), .int (iI x3), .int (iI x4), .int (iI x5), .int (iI x6), .int (iI x7), .int r1, .int (iI x8), .int (iI x9), .int (iI x10), .long y0, .int (iI x11), .ref a2, .ref a3, .ref a4, .ref a5, .ref a6, .ref a7, .ref a8, .ref a9, .ref a10, .ref a11, .int (iI x12), .ref a12, .ref a13, .ref a14, .ref a15, .int (iI x13), .int r2, .int r3, .ref a16, .int (iI x14), .int (iI x15), .ref a17, .ref a18, .int (iI x16), .ref a19, .int (iI x17), .int r4, .ref a20, .ref a21, .int (iI x18), .int r5, .ref a22, .int (iI x19), .int (iI x20), .int (iI x21), .int (iI x22)])), (a2, .inl (T 0, 329, .inl (cI f0)))] sz) (qI D [(a0, .inr (11, [.int r0, .ref a1, .int (iI x2), .int (iI x3), .int (iI x4), .int (iI x5), .int (iI x6), .int (iI x7), .int r1, .int (iI x8), .int (iI x9), .int (iI x10), .long y0, .int (iI x11), .ref a2, .ref a3, .ref a4, .ref a5, .ref a6, .ref a7, .ref a8, .ref a9, .ref a10, .ref a11, .int (iI x12), .ref a12, .ref a13, .ref a14, .ref a15, .int (iI x13), .int r2, .int r3, .ref a16, .int (iI x14), .int (iI x15), .ref a17, .ref a18, .int (iI x16), .ref a19, .int (iI x17), .int r4, .ref a20, .ref a21, .int (iI x18), .int r5, .ref a22, .int (iI x19), .int (iI x20), .int (iI x21), .int (iI x22)])), (a2, .inl (T 0, 329, .inl (cI f0)))] sz (fun (v : Int32) (u : Int × Int32) => iI u.1 = v ∧ (-2147483648) ≤ u.1 ∧ u.1 ≤ 2147483647) (fun u => [(a0, .inr (11, [.int u.2, .ref a1, .int (iI x2), .int (iI x3), .int (iI x4), .int (iI x5), .int (iI x6), .int (iI x7), .int r1, .int (iI x8), .int (iI x9), .int (iI x10), .long y0, .int (iI x11), .ref a2, .ref a3, .ref a4, .ref a5, .ref a6, .ref a7, .ref a8, .ref a9, .ref a10, .ref a11, .int (iI x12), .ref a12, .ref a13, .ref a14, .ref a15, .int (iI x13), .int r2, .int r3, .ref a16, .int (iI x14), .int (iI x15), .ref a17, .ref a18, .int (iI x16), .ref a19, .int (iI x17), .int r4, .ref a20, .ref a21, .int (iI x18), .int r5, .ref a22, .int (iI x19), .int (iI x20), .int (iI x21), .int (iI x22)])), (a2, .inl (T 0, 329, .inl (cI f0)))])) 0 0 (va_A [(a0, .inr (11, [.int r0, .ref a1, .int (iI x2), .int (iI x3), .int (iI x4), .int (iI x5), .int (iI x6), .int (iI x7), .int r1, .int (iI x8), .int (iI x9), .int (iI x10), .long y0, .int (iI x11), .ref a2, .ref a3, .ref a4, .ref a5, .ref a6, .ref a7, .ref a8, .ref a9, .ref a10, .ref a11, .int (iI x12), .ref a12, .ref a13, .ref a14, .ref a15, .int (iI x13), .int r2, .int r3, .ref a16, .int (iI x14), .int (iI x15), .ref a17, .ref a18, .int (iI x16), .ref a19, .int (iI x17), .int r4, .ref a20, .ref a21, .int (iI x18), .int r5, .ref a22, .int (iI x19), .int (iI x20), .int (iI x21), .int (iI x22)])), (a2, .inl (T 0, 329, .inl (cI f0)))] sz) := by
  refine e_I (by decide) (Nat.le_of_ble_eq_true rfl) ?_
  intro p e s m args below meth c A Q ls M hin w ret hl
  have hx := M.1.1
  have hb := M.1.2.1
  have hl : lv_has ls 3 [(0, .ref a0), (1, .int (iI x0)), (2, .int (iI x1))] := hl
  refine lv_aload_n hx hb dX12_maid_0 rfl (lv_at hl 0 rfl) ?_
  refine lv_iconst (v := iI 0) hx hb dX12_maid_1 (by decide +kernel) ?_
  refine r_put (ws' := [(a0, .inr (11, [.int (iI 0), .ref a1, .int (iI x2), .int (iI x3), .int (iI x4), .int (iI x5), .int (iI x6), .int (iI x7), .int r1, .int (iI x8), .int (iI x9), .int (iI x10), .long y0, .int (iI x11), .ref a2, .ref a3, .ref a4, .ref a5, .ref a6, .ref a7, .ref a8, .ref a9, .ref a10, .ref a11, .int (iI x12), .ref a12, .ref a13, .ref a14, .ref a15, .int (iI x13), .int r2, .int r3, .ref a16, .int (iI x14), .int (iI x15), .ref a17, .ref a18, .int (iI x16), .ref a19, .int (iI x17), .int r4, .ref a20, .ref a21, .int (iI x18), .int r5, .ref a22, .int (iI x19), .int (iI x20), .int (iI x21), .int (iI x22)])), (a2, .inl (T 0, 329, .inl (cI f0)))]) M w 0 0 clX12 rfl (by decide) G1463 rfl rfl rfl rfl (Nat.le_of_ble_eq_true rfl) rfl dX12_maid_2 (fun H locs w => ?_)
  refine lv_aload_n hx hb dX12_maid_5 rfl (lv_at hl 0 rfl) ?_
  refine lv_iload_n hx hb dX12_maid_6 rfl (lv_at hl 1 rfl) ?_
  refine k_I (ce := 0) (sl := 0) (rest := []) (wr := []) (r_V (f := 1) [0, 1] M w V_HookedCityModel_252 G1756 G72 (c69_X12_isMaid l D T _ a0 x0 (iI 0) a1 x2 x3 x4 x5 x6 x7 r1 x8 x9 x10 y0 x11 a2 a3 a4 a5 a6 a7 a8 a9 a10 a11 x12 a12 a13 a14 a15 x13 r2 r3 a16 x14 x15 a17 a18 x16 a19 x17 r4 a20 a21 x18 r5 a22 x19 x20 x21 x22 f0 x0_a x0_b x2_a x2_b x3_a x3_b x4_a x4_b x5_a x5_b x6_a x6_b x7_a x7_b x8_a x8_b x9_a x9_b x10_a x10_b x11_a x11_b x12_a x12_b x13_a x13_b x14_a x14_b x15_a x15_b x16_a x16_b x17_a x17_b x18_a x18_b x19_a x19_b x20_a x20_b x21_a x21_b x22_a x22_b f0_h) 0 clX12 rfl rfl (by decide) rfl hl.1 rfl (Nat.le_of_ble_eq_true rfl) dX12_maid_7 (by decide) (by decide) (by decide) (by decide)) w [0, 1] [] rfl rfl (by decide) (by decide) rfl rfl (fun v z1 H locs hp w => ?_)
  have hv : iI z1 = v := hp.1
  subst hv
  have z1_a : 0 ≤ z1 := hp.2.1
  have z1_b : z1 ≤ 1 := hp.2.2.1
  have ee2 : 0 ≤ ((x0 + 4294967296) - (z1 * 4294967296)) := hp.2.2.2.1
  have ee3 : 0 ≤ (((2 - x0) + 4294967296) - (z1 * 4294967296)) := hp.2.2.2.2
  have w : WD D A s.heap [(a0, .inr (11, [.int (iI 0), .ref a1, .int (iI x2), .int (iI x3), .int (iI x4), .int (iI x5), .int (iI x6), .int (iI x7), .int r1, .int (iI x8), .int (iI x9), .int (iI x10), .long y0, .int (iI x11), .ref a2, .ref a3, .ref a4, .ref a5, .ref a6, .ref a7, .ref a8, .ref a9, .ref a10, .ref a11, .int (iI x12), .ref a12, .ref a13, .ref a14, .ref a15, .int (iI x13), .int r2, .int r3, .ref a16, .int (iI x14), .int (iI x15), .ref a17, .ref a18, .int (iI x16), .ref a19, .int (iI x17), .int r4, .ref a20, .ref a21, .int (iI x18), .int r5, .ref a22, .int (iI x19), .int (iI x20), .int (iI x21), .int (iI x22)])), (a2, .inl (T 0, 329, .inl (cI f0)))] H locs := w
  refine lv_if_eq (tgt := 43) hx hb dX12_maid_10 (by decide) (fun c_4 => ?_) (fun c_4 => ?_)
  · replace c_4 := (iz_eq (Int.le_trans (by decide) z1_a) (Int.le_trans z1_b (by decide))).mp c_4
    refine lv_iconst (v := iI (-1)) hx hb dX12_maid_43 (by decide +kernel) ?_
    exact ret _ ((-1), (iI 0)) _ _ _ _ _ [0, 1] dX12_maid_44 ⟨rfl, (show (-2147483648) ≤ (-1) from by decide), (show ((-1) : Int) ≤ 2147483647 from by decide)⟩ w (by decide) rfl
  · replace c_4 : ¬ z1 = 0 := fun h => c_4 ((iz_eq (Int.le_trans (by decide) z1_a) (Int.le_trans z1_b (by decide))).mpr h)
    refine lv_iload_n hx hb dX12_maid_13 rfl (lv_at hl 2 rfl) ?_
    refine lv_iconst (v := iI 0) hx hb dX12_maid_14 (by decide +kernel) ?_
    refine lv_iconst (v := iI 1) hx hb dX12_maid_15 (by decide +kernel) ?_
    refine k_I (ce := 0) (sl := 0) (rest := []) (wr := [(a0, .inr (11, [.int (iI 0), .ref a1, .int (iI x2), .int (iI x3), .int (iI x4), .int (iI x5), .int (iI x6), .int (iI x7), .int r1, .int (iI x8), .int (iI x9), .int (iI x10), .long y0, .int (iI x11), .ref a2, .ref a3, .ref a4, .ref a5, .ref a6, .ref a7, .ref a8, .ref a9, .ref a10, .ref a11, .int (iI x12), .ref a12, .ref a13, .ref a14, .ref a15, .int (iI x13), .int r2, .int r3, .ref a16, .int (iI x14), .int (iI x15), .ref a17, .ref a18, .int (iI x16), .ref a19, .int (iI x17), .int r4, .ref a20, .ref a21, .int (iI x18), .int r5, .ref a22, .int (iI x19), .int (iI x20), .int (iI x21), .int (iI x22)])), (a2, .inl (T 0, 329, .inl (cI f0)))]) (r_S (f := 0) [] M w V_HookedCityModel_75 G1693 (c6_X12_isIn l D T _ x1 0 1 x1_a x1_b (by decide) (by decide) (by decide) (by decide)) rfl (by decide) rfl hl.1 rfl (Nat.le_of_ble_eq_true rfl) dX12_maid_16 (by decide) (by decide) (by decide) (by decide)) w [] [0, 1] rfl rfl (by decide) (by decide) rfl rfl (fun v z5 H locs hp w => ?_)
    have hv : iI z5 = v := hp.1
    subst hv
    have z5_a : 0 ≤ z5 := hp.2.1
    have z5_b : z5 ≤ 1 := hp.2.2.1
    have w : WD D A s.heap [(a0, .inr (11, [.int (iI 0), .ref a1, .int (iI x2), .int (iI x3), .int (iI x4), .int (iI x5), .int (iI x6), .int (iI x7), .int r1, .int (iI x8), .int (iI x9), .int (iI x10), .long y0, .int (iI x11), .ref a2, .ref a3, .ref a4, .ref a5, .ref a6, .ref a7, .ref a8, .ref a9, .ref a10, .ref a11, .int (iI x12), .ref a12, .ref a13, .ref a14, .ref a15, .int (iI x13), .int r2, .int r3, .ref a16, .int (iI x14), .int (iI x15), .ref a17, .ref a18, .int (iI x16), .ref a19, .int (iI x17), .int r4, .ref a20, .ref a21, .int (iI x18), .int r5, .ref a22, .int (iI x19), .int (iI x20), .int (iI x21), .int (iI x22)])), (a2, .inl (T 0, 329, .inl (cI f0)))] H locs := w
    rcases hp.2.2.2 with ⟨c_6, hr⟩ | ⟨c_7, c_8, hr⟩ | ⟨c_9, c_10, hr⟩
    · subst hr
      refine lv_if_eq (tgt := 43) hx hb dX12_maid_19 (by decide) (fun _ => ?_) (fun c => absurd (by decide +kernel) c)
      refine lv_iconst (v := iI (-1)) hx hb dX12_maid_43 (by decide +kernel) ?_
      exact ret _ ((-1), (iI 0)) _ _ _ _ _ [0, 1] dX12_maid_44 ⟨rfl, (show (-2147483648) ≤ (-1) from by decide), (show ((-1) : Int) ≤ 2147483647 from by decide)⟩ w (by decide) rfl
    · subst hr
      refine lv_if_eq (tgt := 43) hx hb dX12_maid_19 (by decide) (fun _ => ?_) (fun c => absurd (by decide +kernel) c)
      refine lv_iconst (v := iI (-1)) hx hb dX12_maid_43 (by decide +kernel) ?_
      exact ret _ ((-1), (iI 0)) _ _ _ _ _ [0, 1] dX12_maid_44 ⟨rfl, (show (-2147483648) ≤ (-1) from by decide), (show ((-1) : Int) ≤ 2147483647 from by decide)⟩ w (by decide) rfl
    · subst hr
      refine lv_if_eq (tgt := 43) hx hb dX12_maid_19 (by decide) (fun c => absurd c (by decide +kernel)) (fun _ => ?_)
      refine lv_aload_n hx hb dX12_maid_22 rfl (lv_at hl 0 rfl) ?_
      refine r_get (v := .ref a2) M w 0 14 clX12 rfl (by decide) G1477 rfl rfl dX12_maid_23 ?_
      refine lv_iload_n hx hb dX12_maid_26 rfl (lv_at hl 2 rfl) ?_
      refine lv_if_ne (tgt := 35) hx hb dX12_maid_27 (by decide) (fun c_11 => ?_) (fun c_11 => ?_)
      · replace c_11 : ¬ x1 = 0 := fun h => c_11 ((iz_eq (Int.le_trans (by decide) x1_a) (Int.le_trans x1_b (by decide))).mpr h)
        refine lv_bipush (v := iI 84) hx hb dX12_maid_35 (by decide +kernel) ?_
        refine lv_iload_n hx hb dX12_maid_37 rfl (lv_at hl 1 rfl) ?_
        refine r_iadd (v := iI (84 + x0)) M (iI_add _ _) dX12_maid_38 ?_
        refine r_iald (v := iI (f0 (84 + x0))) M w 1 rfl (iI_in (by omega) (by omega) (by decide)) (cI_at (by omega) (by omega)) dX12_maid_39 ?_
        have hh12 : (-2147483648) ≤ (f0 (84 + x0)) ∧ (f0 (84 + x0)) ≤ 2147483647 := f0_h.1 (84 + x0)
        refine lv_goto (tgt := 44) hx hb dX12_maid_40 (by decide) ?_
        exact ret _ ((f0 (84 + x0)), (iI 0)) _ _ _ _ _ [0, 1] dX12_maid_44 ⟨rfl, (show (-2147483648) ≤ (f0 (84 + x0)) from by omega), (show (f0 (84 + x0)) ≤ 2147483647 from by omega)⟩ w (by decide) rfl
      · replace c_11 := (iz_eq (Int.le_trans (by decide) x1_a) (Int.le_trans x1_b (by decide))).mp c_11
        refine lv_bipush (v := iI 41) hx hb dX12_maid_30 (by decide +kernel) ?_
        refine lv_goto (tgt := 37) hx hb dX12_maid_32 (by decide) ?_
        refine lv_iload_n hx hb dX12_maid_37 rfl (lv_at hl 1 rfl) ?_
        refine r_iadd (v := iI (41 + x0)) M (iI_add _ _) dX12_maid_38 ?_
        refine r_iald (v := iI (f0 (41 + x0))) M w 1 rfl (iI_in (by omega) (by omega) (by decide)) (cI_at (by omega) (by omega)) dX12_maid_39 ?_
        have hh13 : (-2147483648) ≤ (f0 (41 + x0)) ∧ (f0 (41 + x0)) ≤ 2147483647 := f0_h.1 (41 + x0)
        refine lv_goto (tgt := 44) hx hb dX12_maid_40 (by decide) ?_
        exact ret _ ((f0 (41 + x0)), (iI 0)) _ _ _ _ _ [0, 1] dX12_maid_44 ⟨rfl, (show (-2147483648) ≤ (f0 (41 + x0)) from by omega), (show (f0 (41 + x0)) ≤ 2147483647 from by omega)⟩ w (by decide) rfl
set_option maxRecDepth 100000 in
set_option maxHeartbeats 4000000 in
theorem c74_X12_opens (l : Launch) (D : va_G) (T : Nat → ClassId) (sz : Nat) (a0 : Nat) (r0 : Int32) (a1 : Nat) (x0 : Int) (x1 : Int) (x2 : Int) (x3 : Int) (x4 : Int) (x5 : Int) (r1 : Int32) (x6 : Int) (x7 : Int) (x8 : Int) (y0 : Int64) (x9 : Int) (a2 : Nat) (a3 : Nat) (a4 : Nat) (a5 : Nat) (a6 : Nat) (a7 : Nat) (a8 : Nat) (a9 : Nat) (a10 : Nat) (a11 : Nat) (x10 : Int) (a12 : Nat) (a13 : Nat) (a14 : Nat) (a15 : Nat) (x11 : Int) (r2 : Int32) (r3 : Int32) (a16 : Nat) (x12 : Int) (x13 : Int) (a17 : Nat) (a18 : Nat) (x14 : Int) (a19 : Nat) (x15 : Int) (r4 : Int32) (a20 : Nat) (a21 : Nat) (x16 : Int) (r5 : Int32) (a22 : Nat) (x17 : Int) (x18 : Int) (x19 : Int) (x20 : Int) (f0 : Int → Int) (x0_a : 0 ≤ x0) (x0_b : x0 ≤ 940) (x1_a : 0 ≤ x1) (x1_b : x1 ≤ 940) (x2_a : 0 ≤ x2) (x2_b : x2 ≤ 940) (x3_a : 0 ≤ x3) (x3_b : x3 ≤ 940) (x4_a : 0 ≤ x4) (x4_b : x4 ≤ 940) (x5_a : 0 ≤ x5) (x5_b : x5 ≤ 4) (x6_a : (-2147483648) ≤ x6) (x6_b : x6 ≤ 2147483647) (x7_a : (-2147483648) ≤ x7) (x7_b : x7 ≤ 2147483647) (x8_a : 0 ≤ x8) (x8_b : x8 ≤ 940) (x9_a : (-2147483648) ≤ x9) (x9_b : x9 ≤ 2147483647) (x10_a : 0 ≤ x10) (x10_b : x10 ≤ 8) (x11_a : 0 ≤ x11) (x11_b : x11 ≤ 9) (x12_a : (-1) ≤ x12) (x12_b : x12 ≤ 9) (x13_a : (-1) ≤ x13) (x13_b : x13 ≤ 8) (x14_a : 0 ≤ x14) (x14_b : x14 ≤ 9) (x15_a : 0 ≤ x15) (x15_b : x15 ≤ 64) (x16_a : 0 ≤ x16) (x16_b : x16 ≤ 40) (x17_a : 0 ≤ x17) (x17_b : x17 ≤ 40) (x18_a : 0 ≤ x18) (x18_b : x18 ≤ 20) (x19_a : 0 ≤ x19) (x19_b : x19 ≤ 8) (x20_a : 0 ≤ x20) (x20_b : x20 ≤ 39) (f0_h : nowI f0) : Met l yX12_opens (Cond.code yX12_opens cX12_opens 3 (some .int) :: GW) (Rm 1 0 0) (cPre [.ref a0] D T [(a0, .inr (11, [.int r0, .ref a1, .int (iI x0), .int (iI x1), .int (iI x2), .int (iI x3), .int (iI x4), .int (iI x5), .int r1, .int (iI x6), .int (iI x7), .int (iI x8), .long y0, .int (iI x9), .ref a2, .ref a3, .ref a4, .ref a5, .ref a6, .ref a7, .ref a8, .ref a9, .ref a10, .ref a11, .int (iI x10), .ref a12, .ref a13, .ref a14, .ref a15, .int (iI x11), .int r2, .int r3, .ref a16, .int (iI x12), .int (iI x13), .ref a17, .ref a18, .int (iI x14), .ref a19, .int (iI x15), .int r4, .ref a20, .ref a21, .int (iI x16), .int r5, .ref a22, .int (iI x17), .int (iI x18), .int (iI x19), .int (iI x20)])), (a2, .inl (T 0, 329, .inl (cI f0)))] sz) (qI D [(a0, .inr (11, [.int r0, .ref a1, .int (iI x0), .int (iI x1), .int (iI x2), .int (iI x3), .int (iI x4), .int (iI x5), .int r1, .int (iI x6), .int (iI x7), .int (iI x8), .long y0, .int (iI x9), .ref a2, .ref a3, .ref a4, .ref a5, .ref a6, .ref a7, .ref a8, .ref a9, .ref a10, .ref a11, .int (iI x10), .ref a12, .ref a13, .ref a14, .ref a15, .int (iI x11), .int r2, .int r3, .ref a16, .int (iI x12), .int (iI x13), .ref a17, .ref a18, .int (iI x14), .ref a19, .int (iI x15), .int r4, .ref a20, .ref a21, .int (iI x16), .int r5, .ref a22, .int (iI x17), .int (iI x18), .int (iI x19), .int (iI x20)])), (a2, .inl (T 0, 329, .inl (cI f0)))] sz (fun (v : Int32) (u : Int) => iI u = v ∧ (-2147483648) ≤ u ∧ u ≤ 2147483647) (fun u => [(a0, .inr (11, [.int r0, .ref a1, .int (iI x0), .int (iI x1), .int (iI x2), .int (iI x3), .int (iI x4), .int (iI x5), .int r1, .int (iI x6), .int (iI x7), .int (iI x8), .long y0, .int (iI x9), .ref a2, .ref a3, .ref a4, .ref a5, .ref a6, .ref a7, .ref a8, .ref a9, .ref a10, .ref a11, .int (iI x10), .ref a12, .ref a13, .ref a14, .ref a15, .int (iI x11), .int r2, .int r3, .ref a16, .int (iI x12), .int (iI x13), .ref a17, .ref a18, .int (iI x14), .ref a19, .int (iI x15), .int r4, .ref a20, .ref a21, .int (iI x16), .int r5, .ref a22, .int (iI x17), .int (iI x18), .int (iI x19), .int (iI x20)])), (a2, .inl (T 0, 329, .inl (cI f0)))])) 0 0 (va_A [(a0, .inr (11, [.int r0, .ref a1, .int (iI x0), .int (iI x1), .int (iI x2), .int (iI x3), .int (iI x4), .int (iI x5), .int r1, .int (iI x6), .int (iI x7), .int (iI x8), .long y0, .int (iI x9), .ref a2, .ref a3, .ref a4, .ref a5, .ref a6, .ref a7, .ref a8, .ref a9, .ref a10, .ref a11, .int (iI x10), .ref a12, .ref a13, .ref a14, .ref a15, .int (iI x11), .int r2, .int r3, .ref a16, .int (iI x12), .int (iI x13), .ref a17, .ref a18, .int (iI x14), .ref a19, .int (iI x15), .int r4, .ref a20, .ref a21, .int (iI x16), .int r5, .ref a22, .int (iI x17), .int (iI x18), .int (iI x19), .int (iI x20)])), (a2, .inl (T 0, 329, .inl (cI f0)))] sz) := by
  refine e_I (by decide) (Nat.le_of_ble_eq_true rfl) ?_
  intro p e s m args below meth c A Q ls M hin w ret hl
  have hx := M.1.1
  have hb := M.1.2.1
  have hl : lv_has ls 3 [(0, .ref a0)] := hl
  refine lv_iconst (v := iI 0) hx hb dX12_opens_0 (by decide +kernel) ?_
  refine lv_istore_n (lv' := [(1, .int (iI 0)), (0, .ref a0)]) hx hb dX12_opens_1 rfl hl (by decide) rfl (fun ls hl => ?_)
  refine lv_iconst (v := iI 0) hx hb dX12_opens_2 (by decide +kernel) ?_
  refine lv_istore_n (lv' := [(2, .int (iI 0)), (1, .int (iI 0)), (0, .ref a0)]) hx hb dX12_opens_3 rfl hl (by decide) rfl (fun ls hl => ?_)
  have loop1 : ∀ (k1 : Nat) (z1 : Int) (z2 : Int) (H : Heap) (locs : List Loc) (ls : Array Slot), 0 ≤ z1 → z1 ≤ 9 → (-2147483648) ≤ z2 → z2 ≤ 2147483647 → ((9 - z1) : Int).toNat < k1 → WD D A s.heap [(a0, .inr (11, [.int r0, .ref a1, .int (iI x0), .int (iI x1), .int (iI x2), .int (iI x3), .int (iI x4), .int (iI x5), .int r1, .int (iI x6), .int (iI x7), .int (iI x8), .long y0, .int (iI x9), .ref a2, .ref a3, .ref a4, .ref a5, .ref a6, .ref a7, .ref a8, .ref a9, .ref a10, .ref a11, .int (iI x10), .ref a12, .ref a13, .ref a14, .ref a15, .int (iI x11), .int r2, .int r3, .ref a16, .int (iI x12), .int (iI x13), .ref a17, .ref a18, .int (iI x14), .ref a19, .int (iI x15), .int r4, .ref a20, .ref a21, .int (iI x16), .int r5, .ref a22, .int (iI x17), .int (iI x18), .int (iI x19), .int (iI x20)])), (a2, .inl (T 0, 329, .inl (cI f0)))] H locs → lv_has ls 3 [(2, .int (iI z1)), (1, .int (iI z2)), (0, .ref a0)] → W p l e (Rm 1 0 0) s m args below meth c H locs 0 0 Q (F0 m 4 ls []) := by
    intro k1
    induction k1 with
    | zero => intro z1 z2 H locs ls z1_a z1_b z2_a z2_b hm; exact absurd hm (Nat.not_lt_zero _)
    | succ k1 ih1 =>
      intro z1 z2 H locs ls z1_a z1_b z2_a z2_b hm1 w hl
      refine lv_iload_n hx hb dX12_opens_4 rfl (lv_at hl 0 rfl) ?_
      refine lv_aload_n hx hb dX12_opens_5 rfl (lv_at hl 2 rfl) ?_
      refine r_get (v := .ref a2) M w 0 14 clX12 rfl (by decide) G1477 rfl rfl dX12_opens_6 ?_
      refine lv_iconst (v := iI 0) hx hb dX12_opens_9 (by decide +kernel) ?_
      refine r_iald (v := iI (f0 0)) M w 1 rfl (iI_in (by decide) (by decide) (by decide)) (cI_at (by omega) (by omega)) dX12_opens_10 ?_
      have hh3 : (-2147483648) ≤ (f0 0) ∧ (f0 0) ≤ 2147483647 := f0_h.1 0
      have hh4 : 0 ≤ (f0 0) ∧ (f0 0) ≤ 9 := (f0_h.2.1 0).1 (by omega)
      refine lv_icmp_ge (tgt := 34) hx hb dX12_opens_11 (by decide) (fun c_5 => ?_) (fun c_5 => ?_)
      · replace c_5 := (iI_le (by omega) (by omega) (Int.le_trans (by decide) z1_a) (Int.le_trans z1_b (by decide))).mp c_5
        refine lv_iload_n hx hb dX12_opens_34 rfl (lv_at hl 1 rfl) ?_
        exact ret _ z2 _ _ _ _ _ [0, 1] dX12_opens_35 ⟨rfl, z2_a, z2_b⟩ w (by decide) rfl
      · replace c_5 : z1 < (f0 0) := Int.not_le.mp (fun h => c_5 ((iI_le (by omega) (by omega) (Int.le_trans (by decide) z1_a) (Int.le_trans z1_b (by decide))).mpr h))
        refine lv_aload_n hx hb dX12_opens_14 rfl (lv_at hl 2 rfl) ?_
        refine lv_iload_n hx hb dX12_opens_15 rfl (lv_at hl 0 rfl) ?_
        refine k_I (ce := 0) (sl := 0) (rest := []) (wr := []) (r_V (f := 0) [0, 1] M w V_HookedCityModel_255 G1768 G74 (c70_X12_isOpen l D T _ a0 z1 r0 a1 x0 x1 x2 x3 x4 x5 r1 x6 x7 x8 y0 x9 a2 a3 a4 a5 a6 a7 a8 a9 a10 a11 x10 a12 a13 a14 a15 x11 r2 r3 a16 x12 x13 a17 a18 x14 a19 x15 r4 a20 a21 x16 r5 a22 x17 x18 x19 x20 f0 (by omega) (by omega) x0_a x0_b x1_a x1_b x2_a x2_b x3_a x3_b x4_a x4_b x5_a x5_b x6_a x6_b x7_a x7_b x8_a x8_b x9_a x9_b x10_a x10_b x11_a x11_b x12_a x12_b x13_a x13_b x14_a x14_b x15_a x15_b x16_a x16_b x17_a x17_b x18_a x18_b x19_a x19_b x20_a x20_b f0_h) 0 clX12 rfl rfl (by decide) rfl hl.1 rfl (Nat.le_of_ble_eq_true rfl) dX12_opens_16 (by decide) (by decide) (by decide) (by decide)) w [0, 1] [] rfl rfl (by decide) (by decide) rfl rfl (fun v z6 H locs hp w => ?_)
        have hv : iI z6 = v := hp.1
        subst hv
        have z6_a : 0 ≤ z6 := hp.2.1
        have z6_b : z6 ≤ 1 := hp.2.2.1
        have pq7 : z6 = 0 → 0 ≤ f0 (57 + z1) := hp.2.2.2
        have w : WD D A s.heap [(a0, .inr (11, [.int r0, .ref a1, .int (iI x0), .int (iI x1), .int (iI x2), .int (iI x3), .int (iI x4), .int (iI x5), .int r1, .int (iI x6), .int (iI x7), .int (iI x8), .long y0, .int (iI x9), .ref a2, .ref a3, .ref a4, .ref a5, .ref a6, .ref a7, .ref a8, .ref a9, .ref a10, .ref a11, .int (iI x10), .ref a12, .ref a13, .ref a14, .ref a15, .int (iI x11), .int r2, .int r3, .ref a16, .int (iI x12), .int (iI x13), .ref a17, .ref a18, .int (iI x14), .ref a19, .int (iI x15), .int r4, .ref a20, .ref a21, .int (iI x16), .int r5, .ref a22, .int (iI x17), .int (iI x18), .int (iI x19), .int (iI x20)])), (a2, .inl (T 0, 329, .inl (cI f0)))] H locs := w
        refine lv_if_eq (tgt := 28) hx hb dX12_opens_19 (by decide) (fun c_8 => ?_) (fun c_8 => ?_)
        · replace c_8 := (iz_eq (Int.le_trans (by decide) z6_a) (Int.le_trans z6_b (by decide))).mp c_8
          refine lv_iinc (v := iI (z1 + 1)) (lv' := [(2, .int (iI (z1 + 1))), (1, .int (iI z2)), (0, .ref a0)]) hx hb dX12_opens_28 hl (k := 0) rfl (ii_inc (by decide +kernel)) (by decide) rfl (fun ls hl => ?_)
          refine lv_goto (tgt := 4) hx hb dX12_opens_31 (by decide) ?_
          exact ih1 (z1 + 1) z2 _ _ _ (by omega) (by omega) z2_a z2_b (by omega) w (lv_sub hl [0, 1, 2] rfl)
        · replace c_8 : ¬ z6 = 0 := fun h => c_8 ((iz_eq (Int.le_trans (by decide) z6_a) (Int.le_trans z6_b (by decide))).mpr h)
          refine lv_iload_n hx hb dX12_opens_22 rfl (lv_at hl 1 rfl) ?_
          refine lv_iconst (v := iI 1) hx hb dX12_opens_23 (by decide +kernel) ?_
          refine lv_iload_n hx hb dX12_opens_24 rfl (lv_at hl 0 rfl) ?_
          refine r_ishl (v := _) M rfl dX12_opens_25 ?_
          refine b_rng (lo := 1) (hi := 256) (ishl_9 (by omega) (by omega)) (fun z9 z9_a z9_b => ?_)
          refine r_ior (v := _) M rfl dX12_opens_26 ?_
          refine b_any (fun z10 z10_a z10_b => ?_)
          refine lv_istore_n (lv' := [(1, .int (iI z10)), (2, .int (iI z1)), (0, .ref a0)]) hx hb dX12_opens_27 rfl hl (by decide) rfl (fun ls hl => ?_)
          refine lv_iinc (v := iI (z1 + 1)) (lv' := [(2, .int (iI (z1 + 1))), (1, .int (iI z10)), (0, .ref a0)]) hx hb dX12_opens_28 hl (k := 1) rfl (ii_inc (by decide +kernel)) (by decide) rfl (fun ls hl => ?_)
          refine lv_goto (tgt := 4) hx hb dX12_opens_31 (by decide) ?_
          exact ih1 (z1 + 1) z10 _ _ _ (by omega) (by omega) z10_a z10_b (by omega) w (lv_sub hl [0, 1, 2] rfl)
  exact loop1 ((9 : Int).toNat + 1) 0 0 _ _ _ (by decide) (by decide) (by decide) (by decide) (Nat.lt_succ_self _) w (lv_sub hl [0, 1, 2] rfl)
set_option maxRecDepth 100000 in
set_option maxHeartbeats 4000000 in
theorem c75_X12_isJuly (l : Launch) (D : va_G) (T : Nat → ClassId) (sz : Nat) (a0 : Nat) (r0 : Int32) (a1 : Nat) (x0 : Int) (x1 : Int) (x2 : Int) (x3 : Int) (x4 : Int) (x5 : Int) (r1 : Int32) (x6 : Int) (x7 : Int) (x8 : Int) (y0 : Int64) (x9 : Int) (a2 : Nat) (a3 : Nat) (a4 : Nat) (a5 : Nat) (a6 : Nat) (a7 : Nat) (a8 : Nat) (a9 : Nat) (a10 : Nat) (a11 : Nat) (x10 : Int) (a12 : Nat) (a13 : Nat) (a14 : Nat) (a15 : Nat) (x11 : Int) (r2 : Int32) (r3 : Int32) (a16 : Nat) (x12 : Int) (x13 : Int) (a17 : Nat) (a18 : Nat) (x14 : Int) (a19 : Nat) (x15 : Int) (r4 : Int32) (a20 : Nat) (a21 : Nat) (x16 : Int) (r5 : Int32) (a22 : Nat) (x17 : Int) (x18 : Int) (x19 : Int) (x20 : Int) (f0 : Int → Int) (x0_a : 0 ≤ x0) (x0_b : x0 ≤ 940) (x1_a : 0 ≤ x1) (x1_b : x1 ≤ 940) (x2_a : 0 ≤ x2) (x2_b : x2 ≤ 940) (x3_a : 0 ≤ x3) (x3_b : x3 ≤ 940) (x4_a : 0 ≤ x4) (x4_b : x4 ≤ 940) (x5_a : 0 ≤ x5) (x5_b : x5 ≤ 4) (x6_a : (-2147483648) ≤ x6) (x6_b : x6 ≤ 2147483647) (x7_a : (-2147483648) ≤ x7) (x7_b : x7 ≤ 2147483647) (x8_a : 0 ≤ x8) (x8_b : x8 ≤ 940) (x9_a : (-2147483648) ≤ x9) (x9_b : x9 ≤ 2147483647) (x10_a : 0 ≤ x10) (x10_b : x10 ≤ 8) (x11_a : 0 ≤ x11) (x11_b : x11 ≤ 9) (x12_a : (-1) ≤ x12) (x12_b : x12 ≤ 9) (x13_a : (-1) ≤ x13) (x13_b : x13 ≤ 8) (x14_a : 0 ≤ x14) (x14_b : x14 ≤ 9) (x15_a : 0 ≤ x15) (x15_b : x15 ≤ 64) (x16_a : 0 ≤ x16) (x16_b : x16 ≤ 40) (x17_a : 0 ≤ x17) (x17_b : x17 ≤ 40) (x18_a : 0 ≤ x18) (x18_b : x18 ≤ 20) (x19_a : 0 ≤ x19) (x19_b : x19 ≤ 8) (x20_a : 0 ≤ x20) (x20_b : x20 ≤ 39) (f0_h : nowI f0) : Met l yX12_isJuly (Cond.code yX12_isJuly cX12_isJuly 1 (some .boolean) :: GW) (Rm 0 0 0) (cPre [.ref a0] D T [(a0, .inr (11, [.int r0, .ref a1, .int (iI x0), .int (iI x1), .int (iI x2), .int (iI x3), .int (iI x4), .int (iI x5), .int r1, .int (iI x6), .int (iI x7), .int (iI x8), .long y0, .int (iI x9), .ref a2, .ref a3, .ref a4, .ref a5, .ref a6, .ref a7, .ref a8, .ref a9, .ref a10, .ref a11, .int (iI x10), .ref a12, .ref a13, .ref a14, .ref a15, .int (iI x11), .int r2, .int r3, .ref a16, .int (iI x12), .int (iI x13), .ref a17, .ref a18, .int (iI x14), .ref a19, .int (iI x15), .int r4, .ref a20, .ref a21, .int (iI x16), .int r5, .ref a22, .int (iI x17), .int (iI x18), .int (iI x19), .int (iI x20)])), (a2, .inl (T 0, 329, .inl (cI f0)))] sz) (qI D [(a0, .inr (11, [.int r0, .ref a1, .int (iI x0), .int (iI x1), .int (iI x2), .int (iI x3), .int (iI x4), .int (iI x5), .int r1, .int (iI x6), .int (iI x7), .int (iI x8), .long y0, .int (iI x9), .ref a2, .ref a3, .ref a4, .ref a5, .ref a6, .ref a7, .ref a8, .ref a9, .ref a10, .ref a11, .int (iI x10), .ref a12, .ref a13, .ref a14, .ref a15, .int (iI x11), .int r2, .int r3, .ref a16, .int (iI x12), .int (iI x13), .ref a17, .ref a18, .int (iI x14), .ref a19, .int (iI x15), .int r4, .ref a20, .ref a21, .int (iI x16), .int r5, .ref a22, .int (iI x17), .int (iI x18), .int (iI x19), .int (iI x20)])), (a2, .inl (T 0, 329, .inl (cI f0)))] sz (fun (v : Int32) (u : Int) => iI u = v ∧ 0 ≤ u ∧ u ≤ 1) (fun u => [(a0, .inr (11, [.int r0, .ref a1, .int (iI x0), .int (iI x1), .int (iI x2), .int (iI x3), .int (iI x4), .int (iI x5), .int r1, .int (iI x6), .int (iI x7), .int (iI x8), .long y0, .int (iI x9), .ref a2, .ref a3, .ref a4, .ref a5, .ref a6, .ref a7, .ref a8, .ref a9, .ref a10, .ref a11, .int (iI x10), .ref a12, .ref a13, .ref a14, .ref a15, .int (iI x11), .int r2, .int r3, .ref a16, .int (iI x12), .int (iI x13), .ref a17, .ref a18, .int (iI x14), .ref a19, .int (iI x15), .int r4, .ref a20, .ref a21, .int (iI x16), .int r5, .ref a22, .int (iI x17), .int (iI x18), .int (iI x19), .int (iI x20)])), (a2, .inl (T 0, 329, .inl (cI f0)))])) 0 0 (va_A [(a0, .inr (11, [.int r0, .ref a1, .int (iI x0), .int (iI x1), .int (iI x2), .int (iI x3), .int (iI x4), .int (iI x5), .int r1, .int (iI x6), .int (iI x7), .int (iI x8), .long y0, .int (iI x9), .ref a2, .ref a3, .ref a4, .ref a5, .ref a6, .ref a7, .ref a8, .ref a9, .ref a10, .ref a11, .int (iI x10), .ref a12, .ref a13, .ref a14, .ref a15, .int (iI x11), .int r2, .int r3, .ref a16, .int (iI x12), .int (iI x13), .ref a17, .ref a18, .int (iI x14), .ref a19, .int (iI x15), .int r4, .ref a20, .ref a21, .int (iI x16), .int r5, .ref a22, .int (iI x17), .int (iI x18), .int (iI x19), .int (iI x20)])), (a2, .inl (T 0, 329, .inl (cI f0)))] sz) := by
  refine e_Z (by decide) (Nat.le_of_ble_eq_true rfl) ?_
  intro p e s m args below meth c A Q ls M hin w ret hl
  have hx := M.1.1
  have hb := M.1.2.1
  have hl : lv_has ls 1 [(0, .ref a0)] := hl
  refine lv_aload_n hx hb dX12_isJuly_0 rfl (lv_at hl 0 rfl) ?_
  refine r_get (v := .ref a2) M w 0 14 clX12 rfl (by decide) G1477 rfl rfl dX12_isJuly_1 ?_
  refine lv_bipush (v := iI 53) hx hb dX12_isJuly_4 (by decide +kernel) ?_
  refine r_iald (v := iI (f0 53)) M w 1 rfl (iI_in (by decide) (by decide) (by decide)) (cI_at (by omega) (by omega)) dX12_isJuly_6 ?_
  have hh1 : (-2147483648) ≤ (f0 53) ∧ (f0 53) ≤ 2147483647 := f0_h.1 53
  refine lv_aload_n hx hb dX12_isJuly_7 rfl (lv_at hl 0 rfl) ?_
  refine r_get (v := .ref a2) M w 0 14 clX12 rfl (by decide) G1477 rfl rfl dX12_isJuly_8 ?_
  refine lv_iconst (v := iI 3) hx hb dX12_isJuly_11 (by decide +kernel) ?_
  refine r_iald (v := iI (f0 3)) M w 1 rfl (iI_in (by decide) (by decide) (by decide)) (cI_at (by omega) (by omega)) dX12_isJuly_12 ?_
  have hh2 : (-2147483648) ≤ (f0 3) ∧ (f0 3) ≤ 2147483647 := f0_h.1 3
  have hh3 : 2 ≤ (f0 3) ∧ (f0 3) ≤ 60 := (f0_h.2.1 3).2.2.1 (by omega)
  refine r_irem (v := _) M rfl (iz_ne (by omega) (by omega) (Or.inr (by omega))) dX12_isJuly_13 ?_
  refine b_any (fun z4 z4_a z4_b => ?_)
  refine lv_aload_n hx hb dX12_isJuly_14 rfl (lv_at hl 0 rfl) ?_
  refine r_get (v := .ref a2) M w 0 14 clX12 rfl (by decide) G1477 rfl rfl dX12_isJuly_15 ?_
  refine lv_iconst (v := iI 4) hx hb dX12_isJuly_18 (by decide +kernel) ?_
  refine r_iald (v := iI (f0 4)) M w 1 rfl (iI_in (by decide) (by decide) (by decide)) (cI_at (by omega) (by omega)) dX12_isJuly_19 ?_
  have hh5 : (-2147483648) ≤ (f0 4) ∧ (f0 4) ≤ 2147483647 := f0_h.1 4
  refine lv_icmp_ge (tgt := 27) hx hb dX12_isJuly_20 (by decide) (fun c_6 => ?_) (fun c_6 => ?_)
  · replace c_6 := (iI_le (by omega) (by omega) (Int.le_trans (by decide) z4_a) (Int.le_trans z4_b (by decide))).mp c_6
    refine lv_iconst (v := iI 0) hx hb dX12_isJuly_27 (by decide +kernel) ?_
    exact ret _ 0 _ _ _ _ _ [0, 1] dX12_isJuly_28 (by decide +kernel) ⟨rfl, (show (0 : Int) ≤ 0 from by decide), (show (0 : Int) ≤ 1 from by decide)⟩ w (by decide) rfl
  · replace c_6 : z4 < (f0 4) := Int.not_le.mp (fun h => c_6 ((iI_le (by omega) (by omega) (Int.le_trans (by decide) z4_a) (Int.le_trans z4_b (by decide))).mpr h))
    refine lv_iconst (v := iI 1) hx hb dX12_isJuly_23 (by decide +kernel) ?_
    refine lv_goto (tgt := 28) hx hb dX12_isJuly_24 (by decide) ?_
    exact ret _ 1 _ _ _ _ _ [0, 1] dX12_isJuly_28 (by decide +kernel) ⟨rfl, (show (0 : Int) ≤ 1 from by decide), (show (1 : Int) ≤ 1 from by decide)⟩ w (by decide) rfl
set_option maxRecDepth 100000 in
set_option maxHeartbeats 4000000 in
theorem c76_X12_now (l : Launch) (D : va_G) (T : Nat → ClassId) (sz : Nat) (a0 : Nat) (x0 : Int) (r0 : Int32) (a1 : Nat) (x1 : Int) (x2 : Int) (x3 : Int) (x4 : Int) (x5 : Int) (x6 : Int) (r1 : Int32) (x7 : Int) (x8 : Int) (x9 : Int) (y0 : Int64) (x10 : Int) (a2 : Nat) (a3 : Nat) (a4 : Nat) (a5 : Nat) (a6 : Nat) (a7 : Nat) (a8 : Nat) (a9 : Nat) (a10 : Nat) (a11 : Nat) (x11 : Int) (a12 : Nat) (a13 : Nat) (a14 : Nat) (a15 : Nat) (x12 : Int) (r2 : Int32) (r3 : Int32) (a16 : Nat) (x13 : Int) (x14 : Int) (a17 : Nat) (a18 : Nat) (x15 : Int) (a19 : Nat) (x16 : Int) (r4 : Int32) (a20 : Nat) (a21 : Nat) (x17 : Int) (r5 : Int32) (a22 : Nat) (x18 : Int) (x19 : Int) (x20 : Int) (x21 : Int) (f0 : Int → Int) (x0_a : (-2147483648) ≤ x0) (x0_b : x0 ≤ 2147483647) (x1_a : 0 ≤ x1) (x1_b : x1 ≤ 940) (x2_a : 0 ≤ x2) (x2_b : x2 ≤ 940) (x3_a : 0 ≤ x3) (x3_b : x3 ≤ 940) (x4_a : 0 ≤ x4) (x4_b : x4 ≤ 940) (x5_a : 0 ≤ x5) (x5_b : x5 ≤ 940) (x6_a : 0 ≤ x6) (x6_b : x6 ≤ 4) (x7_a : (-2147483648) ≤ x7) (x7_b : x7 ≤ 2147483647) (x8_a : (-2147483648) ≤ x8) (x8_b : x8 ≤ 2147483647) (x9_a : 0 ≤ x9) (x9_b : x9 ≤ 940) (x10_a : (-2147483648) ≤ x10) (x10_b : x10 ≤ 2147483647) (x11_a : 0 ≤ x11) (x11_b : x11 ≤ 8) (x12_a : 0 ≤ x12) (x12_b : x12 ≤ 9) (x13_a : (-1) ≤ x13) (x13_b : x13 ≤ 9) (x14_a : (-1) ≤ x14) (x14_b : x14 ≤ 8) (x15_a : 0 ≤ x15) (x15_b : x15 ≤ 9) (x16_a : 0 ≤ x16) (x16_b : x16 ≤ 64) (x17_a : 0 ≤ x17) (x17_b : x17 ≤ 40) (x18_a : 0 ≤ x18) (x18_b : x18 ≤ 40) (x19_a : 0 ≤ x19) (x19_b : x19 ≤ 20) (x20_a : 0 ≤ x20) (x20_b : x20 ≤ 8) (x21_a : 0 ≤ x21) (x21_b : x21 ≤ 39) (f0_h : nowI f0) : Met l yX12_now (Cond.code yX12_now cX12_now 4 (some .int) :: GW) (Rm 2 0 0) (cPre [.ref a0, .int (iI x0)] D T [(a0, .inr (11, [.int r0, .ref a1, .int (iI x1), .int (iI x2), .int (iI x3), .int (iI x4), .int (iI x5), .int (iI x6), .int r1, .int (iI x7), .int (iI x8), .int (iI x9), .long y0, .int (iI x10), .ref a2, .ref a3, .ref a4, .ref a5, .ref a6, .ref a7, .ref a8, .ref a9, .ref a10, .ref a11, .int (iI x11), .ref a12, .ref a13, .ref a14, .ref a15, .int (iI x12), .int r2, .int r3, .ref a16, .int (iI x13), .int (iI x14), .ref a17, .ref a18, .int (iI x15), .ref a19, .int (iI x16), .int r4, .ref a20, .ref a21, .int (iI x17), .int r5, .ref a22, .int (iI x18), .int (iI x19), .int (iI x20), .int (iI x21)])), (a2, .inl (T 0, 329, .inl (cI f0)))] sz) (qI D [(a0, .inr (11, [.int r0, .ref a1, .int (iI x1), .int (iI x2), .int (iI x3), .int (iI x4), .int (iI x5), .int (iI x6), .int r1, .int (iI x7), .int (iI x8), .int (iI x9), .long y0, .int (iI x10), .ref a2, .ref a3, .ref a4, .ref a5, .ref a6, .ref a7, .ref a8, .ref a9, .ref a10, .ref a11, .int (iI x11), .ref a12, .ref a13, .ref a14, .ref a15, .int (iI x12), .int r2, .int r3, .ref a16, .int (iI x13), .int (iI x14), .ref a17, .ref a18, .int (iI x15), .ref a19, .int (iI x16), .int r4, .ref a20, .ref a21, .int (iI x17), .int r5, .ref a22, .int (iI x18), .int (iI x19), .int (iI x20), .int (iI x21)])), (a2, .inl (T 0, 329, .inl (cI f0)))] sz (fun (v : Int32) (u : Int × Int32) => iI u.1 = v ∧ (-2147483648) ≤ u.1 ∧ u.1 ≤ 2147483647) (fun u => [(a0, .inr (11, [.int u.2, .ref a1, .int (iI x1), .int (iI x2), .int (iI x3), .int (iI x4), .int (iI x5), .int (iI x6), .int r1, .int (iI x7), .int (iI x8), .int (iI x9), .long y0, .int (iI x10), .ref a2, .ref a3, .ref a4, .ref a5, .ref a6, .ref a7, .ref a8, .ref a9, .ref a10, .ref a11, .int (iI x11), .ref a12, .ref a13, .ref a14, .ref a15, .int (iI x12), .int r2, .int r3, .ref a16, .int (iI x13), .int (iI x14), .ref a17, .ref a18, .int (iI x15), .ref a19, .int (iI x16), .int r4, .ref a20, .ref a21, .int (iI x17), .int r5, .ref a22, .int (iI x18), .int (iI x19), .int (iI x20), .int (iI x21)])), (a2, .inl (T 0, 329, .inl (cI f0)))])) 0 0 (va_A [(a0, .inr (11, [.int r0, .ref a1, .int (iI x1), .int (iI x2), .int (iI x3), .int (iI x4), .int (iI x5), .int (iI x6), .int r1, .int (iI x7), .int (iI x8), .int (iI x9), .long y0, .int (iI x10), .ref a2, .ref a3, .ref a4, .ref a5, .ref a6, .ref a7, .ref a8, .ref a9, .ref a10, .ref a11, .int (iI x11), .ref a12, .ref a13, .ref a14, .ref a15, .int (iI x12), .int r2, .int r3, .ref a16, .int (iI x13), .int (iI x14), .ref a17, .ref a18, .int (iI x15), .ref a19, .int (iI x16), .int r4, .ref a20, .ref a21, .int (iI x17), .int r5, .ref a22, .int (iI x18), .int (iI x19), .int (iI x20), .int (iI x21)])), (a2, .inl (T 0, 329, .inl (cI f0)))] sz) := by
  refine e_I (by decide) (Nat.le_of_ble_eq_true rfl) ?_
  intro p e s m args below meth c A Q ls M hin w ret hl
  have hx := M.1.1
  have hb := M.1.2.1
  have hl : lv_has ls 4 [(0, .ref a0), (1, .int (iI x0))] := hl
  refine lv_aload_n hx hb dX12_now_0 rfl (lv_at hl 0 rfl) ?_
  refine lv_iconst (v := iI 0) hx hb dX12_now_1 (by decide +kernel) ?_
  refine r_put (ws' := [(a0, .inr (11, [.int (iI 0), .ref a1, .int (iI x1), .int (iI x2), .int (iI x3), .int (iI x4), .int (iI x5), .int (iI x6), .int r1, .int (iI x7), .int (iI x8), .int (iI x9), .long y0, .int (iI x10), .ref a2, .ref a3, .ref a4, .ref a5, .ref a6, .ref a7, .ref a8, .ref a9, .ref a10, .ref a11, .int (iI x11), .ref a12, .ref a13, .ref a14, .ref a15, .int (iI x12), .int r2, .int r3, .ref a16, .int (iI x13), .int (iI x14), .ref a17, .ref a18, .int (iI x15), .ref a19, .int (iI x16), .int r4, .ref a20, .ref a21, .int (iI x17), .int r5, .ref a22, .int (iI x18), .int (iI x19), .int (iI x20), .int (iI x21)])), (a2, .inl (T 0, 329, .inl (cI f0)))]) M w 0 0 clX12 rfl (by decide) G1463 rfl rfl rfl rfl (Nat.le_of_ble_eq_true rfl) rfl dX12_now_2 (fun H locs w => ?_)
  refine lv_iconst (v := iI 0) hx hb dX12_now_5 (by decide +kernel) ?_
  refine lv_istore_n (lv' := [(2, .int (iI 0)), (0, .ref a0), (1, .int (iI x0))]) hx hb dX12_now_6 rfl hl (by decide) rfl (fun ls hl => ?_)
  refine lv_iload_n hx hb dX12_now_7 rfl (lv_at hl 2 rfl) ?_
  by_cases c_1 : x0 = 0
  · refine lv_tableIn (off := 48) (tgt := 56) hx hb dX12_now_8 (by rw [c_1]; decide +kernel) (by rw [c_1]; decide +kernel) (by rw [c_1]; decide +kernel) (by decide) ?_
    refine lv_aload_n hx hb dX12_now_56 rfl (lv_at hl 1 rfl) ?_
    refine r_get (v := .ref a2) M w 0 14 clX12 rfl (by decide) G1477 rfl rfl dX12_now_57 ?_
    refine lv_bipush (v := iI 53) hx hb dX12_now_60 (by decide +kernel) ?_
    refine r_iald (v := iI (f0 53)) M w 1 rfl (iI_in (by decide) (by decide) (by decide)) (cI_at (by omega) (by omega)) dX12_now_62 ?_
    have hh2 : (-2147483648) ≤ (f0 53) ∧ (f0 53) ≤ 2147483647 := f0_h.1 53
    exact ret _ ((f0 53), (iI 0)) _ _ _ _ _ [0, 1] dX12_now_63 ⟨rfl, (show (-2147483648) ≤ (f0 53) from by omega), (show (f0 53) ≤ 2147483647 from by omega)⟩ w (by decide) rfl
  by_cases c_3 : x0 = 1
  · refine lv_tableIn (off := 56) (tgt := 64) hx hb dX12_now_8 (by rw [c_3]; decide +kernel) (by rw [c_3]; decide +kernel) (by rw [c_3]; decide +kernel) (by decide) ?_
    refine lv_aload_n hx hb dX12_now_64 rfl (lv_at hl 1 rfl) ?_
    refine k_I (ce := 0) (sl := 0) (rest := []) (wr := []) (r_V (f := 1) [0, 1] M w V_HookedCityModel_258 G1764 G73 (c74_X12_opens l D T _ a0 (iI 0) a1 x1 x2 x3 x4 x5 x6 r1 x7 x8 x9 y0 x10 a2 a3 a4 a5 a6 a7 a8 a9 a10 a11 x11 a12 a13 a14 a15 x12 r2 r3 a16 x13 x14 a17 a18 x15 a19 x16 r4 a20 a21 x17 r5 a22 x18 x19 x20 x21 f0 x1_a x1_b x2_a x2_b x3_a x3_b x4_a x4_b x5_a x5_b x6_a x6_b x7_a x7_b x8_a x8_b x9_a x9_b x10_a x10_b x11_a x11_b x12_a x12_b x13_a x13_b x14_a x14_b x15_a x15_b x16_a x16_b x17_a x17_b x18_a x18_b x19_a x19_b x20_a x20_b x21_a x21_b f0_h) 0 clX12 rfl rfl (by decide) rfl hl.1 rfl (Nat.le_of_ble_eq_true rfl) dX12_now_65 (by decide) (by decide) (by decide) (by decide)) w [0, 1] [] rfl rfl (by decide) (by decide) rfl rfl (fun v z4 H locs hp w => ?_)
    have hv : iI z4 = v := hp.1
    subst hv
    have z4_a : (-2147483648) ≤ z4 := hp.2.1
    have z4_b : z4 ≤ 2147483647 := hp.2.2
    have w : WD D A s.heap [(a0, .inr (11, [.int (iI 0), .ref a1, .int (iI x1), .int (iI x2), .int (iI x3), .int (iI x4), .int (iI x5), .int (iI x6), .int r1, .int (iI x7), .int (iI x8), .int (iI x9), .long y0, .int (iI x10), .ref a2, .ref a3, .ref a4, .ref a5, .ref a6, .ref a7, .ref a8, .ref a9, .ref a10, .ref a11, .int (iI x11), .ref a12, .ref a13, .ref a14, .ref a15, .int (iI x12), .int r2, .int r3, .ref a16, .int (iI x13), .int (iI x14), .ref a17, .ref a18, .int (iI x15), .ref a19, .int (iI x16), .int r4, .ref a20, .ref a21, .int (iI x17), .int r5, .ref a22, .int (iI x18), .int (iI x19), .int (iI x20), .int (iI x21)])), (a2, .inl (T 0, 329, .inl (cI f0)))] H locs := w
    exact ret _ (z4, (iI 0)) _ _ _ _ _ [0, 1] dX12_now_68 ⟨rfl, z4_a, z4_b⟩ w (by decide) rfl
  by_cases c_5 : x0 = 2
  · refine lv_tableIn (off := 61) (tgt := 69) hx hb dX12_now_8 (by rw [c_5]; decide +kernel) (by rw [c_5]; decide +kernel) (by rw [c_5]; decide +kernel) (by decide) ?_
    refine lv_iconst (v := iI 0) hx hb dX12_now_69 (by decide +kernel) ?_
    refine lv_istore_n (lv' := [(3, .int (iI 0)), (2, .int (iI 0)), (0, .ref a0), (1, .int (iI x0))]) hx hb dX12_now_70 rfl hl (by decide) rfl (fun ls hl => ?_)
    have loop1 : ∀ (k1 : Nat) (z6 : Int) (z7 : Int) (H : Heap) (locs : List Loc) (ls : Array Slot), 0 ≤ z6 → z6 ≤ 9 → (-2147483648) ≤ z7 → z7 ≤ 2147483647 → ((9 - z6) : Int).toNat < k1 → WD D A s.heap [(a0, .inr (11, [.int (iI 0), .ref a1, .int (iI x1), .int (iI x2), .int (iI x3), .int (iI x4), .int (iI x5), .int (iI x6), .int r1, .int (iI x7), .int (iI x8), .int (iI x9), .long y0, .int (iI x10), .ref a2, .ref a3, .ref a4, .ref a5, .ref a6, .ref a7, .ref a8, .ref a9, .ref a10, .ref a11, .int (iI x11), .ref a12, .ref a13, .ref a14, .ref a15, .int (iI x12), .int r2, .int r3, .ref a16, .int (iI x13), .int (iI x14), .ref a17, .ref a18, .int (iI x15), .ref a19, .int (iI x16), .int r4, .ref a20, .ref a21, .int (iI x17), .int r5, .ref a22, .int (iI x18), .int (iI x19), .int (iI x20), .int (iI x21)])), (a2, .inl (T 0, 329, .inl (cI f0)))] H locs → lv_has ls 4 [(3, .int (iI z6)), (2, .int (iI z7)), (0, .ref a0), (1, .int (iI x0))] → W p l e (Rm 2 0 0) s m args below meth c H locs 0 0 Q (F0 m 71 ls []) := by
      intro k1
      induction k1 with
      | zero => intro z6 z7 H locs ls z6_a z6_b z7_a z7_b hm; exact absurd hm (Nat.not_lt_zero _)
      | succ k1 ih1 =>
        intro z6 z7 H locs ls z6_a z6_b z7_a z7_b hm1 w hl
        refine lv_iload_n hx hb dX12_now_71 rfl (lv_at hl 0 rfl) ?_
        refine lv_aload_n hx hb dX12_now_72 rfl (lv_at hl 2 rfl) ?_
        refine r_get (v := .ref a2) M w 0 14 clX12 rfl (by decide) G1477 rfl rfl dX12_now_73 ?_
        refine lv_iconst (v := iI 0) hx hb dX12_now_76 (by decide +kernel) ?_
        refine r_iald (v := iI (f0 0)) M w 1 rfl (iI_in (by decide) (by decide) (by decide)) (cI_at (by omega) (by omega)) dX12_now_77 ?_
        have hh8 : (-2147483648) ≤ (f0 0) ∧ (f0 0) ≤ 2147483647 := f0_h.1 0
        have hh9 : 0 ≤ (f0 0) ∧ (f0 0) ≤ 9 := (f0_h.2.1 0).1 (by omega)
        refine lv_icmp_ge (tgt := 101) hx hb dX12_now_78 (by decide) (fun c_10 => ?_) (fun c_10 => ?_)
        · replace c_10 := (iI_le (by omega) (by omega) (Int.le_trans (by decide) z6_a) (Int.le_trans z6_b (by decide))).mp c_10
          refine lv_iload_n hx hb dX12_now_101 rfl (lv_at hl 1 rfl) ?_
          exact ret _ (z7, (iI 0)) _ _ _ _ _ [0, 1] dX12_now_102 ⟨rfl, z7_a, z7_b⟩ w (by decide) rfl
        · replace c_10 : z6 < (f0 0) := Int.not_le.mp (fun h => c_10 ((iI_le (by omega) (by omega) (Int.le_trans (by decide) z6_a) (Int.le_trans z6_b (by decide))).mpr h))
          refine lv_aload_n hx hb dX12_now_81 rfl (lv_at hl 2 rfl) ?_
          refine lv_iload_n hx hb dX12_now_82 rfl (lv_at hl 0 rfl) ?_
          refine k_I (ce := 0) (sl := 0) (rest := []) (wr := []) (r_V (f := 0) [0, 1] M w V_HookedCityModel_261 G1772 G75 (c71_X12_isBare l D T _ a0 z6 (iI 0) a1 x1 x2 x3 x4 x5 x6 r1 x7 x8 x9 y0 x10 a2 a3 a4 a5 a6 a7 a8 a9 a10 a11 x11 a12 a13 a14 a15 x12 r2 r3 a16 x13 x14 a17 a18 x15 a19 x16 r4 a20 a21 x17 r5 a22 x18 x19 x20 x21 f0 (by omega) (by omega) x1_a x1_b x2_a x2_b x3_a x3_b x4_a x4_b x5_a x5_b x6_a x6_b x7_a x7_b x8_a x8_b x9_a x9_b x10_a x10_b x11_a x11_b x12_a x12_b x13_a x13_b x14_a x14_b x15_a x15_b x16_a x16_b x17_a x17_b x18_a x18_b x19_a x19_b x20_a x20_b x21_a x21_b f0_h) 0 clX12 rfl rfl (by decide) rfl hl.1 rfl (Nat.le_of_ble_eq_true rfl) dX12_now_83 (by decide) (by decide) (by decide) (by decide)) w [0, 1] [] rfl rfl (by decide) (by decide) rfl rfl (fun v z11 H locs hp w => ?_)
          have hv : iI z11 = v := hp.1
          subst hv
          have z11_a : 0 ≤ z11 := hp.2.1
          have z11_b : z11 ≤ 1 := hp.2.2.1
          have pq12 : z11 = 1 → f0 (66 + z6) = -1 := hp.2.2.2.1
          have pq13 : z11 = 0 → 0 ≤ f0 (66 + z6) := hp.2.2.2.2
          have w : WD D A s.heap [(a0, .inr (11, [.int (iI 0), .ref a1, .int (iI x1), .int (iI x2), .int (iI x3), .int (iI x4), .int (iI x5), .int (iI x6), .int r1, .int (iI x7), .int (iI x8), .int (iI x9), .long y0, .int (iI x10), .ref a2, .ref a3, .ref a4, .ref a5, .ref a6, .ref a7, .ref a8, .ref a9, .ref a10, .ref a11, .int (iI x11), .ref a12, .ref a13, .ref a14, .ref a15, .int (iI x12), .int r2, .int r3, .ref a16, .int (iI x13), .int (iI x14), .ref a17, .ref a18, .int (iI x15), .ref a19, .int (iI x16), .int r4, .ref a20, .ref a21, .int (iI x17), .int r5, .ref a22, .int (iI x18), .int (iI x19), .int (iI x20), .int (iI x21)])), (a2, .inl (T 0, 329, .inl (cI f0)))] H locs := w
          refine lv_if_eq (tgt := 95) hx hb dX12_now_86 (by decide) (fun c_14 => ?_) (fun c_14 => ?_)
          · replace c_14 := (iz_eq (Int.le_trans (by decide) z11_a) (Int.le_trans z11_b (by decide))).mp c_14
            refine lv_iinc (v := iI (z6 + 1)) (lv' := [(3, .int (iI (z6 + 1))), (2, .int (iI z7)), (0, .ref a0), (1, .int (iI x0))]) hx hb dX12_now_95 hl (k := 0) rfl (ii_inc (by decide +kernel)) (by decide) rfl (fun ls hl => ?_)
            refine lv_goto (tgt := 71) hx hb dX12_now_98 (by decide) ?_
            exact ih1 (z6 + 1) z7 _ _ _ (by omega) (by omega) z7_a z7_b (by omega) w (lv_sub hl [0, 1, 2, 3] rfl)
          · replace c_14 : ¬ z11 = 0 := fun h => c_14 ((iz_eq (Int.le_trans (by decide) z11_a) (Int.le_trans z11_b (by decide))).mpr h)
            refine lv_iload_n hx hb dX12_now_89 rfl (lv_at hl 1 rfl) ?_
            refine lv_iconst (v := iI 1) hx hb dX12_now_90 (by decide +kernel) ?_
            refine lv_iload_n hx hb dX12_now_91 rfl (lv_at hl 0 rfl) ?_
            refine r_ishl (v := _) M rfl dX12_now_92 ?_
            refine b_rng (lo := 1) (hi := 256) (ishl_9 (by omega) (by omega)) (fun z15 z15_a z15_b => ?_)
            refine r_ior (v := _) M rfl dX12_now_93 ?_
            refine b_any (fun z16 z16_a z16_b => ?_)
            refine lv_istore_n (lv' := [(2, .int (iI z16)), (3, .int (iI z6)), (0, .ref a0), (1, .int (iI x0))]) hx hb dX12_now_94 rfl hl (by decide) rfl (fun ls hl => ?_)
            refine lv_iinc (v := iI (z6 + 1)) (lv' := [(3, .int (iI (z6 + 1))), (2, .int (iI z16)), (0, .ref a0), (1, .int (iI x0))]) hx hb dX12_now_95 hl (k := 1) rfl (ii_inc (by decide +kernel)) (by decide) rfl (fun ls hl => ?_)
            refine lv_goto (tgt := 71) hx hb dX12_now_98 (by decide) ?_
            exact ih1 (z6 + 1) z16 _ _ _ (by omega) (by omega) z16_a z16_b (by omega) w (lv_sub hl [0, 1, 2, 3] rfl)
    exact loop1 ((9 : Int).toNat + 1) 0 0 _ _ _ (by decide) (by decide) (by decide) (by decide) (Nat.lt_succ_self _) w (lv_sub hl [0, 1, 2, 3] rfl)
  by_cases c_17 : x0 = 3
  · refine lv_tableIn (off := 95) (tgt := 103) hx hb dX12_now_8 (by rw [c_17]; decide +kernel) (by rw [c_17]; decide +kernel) (by rw [c_17]; decide +kernel) (by decide) ?_
    refine lv_iconst (v := iI 0) hx hb dX12_now_103 (by decide +kernel) ?_
    refine lv_istore_n (lv' := [(3, .int (iI 0)), (2, .int (iI 0)), (0, .ref a0), (1, .int (iI x0))]) hx hb dX12_now_104 rfl hl (by decide) rfl (fun ls hl => ?_)
    have loop1 : ∀ (k1 : Nat) (z18 : Int) (z19 : Int) (H : Heap) (locs : List Loc) (ls : Array Slot), 0 ≤ z18 → z18 ≤ 9 → (-2147483648) ≤ z19 → z19 ≤ 2147483647 → ((9 - z18) : Int).toNat < k1 → WD D A s.heap [(a0, .inr (11, [.int (iI 0), .ref a1, .int (iI x1), .int (iI x2), .int (iI x3), .int (iI x4), .int (iI x5), .int (iI x6), .int r1, .int (iI x7), .int (iI x8), .int (iI x9), .long y0, .int (iI x10), .ref a2, .ref a3, .ref a4, .ref a5, .ref a6, .ref a7, .ref a8, .ref a9, .ref a10, .ref a11, .int (iI x11), .ref a12, .ref a13, .ref a14, .ref a15, .int (iI x12), .int r2, .int r3, .ref a16, .int (iI x13), .int (iI x14), .ref a17, .ref a18, .int (iI x15), .ref a19, .int (iI x16), .int r4, .ref a20, .ref a21, .int (iI x17), .int r5, .ref a22, .int (iI x18), .int (iI x19), .int (iI x20), .int (iI x21)])), (a2, .inl (T 0, 329, .inl (cI f0)))] H locs → lv_has ls 4 [(3, .int (iI z18)), (2, .int (iI z19)), (0, .ref a0), (1, .int (iI x0))] → W p l e (Rm 2 0 0) s m args below meth c H locs 0 0 Q (F0 m 105 ls []) := by
      intro k1
      induction k1 with
      | zero => intro z18 z19 H locs ls z18_a z18_b z19_a z19_b hm; exact absurd hm (Nat.not_lt_zero _)
      | succ k1 ih1 =>
        intro z18 z19 H locs ls z18_a z18_b z19_a z19_b hm1 w hl
        refine lv_iload_n hx hb dX12_now_105 rfl (lv_at hl 0 rfl) ?_
        refine lv_aload_n hx hb dX12_now_106 rfl (lv_at hl 2 rfl) ?_
        refine r_get (v := .ref a2) M w 0 14 clX12 rfl (by decide) G1477 rfl rfl dX12_now_107 ?_
        refine lv_iconst (v := iI 0) hx hb dX12_now_110 (by decide +kernel) ?_
        refine r_iald (v := iI (f0 0)) M w 1 rfl (iI_in (by decide) (by decide) (by decide)) (cI_at (by omega) (by omega)) dX12_now_111 ?_
        have hh20 : (-2147483648) ≤ (f0 0) ∧ (f0 0) ≤ 2147483647 := f0_h.1 0
        have hh21 : 0 ≤ (f0 0) ∧ (f0 0) ≤ 9 := (f0_h.2.1 0).1 (by omega)
        refine lv_icmp_ge (tgt := 135) hx hb dX12_now_112 (by decide) (fun c_22 => ?_) (fun c_22 => ?_)
        · replace c_22 := (iI_le (by omega) (by omega) (Int.le_trans (by decide) z18_a) (Int.le_trans z18_b (by decide))).mp c_22
          refine lv_iload_n hx hb dX12_now_135 rfl (lv_at hl 1 rfl) ?_
          exact ret _ (z19, (iI 0)) _ _ _ _ _ [0, 1] dX12_now_136 ⟨rfl, z19_a, z19_b⟩ w (by decide) rfl
        · replace c_22 : z18 < (f0 0) := Int.not_le.mp (fun h => c_22 ((iI_le (by omega) (by omega) (Int.le_trans (by decide) z18_a) (Int.le_trans z18_b (by decide))).mpr h))
          refine lv_aload_n hx hb dX12_now_115 rfl (lv_at hl 2 rfl) ?_
          refine lv_iload_n hx hb dX12_now_116 rfl (lv_at hl 0 rfl) ?_
          refine k_I (ce := 0) (sl := 0) (rest := []) (wr := []) (r_V (f := 0) [0, 1] M w V_HookedCityModel_264 G1776 G76 (c72_X12_isTorn l D T _ a0 z18 (iI 0) a1 x1 x2 x3 x4 x5 x6 r1 x7 x8 x9 y0 x10 a2 a3 a4 a5 a6 a7 a8 a9 a10 a11 x11 a12 a13 a14 a15 x12 r2 r3 a16 x13 x14 a17 a18 x15 a19 x16 r4 a20 a21 x17 r5 a22 x18 x19 x20 x21 f0 (by omega) (by omega) x1_a x1_b x2_a x2_b x3_a x3_b x4_a x4_b x5_a x5_b x6_a x6_b x7_a x7_b x8_a x8_b x9_a x9_b x10_a x10_b x11_a x11_b x12_a x12_b x13_a x13_b x14_a x14_b x15_a x15_b x16_a x16_b x17_a x17_b x18_a x18_b x19_a x19_b x20_a x20_b x21_a x21_b f0_h) 0 clX12 rfl rfl (by decide) rfl hl.1 rfl (Nat.le_of_ble_eq_true rfl) dX12_now_117 (by decide) (by decide) (by decide) (by decide)) w [0, 1] [] rfl rfl (by decide) (by decide) rfl rfl (fun v z23 H locs hp w => ?_)
          have hv : iI z23 = v := hp.1
          subst hv
          have z23_a : 0 ≤ z23 := hp.2.1
          have z23_b : z23 ≤ 1 := hp.2.2
          have w : WD D A s.heap [(a0, .inr (11, [.int (iI 0), .ref a1, .int (iI x1), .int (iI x2), .int (iI x3), .int (iI x4), .int (iI x5), .int (iI x6), .int r1, .int (iI x7), .int (iI x8), .int (iI x9), .long y0, .int (iI x10), .ref a2, .ref a3, .ref a4, .ref a5, .ref a6, .ref a7, .ref a8, .ref a9, .ref a10, .ref a11, .int (iI x11), .ref a12, .ref a13, .ref a14, .ref a15, .int (iI x12), .int r2, .int r3, .ref a16, .int (iI x13), .int (iI x14), .ref a17, .ref a18, .int (iI x15), .ref a19, .int (iI x16), .int r4, .ref a20, .ref a21, .int (iI x17), .int r5, .ref a22, .int (iI x18), .int (iI x19), .int (iI x20), .int (iI x21)])), (a2, .inl (T 0, 329, .inl (cI f0)))] H locs := w
          refine lv_if_eq (tgt := 129) hx hb dX12_now_120 (by decide) (fun c_24 => ?_) (fun c_24 => ?_)
          · replace c_24 := (iz_eq (Int.le_trans (by decide) z23_a) (Int.le_trans z23_b (by decide))).mp c_24
            refine lv_iinc (v := iI (z18 + 1)) (lv' := [(3, .int (iI (z18 + 1))), (2, .int (iI z19)), (0, .ref a0), (1, .int (iI x0))]) hx hb dX12_now_129 hl (k := 0) rfl (ii_inc (by decide +kernel)) (by decide) rfl (fun ls hl => ?_)
            refine lv_goto (tgt := 105) hx hb dX12_now_132 (by decide) ?_
            exact ih1 (z18 + 1) z19 _ _ _ (by omega) (by omega) z19_a z19_b (by omega) w (lv_sub hl [0, 1, 2, 3] rfl)
          · replace c_24 : ¬ z23 = 0 := fun h => c_24 ((iz_eq (Int.le_trans (by decide) z23_a) (Int.le_trans z23_b (by decide))).mpr h)
            refine lv_iload_n hx hb dX12_now_123 rfl (lv_at hl 1 rfl) ?_
            refine lv_iconst (v := iI 1) hx hb dX12_now_124 (by decide +kernel) ?_
            refine lv_iload_n hx hb dX12_now_125 rfl (lv_at hl 0 rfl) ?_
            refine r_ishl (v := _) M rfl dX12_now_126 ?_
            refine b_rng (lo := 1) (hi := 256) (ishl_9 (by omega) (by omega)) (fun z25 z25_a z25_b => ?_)
            refine r_ior (v := _) M rfl dX12_now_127 ?_
            refine b_any (fun z26 z26_a z26_b => ?_)
            refine lv_istore_n (lv' := [(2, .int (iI z26)), (3, .int (iI z18)), (0, .ref a0), (1, .int (iI x0))]) hx hb dX12_now_128 rfl hl (by decide) rfl (fun ls hl => ?_)
            refine lv_iinc (v := iI (z18 + 1)) (lv' := [(3, .int (iI (z18 + 1))), (2, .int (iI z26)), (0, .ref a0), (1, .int (iI x0))]) hx hb dX12_now_129 hl (k := 1) rfl (ii_inc (by decide +kernel)) (by decide) rfl (fun ls hl => ?_)
            refine lv_goto (tgt := 105) hx hb dX12_now_132 (by decide) ?_
            exact ih1 (z18 + 1) z26 _ _ _ (by omega) (by omega) z26_a z26_b (by omega) w (lv_sub hl [0, 1, 2, 3] rfl)
    exact loop1 ((9 : Int).toNat + 1) 0 0 _ _ _ (by decide) (by decide) (by decide) (by decide) (Nat.lt_succ_self _) w (lv_sub hl [0, 1, 2, 3] rfl)
  by_cases c_27 : x0 = 4
  · refine lv_tableIn (off := 129) (tgt := 137) hx hb dX12_now_8 (by rw [c_27]; decide +kernel) (by rw [c_27]; decide +kernel) (by rw [c_27]; decide +kernel) (by decide) ?_
    refine lv_aload_n hx hb dX12_now_137 rfl (lv_at hl 1 rfl) ?_
    refine r_get (v := .ref a2) M w 0 14 clX12 rfl (by decide) G1477 rfl rfl dX12_now_138 ?_
    refine lv_bipush (v := iI 54) hx hb dX12_now_141 (by decide +kernel) ?_
    refine r_iald (v := iI (f0 54)) M w 1 rfl (iI_in (by decide) (by decide) (by decide)) (cI_at (by omega) (by omega)) dX12_now_143 ?_
    have hh28 : (-2147483648) ≤ (f0 54) ∧ (f0 54) ≤ 2147483647 := f0_h.1 54
    exact ret _ ((f0 54), (iI 0)) _ _ _ _ _ [0, 1] dX12_now_144 ⟨rfl, (show (-2147483648) ≤ (f0 54) from by omega), (show (f0 54) ≤ 2147483647 from by omega)⟩ w (by decide) rfl
  by_cases c_29 : x0 = 5
  · refine lv_tableIn (off := 137) (tgt := 145) hx hb dX12_now_8 (by rw [c_29]; decide +kernel) (by rw [c_29]; decide +kernel) (by rw [c_29]; decide +kernel) (by decide) ?_
    refine lv_aload_n hx hb dX12_now_145 rfl (lv_at hl 1 rfl) ?_
    refine r_get (v := .ref a2) M w 0 14 clX12 rfl (by decide) G1477 rfl rfl dX12_now_146 ?_
    refine lv_bipush (v := iI 55) hx hb dX12_now_149 (by decide +kernel) ?_
    refine r_iald (v := iI (f0 55)) M w 1 rfl (iI_in (by decide) (by decide) (by decide)) (cI_at (by omega) (by omega)) dX12_now_151 ?_
    have hh30 : (-2147483648) ≤ (f0 55) ∧ (f0 55) ≤ 2147483647 := f0_h.1 55
    exact ret _ ((f0 55), (iI 0)) _ _ _ _ _ [0, 1] dX12_now_152 ⟨rfl, (show (-2147483648) ≤ (f0 55) from by omega), (show (f0 55) ≤ 2147483647 from by omega)⟩ w (by decide) rfl
  by_cases c_31 : x0 = 6
  · refine lv_tableIn (off := 145) (tgt := 153) hx hb dX12_now_8 (by rw [c_31]; decide +kernel) (by rw [c_31]; decide +kernel) (by rw [c_31]; decide +kernel) (by decide) ?_
    refine lv_aload_n hx hb dX12_now_153 rfl (lv_at hl 1 rfl) ?_
    refine r_get (v := .ref a2) M w 0 14 clX12 rfl (by decide) G1477 rfl rfl dX12_now_154 ?_
    refine lv_bipush (v := iI 56) hx hb dX12_now_157 (by decide +kernel) ?_
    refine r_iald (v := iI (f0 56)) M w 1 rfl (iI_in (by decide) (by decide) (by decide)) (cI_at (by omega) (by omega)) dX12_now_159 ?_
    have hh32 : (-2147483648) ≤ (f0 56) ∧ (f0 56) ≤ 2147483647 := f0_h.1 56
    exact ret _ ((f0 56), (iI 0)) _ _ _ _ _ [0, 1] dX12_now_160 ⟨rfl, (show (-2147483648) ≤ (f0 56) from by omega), (show (f0 56) ≤ 2147483647 from by omega)⟩ w (by decide) rfl
  by_cases c_33 : x0 = 7
  · refine lv_tableIn (off := 153) (tgt := 161) hx hb dX12_now_8 (by rw [c_33]; decide +kernel) (by rw [c_33]; decide +kernel) (by rw [c_33]; decide +kernel) (by decide) ?_
    refine lv_aload_n hx hb dX12_now_161 rfl (lv_at hl 1 rfl) ?_
    refine k_I (ce := 0) (sl := 0) (rest := []) (wr := []) (r_V (f := 0) [0, 1] M w V_HookedCityModel_267 G1780 G77 (c75_X12_isJuly l D T _ a0 (iI 0) a1 x1 x2 x3 x4 x5 x6 r1 x7 x8 x9 y0 x10 a2 a3 a4 a5 a6 a7 a8 a9 a10 a11 x11 a12 a13 a14 a15 x12 r2 r3 a16 x13 x14 a17 a18 x15 a19 x16 r4 a20 a21 x17 r5 a22 x18 x19 x20 x21 f0 x1_a x1_b x2_a x2_b x3_a x3_b x4_a x4_b x5_a x5_b x6_a x6_b x7_a x7_b x8_a x8_b x9_a x9_b x10_a x10_b x11_a x11_b x12_a x12_b x13_a x13_b x14_a x14_b x15_a x15_b x16_a x16_b x17_a x17_b x18_a x18_b x19_a x19_b x20_a x20_b x21_a x21_b f0_h) 0 clX12 rfl rfl (by decide) rfl hl.1 rfl (Nat.le_of_ble_eq_true rfl) dX12_now_162 (by decide) (by decide) (by decide) (by decide)) w [0, 1] [] rfl rfl (by decide) (by decide) rfl rfl (fun v z34 H locs hp w => ?_)
    have hv : iI z34 = v := hp.1
    subst hv
    have z34_a : 0 ≤ z34 := hp.2.1
    have z34_b : z34 ≤ 1 := hp.2.2
    have w : WD D A s.heap [(a0, .inr (11, [.int (iI 0), .ref a1, .int (iI x1), .int (iI x2), .int (iI x3), .int (iI x4), .int (iI x5), .int (iI x6), .int r1, .int (iI x7), .int (iI x8), .int (iI x9), .long y0, .int (iI x10), .ref a2, .ref a3, .ref a4, .ref a5, .ref a6, .ref a7, .ref a8, .ref a9, .ref a10, .ref a11, .int (iI x11), .ref a12, .ref a13, .ref a14, .ref a15, .int (iI x12), .int r2, .int r3, .ref a16, .int (iI x13), .int (iI x14), .ref a17, .ref a18, .int (iI x15), .ref a19, .int (iI x16), .int r4, .ref a20, .ref a21, .int (iI x17), .int r5, .ref a22, .int (iI x18), .int (iI x19), .int (iI x20), .int (iI x21)])), (a2, .inl (T 0, 329, .inl (cI f0)))] H locs := w
    refine lv_if_eq (tgt := 172) hx hb dX12_now_165 (by decide) (fun c_35 => ?_) (fun c_35 => ?_)
    · replace c_35 := (iz_eq (Int.le_trans (by decide) z34_a) (Int.le_trans z34_b (by decide))).mp c_35
      refine lv_iconst (v := iI 0) hx hb dX12_now_172 (by decide +kernel) ?_
      exact ret _ (0, (iI 0)) _ _ _ _ _ [0, 1] dX12_now_173 ⟨rfl, (show (-2147483648) ≤ 0 from by decide), (show (0 : Int) ≤ 2147483647 from by decide)⟩ w (by decide) rfl
    · replace c_35 : ¬ z34 = 0 := fun h => c_35 ((iz_eq (Int.le_trans (by decide) z34_a) (Int.le_trans z34_b (by decide))).mpr h)
      refine lv_iconst (v := iI 1) hx hb dX12_now_168 (by decide +kernel) ?_
      refine lv_goto (tgt := 173) hx hb dX12_now_169 (by decide) ?_
      exact ret _ (1, (iI 0)) _ _ _ _ _ [0, 1] dX12_now_173 ⟨rfl, (show (-2147483648) ≤ 1 from by decide), (show (1 : Int) ≤ 2147483647 from by decide)⟩ w (by decide) rfl
  refine lv_tableOut (tgt := 174) hx hb dX12_now_8 (by rw [iI_i (Int.le_trans (by decide) x0_a) (Int.le_trans x0_b (by decide))]; omega) (by decide) ?_
  refine lv_iconst (v := iI (-1)) hx hb dX12_now_174 (by decide +kernel) ?_
  exact ret _ ((-1), (iI 0)) _ _ _ _ _ [0, 1] dX12_now_175 ⟨rfl, (show (-2147483648) ≤ (-1) from by decide), (show ((-1) : Int) ≤ 2147483647 from by decide)⟩ w (by decide) rfl
set_option maxRecDepth 100000 in
set_option maxHeartbeats 4000000 in
theorem c77_X12_whyButton (l : Launch) (D : va_G) (T : Nat → ClassId) (sz : Nat) (a0 : Nat) (x0 : Int) (x1 : Int) (r0 : Int32) (a1 : Nat) (x2 : Int) (x3 : Int) (x4 : Int) (x5 : Int) (x6 : Int) (x7 : Int) (r1 : Int32) (x8 : Int) (x9 : Int) (x10 : Int) (y0 : Int64) (x11 : Int) (a2 : Nat) (a3 : Nat) (a4 : Nat) (a5 : Nat) (a6 : Nat) (a7 : Nat) (a8 : Nat) (a9 : Nat) (a10 : Nat) (a11 : Nat) (x12 : Int) (a12 : Nat) (a13 : Nat) (a14 : Nat) (a15 : Nat) (x13 : Int) (r2 : Int32) (r3 : Int32) (a16 : Nat) (x14 : Int) (x15 : Int) (a17 : Nat) (a18 : Nat) (x16 : Int) (a19 : Nat) (x17 : Int) (r4 : Int32) (a20 : Nat) (a21 : Nat) (x18 : Int) (r5 : Int32) (a22 : Nat) (x19 : Int) (x20 : Int) (x21 : Int) (x22 : Int) (f0 : Int → Int) (x0_a : 0 ≤ x0) (x0_b : x0 ≤ 8) (x1_a : 0 ≤ x1) (x1_b : x1 ≤ 8) (x2_a : 0 ≤ x2) (x2_b : x2 ≤ 940) (x3_a : 0 ≤ x3) (x3_b : x3 ≤ 940) (x4_a : 0 ≤ x4) (x4_b : x4 ≤ 940) (x5_a : 0 ≤ x5) (x5_b : x5 ≤ 940) (x6_a : 0 ≤ x6) (x6_b : x6 ≤ 940) (x7_a : 0 ≤ x7) (x7_b : x7 ≤ 4) (x8_a : (-2147483648) ≤ x8) (x8_b : x8 ≤ 2147483647) (x9_a : (-2147483648) ≤ x9) (x9_b : x9 ≤ 2147483647) (x10_a : 0 ≤ x10) (x10_b : x10 ≤ 940) (x11_a : (-2147483648) ≤ x11) (x11_b : x11 ≤ 2147483647) (x12_a : 0 ≤ x12) (x12_b : x12 ≤ 8) (x13_a : 0 ≤ x13) (x13_b : x13 ≤ 9) (x14_a : (-1) ≤ x14) (x14_b : x14 ≤ 9) (x15_a : (-1) ≤ x15) (x15_b : x15 ≤ 8) (x16_a : 0 ≤ x16) (x16_b : x16 ≤ 9) (x17_a : 0 ≤ x17) (x17_b : x17 ≤ 64) (x18_a : 0 ≤ x18) (x18_b : x18 ≤ 40) (x19_a : 0 ≤ x19) (x19_b : x19 ≤ 40) (x20_a : 0 ≤ x20) (x20_b : x20 ≤ 20) (x21_a : 0 ≤ x21) (x21_b : x21 ≤ 8) (x22_a : 0 ≤ x22) (x22_b : x22 ≤ 39) (f0_h : nowI f0) : Met l yX12_whyButton (Cond.code yX12_whyButton cX12_whyButton 3 (some .int) :: GW) (Rm 1 0 0) (cPre [.ref a0, .int (iI x0), .int (iI x1)] D T [(a0, .inr (11, [.int r0, .ref a1, .int (iI x2), .int (iI x3), .int (iI x4), .int (iI x5), .int (iI x6), .int (iI x7), .int r1, .int (iI x8), .int (iI x9), .int (iI x10), .long y0, .int (iI x11), .ref a2, .ref a3, .ref a4, .ref a5, .ref a6, .ref a7, .ref a8, .ref a9, .ref a10, .ref a11, .int (iI x12), .ref a12, .ref a13, .ref a14, .ref a15, .int (iI x13), .int r2, .int r3, .ref a16, .int (iI x14), .int (iI x15), .ref a17, .ref a18, .int (iI x16), .ref a19, .int (iI x17), .int r4, .ref a20, .ref a21, .int (iI x18), .int r5, .ref a22, .int (iI x19), .int (iI x20), .int (iI x21), .int (iI x22)])), (a2, .inl (T 0, 329, .inl (cI f0)))] sz) (qI D [(a0, .inr (11, [.int r0, .ref a1, .int (iI x2), .int (iI x3), .int (iI x4), .int (iI x5), .int (iI x6), .int (iI x7), .int r1, .int (iI x8), .int (iI x9), .int (iI x10), .long y0, .int (iI x11), .ref a2, .ref a3, .ref a4, .ref a5, .ref a6, .ref a7, .ref a8, .ref a9, .ref a10, .ref a11, .int (iI x12), .ref a12, .ref a13, .ref a14, .ref a15, .int (iI x13), .int r2, .int r3, .ref a16, .int (iI x14), .int (iI x15), .ref a17, .ref a18, .int (iI x16), .ref a19, .int (iI x17), .int r4, .ref a20, .ref a21, .int (iI x18), .int r5, .ref a22, .int (iI x19), .int (iI x20), .int (iI x21), .int (iI x22)])), (a2, .inl (T 0, 329, .inl (cI f0)))] sz (fun (v : Int32) (u : Int) => iI u = v ∧ 0 ≤ u ∧ u ≤ 7 ∧ (u = 0 → f0 (66 + x1) = -1)) (fun u => [(a0, .inr (11, [.int r0, .ref a1, .int (iI x2), .int (iI x3), .int (iI x4), .int (iI x5), .int (iI x6), .int (iI x7), .int r1, .int (iI x8), .int (iI x9), .int (iI x10), .long y0, .int (iI x11), .ref a2, .ref a3, .ref a4, .ref a5, .ref a6, .ref a7, .ref a8, .ref a9, .ref a10, .ref a11, .int (iI x12), .ref a12, .ref a13, .ref a14, .ref a15, .int (iI x13), .int r2, .int r3, .ref a16, .int (iI x14), .int (iI x15), .ref a17, .ref a18, .int (iI x16), .ref a19, .int (iI x17), .int r4, .ref a20, .ref a21, .int (iI x18), .int r5, .ref a22, .int (iI x19), .int (iI x20), .int (iI x21), .int (iI x22)])), (a2, .inl (T 0, 329, .inl (cI f0)))])) 0 0 (va_A [(a0, .inr (11, [.int r0, .ref a1, .int (iI x2), .int (iI x3), .int (iI x4), .int (iI x5), .int (iI x6), .int (iI x7), .int r1, .int (iI x8), .int (iI x9), .int (iI x10), .long y0, .int (iI x11), .ref a2, .ref a3, .ref a4, .ref a5, .ref a6, .ref a7, .ref a8, .ref a9, .ref a10, .ref a11, .int (iI x12), .ref a12, .ref a13, .ref a14, .ref a15, .int (iI x13), .int r2, .int r3, .ref a16, .int (iI x14), .int (iI x15), .ref a17, .ref a18, .int (iI x16), .ref a19, .int (iI x17), .int r4, .ref a20, .ref a21, .int (iI x18), .int r5, .ref a22, .int (iI x19), .int (iI x20), .int (iI x21), .int (iI x22)])), (a2, .inl (T 0, 329, .inl (cI f0)))] sz) := by
  refine e_I (by decide) (Nat.le_of_ble_eq_true rfl) ?_
  intro p e s m args below meth c A Q ls M hin w ret hl
  have hx := M.1.1
  have hb := M.1.2.1
  have hl : lv_has ls 3 [(0, .ref a0), (1, .int (iI x0)), (2, .int (iI x1))] := hl
  refine lv_iload_n hx hb dX12_whyButton_0 rfl (lv_at hl 1 rfl) ?_
  refine lv_iload_n hx hb dX12_whyButton_1 rfl (lv_at hl 2 rfl) ?_
  refine lv_icmp_ne (tgt := 7) hx hb dX12_whyButton_2 (by decide) (fun c_1 => ?_) (fun c_1 => ?_)
  · replace c_1 : ¬ x0 = x1 := fun h => c_1 ((iI_eq (Int.le_trans (by decide) x0_a) (Int.le_trans x0_b (by decide)) (Int.le_trans (by decide) x1_a) (Int.le_trans x1_b (by decide))).mpr h)
    refine lv_aload_n hx hb dX12_whyButton_7 rfl (lv_at hl 0 rfl) ?_
    refine r_get (v := .ref a2) M w 0 14 clX12 rfl (by decide) G1477 rfl rfl dX12_whyButton_8 ?_
    refine lv_bipush (v := iI 44) hx hb dX12_whyButton_11 (by decide +kernel) ?_
    refine lv_iload_n hx hb dX12_whyButton_13 rfl (lv_at hl 1 rfl) ?_
    refine r_iadd (v := iI (44 + x0)) M (iI_add _ _) dX12_whyButton_14 ?_
    refine r_iald (v := iI (f0 (44 + x0))) M w 1 rfl (iI_in (by omega) (by omega) (by decide)) (cI_at (by omega) (by omega)) dX12_whyButton_15 ?_
    have hh2 : (-2147483648) ≤ (f0 (44 + x0)) ∧ (f0 (44 + x0)) ≤ 2147483647 := f0_h.1 (44 + x0)
    refine lv_iload_n hx hb dX12_whyButton_16 rfl (lv_at hl 2 rfl) ?_
    refine k_I (ce := 0) (sl := 0) (rest := []) (wr := [(a0, .inr (11, [.int r0, .ref a1, .int (iI x2), .int (iI x3), .int (iI x4), .int (iI x5), .int (iI x6), .int (iI x7), .int r1, .int (iI x8), .int (iI x9), .int (iI x10), .long y0, .int (iI x11), .ref a2, .ref a3, .ref a4, .ref a5, .ref a6, .ref a7, .ref a8, .ref a9, .ref a10, .ref a11, .int (iI x12), .ref a12, .ref a13, .ref a14, .ref a15, .int (iI x13), .int r2, .int r3, .ref a16, .int (iI x14), .int (iI x15), .ref a17, .ref a18, .int (iI x16), .ref a19, .int (iI x17), .int r4, .ref a20, .ref a21, .int (iI x18), .int r5, .ref a22, .int (iI x19), .int (iI x20), .int (iI x21), .int (iI x22)])), (a2, .inl (T 0, 329, .inl (cI f0)))]) (r_S (f := 0) [] M w V_HookedCityModel_206 G1708 (c7_X12_has l D T _ (f0 (44 + x0)) x1 (by omega) (by omega) (by omega) (by omega)) rfl (by decide) rfl hl.1 rfl (Nat.le_of_ble_eq_true rfl) dX12_whyButton_17 (by decide) (by decide) (by decide) (by decide)) w [] [0, 1] rfl rfl (by decide) (by decide) rfl rfl (fun v z3 H locs hp w => ?_)
    have hv : iI z3 = v := hp.1
    subst hv
    have z3_a : 0 ≤ z3 := hp.2.1
    have z3_b : z3 ≤ 1 := hp.2.2.1
    have pq4 : hsQ z3 (f0 (44 + x0)) x1 := hp.2.2.2
    have w : WD D A s.heap [(a0, .inr (11, [.int r0, .ref a1, .int (iI x2), .int (iI x3), .int (iI x4), .int (iI x5), .int (iI x6), .int (iI x7), .int r1, .int (iI x8), .int (iI x9), .int (iI x10), .long y0, .int (iI x11), .ref a2, .ref a3, .ref a4, .ref a5, .ref a6, .ref a7, .ref a8, .ref a9, .ref a10, .ref a11, .int (iI x12), .ref a12, .ref a13, .ref a14, .ref a15, .int (iI x13), .int r2, .int r3, .ref a16, .int (iI x14), .int (iI x15), .ref a17, .ref a18, .int (iI x16), .ref a19, .int (iI x17), .int r4, .ref a20, .ref a21, .int (iI x18), .int r5, .ref a22, .int (iI x19), .int (iI x20), .int (iI x21), .int (iI x22)])), (a2, .inl (T 0, 329, .inl (cI f0)))] H locs := w
    refine lv_if_ne (tgt := 25) hx hb dX12_whyButton_20 (by decide) (fun c_5 => ?_) (fun c_5 => ?_)
    · replace c_5 : ¬ z3 = 0 := fun h => c_5 ((iz_eq (Int.le_trans (by decide) z3_a) (Int.le_trans z3_b (by decide))).mpr h)
      refine lv_aload_n hx hb dX12_whyButton_25 rfl (lv_at hl 0 rfl) ?_
      refine r_get (v := .ref a2) M w 0 14 clX12 rfl (by decide) G1477 rfl rfl dX12_whyButton_26 ?_
      refine lv_bipush (v := iI 14) hx hb dX12_whyButton_29 (by decide +kernel) ?_
      refine lv_iload_n hx hb dX12_whyButton_31 rfl (lv_at hl 1 rfl) ?_
      refine r_iadd (v := iI (14 + x0)) M (iI_add _ _) dX12_whyButton_32 ?_
      refine r_iald (v := iI (f0 (14 + x0))) M w 1 rfl (iI_in (by omega) (by omega) (by decide)) (cI_at (by omega) (by omega)) dX12_whyButton_33 ?_
      have hh6 : (-2147483648) ≤ (f0 (14 + x0)) ∧ (f0 (14 + x0)) ≤ 2147483647 := f0_h.1 (14 + x0)
      refine lv_aload_n hx hb dX12_whyButton_34 rfl (lv_at hl 0 rfl) ?_
      refine r_get (v := .ref a2) M w 0 14 clX12 rfl (by decide) G1477 rfl rfl dX12_whyButton_35 ?_
      refine lv_iconst (v := iI 5) hx hb dX12_whyButton_38 (by decide +kernel) ?_
      refine lv_iload_n hx hb dX12_whyButton_39 rfl (lv_at hl 2 rfl) ?_
      refine r_iadd (v := iI (5 + x1)) M (iI_add _ _) dX12_whyButton_40 ?_
      refine r_iald (v := iI (f0 (5 + x1))) M w 1 rfl (iI_in (by omega) (by omega) (by decide)) (cI_at (by omega) (by omega)) dX12_whyButton_41 ?_
      have hh7 : (-2147483648) ≤ (f0 (5 + x1)) ∧ (f0 (5 + x1)) ≤ 2147483647 := f0_h.1 (5 + x1)
      refine lv_icmp_eq (tgt := 47) hx hb dX12_whyButton_42 (by decide) (fun c_8 => ?_) (fun c_8 => ?_)
      · replace c_8 := (iI_eq (by omega) (by omega) (by omega) (by omega)).mp c_8
        refine lv_aload_n hx hb dX12_whyButton_47 rfl (lv_at hl 0 rfl) ?_
        refine lv_iload_n hx hb dX12_whyButton_48 rfl (lv_at hl 1 rfl) ?_
        refine k_I (ce := 0) (sl := 0) (rest := []) (wr := []) (r_V (f := 0) [0, 1] M w V_HookedCityModel_255 G1768 G74 (c70_X12_isOpen l D T _ a0 x0 r0 a1 x2 x3 x4 x5 x6 x7 r1 x8 x9 x10 y0 x11 a2 a3 a4 a5 a6 a7 a8 a9 a10 a11 x12 a12 a13 a14 a15 x13 r2 r3 a16 x14 x15 a17 a18 x16 a19 x17 r4 a20 a21 x18 r5 a22 x19 x20 x21 x22 f0 x0_a x0_b x2_a x2_b x3_a x3_b x4_a x4_b x5_a x5_b x6_a x6_b x7_a x7_b x8_a x8_b x9_a x9_b x10_a x10_b x11_a x11_b x12_a x12_b x13_a x13_b x14_a x14_b x15_a x15_b x16_a x16_b x17_a x17_b x18_a x18_b x19_a x19_b x20_a x20_b x21_a x21_b x22_a x22_b f0_h) 0 clX12 rfl rfl (by decide) rfl hl.1 rfl (Nat.le_of_ble_eq_true rfl) dX12_whyButton_49 (by decide) (by decide) (by decide) (by decide)) w [0, 1] [] rfl rfl (by decide) (by decide) rfl rfl (fun v z9 H locs hp w => ?_)
        have hv : iI z9 = v := hp.1
        subst hv
        have z9_a : 0 ≤ z9 := hp.2.1
        have z9_b : z9 ≤ 1 := hp.2.2.1
        have pq10 : z9 = 0 → 0 ≤ f0 (57 + x0) := hp.2.2.2
        have w : WD D A s.heap [(a0, .inr (11, [.int r0, .ref a1, .int (iI x2), .int (iI x3), .int (iI x4), .int (iI x5), .int (iI x6), .int (iI x7), .int r1, .int (iI x8), .int (iI x9), .int (iI x10), .long y0, .int (iI x11), .ref a2, .ref a3, .ref a4, .ref a5, .ref a6, .ref a7, .ref a8, .ref a9, .ref a10, .ref a11, .int (iI x12), .ref a12, .ref a13, .ref a14, .ref a15, .int (iI x13), .int r2, .int r3, .ref a16, .int (iI x14), .int (iI x15), .ref a17, .ref a18, .int (iI x16), .ref a19, .int (iI x17), .int r4, .ref a20, .ref a21, .int (iI x18), .int r5, .ref a22, .int (iI x19), .int (iI x20), .int (iI x21), .int (iI x22)])), (a2, .inl (T 0, 329, .inl (cI f0)))] H locs := w
        refine lv_if_ne (tgt := 57) hx hb dX12_whyButton_52 (by decide) (fun c_11 => ?_) (fun c_11 => ?_)
        · replace c_11 : ¬ z9 = 0 := fun h => c_11 ((iz_eq (Int.le_trans (by decide) z9_a) (Int.le_trans z9_b (by decide))).mpr h)
          refine lv_aload_n hx hb dX12_whyButton_57 rfl (lv_at hl 0 rfl) ?_
          refine lv_iload_n hx hb dX12_whyButton_58 rfl (lv_at hl 2 rfl) ?_
          refine k_I (ce := 0) (sl := 0) (rest := []) (wr := []) (r_V (f := 0) [0, 1] M w V_HookedCityModel_261 G1772 G75 (c71_X12_isBare l D T _ a0 x1 r0 a1 x2 x3 x4 x5 x6 x7 r1 x8 x9 x10 y0 x11 a2 a3 a4 a5 a6 a7 a8 a9 a10 a11 x12 a12 a13 a14 a15 x13 r2 r3 a16 x14 x15 a17 a18 x16 a19 x17 r4 a20 a21 x18 r5 a22 x19 x20 x21 x22 f0 x1_a x1_b x2_a x2_b x3_a x3_b x4_a x4_b x5_a x5_b x6_a x6_b x7_a x7_b x8_a x8_b x9_a x9_b x10_a x10_b x11_a x11_b x12_a x12_b x13_a x13_b x14_a x14_b x15_a x15_b x16_a x16_b x17_a x17_b x18_a x18_b x19_a x19_b x20_a x20_b x21_a x21_b x22_a x22_b f0_h) 0 clX12 rfl rfl (by decide) rfl hl.1 rfl (Nat.le_of_ble_eq_true rfl) dX12_whyButton_59 (by decide) (by decide) (by decide) (by decide)) w [0, 1] [] rfl rfl (by decide) (by decide) rfl rfl (fun v z12 H locs hp w => ?_)
          have hv : iI z12 = v := hp.1
          subst hv
          have z12_a : 0 ≤ z12 := hp.2.1
          have z12_b : z12 ≤ 1 := hp.2.2.1
          have pq13 : z12 = 1 → f0 (66 + x1) = -1 := hp.2.2.2.1
          have pq14 : z12 = 0 → 0 ≤ f0 (66 + x1) := hp.2.2.2.2
          have w : WD D A s.heap [(a0, .inr (11, [.int r0, .ref a1, .int (iI x2), .int (iI x3), .int (iI x4), .int (iI x5), .int (iI x6), .int (iI x7), .int r1, .int (iI x8), .int (iI x9), .int (iI x10), .long y0, .int (iI x11), .ref a2, .ref a3, .ref a4, .ref a5, .ref a6, .ref a7, .ref a8, .ref a9, .ref a10, .ref a11, .int (iI x12), .ref a12, .ref a13, .ref a14, .ref a15, .int (iI x13), .int r2, .int r3, .ref a16, .int (iI x14), .int (iI x15), .ref a17, .ref a18, .int (iI x16), .ref a19, .int (iI x17), .int r4, .ref a20, .ref a21, .int (iI x18), .int r5, .ref a22, .int (iI x19), .int (iI x20), .int (iI x21), .int (iI x22)])), (a2, .inl (T 0, 329, .inl (cI f0)))] H locs := w
          refine lv_if_ne (tgt := 68) hx hb dX12_whyButton_62 (by decide) (fun c_15 => ?_) (fun c_15 => ?_)
          · replace c_15 : ¬ z12 = 0 := fun h => c_15 ((iz_eq (Int.le_trans (by decide) z12_a) (Int.le_trans z12_b (by decide))).mpr h)
            refine lv_aload_n hx hb dX12_whyButton_68 rfl (lv_at hl 0 rfl) ?_
            refine lv_iload_n hx hb dX12_whyButton_69 rfl (lv_at hl 2 rfl) ?_
            refine k_I (ce := 0) (sl := 0) (rest := []) (wr := []) (r_V (f := 0) [0, 1] M w V_HookedCityModel_264 G1776 G76 (c72_X12_isTorn l D T _ a0 x1 r0 a1 x2 x3 x4 x5 x6 x7 r1 x8 x9 x10 y0 x11 a2 a3 a4 a5 a6 a7 a8 a9 a10 a11 x12 a12 a13 a14 a15 x13 r2 r3 a16 x14 x15 a17 a18 x16 a19 x17 r4 a20 a21 x18 r5 a22 x19 x20 x21 x22 f0 x1_a x1_b x2_a x2_b x3_a x3_b x4_a x4_b x5_a x5_b x6_a x6_b x7_a x7_b x8_a x8_b x9_a x9_b x10_a x10_b x11_a x11_b x12_a x12_b x13_a x13_b x14_a x14_b x15_a x15_b x16_a x16_b x17_a x17_b x18_a x18_b x19_a x19_b x20_a x20_b x21_a x21_b x22_a x22_b f0_h) 0 clX12 rfl rfl (by decide) rfl hl.1 rfl (Nat.le_of_ble_eq_true rfl) dX12_whyButton_70 (by decide) (by decide) (by decide) (by decide)) w [0, 1] [] rfl rfl (by decide) (by decide) rfl rfl (fun v z16 H locs hp w => ?_)
            have hv : iI z16 = v := hp.1
            subst hv
            have z16_a : 0 ≤ z16 := hp.2.1
            have z16_b : z16 ≤ 1 := hp.2.2
            have w : WD D A s.heap [(a0, .inr (11, [.int r0, .ref a1, .int (iI x2), .int (iI x3), .int (iI x4), .int (iI x5), .int (iI x6), .int (iI x7), .int r1, .int (iI x8), .int (iI x9), .int (iI x10), .long y0, .int (iI x11), .ref a2, .ref a3, .ref a4, .ref a5, .ref a6, .ref a7, .ref a8, .ref a9, .ref a10, .ref a11, .int (iI x12), .ref a12, .ref a13, .ref a14, .ref a15, .int (iI x13), .int r2, .int r3, .ref a16, .int (iI x14), .int (iI x15), .ref a17, .ref a18, .int (iI x16), .ref a19, .int (iI x17), .int r4, .ref a20, .ref a21, .int (iI x18), .int r5, .ref a22, .int (iI x19), .int (iI x20), .int (iI x21), .int (iI x22)])), (a2, .inl (T 0, 329, .inl (cI f0)))] H locs := w
            refine lv_if_eq (tgt := 81) hx hb dX12_whyButton_73 (by decide) (fun c_17 => ?_) (fun c_17 => ?_)
            · replace c_17 := (iz_eq (Int.le_trans (by decide) z16_a) (Int.le_trans z16_b (by decide))).mp c_17
              refine lv_iconst (v := iI 0) hx hb dX12_whyButton_81 (by decide +kernel) ?_
              exact ret _ 0 _ _ _ _ _ [0, 1] dX12_whyButton_82 ⟨rfl, (show (0 : Int) ≤ 0 from by decide), (show (0 : Int) ≤ 7 from by decide), (show 0 = 0 → f0 (66 + x1) = -1 from (fun _ => pq13 (by omega)))⟩ w (by decide) rfl
            · replace c_17 : ¬ z16 = 0 := fun h => c_17 ((iz_eq (Int.le_trans (by decide) z16_a) (Int.le_trans z16_b (by decide))).mpr h)
              refine lv_bipush (v := iI 7) hx hb dX12_whyButton_76 (by decide +kernel) ?_
              refine lv_goto (tgt := 82) hx hb dX12_whyButton_78 (by decide) ?_
              exact ret _ 7 _ _ _ _ _ [0, 1] dX12_whyButton_82 ⟨rfl, (show (0 : Int) ≤ 7 from by decide), (show (7 : Int) ≤ 7 from by decide), (show 7 = 0 → f0 (66 + x1) = -1 from (fun h => absurd h (by decide)))⟩ w (by decide) rfl
          · replace c_15 := (iz_eq (Int.le_trans (by decide) z12_a) (Int.le_trans z12_b (by decide))).mp c_15
            refine lv_bipush (v := iI 6) hx hb dX12_whyButton_65 (by decide +kernel) ?_
            exact ret _ 6 _ _ _ _ _ [0, 1] dX12_whyButton_67 ⟨rfl, (show (0 : Int) ≤ 6 from by decide), (show (6 : Int) ≤ 7 from by decide), (show 6 = 0 → f0 (66 + x1) = -1 from (fun h => absurd h (by decide)))⟩ w (by decide) rfl
        · replace c_11 := (iz_eq (Int.le_trans (by decide) z9_a) (Int.le_trans z9_b (by decide))).mp c_11
          refine lv_iconst (v := iI 5) hx hb dX12_whyButton_55 (by decide +kernel) ?_
          exact ret _ 5 _ _ _ _ _ [0, 1] dX12_whyButton_56 ⟨rfl, (show (0 : Int) ≤ 5 from by decide), (show (5 : Int) ≤ 7 from by decide), (show 5 = 0 → f0 (66 + x1) = -1 from (fun h => absurd h (by decide)))⟩ w (by decide) rfl
      · replace c_8 : ¬ (f0 (14 + x0)) = (f0 (5 + x1)) := fun h => c_8 ((iI_eq (by omega) (by omega) (by omega) (by omega)).mpr h)
        refine lv_iconst (v := iI 4) hx hb dX12_whyButton_45 (by decide +kernel) ?_
        exact ret _ 4 _ _ _ _ _ [0, 1] dX12_whyButton_46 ⟨rfl, (show (0 : Int) ≤ 4 from by decide), (show (4 : Int) ≤ 7 from by decide), (show 4 = 0 → f0 (66 + x1) = -1 from (fun h => absurd h (by decide)))⟩ w (by decide) rfl
    · replace c_5 := (iz_eq (Int.le_trans (by decide) z3_a) (Int.le_trans z3_b (by decide))).mp c_5
      refine lv_iconst (v := iI 3) hx hb dX12_whyButton_23 (by decide +kernel) ?_
      exact ret _ 3 _ _ _ _ _ [0, 1] dX12_whyButton_24 ⟨rfl, (show (0 : Int) ≤ 3 from by decide), (show (3 : Int) ≤ 7 from by decide), (show 3 = 0 → f0 (66 + x1) = -1 from (fun h => absurd h (by decide)))⟩ w (by decide) rfl
  · replace c_1 := (iI_eq (Int.le_trans (by decide) x0_a) (Int.le_trans x0_b (by decide)) (Int.le_trans (by decide) x1_a) (Int.le_trans x1_b (by decide))).mp c_1
    refine lv_iconst (v := iI 2) hx hb dX12_whyButton_5 (by decide +kernel) ?_
    exact ret _ 2 _ _ _ _ _ [0, 1] dX12_whyButton_6 ⟨rfl, (show (0 : Int) ≤ 2 from by decide), (show (2 : Int) ≤ 7 from by decide), (show 2 = 0 → f0 (66 + x1) = -1 from (fun h => absurd h (by decide)))⟩ w (by decide) rfl
set_option maxRecDepth 100000 in
set_option maxHeartbeats 4000000 in
theorem c78_X12_isTired (l : Launch) (D : va_G) (T : Nat → ClassId) (sz : Nat) (a0 : Nat) (x0 : Int) (r0 : Int32) (a1 : Nat) (x1 : Int) (x2 : Int) (x3 : Int) (x4 : Int) (x5 : Int) (x6 : Int) (r1 : Int32) (x7 : Int) (x8 : Int) (x9 : Int) (y0 : Int64) (x10 : Int) (a2 : Nat) (a3 : Nat) (a4 : Nat) (a5 : Nat) (a6 : Nat) (a7 : Nat) (a8 : Nat) (a9 : Nat) (a10 : Nat) (a11 : Nat) (x11 : Int) (a12 : Nat) (a13 : Nat) (a14 : Nat) (a15 : Nat) (x12 : Int) (r2 : Int32) (r3 : Int32) (a16 : Nat) (x13 : Int) (x14 : Int) (a17 : Nat) (a18 : Nat) (x15 : Int) (a19 : Nat) (x16 : Int) (r4 : Int32) (a20 : Nat) (a21 : Nat) (x17 : Int) (r5 : Int32) (a22 : Nat) (x18 : Int) (x19 : Int) (x20 : Int) (x21 : Int) (f0 : Int → Int) (x0_a : 0 ≤ x0) (x0_b : x0 ≤ 2) (x1_a : 0 ≤ x1) (x1_b : x1 ≤ 940) (x2_a : 0 ≤ x2) (x2_b : x2 ≤ 940) (x3_a : 0 ≤ x3) (x3_b : x3 ≤ 940) (x4_a : 0 ≤ x4) (x4_b : x4 ≤ 940) (x5_a : 0 ≤ x5) (x5_b : x5 ≤ 940) (x6_a : 0 ≤ x6) (x6_b : x6 ≤ 4) (x7_a : (-2147483648) ≤ x7) (x7_b : x7 ≤ 2147483647) (x8_a : (-2147483648) ≤ x8) (x8_b : x8 ≤ 2147483647) (x9_a : 0 ≤ x9) (x9_b : x9 ≤ 940) (x10_a : (-2147483648) ≤ x10) (x10_b : x10 ≤ 2147483647) (x11_a : 0 ≤ x11) (x11_b : x11 ≤ 8) (x12_a : 0 ≤ x12) (x12_b : x12 ≤ 9) (x13_a : (-1) ≤ x13) (x13_b : x13 ≤ 9) (x14_a : (-1) ≤ x14) (x14_b : x14 ≤ 8) (x15_a : 0 ≤ x15) (x15_b : x15 ≤ 9) (x16_a : 0 ≤ x16) (x16_b : x16 ≤ 64) (x17_a : 0 ≤ x17) (x17_b : x17 ≤ 40) (x18_a : 0 ≤ x18) (x18_b : x18 ≤ 40) (x19_a : 0 ≤ x19) (x19_b : x19 ≤ 20) (x20_a : 0 ≤ x20) (x20_b : x20 ≤ 8) (x21_a : 0 ≤ x21) (x21_b : x21 ≤ 39) (f0_h : nowI f0) : Met l yX12_isTired (Cond.code yX12_isTired cX12_isTired 2 (some .boolean) :: GW) (Rm 0 0 0) (cPre [.ref a0, .int (iI x0)] D T [(a0, .inr (11, [.int r0, .ref a1, .int (iI x1), .int (iI x2), .int (iI x3), .int (iI x4), .int (iI x5), .int (iI x6), .int r1, .int (iI x7), .int (iI x8), .int (iI x9), .long y0, .int (iI x10), .ref a2, .ref a3, .ref a4, .ref a5, .ref a6, .ref a7, .ref a8, .ref a9, .ref a10, .ref a11, .int (iI x11), .ref a12, .ref a13, .ref a14, .ref a15, .int (iI x12), .int r2, .int r3, .ref a16, .int (iI x13), .int (iI x14), .ref a17, .ref a18, .int (iI x15), .ref a19, .int (iI x16), .int r4, .ref a20, .ref a21, .int (iI x17), .int r5, .ref a22, .int (iI x18), .int (iI x19), .int (iI x20), .int (iI x21)])), (a2, .inl (T 0, 329, .inl (cI f0)))] sz) (qI D [(a0, .inr (11, [.int r0, .ref a1, .int (iI x1), .int (iI x2), .int (iI x3), .int (iI x4), .int (iI x5), .int (iI x6), .int r1, .int (iI x7), .int (iI x8), .int (iI x9), .long y0, .int (iI x10), .ref a2, .ref a3, .ref a4, .ref a5, .ref a6, .ref a7, .ref a8, .ref a9, .ref a10, .ref a11, .int (iI x11), .ref a12, .ref a13, .ref a14, .ref a15, .int (iI x12), .int r2, .int r3, .ref a16, .int (iI x13), .int (iI x14), .ref a17, .ref a18, .int (iI x15), .ref a19, .int (iI x16), .int r4, .ref a20, .ref a21, .int (iI x17), .int r5, .ref a22, .int (iI x18), .int (iI x19), .int (iI x20), .int (iI x21)])), (a2, .inl (T 0, 329, .inl (cI f0)))] sz (fun (v : Int32) (u : Int) => iI u = v ∧ 0 ≤ u ∧ u ≤ 1) (fun u => [(a0, .inr (11, [.int r0, .ref a1, .int (iI x1), .int (iI x2), .int (iI x3), .int (iI x4), .int (iI x5), .int (iI x6), .int r1, .int (iI x7), .int (iI x8), .int (iI x9), .long y0, .int (iI x10), .ref a2, .ref a3, .ref a4, .ref a5, .ref a6, .ref a7, .ref a8, .ref a9, .ref a10, .ref a11, .int (iI x11), .ref a12, .ref a13, .ref a14, .ref a15, .int (iI x12), .int r2, .int r3, .ref a16, .int (iI x13), .int (iI x14), .ref a17, .ref a18, .int (iI x15), .ref a19, .int (iI x16), .int r4, .ref a20, .ref a21, .int (iI x17), .int r5, .ref a22, .int (iI x18), .int (iI x19), .int (iI x20), .int (iI x21)])), (a2, .inl (T 0, 329, .inl (cI f0)))])) 0 0 (va_A [(a0, .inr (11, [.int r0, .ref a1, .int (iI x1), .int (iI x2), .int (iI x3), .int (iI x4), .int (iI x5), .int (iI x6), .int r1, .int (iI x7), .int (iI x8), .int (iI x9), .long y0, .int (iI x10), .ref a2, .ref a3, .ref a4, .ref a5, .ref a6, .ref a7, .ref a8, .ref a9, .ref a10, .ref a11, .int (iI x11), .ref a12, .ref a13, .ref a14, .ref a15, .int (iI x12), .int r2, .int r3, .ref a16, .int (iI x13), .int (iI x14), .ref a17, .ref a18, .int (iI x15), .ref a19, .int (iI x16), .int r4, .ref a20, .ref a21, .int (iI x17), .int r5, .ref a22, .int (iI x18), .int (iI x19), .int (iI x20), .int (iI x21)])), (a2, .inl (T 0, 329, .inl (cI f0)))] sz) := by
  refine e_Z (by decide) (Nat.le_of_ble_eq_true rfl) ?_
  intro p e s m args below meth c A Q ls M hin w ret hl
  have hx := M.1.1
  have hb := M.1.2.1
  have hl : lv_has ls 2 [(0, .ref a0), (1, .int (iI x0))] := hl
  refine lv_aload_n hx hb dX12_isTired_0 rfl (lv_at hl 0 rfl) ?_
  refine r_get (v := .ref a2) M w 0 14 clX12 rfl (by decide) G1477 rfl rfl dX12_isTired_1 ?_
  refine lv_bipush (v := iI 84) hx hb dX12_isTired_4 (by decide +kernel) ?_
  refine lv_iload_n hx hb dX12_isTired_6 rfl (lv_at hl 1 rfl) ?_
  refine r_iadd (v := iI (84 + x0)) M (iI_add _ _) dX12_isTired_7 ?_
  refine r_iald (v := iI (f0 (84 + x0))) M w 1 rfl (iI_in (by omega) (by omega) (by decide)) (cI_at (by omega) (by omega)) dX12_isTired_8 ?_
  have hh1 : (-2147483648) ≤ (f0 (84 + x0)) ∧ (f0 (84 + x0)) ≤ 2147483647 := f0_h.1 (84 + x0)
  refine lv_aload_n hx hb dX12_isTired_9 rfl (lv_at hl 0 rfl) ?_
  refine r_get (v := .ref a2) M w 0 14 clX12 rfl (by decide) G1477 rfl rfl dX12_isTired_10 ?_
  refine lv_bipush (v := iI 41) hx hb dX12_isTired_13 (by decide +kernel) ?_
  refine lv_iload_n hx hb dX12_isTired_15 rfl (lv_at hl 1 rfl) ?_
  refine r_iadd (v := iI (41 + x0)) M (iI_add _ _) dX12_isTired_16 ?_
  refine r_iald (v := iI (f0 (41 + x0))) M w 1 rfl (iI_in (by omega) (by omega) (by decide)) (cI_at (by omega) (by omega)) dX12_isTired_17 ?_
  have hh2 : (-2147483648) ≤ (f0 (41 + x0)) ∧ (f0 (41 + x0)) ≤ 2147483647 := f0_h.1 (41 + x0)
  refine lv_icmp_ne (tgt := 25) hx hb dX12_isTired_18 (by decide) (fun c_3 => ?_) (fun c_3 => ?_)
  · replace c_3 : ¬ (f0 (84 + x0)) = (f0 (41 + x0)) := fun h => c_3 ((iI_eq (by omega) (by omega) (by omega) (by omega)).mpr h)
    refine lv_iconst (v := iI 0) hx hb dX12_isTired_25 (by decide +kernel) ?_
    exact ret _ 0 _ _ _ _ _ [0, 1] dX12_isTired_26 (by decide +kernel) ⟨rfl, (show (0 : Int) ≤ 0 from by decide), (show (0 : Int) ≤ 1 from by decide)⟩ w (by decide) rfl
  · replace c_3 := (iI_eq (by omega) (by omega) (by omega) (by omega)).mp c_3
    refine lv_iconst (v := iI 1) hx hb dX12_isTired_21 (by decide +kernel) ?_
    refine lv_goto (tgt := 26) hx hb dX12_isTired_22 (by decide) ?_
    exact ret _ 1 _ _ _ _ _ [0, 1] dX12_isTired_26 (by decide +kernel) ⟨rfl, (show (0 : Int) ≤ 1 from by decide), (show (1 : Int) ≤ 1 from by decide)⟩ w (by decide) rfl
set_option maxRecDepth 100000 in
set_option maxHeartbeats 4000000 in
theorem c79_X12_out (l : Launch) (D : va_G) (T : Nat → ClassId) (sz : Nat) (a0 : Nat) (x0 : Int) (r0 : Int32) (a1 : Nat) (x1 : Int) (x2 : Int) (x3 : Int) (x4 : Int) (x5 : Int) (x6 : Int) (r1 : Int32) (x7 : Int) (x8 : Int) (x9 : Int) (y0 : Int64) (x10 : Int) (a2 : Nat) (a3 : Nat) (a4 : Nat) (a5 : Nat) (a6 : Nat) (a7 : Nat) (a8 : Nat) (a9 : Nat) (a10 : Nat) (a11 : Nat) (x11 : Int) (a12 : Nat) (a13 : Nat) (a14 : Nat) (a15 : Nat) (x12 : Int) (r2 : Int32) (r3 : Int32) (a16 : Nat) (x13 : Int) (x14 : Int) (a17 : Nat) (a18 : Nat) (x15 : Int) (a19 : Nat) (x16 : Int) (r4 : Int32) (a20 : Nat) (a21 : Nat) (x17 : Int) (r5 : Int32) (a22 : Nat) (x18 : Int) (x19 : Int) (x20 : Int) (x21 : Int) (f0 : Int → Int) (x0_a : 0 ≤ x0) (x0_b : x0 ≤ 8) (x1_a : 0 ≤ x1) (x1_b : x1 ≤ 940) (x2_a : 0 ≤ x2) (x2_b : x2 ≤ 940) (x3_a : 0 ≤ x3) (x3_b : x3 ≤ 940) (x4_a : 0 ≤ x4) (x4_b : x4 ≤ 940) (x5_a : 0 ≤ x5) (x5_b : x5 ≤ 940) (x6_a : 0 ≤ x6) (x6_b : x6 ≤ 4) (x7_a : (-2147483648) ≤ x7) (x7_b : x7 ≤ 2147483647) (x8_a : (-2147483648) ≤ x8) (x8_b : x8 ≤ 2147483647) (x9_a : 0 ≤ x9) (x9_b : x9 ≤ 940) (x10_a : (-2147483648) ≤ x10) (x10_b : x10 ≤ 2147483647) (x11_a : 0 ≤ x11) (x11_b : x11 ≤ 8) (x12_a : 0 ≤ x12) (x12_b : x12 ≤ 9) (x13_a : (-1) ≤ x13) (x13_b : x13 ≤ 9) (x14_a : (-1) ≤ x14) (x14_b : x14 ≤ 8) (x15_a : 0 ≤ x15) (x15_b : x15 ≤ 9) (x16_a : 0 ≤ x16) (x16_b : x16 ≤ 64) (x17_a : 0 ≤ x17) (x17_b : x17 ≤ 40) (x18_a : 0 ≤ x18) (x18_b : x18 ≤ 40) (x19_a : 0 ≤ x19) (x19_b : x19 ≤ 20) (x20_a : 0 ≤ x20) (x20_b : x20 ≤ 8) (x21_a : 0 ≤ x21) (x21_b : x21 ≤ 39) (f0_h : nowI f0) : Met l yX12_out (Cond.code yX12_out cX12_out 2 none :: GW) (Rm 0 0 0) (cPre [.ref a0, .int (iI x0)] D T [(a0, .inr (11, [.int r0, .ref a1, .int (iI x1), .int (iI x2), .int (iI x3), .int (iI x4), .int (iI x5), .int (iI x6), .int r1, .int (iI x7), .int (iI x8), .int (iI x9), .long y0, .int (iI x10), .ref a2, .ref a3, .ref a4, .ref a5, .ref a6, .ref a7, .ref a8, .ref a9, .ref a10, .ref a11, .int (iI x11), .ref a12, .ref a13, .ref a14, .ref a15, .int (iI x12), .int r2, .int r3, .ref a16, .int (iI x13), .int (iI x14), .ref a17, .ref a18, .int (iI x15), .ref a19, .int (iI x16), .int r4, .ref a20, .ref a21, .int (iI x17), .int r5, .ref a22, .int (iI x18), .int (iI x19), .int (iI x20), .int (iI x21)])), (a2, .inl (T 0, 329, .inl (cI f0)))] sz) (qV D [(a0, .inr (11, [.int r0, .ref a1, .int (iI x1), .int (iI x2), .int (iI x3), .int (iI x4), .int (iI x5), .int (iI x6), .int r1, .int (iI x7), .int (iI x8), .int (iI x9), .long y0, .int (iI x10), .ref a2, .ref a3, .ref a4, .ref a5, .ref a6, .ref a7, .ref a8, .ref a9, .ref a10, .ref a11, .int (iI x11), .ref a12, .ref a13, .ref a14, .ref a15, .int (iI x12), .int r2, .int r3, .ref a16, .int (iI x13), .int (iI x14), .ref a17, .ref a18, .int (iI x15), .ref a19, .int (iI x16), .int r4, .ref a20, .ref a21, .int (iI x17), .int r5, .ref a22, .int (iI x18), .int (iI x19), .int (iI x20), .int (iI x21)])), (a2, .inl (T 0, 329, .inl (cI f0)))] sz (fun (u : (Int → Int)) => nowI u ∧ (kp 53 f0 u)) (fun u => [(a0, .inr (11, [.int r0, .ref a1, .int (iI x1), .int (iI x2), .int (iI x3), .int (iI x4), .int (iI x5), .int (iI x6), .int r1, .int (iI x7), .int (iI x8), .int (iI x9), .long y0, .int (iI x10), .ref a2, .ref a3, .ref a4, .ref a5, .ref a6, .ref a7, .ref a8, .ref a9, .ref a10, .ref a11, .int (iI x11), .ref a12, .ref a13, .ref a14, .ref a15, .int (iI x12), .int r2, .int r3, .ref a16, .int (iI x13), .int (iI x14), .ref a17, .ref a18, .int (iI x15), .ref a19, .int (iI x16), .int r4, .ref a20, .ref a21, .int (iI x17), .int r5, .ref a22, .int (iI x18), .int (iI x19), .int (iI x20), .int (iI x21)])), (a2, .inl (T 0, 329, .inl (cI u)))])) 0 0 (va_A [(a0, .inr (11, [.int r0, .ref a1, .int (iI x1), .int (iI x2), .int (iI x3), .int (iI x4), .int (iI x5), .int (iI x6), .int r1, .int (iI x7), .int (iI x8), .int (iI x9), .long y0, .int (iI x10), .ref a2, .ref a3, .ref a4, .ref a5, .ref a6, .ref a7, .ref a8, .ref a9, .ref a10, .ref a11, .int (iI x11), .ref a12, .ref a13, .ref a14, .ref a15, .int (iI x12), .int r2, .int r3, .ref a16, .int (iI x13), .int (iI x14), .ref a17, .ref a18, .int (iI x15), .ref a19, .int (iI x16), .int r4, .ref a20, .ref a21, .int (iI x17), .int r5, .ref a22, .int (iI x18), .int (iI x19), .int (iI x20), .int (iI x21)])), (a2, .inl (T 0, 329, .inl (cI f0)))] sz) := by
  refine e_V (by decide) (Nat.le_of_ble_eq_true rfl) ?_
  intro p e s m args below meth c A Q ls M hin w ret hl
  have hx := M.1.1
  have hb := M.1.2.1
  have hl : lv_has ls 2 [(0, .ref a0), (1, .int (iI x0))] := hl
  refine lv_aload_n hx hb dX12_out_0 rfl (lv_at hl 0 rfl) ?_
  refine r_get (v := .ref a2) M w 0 14 clX12 rfl (by decide) G1477 rfl rfl dX12_out_1 ?_
  refine lv_bipush (v := iI 66) hx hb dX12_out_4 (by decide +kernel) ?_
  refine lv_aload_n hx hb dX12_out_6 rfl (lv_at hl 0 rfl) ?_
  refine r_get (v := .ref a2) M w 0 14 clX12 rfl (by decide) G1477 rfl rfl dX12_out_7 ?_
  refine lv_bipush (v := iI 57) hx hb dX12_out_10 (by decide +kernel) ?_
  refine lv_iload_n hx hb dX12_out_12 rfl (lv_at hl 1 rfl) ?_
  refine r_iadd (v := iI (57 + x0)) M (iI_add _ _) dX12_out_13 ?_
  refine r_iald (v := iI (f0 (57 + x0))) M w 1 rfl (iI_in (by omega) (by omega) (by decide)) (cI_at (by omega) (by omega)) dX12_out_14 ?_
  have hh1 : (-2147483648) ≤ (f0 (57 + x0)) ∧ (f0 (57 + x0)) ≤ 2147483647 := f0_h.1 (57 + x0)
  have hh2 : (-1) ≤ (f0 (57 + x0)) ∧ (f0 (57 + x0)) ≤ 8 := (f0_h.2.1 (57 + x0)).2.2.2.1 (by omega) (by omega)
  refine r_iadd (v := iI (66 + (f0 (57 + x0)))) M (iI_add _ _) dX12_out_15 ?_
  refine lv_iconst (v := iI (-1)) hx hb dX12_out_16 (by decide +kernel) ?_
  refine r_iast (ws' := [(a0, .inr (11, [.int r0, .ref a1, .int (iI x1), .int (iI x2), .int (iI x3), .int (iI x4), .int (iI x5), .int (iI x6), .int r1, .int (iI x7), .int (iI x8), .int (iI x9), .long y0, .int (iI x10), .ref a2, .ref a3, .ref a4, .ref a5, .ref a6, .ref a7, .ref a8, .ref a9, .ref a10, .ref a11, .int (iI x11), .ref a12, .ref a13, .ref a14, .ref a15, .int (iI x12), .int r2, .int r3, .ref a16, .int (iI x13), .int (iI x14), .ref a17, .ref a18, .int (iI x15), .ref a19, .int (iI x16), .int r4, .ref a20, .ref a21, .int (iI x17), .int r5, .ref a22, .int (iI x18), .int (iI x19), .int (iI x20), .int (iI x21)])), (a2, .inl (T 0, 329, .inl (cI (upz f0 (66 + (f0 (57 + x0))) (-1)))))]) M w 1 rfl (iI_in (by omega) (by omega) (by decide)) (by rw [cI_up (by omega) (by omega)]; rfl) dX12_out_17 (fun H locs w => ?_)
  refine lv_aload_n hx hb dX12_out_18 rfl (lv_at hl 0 rfl) ?_
  refine r_get (v := .ref a2) M w 0 14 clX12 rfl (by decide) G1477 rfl rfl dX12_out_19 ?_
  refine lv_bipush (v := iI 57) hx hb dX12_out_22 (by decide +kernel) ?_
  refine lv_iload_n hx hb dX12_out_24 rfl (lv_at hl 1 rfl) ?_
  refine r_iadd (v := iI (57 + x0)) M (iI_add _ _) dX12_out_25 ?_
  refine lv_iconst (v := iI (-1)) hx hb dX12_out_26 (by decide +kernel) ?_
  refine r_iast (ws' := [(a0, .inr (11, [.int r0, .ref a1, .int (iI x1), .int (iI x2), .int (iI x3), .int (iI x4), .int (iI x5), .int (iI x6), .int r1, .int (iI x7), .int (iI x8), .int (iI x9), .long y0, .int (iI x10), .ref a2, .ref a3, .ref a4, .ref a5, .ref a6, .ref a7, .ref a8, .ref a9, .ref a10, .ref a11, .int (iI x11), .ref a12, .ref a13, .ref a14, .ref a15, .int (iI x12), .int r2, .int r3, .ref a16, .int (iI x13), .int (iI x14), .ref a17, .ref a18, .int (iI x15), .ref a19, .int (iI x16), .int r4, .ref a20, .ref a21, .int (iI x17), .int r5, .ref a22, .int (iI x18), .int (iI x19), .int (iI x20), .int (iI x21)])), (a2, .inl (T 0, 329, .inl (cI (upz (upz f0 (66 + (f0 (57 + x0))) (-1)) (57 + x0) (-1)))))]) M w 1 rfl (iI_in (by omega) (by omega) (by decide)) (by rw [cI_up (by omega) (by omega)]; rfl) dX12_out_27 (fun H locs w => ?_)
  exact ret (upz (upz f0 (66 + (f0 (57 + x0))) (-1)) (57 + x0) (-1)) _ _ _ _ _ [0, 1] dX12_out_28 ⟨(now_out f0_h (by omega) (by omega) rfl), (show kp 53 f0 (upz (upz f0 (66 + (f0 (57 + x0))) (-1)) (57 + x0) (-1)) from (kp_up (kp_up kp_rfl (by omega)) (by omega)))⟩ w (by decide) rfl
set_option maxRecDepth 100000 in
set_option maxHeartbeats 4000000 in
theorem c80_X12_snap (l : Launch) (D : va_G) (T : Nat → ClassId) (sz : Nat) (a0 : Nat) (r0 : Int32) (a1 : Nat) (x0 : Int) (x1 : Int) (x2 : Int) (x3 : Int) (x4 : Int) (x5 : Int) (r1 : Int32) (x6 : Int) (x7 : Int) (x8 : Int) (y0 : Int64) (x9 : Int) (a2 : Nat) (a3 : Nat) (a4 : Nat) (a5 : Nat) (a6 : Nat) (a7 : Nat) (a8 : Nat) (a9 : Nat) (a10 : Nat) (a11 : Nat) (x10 : Int) (a12 : Nat) (a13 : Nat) (a14 : Nat) (a15 : Nat) (x11 : Int) (r2 : Int32) (r3 : Int32) (a16 : Nat) (x12 : Int) (x13 : Int) (a17 : Nat) (a18 : Nat) (x14 : Int) (a19 : Nat) (x15 : Int) (r4 : Int32) (a20 : Nat) (a21 : Nat) (x16 : Int) (r5 : Int32) (a22 : Nat) (x17 : Int) (x18 : Int) (x19 : Int) (x20 : Int) (f0 : Int → Int) (f1 : Int → Int) (x0_a : 0 ≤ x0) (x0_b : x0 ≤ 940) (x1_a : 0 ≤ x1) (x1_b : x1 ≤ 940) (x2_a : 0 ≤ x2) (x2_b : x2 ≤ 940) (x3_a : 0 ≤ x3) (x3_b : x3 ≤ 940) (x4_a : 0 ≤ x4) (x4_b : x4 ≤ 940) (x5_a : 0 ≤ x5) (x5_b : x5 ≤ 4) (x6_a : (-2147483648) ≤ x6) (x6_b : x6 ≤ 2147483647) (x7_a : (-2147483648) ≤ x7) (x7_b : x7 ≤ 2147483647) (x8_a : 0 ≤ x8) (x8_b : x8 ≤ 940) (x9_a : (-2147483648) ≤ x9) (x9_b : x9 ≤ 2147483647) (x10_a : 0 ≤ x10) (x10_b : x10 ≤ 8) (x11_a : 0 ≤ x11) (x11_b : x11 ≤ 9) (x12_a : (-1) ≤ x12) (x12_b : x12 ≤ 9) (x13_a : (-1) ≤ x13) (x13_b : x13 ≤ 8) (x14_a : 0 ≤ x14) (x14_b : x14 ≤ 9) (x15_a : 0 ≤ x15) (x15_b : x15 ≤ 64) (x16_a : 0 ≤ x16) (x16_b : x16 ≤ 40) (x17_a : 0 ≤ x17) (x17_b : x17 ≤ 40) (x18_a : 0 ≤ x18) (x18_b : x18 ≤ 20) (x19_a : 0 ≤ x19) (x19_b : x19 ≤ 8) (x20_a : 0 ≤ x20) (x20_b : x20 ≤ 39) (f0_h : nowI f0) (f1_h : FL f1) (pp_s : snI f1 x10) : Met l yX12_snap (Cond.code yX12_snap cX12_snap 2 none :: GW) (Rm 0 0 0) (cPre [.ref a0] D T [(a0, .inr (11, [.int r0, .ref a1, .int (iI x0), .int (iI x1), .int (iI x2), .int (iI x3), .int (iI x4), .int (iI x5), .int r1, .int (iI x6), .int (iI x7), .int (iI x8), .long y0, .int (iI x9), .ref a2, .ref a3, .ref a4, .ref a5, .ref a6, .ref a7, .ref a8, .ref a9, .ref a10, .ref a11, .int (iI x10), .ref a12, .ref a13, .ref a14, .ref a15, .int (iI x11), .int r2, .int r3, .ref a16, .int (iI x12), .int (iI x13), .ref a17, .ref a18, .int (iI x14), .ref a19, .int (iI x15), .int r4, .ref a20, .ref a21, .int (iI x16), .int r5, .ref a22, .int (iI x17), .int (iI x18), .int (iI x19), .int (iI x20)])), (a2, .inl (T 0, 329, .inl (cI f0))), (a5, .inl (T 0, 272, .inl (cI f1)))] sz) (qV D [(a0, .inr (11, [.int r0, .ref a1, .int (iI x0), .int (iI x1), .int (iI x2), .int (iI x3), .int (iI x4), .int (iI x5), .int r1, .int (iI x6), .int (iI x7), .int (iI x8), .long y0, .int (iI x9), .ref a2, .ref a3, .ref a4, .ref a5, .ref a6, .ref a7, .ref a8, .ref a9, .ref a10, .ref a11, .int (iI x10), .ref a12, .ref a13, .ref a14, .ref a15, .int (iI x11), .int r2, .int r3, .ref a16, .int (iI x12), .int (iI x13), .ref a17, .ref a18, .int (iI x14), .ref a19, .int (iI x15), .int r4, .ref a20, .ref a21, .int (iI x16), .int r5, .ref a22, .int (iI x17), .int (iI x18), .int (iI x19), .int (iI x20)])), (a2, .inl (T 0, 329, .inl (cI f0))), (a5, .inl (T 0, 272, .inl (cI f1)))] sz (fun (u : Int × (Int → Int)) => 0 ≤ u.1 ∧ u.1 ≤ 8 ∧ FL u.2 ∧ (snI u.2 u.1)) (fun u => [(a0, .inr (11, [.int r0, .ref a1, .int (iI x0), .int (iI x1), .int (iI x2), .int (iI x3), .int (iI x4), .int (iI x5), .int r1, .int (iI x6), .int (iI x7), .int (iI x8), .long y0, .int (iI x9), .ref a2, .ref a3, .ref a4, .ref a5, .ref a6, .ref a7, .ref a8, .ref a9, .ref a10, .ref a11, .int (iI u.1), .ref a12, .ref a13, .ref a14, .ref a15, .int (iI x11), .int r2, .int r3, .ref a16, .int (iI x12), .int (iI x13), .ref a17, .ref a18, .int (iI x14), .ref a19, .int (iI x15), .int r4, .ref a20, .ref a21, .int (iI x16), .int r5, .ref a22, .int (iI x17), .int (iI x18), .int (iI x19), .int (iI x20)])), (a2, .inl (T 0, 329, .inl (cI f0))), (a5, .inl (T 0, 272, .inl (cI u.2)))])) 0 0 (va_A [(a0, .inr (11, [.int r0, .ref a1, .int (iI x0), .int (iI x1), .int (iI x2), .int (iI x3), .int (iI x4), .int (iI x5), .int r1, .int (iI x6), .int (iI x7), .int (iI x8), .long y0, .int (iI x9), .ref a2, .ref a3, .ref a4, .ref a5, .ref a6, .ref a7, .ref a8, .ref a9, .ref a10, .ref a11, .int (iI x10), .ref a12, .ref a13, .ref a14, .ref a15, .int (iI x11), .int r2, .int r3, .ref a16, .int (iI x12), .int (iI x13), .ref a17, .ref a18, .int (iI x14), .ref a19, .int (iI x15), .int r4, .ref a20, .ref a21, .int (iI x16), .int r5, .ref a22, .int (iI x17), .int (iI x18), .int (iI x19), .int (iI x20)])), (a2, .inl (T 0, 329, .inl (cI f0))), (a5, .inl (T 0, 272, .inl (cI f1)))] sz) := by
  refine e_V (by decide) (Nat.le_of_ble_eq_true rfl) ?_
  intro p e s m args below meth c A Q ls M hin w ret hl
  have hx := M.1.1
  have hb := M.1.2.1
  have hl : lv_has ls 2 [(0, .ref a0)] := hl
  refine lv_aload_n hx hb dX12_snap_0 rfl (lv_at hl 0 rfl) ?_
  refine r_get (v := .int (iI x10)) M w 0 24 clX12 rfl (by decide) G1487 rfl rfl dX12_snap_1 ?_
  refine lv_bipush (v := iI 8) hx hb dX12_snap_4 (by decide +kernel) ?_
  refine lv_icmp_ne (tgt := 49) hx hb dX12_snap_6 (by decide) (fun c_1 => ?_) (fun c_1 => ?_)
  · replace c_1 : ¬ x10 = 8 := fun h => c_1 ((iI_eq (Int.le_trans (by decide) x10_a) (Int.le_trans x10_b (by decide)) (by decide) (by decide)).mpr h)
    refine lv_iconst (v := iI 0) hx hb dX12_snap_49 (by decide +kernel) ?_
    refine lv_istore_n (lv' := [(1, .int (iI 0)), (0, .ref a0)]) hx hb dX12_snap_50 rfl hl (by decide) rfl (fun ls hl => ?_)
    have w := WD.eq (ws' := [(a0, .inr (11, [.int r0, .ref a1, .int (iI x0), .int (iI x1), .int (iI x2), .int (iI x3), .int (iI x4), .int (iI x5), .int r1, .int (iI x6), .int (iI x7), .int (iI x8), .long y0, .int (iI x9), .ref a2, .ref a3, .ref a4, .ref a5, .ref a6, .ref a7, .ref a8, .ref a9, .ref a10, .ref a11, .int (iI x10), .ref a12, .ref a13, .ref a14, .ref a15, .int (iI x11), .int r2, .int r3, .ref a16, .int (iI x12), .int (iI x13), .ref a17, .ref a18, .int (iI x14), .ref a19, .int (iI x15), .int r4, .ref a20, .ref a21, .int (iI x16), .int r5, .ref a22, .int (iI x17), .int (iI x18), .int (iI x19), .int (iI x20)])), (a2, .inl (T 0, 329, .inl (cI f0))), (a5, .inl (T 0, 272, .inl (cI (cpz f0 f1 53 (34 * x10) 0))))]) (by rw [cpz_0 (c := f0) (d := f1) (sp := 53) (dp := (34 * x10)) (n := 0) (by decide)]) w
    have loop1 : ∀ (k1 : Nat) (z2 : Int) (H : Heap) (locs : List Loc) (ls : Array Slot), 0 ≤ z2 → z2 ≤ 34 → ((34 - z2) : Int).toNat < k1 → WD D A s.heap [(a0, .inr (11, [.int r0, .ref a1, .int (iI x0), .int (iI x1), .int (iI x2), .int (iI x3), .int (iI x4), .int (iI x5), .int r1, .int (iI x6), .int (iI x7), .int (iI x8), .long y0, .int (iI x9), .ref a2, .ref a3, .ref a4, .ref a5, .ref a6, .ref a7, .ref a8, .ref a9, .ref a10, .ref a11, .int (iI x10), .ref a12, .ref a13, .ref a14, .ref a15, .int (iI x11), .int r2, .int r3, .ref a16, .int (iI x12), .int (iI x13), .ref a17, .ref a18, .int (iI x14), .ref a19, .int (iI x15), .int r4, .ref a20, .ref a21, .int (iI x16), .int r5, .ref a22, .int (iI x17), .int (iI x18), .int (iI x19), .int (iI x20)])), (a2, .inl (T 0, 329, .inl (cI f0))), (a5, .inl (T 0, 272, .inl (cI (cpz f0 f1 53 (34 * x10) z2))))] H locs → lv_has ls 2 [(1, .int (iI z2)), (0, .ref a0)] → W p l e (Rm 0 0 0) s m args below meth c H locs 0 0 Q (F0 m 51 ls []) := by
      intro k1
      induction k1 with
      | zero => intro z2 H locs ls z2_a z2_b hm; exact absurd hm (Nat.not_lt_zero _)
      | succ k1 ih1 =>
        intro z2 H locs ls z2_a z2_b hm1 w hl
        refine lv_iload_n hx hb dX12_snap_51 rfl (lv_at hl 0 rfl) ?_
        refine lv_bipush (v := iI 34) hx hb dX12_snap_52 (by decide +kernel) ?_
        refine lv_icmp_ge (tgt := 86) hx hb dX12_snap_54 (by decide) (fun c_3 => ?_) (fun c_3 => ?_)
        · replace c_3 := (iI_le (by decide) (by decide) (Int.le_trans (by decide) z2_a) (Int.le_trans z2_b (by decide))).mp c_3
          obtain rfl : z2 = 34 := by omega
          refine lv_aload_n hx hb dX12_snap_86 rfl (lv_at hl 1 rfl) ?_
          refine lv_dup hx hb dX12_snap_87 rfl ?_
          refine r_get (v := .int (iI x10)) M w 0 24 clX12 rfl (by decide) G1487 rfl rfl dX12_snap_88 ?_
          refine lv_iconst (v := iI 1) hx hb dX12_snap_91 (by decide +kernel) ?_
          refine r_iadd (v := iI (x10 + 1)) M (iI_add _ _) dX12_snap_92 ?_
          refine r_put (ws' := [(a0, .inr (11, [.int r0, .ref a1, .int (iI x0), .int (iI x1), .int (iI x2), .int (iI x3), .int (iI x4), .int (iI x5), .int r1, .int (iI x6), .int (iI x7), .int (iI x8), .long y0, .int (iI x9), .ref a2, .ref a3, .ref a4, .ref a5, .ref a6, .ref a7, .ref a8, .ref a9, .ref a10, .ref a11, .int (iI (x10 + 1)), .ref a12, .ref a13, .ref a14, .ref a15, .int (iI x11), .int r2, .int r3, .ref a16, .int (iI x12), .int (iI x13), .ref a17, .ref a18, .int (iI x14), .ref a19, .int (iI x15), .int r4, .ref a20, .ref a21, .int (iI x16), .int r5, .ref a22, .int (iI x17), .int (iI x18), .int (iI x19), .int (iI x20)])), (a2, .inl (T 0, 329, .inl (cI f0))), (a5, .inl (T 0, 272, .inl (cI (cpz f0 f1 53 (34 * x10) 34))))]) M w 0 24 clX12 rfl (by decide) G1487 rfl rfl rfl rfl (Nat.le_of_ble_eq_true rfl) rfl dX12_snap_93 (fun H locs w => ?_)
          exact ret ((x10 + 1), (cpz f0 f1 53 (34 * x10) 34)) _ _ _ _ _ [0, 1, 2] dX12_snap_96 ⟨(show 0 ≤ (x10 + 1) from by omega), (show (x10 + 1) ≤ 8 from by omega), (FL_cp f0_h.1 f1_h), (show snI (cpz f0 f1 53 (34 * x10) 34) (x10 + 1) from (sn_cp (n := x10) pp_s f0_h (by omega) (by omega) (by omega)))⟩ w (by decide) rfl
        · replace c_3 : z2 < 34 := Int.not_le.mp (fun h => c_3 ((iI_le (by decide) (by decide) (Int.le_trans (by decide) z2_a) (Int.le_trans z2_b (by decide))).mpr h))
          refine lv_aload_n hx hb dX12_snap_57 rfl (lv_at hl 1 rfl) ?_
          refine r_get (v := .ref a5) M w 0 17 clX12 rfl (by decide) G1480 rfl rfl dX12_snap_58 ?_
          refine lv_bipush (v := iI 34) hx hb dX12_snap_61 (by decide +kernel) ?_
          refine lv_aload_n hx hb dX12_snap_63 rfl (lv_at hl 1 rfl) ?_
          refine r_get (v := .int (iI x10)) M w 0 24 clX12 rfl (by decide) G1487 rfl rfl dX12_snap_64 ?_
          refine r_imul (v := iI (34 * x10)) M (iI_mul _ _) dX12_snap_67 ?_
          refine lv_iload_n hx hb dX12_snap_68 rfl (lv_at hl 0 rfl) ?_
          refine r_iadd (v := iI ((34 * x10) + z2)) M (iI_add _ _) dX12_snap_69 ?_
          refine lv_aload_n hx hb dX12_snap_70 rfl (lv_at hl 1 rfl) ?_
          refine r_get (v := .ref a2) M w 0 14 clX12 rfl (by decide) G1477 rfl rfl dX12_snap_71 ?_
          refine lv_bipush (v := iI 53) hx hb dX12_snap_74 (by decide +kernel) ?_
          refine lv_iload_n hx hb dX12_snap_76 rfl (lv_at hl 0 rfl) ?_
          refine r_iadd (v := iI (53 + z2)) M (iI_add _ _) dX12_snap_77 ?_
          refine r_iald (v := iI (f0 (53 + z2))) M w 1 rfl (iI_in (by omega) (by omega) (by decide)) (cI_at (by omega) (by omega)) dX12_snap_78 ?_
          have hh4 : (-2147483648) ≤ (f0 (53 + z2)) ∧ (f0 (53 + z2)) ≤ 2147483647 := f0_h.1 (53 + z2)
          refine r_iast (ws' := [(a0, .inr (11, [.int r0, .ref a1, .int (iI x0), .int (iI x1), .int (iI x2), .int (iI x3), .int (iI x4), .int (iI x5), .int r1, .int (iI x6), .int (iI x7), .int (iI x8), .long y0, .int (iI x9), .ref a2, .ref a3, .ref a4, .ref a5, .ref a6, .ref a7, .ref a8, .ref a9, .ref a10, .ref a11, .int (iI x10), .ref a12, .ref a13, .ref a14, .ref a15, .int (iI x11), .int r2, .int r3, .ref a16, .int (iI x12), .int (iI x13), .ref a17, .ref a18, .int (iI x14), .ref a19, .int (iI x15), .int r4, .ref a20, .ref a21, .int (iI x16), .int r5, .ref a22, .int (iI x17), .int (iI x18), .int (iI x19), .int (iI x20)])), (a2, .inl (T 0, 329, .inl (cI f0))), (a5, .inl (T 0, 272, .inl (cI (upz (cpz f0 f1 53 (34 * x10) z2) ((34 * x10) + z2) (f0 (53 + z2))))))]) M w 2 rfl (iI_in (by omega) (by omega) (by decide)) (by rw [cI_up (by omega) (by omega)]; rfl) dX12_snap_79 (fun H locs w => ?_)
          refine lv_iinc (v := iI (z2 + 1)) (lv' := [(1, .int (iI (z2 + 1))), (0, .ref a0)]) hx hb dX12_snap_80 hl (k := 0) rfl (ii_inc (by decide +kernel)) (by decide) rfl (fun ls hl => ?_)
          refine lv_goto (tgt := 51) hx hb dX12_snap_83 (by decide) ?_
          have w := WD.eq (ws' := [(a0, .inr (11, [.int r0, .ref a1, .int (iI x0), .int (iI x1), .int (iI x2), .int (iI x3), .int (iI x4), .int (iI x5), .int r1, .int (iI x6), .int (iI x7), .int (iI x8), .long y0, .int (iI x9), .ref a2, .ref a3, .ref a4, .ref a5, .ref a6, .ref a7, .ref a8, .ref a9, .ref a10, .ref a11, .int (iI x10), .ref a12, .ref a13, .ref a14, .ref a15, .int (iI x11), .int r2, .int r3, .ref a16, .int (iI x12), .int (iI x13), .ref a17, .ref a18, .int (iI x14), .ref a19, .int (iI x15), .int r4, .ref a20, .ref a21, .int (iI x16), .int r5, .ref a22, .int (iI x17), .int (iI x18), .int (iI x19), .int (iI x20)])), (a2, .inl (T 0, 329, .inl (cI f0))), (a5, .inl (T 0, 272, .inl (cI (cpz f0 f1 53 (34 * x10) (z2 + 1)))))]) (by rw [← cpz_t (c := f0) (d := f1) (sp := 53) (dp := (34 * x10)) (k := z2) (k' := (z2 + 1)) (i := ((34 * x10) + z2)) (x := (f0 (53 + z2))) (by omega) (by omega) (by omega) (congrArg f0 (by omega))]) w
          exact ih1 (z2 + 1) _ _ _ (by omega) (by omega) (by omega) w (lv_sub hl [0, 1] rfl)
    exact loop1 ((34 : Int).toNat + 1) 0 _ _ _ (by decide) (by decide) (Nat.lt_succ_self _) w (lv_sub hl [0, 1] rfl)
  · replace c_1 := (iI_eq (Int.le_trans (by decide) x10_a) (Int.le_trans x10_b (by decide)) (by decide) (by decide)).mp c_1
    refine lv_iconst (v := iI 0) hx hb dX12_snap_9 (by decide +kernel) ?_
    refine lv_istore_n (lv' := [(1, .int (iI 0)), (0, .ref a0)]) hx hb dX12_snap_10 rfl hl (by decide) rfl (fun ls hl => ?_)
    have w := WD.eq (ws' := [(a0, .inr (11, [.int r0, .ref a1, .int (iI x0), .int (iI x1), .int (iI x2), .int (iI x3), .int (iI x4), .int (iI x5), .int r1, .int (iI x6), .int (iI x7), .int (iI x8), .long y0, .int (iI x9), .ref a2, .ref a3, .ref a4, .ref a5, .ref a6, .ref a7, .ref a8, .ref a9, .ref a10, .ref a11, .int (iI x10), .ref a12, .ref a13, .ref a14, .ref a15, .int (iI x11), .int r2, .int r3, .ref a16, .int (iI x12), .int (iI x13), .ref a17, .ref a18, .int (iI x14), .ref a19, .int (iI x15), .int r4, .ref a20, .ref a21, .int (iI x16), .int r5, .ref a22, .int (iI x17), .int (iI x18), .int (iI x19), .int (iI x20)])), (a2, .inl (T 0, 329, .inl (cI f0))), (a5, .inl (T 0, 272, .inl (cI (cpz f1 f1 34 0 0))))]) (by rw [cpz_0 (c := f1) (d := f1) (sp := 34) (dp := 0) (n := 0) (by decide)]) w
    have loop1 : ∀ (k1 : Nat) (z5 : Int) (H : Heap) (locs : List Loc) (ls : Array Slot), 0 ≤ z5 → z5 ≤ 238 → ((238 - z5) : Int).toNat < k1 → WD D A s.heap [(a0, .inr (11, [.int r0, .ref a1, .int (iI x0), .int (iI x1), .int (iI x2), .int (iI x3), .int (iI x4), .int (iI x5), .int r1, .int (iI x6), .int (iI x7), .int (iI x8), .long y0, .int (iI x9), .ref a2, .ref a3, .ref a4, .ref a5, .ref a6, .ref a7, .ref a8, .ref a9, .ref a10, .ref a11, .int (iI x10), .ref a12, .ref a13, .ref a14, .ref a15, .int (iI x11), .int r2, .int r3, .ref a16, .int (iI x12), .int (iI x13), .ref a17, .ref a18, .int (iI x14), .ref a19, .int (iI x15), .int r4, .ref a20, .ref a21, .int (iI x16), .int r5, .ref a22, .int (iI x17), .int (iI x18), .int (iI x19), .int (iI x20)])), (a2, .inl (T 0, 329, .inl (cI f0))), (a5, .inl (T 0, 272, .inl (cI (cpz f1 f1 34 0 z5))))] H locs → lv_has ls 2 [(1, .int (iI z5)), (0, .ref a0)] → W p l e (Rm 0 0 0) s m args below meth c H locs 0 0 Q (F0 m 11 ls []) := by
      intro k1
      induction k1 with
      | zero => intro z5 H locs ls z5_a z5_b hm; exact absurd hm (Nat.not_lt_zero _)
      | succ k1 ih1 =>
        intro z5 H locs ls z5_a z5_b hm1 w hl
        refine lv_iload_n hx hb dX12_snap_11 rfl (lv_at hl 0 rfl) ?_
        refine lv_sipush (v := iI 238) hx hb dX12_snap_12 (by decide +kernel) ?_
        refine lv_icmp_ge (tgt := 39) hx hb dX12_snap_15 (by decide) (fun c_6 => ?_) (fun c_6 => ?_)
        · replace c_6 := (iI_le (by decide) (by decide) (Int.le_trans (by decide) z5_a) (Int.le_trans z5_b (by decide))).mp c_6
          obtain rfl : z5 = 238 := by omega
          refine lv_aload_n hx hb dX12_snap_39 rfl (lv_at hl 1 rfl) ?_
          refine lv_dup hx hb dX12_snap_40 rfl ?_
          refine r_get (v := .int (iI x10)) M w 0 24 clX12 rfl (by decide) G1487 rfl rfl dX12_snap_41 ?_
          refine lv_iconst (v := iI 1) hx hb dX12_snap_44 (by decide +kernel) ?_
          refine r_isub (v := iI (x10 - 1)) M (iI_sub _ _) dX12_snap_45 ?_
          refine r_put (ws' := [(a0, .inr (11, [.int r0, .ref a1, .int (iI x0), .int (iI x1), .int (iI x2), .int (iI x3), .int (iI x4), .int (iI x5), .int r1, .int (iI x6), .int (iI x7), .int (iI x8), .long y0, .int (iI x9), .ref a2, .ref a3, .ref a4, .ref a5, .ref a6, .ref a7, .ref a8, .ref a9, .ref a10, .ref a11, .int (iI (x10 - 1)), .ref a12, .ref a13, .ref a14, .ref a15, .int (iI x11), .int r2, .int r3, .ref a16, .int (iI x12), .int (iI x13), .ref a17, .ref a18, .int (iI x14), .ref a19, .int (iI x15), .int r4, .ref a20, .ref a21, .int (iI x16), .int r5, .ref a22, .int (iI x17), .int (iI x18), .int (iI x19), .int (iI x20)])), (a2, .inl (T 0, 329, .inl (cI f0))), (a5, .inl (T 0, 272, .inl (cI (cpz f1 f1 34 0 238))))]) M w 0 24 clX12 rfl (by decide) G1487 rfl rfl rfl rfl (Nat.le_of_ble_eq_true rfl) rfl dX12_snap_46 (fun H locs w => ?_)
          refine lv_iconst (v := iI 0) hx hb dX12_snap_49 (by decide +kernel) ?_
          refine lv_istore_n (lv' := [(1, .int (iI 0)), (0, .ref a0)]) hx hb dX12_snap_50 rfl hl (by decide) rfl (fun ls hl => ?_)
          have w := WD.eq (ws' := [(a0, .inr (11, [.int r0, .ref a1, .int (iI x0), .int (iI x1), .int (iI x2), .int (iI x3), .int (iI x4), .int (iI x5), .int r1, .int (iI x6), .int (iI x7), .int (iI x8), .long y0, .int (iI x9), .ref a2, .ref a3, .ref a4, .ref a5, .ref a6, .ref a7, .ref a8, .ref a9, .ref a10, .ref a11, .int (iI (x10 - 1)), .ref a12, .ref a13, .ref a14, .ref a15, .int (iI x11), .int r2, .int r3, .ref a16, .int (iI x12), .int (iI x13), .ref a17, .ref a18, .int (iI x14), .ref a19, .int (iI x15), .int r4, .ref a20, .ref a21, .int (iI x16), .int r5, .ref a22, .int (iI x17), .int (iI x18), .int (iI x19), .int (iI x20)])), (a2, .inl (T 0, 329, .inl (cI f0))), (a5, .inl (T 0, 272, .inl (cI (cpz f0 (cpz f1 f1 34 0 238) 53 (34 * (x10 - 1)) 0))))]) (by rw [cpz_0 (c := f0) (d := (cpz f1 f1 34 0 238)) (sp := 53) (dp := (34 * (x10 - 1))) (n := 0) (by decide)]) w
          have loop2 : ∀ (k2 : Nat) (z7 : Int) (H : Heap) (locs : List Loc) (ls : Array Slot), 0 ≤ z7 → z7 ≤ 34 → ((34 - z7) : Int).toNat < k2 → WD D A s.heap [(a0, .inr (11, [.int r0, .ref a1, .int (iI x0), .int (iI x1), .int (iI x2), .int (iI x3), .int (iI x4), .int (iI x5), .int r1, .int (iI x6), .int (iI x7), .int (iI x8), .long y0, .int (iI x9), .ref a2, .ref a3, .ref a4, .ref a5, .ref a6, .ref a7, .ref a8, .ref a9, .ref a10, .ref a11, .int (iI (x10 - 1)), .ref a12, .ref a13, .ref a14, .ref a15, .int (iI x11), .int r2, .int r3, .ref a16, .int (iI x12), .int (iI x13), .ref a17, .ref a18, .int (iI x14), .ref a19, .int (iI x15), .int r4, .ref a20, .ref a21, .int (iI x16), .int r5, .ref a22, .int (iI x17), .int (iI x18), .int (iI x19), .int (iI x20)])), (a2, .inl (T 0, 329, .inl (cI f0))), (a5, .inl (T 0, 272, .inl (cI (cpz f0 (cpz f1 f1 34 0 238) 53 (34 * (x10 - 1)) z7))))] H locs → lv_has ls 2 [(1, .int (iI z7)), (0, .ref a0)] → W p l e (Rm 0 0 0) s m args below meth c H locs 0 0 Q (F0 m 51 ls []) := by
            intro k2
            induction k2 with
            | zero => intro z7 H locs ls z7_a z7_b hm; exact absurd hm (Nat.not_lt_zero _)
            | succ k2 ih2 =>
              intro z7 H locs ls z7_a z7_b hm2 w hl
              refine lv_iload_n hx hb dX12_snap_51 rfl (lv_at hl 0 rfl) ?_
              refine lv_bipush (v := iI 34) hx hb dX12_snap_52 (by decide +kernel) ?_
              refine lv_icmp_ge (tgt := 86) hx hb dX12_snap_54 (by decide) (fun c_8 => ?_) (fun c_8 => ?_)
              · replace c_8 := (iI_le (by decide) (by decide) (Int.le_trans (by decide) z7_a) (Int.le_trans z7_b (by decide))).mp c_8
                obtain rfl : z7 = 34 := by omega
                refine lv_aload_n hx hb dX12_snap_86 rfl (lv_at hl 1 rfl) ?_
                refine lv_dup hx hb dX12_snap_87 rfl ?_
                refine r_get (v := .int (iI (x10 - 1))) M w 0 24 clX12 rfl (by decide) G1487 rfl rfl dX12_snap_88 ?_
                refine lv_iconst (v := iI 1) hx hb dX12_snap_91 (by decide +kernel) ?_
                refine r_iadd (v := iI ((x10 - 1) + 1)) M (iI_add _ _) dX12_snap_92 ?_
                refine r_put (ws' := [(a0, .inr (11, [.int r0, .ref a1, .int (iI x0), .int (iI x1), .int (iI x2), .int (iI x3), .int (iI x4), .int (iI x5), .int r1, .int (iI x6), .int (iI x7), .int (iI x8), .long y0, .int (iI x9), .ref a2, .ref a3, .ref a4, .ref a5, .ref a6, .ref a7, .ref a8, .ref a9, .ref a10, .ref a11, .int (iI ((x10 - 1) + 1)), .ref a12, .ref a13, .ref a14, .ref a15, .int (iI x11), .int r2, .int r3, .ref a16, .int (iI x12), .int (iI x13), .ref a17, .ref a18, .int (iI x14), .ref a19, .int (iI x15), .int r4, .ref a20, .ref a21, .int (iI x16), .int r5, .ref a22, .int (iI x17), .int (iI x18), .int (iI x19), .int (iI x20)])), (a2, .inl (T 0, 329, .inl (cI f0))), (a5, .inl (T 0, 272, .inl (cI (cpz f0 (cpz f1 f1 34 0 238) 53 (34 * (x10 - 1)) 34))))]) M w 0 24 clX12 rfl (by decide) G1487 rfl rfl rfl rfl (Nat.le_of_ble_eq_true rfl) rfl dX12_snap_93 (fun H locs w => ?_)
                exact ret (((x10 - 1) + 1), (cpz f0 (cpz f1 f1 34 0 238) 53 (34 * (x10 - 1)) 34)) _ _ _ _ _ [0, 1, 2] dX12_snap_96 ⟨(show 0 ≤ ((x10 - 1) + 1) from by omega), (show ((x10 - 1) + 1) ≤ 8 from by omega), (FL_cp f0_h.1 (FL_cp f1_h f1_h)), (show snI (cpz f0 (cpz f1 f1 34 0 238) 53 (34 * (x10 - 1)) 34) ((x10 - 1) + 1) from (sn_cp (n := 7) (sn_sh pp_s (by omega) (k := 7) (by omega) (by omega)) f0_h (by omega) (by omega) (by omega)))⟩ w (by decide) rfl
              · replace c_8 : z7 < 34 := Int.not_le.mp (fun h => c_8 ((iI_le (by decide) (by decide) (Int.le_trans (by decide) z7_a) (Int.le_trans z7_b (by decide))).mpr h))
                refine lv_aload_n hx hb dX12_snap_57 rfl (lv_at hl 1 rfl) ?_
                refine r_get (v := .ref a5) M w 0 17 clX12 rfl (by decide) G1480 rfl rfl dX12_snap_58 ?_
                refine lv_bipush (v := iI 34) hx hb dX12_snap_61 (by decide +kernel) ?_
                refine lv_aload_n hx hb dX12_snap_63 rfl (lv_at hl 1 rfl) ?_
                refine r_get (v := .int (iI (x10 - 1))) M w 0 24 clX12 rfl (by decide) G1487 rfl rfl dX12_snap_64 ?_
                refine r_imul (v := iI (34 * (x10 - 1))) M (iI_mul _ _) dX12_snap_67 ?_
                refine lv_iload_n hx hb dX12_snap_68 rfl (lv_at hl 0 rfl) ?_
                refine r_iadd (v := iI ((34 * (x10 - 1)) + z7)) M (iI_add _ _) dX12_snap_69 ?_
                refine lv_aload_n hx hb dX12_snap_70 rfl (lv_at hl 1 rfl) ?_
                refine r_get (v := .ref a2) M w 0 14 clX12 rfl (by decide) G1477 rfl rfl dX12_snap_71 ?_
                refine lv_bipush (v := iI 53) hx hb dX12_snap_74 (by decide +kernel) ?_
                refine lv_iload_n hx hb dX12_snap_76 rfl (lv_at hl 0 rfl) ?_
                refine r_iadd (v := iI (53 + z7)) M (iI_add _ _) dX12_snap_77 ?_
                refine r_iald (v := iI (f0 (53 + z7))) M w 1 rfl (iI_in (by omega) (by omega) (by decide)) (cI_at (by omega) (by omega)) dX12_snap_78 ?_
                have hh9 : (-2147483648) ≤ (f0 (53 + z7)) ∧ (f0 (53 + z7)) ≤ 2147483647 := f0_h.1 (53 + z7)
                refine r_iast (ws' := [(a0, .inr (11, [.int r0, .ref a1, .int (iI x0), .int (iI x1), .int (iI x2), .int (iI x3), .int (iI x4), .int (iI x5), .int r1, .int (iI x6), .int (iI x7), .int (iI x8), .long y0, .int (iI x9), .ref a2, .ref a3, .ref a4, .ref a5, .ref a6, .ref a7, .ref a8, .ref a9, .ref a10, .ref a11, .int (iI (x10 - 1)), .ref a12, .ref a13, .ref a14, .ref a15, .int (iI x11), .int r2, .int r3, .ref a16, .int (iI x12), .int (iI x13), .ref a17, .ref a18, .int (iI x14), .ref a19, .int (iI x15), .int r4, .ref a20, .ref a21, .int (iI x16), .int r5, .ref a22, .int (iI x17), .int (iI x18), .int (iI x19), .int (iI x20)])), (a2, .inl (T 0, 329, .inl (cI f0))), (a5, .inl (T 0, 272, .inl (cI (upz (cpz f0 (cpz f1 f1 34 0 238) 53 (34 * (x10 - 1)) z7) ((34 * (x10 - 1)) + z7) (f0 (53 + z7))))))]) M w 2 rfl (iI_in (by omega) (by omega) (by decide)) (by rw [cI_up (by omega) (by omega)]; rfl) dX12_snap_79 (fun H locs w => ?_)
                refine lv_iinc (v := iI (z7 + 1)) (lv' := [(1, .int (iI (z7 + 1))), (0, .ref a0)]) hx hb dX12_snap_80 hl (k := 0) rfl (ii_inc (by decide +kernel)) (by decide) rfl (fun ls hl => ?_)
                refine lv_goto (tgt := 51) hx hb dX12_snap_83 (by decide) ?_
                have w := WD.eq (ws' := [(a0, .inr (11, [.int r0, .ref a1, .int (iI x0), .int (iI x1), .int (iI x2), .int (iI x3), .int (iI x4), .int (iI x5), .int r1, .int (iI x6), .int (iI x7), .int (iI x8), .long y0, .int (iI x9), .ref a2, .ref a3, .ref a4, .ref a5, .ref a6, .ref a7, .ref a8, .ref a9, .ref a10, .ref a11, .int (iI (x10 - 1)), .ref a12, .ref a13, .ref a14, .ref a15, .int (iI x11), .int r2, .int r3, .ref a16, .int (iI x12), .int (iI x13), .ref a17, .ref a18, .int (iI x14), .ref a19, .int (iI x15), .int r4, .ref a20, .ref a21, .int (iI x16), .int r5, .ref a22, .int (iI x17), .int (iI x18), .int (iI x19), .int (iI x20)])), (a2, .inl (T 0, 329, .inl (cI f0))), (a5, .inl (T 0, 272, .inl (cI (cpz f0 (cpz f1 f1 34 0 238) 53 (34 * (x10 - 1)) (z7 + 1)))))]) (by rw [← cpz_t (c := f0) (d := (cpz f1 f1 34 0 238)) (sp := 53) (dp := (34 * (x10 - 1))) (k := z7) (k' := (z7 + 1)) (i := ((34 * (x10 - 1)) + z7)) (x := (f0 (53 + z7))) (by omega) (by omega) (by omega) (congrArg f0 (by omega))]) w
                exact ih2 (z7 + 1) _ _ _ (by omega) (by omega) (by omega) w (lv_sub hl [0, 1] rfl)
          exact loop2 ((34 : Int).toNat + 1) 0 _ _ _ (by decide) (by decide) (Nat.lt_succ_self _) w (lv_sub hl [0, 1] rfl)
        · replace c_6 : z5 < 238 := Int.not_le.mp (fun h => c_6 ((iI_le (by decide) (by decide) (Int.le_trans (by decide) z5_a) (Int.le_trans z5_b (by decide))).mpr h))
          refine lv_aload_n hx hb dX12_snap_18 rfl (lv_at hl 1 rfl) ?_
          refine r_get (v := .ref a5) M w 0 17 clX12 rfl (by decide) G1480 rfl rfl dX12_snap_19 ?_
          refine lv_iload_n hx hb dX12_snap_22 rfl (lv_at hl 0 rfl) ?_
          refine lv_aload_n hx hb dX12_snap_23 rfl (lv_at hl 1 rfl) ?_
          refine r_get (v := .ref a5) M w 0 17 clX12 rfl (by decide) G1480 rfl rfl dX12_snap_24 ?_
          refine lv_iload_n hx hb dX12_snap_27 rfl (lv_at hl 0 rfl) ?_
          refine lv_bipush (v := iI 34) hx hb dX12_snap_28 (by decide +kernel) ?_
          refine r_iadd (v := iI (z5 + 34)) M (iI_add _ _) dX12_snap_30 ?_
          refine r_iald (v := iI ((cpz f1 f1 34 0 z5) (z5 + 34))) M w 2 rfl (iI_in (by omega) (by omega) (by decide)) (cI_at (by omega) (by omega)) dX12_snap_31 ?_
          have hh10 : (-2147483648) ≤ ((cpz f1 f1 34 0 z5) (z5 + 34)) ∧ ((cpz f1 f1 34 0 z5) (z5 + 34)) ≤ 2147483647 := (FL_cp f1_h f1_h) (z5 + 34)
          refine r_iast (ws' := [(a0, .inr (11, [.int r0, .ref a1, .int (iI x0), .int (iI x1), .int (iI x2), .int (iI x3), .int (iI x4), .int (iI x5), .int r1, .int (iI x6), .int (iI x7), .int (iI x8), .long y0, .int (iI x9), .ref a2, .ref a3, .ref a4, .ref a5, .ref a6, .ref a7, .ref a8, .ref a9, .ref a10, .ref a11, .int (iI x10), .ref a12, .ref a13, .ref a14, .ref a15, .int (iI x11), .int r2, .int r3, .ref a16, .int (iI x12), .int (iI x13), .ref a17, .ref a18, .int (iI x14), .ref a19, .int (iI x15), .int r4, .ref a20, .ref a21, .int (iI x16), .int r5, .ref a22, .int (iI x17), .int (iI x18), .int (iI x19), .int (iI x20)])), (a2, .inl (T 0, 329, .inl (cI f0))), (a5, .inl (T 0, 272, .inl (cI (upz (cpz f1 f1 34 0 z5) z5 ((cpz f1 f1 34 0 z5) (z5 + 34))))))]) M w 2 rfl (iI_in (by omega) (by omega) (by decide)) (by rw [cI_up (by omega) (by omega)]; rfl) dX12_snap_32 (fun H locs w => ?_)
          refine lv_iinc (v := iI (z5 + 1)) (lv' := [(1, .int (iI (z5 + 1))), (0, .ref a0)]) hx hb dX12_snap_33 hl (k := 0) rfl (ii_inc (by decide +kernel)) (by decide) rfl (fun ls hl => ?_)
          refine lv_goto (tgt := 11) hx hb dX12_snap_36 (by decide) ?_
          have w := WD.eq (ws' := [(a0, .inr (11, [.int r0, .ref a1, .int (iI x0), .int (iI x1), .int (iI x2), .int (iI x3), .int (iI x4), .int (iI x5), .int r1, .int (iI x6), .int (iI x7), .int (iI x8), .long y0, .int (iI x9), .ref a2, .ref a3, .ref a4, .ref a5, .ref a6, .ref a7, .ref a8, .ref a9, .ref a10, .ref a11, .int (iI x10), .ref a12, .ref a13, .ref a14, .ref a15, .int (iI x11), .int r2, .int r3, .ref a16, .int (iI x12), .int (iI x13), .ref a17, .ref a18, .int (iI x14), .ref a19, .int (iI x15), .int r4, .ref a20, .ref a21, .int (iI x16), .int r5, .ref a22, .int (iI x17), .int (iI x18), .int (iI x19), .int (iI x20)])), (a2, .inl (T 0, 329, .inl (cI f0))), (a5, .inl (T 0, 272, .inl (cI (cpz f1 f1 34 0 (z5 + 1)))))]) (by rw [← cpz_t (c := f1) (d := f1) (sp := 34) (dp := 0) (k := z5) (k' := (z5 + 1)) (i := z5) (x := ((cpz f1 f1 34 0 z5) (z5 + 34))) (by omega) (by omega) (by omega) ((cpz_o (by omega)).trans (congrArg f1 (by omega)))]) w
          exact ih1 (z5 + 1) _ _ _ (by omega) (by omega) (by omega) w (lv_sub hl [0, 1] rfl)
    exact loop1 ((238 : Int).toNat + 1) 0 _ _ _ (by decide) (by decide) (Nat.lt_succ_self _) w (lv_sub hl [0, 1] rfl)
set_option maxRecDepth 100000 in
set_option maxHeartbeats 4000000 in
theorem c81_X12_why (l : Launch) (D : va_G) (T : Nat → ClassId) (sz : Nat) (a0 : Nat) (x0 : Int) (x1 : Int) (x2 : Int) (r0 : Int32) (a1 : Nat) (x3 : Int) (x4 : Int) (x5 : Int) (x6 : Int) (x7 : Int) (x8 : Int) (r1 : Int32) (x9 : Int) (x10 : Int) (x11 : Int) (y0 : Int64) (x12 : Int) (a2 : Nat) (a3 : Nat) (a4 : Nat) (a5 : Nat) (a6 : Nat) (a7 : Nat) (a8 : Nat) (a9 : Nat) (a10 : Nat) (a11 : Nat) (x13 : Int) (a12 : Nat) (a13 : Nat) (a14 : Nat) (a15 : Nat) (x14 : Int) (r2 : Int32) (r3 : Int32) (a16 : Nat) (x15 : Int) (x16 : Int) (a17 : Nat) (a18 : Nat) (x17 : Int) (a19 : Nat) (x18 : Int) (r4 : Int32) (a20 : Nat) (a21 : Nat) (x19 : Int) (r5 : Int32) (a22 : Nat) (x20 : Int) (x21 : Int) (x22 : Int) (x23 : Int) (f0 : Int → Int) (x0_a : 0 ≤ x0) (x0_b : x0 ≤ 2) (x1_a : 0 ≤ x1) (x1_b : x1 ≤ 8) (x2_a : 0 ≤ x2) (x2_b : x2 ≤ 8) (x3_a : 0 ≤ x3) (x3_b : x3 ≤ 940) (x4_a : 0 ≤ x4) (x4_b : x4 ≤ 940) (x5_a : 0 ≤ x5) (x5_b : x5 ≤ 940) (x6_a : 0 ≤ x6) (x6_b : x6 ≤ 940) (x7_a : 0 ≤ x7) (x7_b : x7 ≤ 940) (x8_a : 0 ≤ x8) (x8_b : x8 ≤ 4) (x9_a : (-2147483648) ≤ x9) (x9_b : x9 ≤ 2147483647) (x10_a : (-2147483648) ≤ x10) (x10_b : x10 ≤ 2147483647) (x11_a : 0 ≤ x11) (x11_b : x11 ≤ 940) (x12_a : (-2147483648) ≤ x12) (x12_b : x12 ≤ 2147483647) (x13_a : 0 ≤ x13) (x13_b : x13 ≤ 8) (x14_a : 0 ≤ x14) (x14_b : x14 ≤ 9) (x15_a : (-1) ≤ x15) (x15_b : x15 ≤ 9) (x16_a : (-1) ≤ x16) (x16_b : x16 ≤ 8) (x17_a : 0 ≤ x17) (x17_b : x17 ≤ 9) (x18_a : 0 ≤ x18) (x18_b : x18 ≤ 64) (x19_a : 0 ≤ x19) (x19_b : x19 ≤ 40) (x20_a : 0 ≤ x20) (x20_b : x20 ≤ 40) (x21_a : 0 ≤ x21) (x21_b : x21 ≤ 20) (x22_a : 0 ≤ x22) (x22_b : x22 ≤ 8) (x23_a : 0 ≤ x23) (x23_b : x23 ≤ 39) (f0_h : nowI f0) : Met l yX12_why (Cond.code yX12_why cX12_why 5 (some .int) :: GW) (Rm 2 0 0) (cPre [.ref a0, .int (iI 0), .int (iI x0), .int (iI x1), .int (iI x2)] D T [(a0, .inr (11, [.int r0, .ref a1, .int (iI x3), .int (iI x4), .int (iI x5), .int (iI x6), .int (iI x7), .int (iI x8), .int r1, .int (iI x9), .int (iI x10), .int (iI x11), .long y0, .int (iI x12), .ref a2, .ref a3, .ref a4, .ref a5, .ref a6, .ref a7, .ref a8, .ref a9, .ref a10, .ref a11, .int (iI x13), .ref a12, .ref a13, .ref a14, .ref a15, .int (iI x14), .int r2, .int r3, .ref a16, .int (iI x15), .int (iI x16), .ref a17, .ref a18, .int (iI x17), .ref a19, .int (iI x18), .int r4, .ref a20, .ref a21, .int (iI x19), .int r5, .ref a22, .int (iI x20), .int (iI x21), .int (iI x22), .int (iI x23)])), (a2, .inl (T 0, 329, .inl (cI f0)))] sz) (qI D [(a0, .inr (11, [.int r0, .ref a1, .int (iI x3), .int (iI x4), .int (iI x5), .int (iI x6), .int (iI x7), .int (iI x8), .int r1, .int (iI x9), .int (iI x10), .int (iI x11), .long y0, .int (iI x12), .ref a2, .ref a3, .ref a4, .ref a5, .ref a6, .ref a7, .ref a8, .ref a9, .ref a10, .ref a11, .int (iI x13), .ref a12, .ref a13, .ref a14, .ref a15, .int (iI x14), .int r2, .int r3, .ref a16, .int (iI x15), .int (iI x16), .ref a17, .ref a18, .int (iI x17), .ref a19, .int (iI x18), .int r4, .ref a20, .ref a21, .int (iI x19), .int r5, .ref a22, .int (iI x20), .int (iI x21), .int (iI x22), .int (iI x23)])), (a2, .inl (T 0, 329, .inl (cI f0)))] sz (fun (v : Int32) (u : Int) => iI u = v ∧ 0 ≤ u ∧ u ≤ 7 ∧ (u = 0 → f0 (66 + x2) = -1)) (fun u => [(a0, .inr (11, [.int r0, .ref a1, .int (iI x3), .int (iI x4), .int (iI x5), .int (iI x6), .int (iI x7), .int (iI x8), .int r1, .int (iI x9), .int (iI x10), .int (iI x11), .long y0, .int (iI x12), .ref a2, .ref a3, .ref a4, .ref a5, .ref a6, .ref a7, .ref a8, .ref a9, .ref a10, .ref a11, .int (iI x13), .ref a12, .ref a13, .ref a14, .ref a15, .int (iI x14), .int r2, .int r3, .ref a16, .int (iI x15), .int (iI x16), .ref a17, .ref a18, .int (iI x17), .ref a19, .int (iI x18), .int r4, .ref a20, .ref a21, .int (iI x19), .int r5, .ref a22, .int (iI x20), .int (iI x21), .int (iI x22), .int (iI x23)])), (a2, .inl (T 0, 329, .inl (cI f0)))])) 0 0 (va_A [(a0, .inr (11, [.int r0, .ref a1, .int (iI x3), .int (iI x4), .int (iI x5), .int (iI x6), .int (iI x7), .int (iI x8), .int r1, .int (iI x9), .int (iI x10), .int (iI x11), .long y0, .int (iI x12), .ref a2, .ref a3, .ref a4, .ref a5, .ref a6, .ref a7, .ref a8, .ref a9, .ref a10, .ref a11, .int (iI x13), .ref a12, .ref a13, .ref a14, .ref a15, .int (iI x14), .int r2, .int r3, .ref a16, .int (iI x15), .int (iI x16), .ref a17, .ref a18, .int (iI x17), .ref a19, .int (iI x18), .int r4, .ref a20, .ref a21, .int (iI x19), .int r5, .ref a22, .int (iI x20), .int (iI x21), .int (iI x22), .int (iI x23)])), (a2, .inl (T 0, 329, .inl (cI f0)))] sz) := by
  refine e_I (by decide) (Nat.le_of_ble_eq_true rfl) ?_
  intro p e s m args below meth c A Q ls M hin w ret hl
  have hx := M.1.1
  have hb := M.1.2.1
  have hl : lv_has ls 5 [(0, .ref a0), (1, .int (iI 0)), (2, .int (iI x0)), (3, .int (iI x1)), (4, .int (iI x2))] := hl
  refine lv_iload_n hx hb dX12_why_0 rfl (lv_at hl 1 rfl) ?_
  refine lv_lookup (off := 27) (tgt := 28) hx hb dX12_why_1 (by decide +kernel) (by decide +kernel) (by decide) ?_
  refine lv_aload_n hx hb dX12_why_28 rfl (lv_at hl 0 rfl) ?_
  refine lv_iload_n hx hb dX12_why_29 rfl (lv_at hl 2 rfl) ?_
  refine k_I (ce := 0) (sl := 0) (rest := []) (wr := []) (r_V (f := 0) [0, 1] M w V_HookedCityModel_270 G1796 G80 (c78_X12_isTired l D T _ a0 x0 r0 a1 x3 x4 x5 x6 x7 x8 r1 x9 x10 x11 y0 x12 a2 a3 a4 a5 a6 a7 a8 a9 a10 a11 x13 a12 a13 a14 a15 x14 r2 r3 a16 x15 x16 a17 a18 x17 a19 x18 r4 a20 a21 x19 r5 a22 x20 x21 x22 x23 f0 x0_a x0_b x3_a x3_b x4_a x4_b x5_a x5_b x6_a x6_b x7_a x7_b x8_a x8_b x9_a x9_b x10_a x10_b x11_a x11_b x12_a x12_b x13_a x13_b x14_a x14_b x15_a x15_b x16_a x16_b x17_a x17_b x18_a x18_b x19_a x19_b x20_a x20_b x21_a x21_b x22_a x22_b x23_a x23_b f0_h) 0 clX12 rfl rfl (by decide) rfl hl.1 rfl (Nat.le_of_ble_eq_true rfl) dX12_why_30 (by decide) (by decide) (by decide) (by decide)) w [0, 1] [] rfl rfl (by decide) (by decide) rfl rfl (fun v z1 H locs hp w => ?_)
  have hv : iI z1 = v := hp.1
  subst hv
  have z1_a : 0 ≤ z1 := hp.2.1
  have z1_b : z1 ≤ 1 := hp.2.2
  have w : WD D A s.heap [(a0, .inr (11, [.int r0, .ref a1, .int (iI x3), .int (iI x4), .int (iI x5), .int (iI x6), .int (iI x7), .int (iI x8), .int r1, .int (iI x9), .int (iI x10), .int (iI x11), .long y0, .int (iI x12), .ref a2, .ref a3, .ref a4, .ref a5, .ref a6, .ref a7, .ref a8, .ref a9, .ref a10, .ref a11, .int (iI x13), .ref a12, .ref a13, .ref a14, .ref a15, .int (iI x14), .int r2, .int r3, .ref a16, .int (iI x15), .int (iI x16), .ref a17, .ref a18, .int (iI x17), .ref a19, .int (iI x18), .int r4, .ref a20, .ref a21, .int (iI x19), .int r5, .ref a22, .int (iI x20), .int (iI x21), .int (iI x22), .int (iI x23)])), (a2, .inl (T 0, 329, .inl (cI f0)))] H locs := w
  refine lv_if_eq (tgt := 40) hx hb dX12_why_33 (by decide) (fun c_2 => ?_) (fun c_2 => ?_)
  · replace c_2 := (iz_eq (Int.le_trans (by decide) z1_a) (Int.le_trans z1_b (by decide))).mp c_2
    refine lv_aload_n hx hb dX12_why_40 rfl (lv_at hl 0 rfl) ?_
    refine lv_iload_n hx hb dX12_why_41 rfl (lv_at hl 3 rfl) ?_
    refine lv_iload hx hb dX12_why_42 (lv_at hl 4 rfl) ?_
    refine k_I (ce := 0) (sl := 0) (rest := []) (wr := []) (r_V (f := 1) [0, 1] M w V_HookedCityModel_273 G1800 G81 (c77_X12_whyButton l D T _ a0 x1 x2 r0 a1 x3 x4 x5 x6 x7 x8 r1 x9 x10 x11 y0 x12 a2 a3 a4 a5 a6 a7 a8 a9 a10 a11 x13 a12 a13 a14 a15 x14 r2 r3 a16 x15 x16 a17 a18 x17 a19 x18 r4 a20 a21 x19 r5 a22 x20 x21 x22 x23 f0 x1_a x1_b x2_a x2_b x3_a x3_b x4_a x4_b x5_a x5_b x6_a x6_b x7_a x7_b x8_a x8_b x9_a x9_b x10_a x10_b x11_a x11_b x12_a x12_b x13_a x13_b x14_a x14_b x15_a x15_b x16_a x16_b x17_a x17_b x18_a x18_b x19_a x19_b x20_a x20_b x21_a x21_b x22_a x22_b x23_a x23_b f0_h) 0 clX12 rfl rfl (by decide) rfl hl.1 rfl (Nat.le_of_ble_eq_true rfl) dX12_why_44 (by decide) (by decide) (by decide) (by decide)) w [0, 1] [] rfl rfl (by decide) (by decide) rfl rfl (fun v z3 H locs hp w => ?_)
    have hv : iI z3 = v := hp.1
    subst hv
    have z3_a : 0 ≤ z3 := hp.2.1
    have z3_b : z3 ≤ 7 := hp.2.2.1
    have pq4 : z3 = 0 → f0 (66 + x2) = -1 := hp.2.2.2
    have w : WD D A s.heap [(a0, .inr (11, [.int r0, .ref a1, .int (iI x3), .int (iI x4), .int (iI x5), .int (iI x6), .int (iI x7), .int (iI x8), .int r1, .int (iI x9), .int (iI x10), .int (iI x11), .long y0, .int (iI x12), .ref a2, .ref a3, .ref a4, .ref a5, .ref a6, .ref a7, .ref a8, .ref a9, .ref a10, .ref a11, .int (iI x13), .ref a12, .ref a13, .ref a14, .ref a15, .int (iI x14), .int r2, .int r3, .ref a16, .int (iI x15), .int (iI x16), .ref a17, .ref a18, .int (iI x17), .ref a19, .int (iI x18), .int r4, .ref a20, .ref a21, .int (iI x19), .int r5, .ref a22, .int (iI x20), .int (iI x21), .int (iI x22), .int (iI x23)])), (a2, .inl (T 0, 329, .inl (cI f0)))] H locs := w
    exact ret _ z3 _ _ _ _ _ [0, 1] dX12_why_47 ⟨rfl, z3_a, z3_b, (show z3 = 0 → f0 (66 + x2) = -1 from pq4)⟩ w (by decide) rfl
  · replace c_2 : ¬ z1 = 0 := fun h => c_2 ((iz_eq (Int.le_trans (by decide) z1_a) (Int.le_trans z1_b (by decide))).mpr h)
    refine lv_iconst (v := iI 1) hx hb dX12_why_36 (by decide +kernel) ?_
    refine lv_goto (tgt := 47) hx hb dX12_why_37 (by decide) ?_
    exact ret _ 1 _ _ _ _ _ [0, 1] dX12_why_47 ⟨rfl, (show (0 : Int) ≤ 1 from by decide), (show (1 : Int) ≤ 7 from by decide), (show 1 = 0 → f0 (66 + x2) = -1 from (fun h => absurd h (by decide)))⟩ w (by decide) rfl
set_option maxRecDepth 100000 in
set_option maxHeartbeats 4000000 in
theorem c82_X12_live (l : Launch) (D : va_G) (T : Nat → ClassId) (sz : Nat) (a0 : Nat) (x0 : Int) (x1 : Int) (x2 : Int) (r0 : Int32) (a1 : Nat) (x3 : Int) (x4 : Int) (x5 : Int) (x6 : Int) (x7 : Int) (x8 : Int) (r1 : Int32) (x9 : Int) (x10 : Int) (x11 : Int) (y0 : Int64) (x12 : Int) (a2 : Nat) (a3 : Nat) (a4 : Nat) (a5 : Nat) (a6 : Nat) (a7 : Nat) (a8 : Nat) (a9 : Nat) (a10 : Nat) (a11 : Nat) (x13 : Int) (a12 : Nat) (a13 : Nat) (a14 : Nat) (a15 : Nat) (x14 : Int) (r2 : Int32) (r3 : Int32) (a16 : Nat) (x15 : Int) (x16 : Int) (a17 : Nat) (a18 : Nat) (x17 : Int) (a19 : Nat) (x18 : Int) (r4 : Int32) (a20 : Nat) (a21 : Nat) (x19 : Int) (r5 : Int32) (a22 : Nat) (x20 : Int) (x21 : Int) (x22 : Int) (x23 : Int) (f0 : Int → Int) (x0_a : 0 ≤ x0) (x0_b : x0 ≤ 2) (x1_a : 0 ≤ x1) (x1_b : x1 ≤ 8) (x2_a : 0 ≤ x2) (x2_b : x2 ≤ 8) (x3_a : 0 ≤ x3) (x3_b : x3 ≤ 940) (x4_a : 0 ≤ x4) (x4_b : x4 ≤ 940) (x5_a : 0 ≤ x5) (x5_b : x5 ≤ 940) (x6_a : 0 ≤ x6) (x6_b : x6 ≤ 940) (x7_a : 0 ≤ x7) (x7_b : x7 ≤ 940) (x8_a : 0 ≤ x8) (x8_b : x8 ≤ 4) (x9_a : (-2147483648) ≤ x9) (x9_b : x9 ≤ 2147483647) (x10_a : (-2147483648) ≤ x10) (x10_b : x10 ≤ 2147483647) (x11_a : 0 ≤ x11) (x11_b : x11 ≤ 940) (x12_a : (-2147483648) ≤ x12) (x12_b : x12 ≤ 2147483647) (x13_a : 0 ≤ x13) (x13_b : x13 ≤ 8) (x14_a : 0 ≤ x14) (x14_b : x14 ≤ 9) (x15_a : (-1) ≤ x15) (x15_b : x15 ≤ 9) (x16_a : (-1) ≤ x16) (x16_b : x16 ≤ 8) (x17_a : 0 ≤ x17) (x17_b : x17 ≤ 9) (x18_a : 0 ≤ x18) (x18_b : x18 ≤ 64) (x19_a : 0 ≤ x19) (x19_b : x19 ≤ 40) (x20_a : 0 ≤ x20) (x20_b : x20 ≤ 40) (x21_a : 0 ≤ x21) (x21_b : x21 ≤ 20) (x22_a : 0 ≤ x22) (x22_b : x22 ≤ 8) (x23_a : 0 ≤ x23) (x23_b : x23 ≤ 39) (f0_h : nowI f0) (pp_b : f0 (66 + x2) = -1) : Met l yX12_live (Cond.code yX12_live cX12_live 5 none :: GW) (Rm 0 0 0) (cPre [.ref a0, .int (iI 0), .int (iI x0), .int (iI x1), .int (iI x2)] D T [(a0, .inr (11, [.int r0, .ref a1, .int (iI x3), .int (iI x4), .int (iI x5), .int (iI x6), .int (iI x7), .int (iI x8), .int r1, .int (iI x9), .int (iI x10), .int (iI x11), .long y0, .int (iI x12), .ref a2, .ref a3, .ref a4, .ref a5, .ref a6, .ref a7, .ref a8, .ref a9, .ref a10, .ref a11, .int (iI x13), .ref a12, .ref a13, .ref a14, .ref a15, .int (iI x14), .int r2, .int r3, .ref a16, .int (iI x15), .int (iI x16), .ref a17, .ref a18, .int (iI x17), .ref a19, .int (iI x18), .int r4, .ref a20, .ref a21, .int (iI x19), .int r5, .ref a22, .int (iI x20), .int (iI x21), .int (iI x22), .int (iI x23)])), (a2, .inl (T 0, 329, .inl (cI f0)))] sz) (qV D [(a0, .inr (11, [.int r0, .ref a1, .int (iI x3), .int (iI x4), .int (iI x5), .int (iI x6), .int (iI x7), .int (iI x8), .int r1, .int (iI x9), .int (iI x10), .int (iI x11), .long y0, .int (iI x12), .ref a2, .ref a3, .ref a4, .ref a5, .ref a6, .ref a7, .ref a8, .ref a9, .ref a10, .ref a11, .int (iI x13), .ref a12, .ref a13, .ref a14, .ref a15, .int (iI x14), .int r2, .int r3, .ref a16, .int (iI x15), .int (iI x16), .ref a17, .ref a18, .int (iI x17), .ref a19, .int (iI x18), .int r4, .ref a20, .ref a21, .int (iI x19), .int r5, .ref a22, .int (iI x20), .int (iI x21), .int (iI x22), .int (iI x23)])), (a2, .inl (T 0, 329, .inl (cI f0)))] sz (fun (u : (Int → Int)) => nowI u ∧ (kp 53 f0 u)) (fun u => [(a0, .inr (11, [.int r0, .ref a1, .int (iI x3), .int (iI x4), .int (iI x5), .int (iI x6), .int (iI x7), .int (iI x8), .int r1, .int (iI x9), .int (iI x10), .int (iI x11), .long y0, .int (iI x12), .ref a2, .ref a3, .ref a4, .ref a5, .ref a6, .ref a7, .ref a8, .ref a9, .ref a10, .ref a11, .int (iI x13), .ref a12, .ref a13, .ref a14, .ref a15, .int (iI x14), .int r2, .int r3, .ref a16, .int (iI x15), .int (iI x16), .ref a17, .ref a18, .int (iI x17), .ref a19, .int (iI x18), .int r4, .ref a20, .ref a21, .int (iI x19), .int r5, .ref a22, .int (iI x20), .int (iI x21), .int (iI x22), .int (iI x23)])), (a2, .inl (T 0, 329, .inl (cI u)))])) 0 0 (va_A [(a0, .inr (11, [.int r0, .ref a1, .int (iI x3), .int (iI x4), .int (iI x5), .int (iI x6), .int (iI x7), .int (iI x8), .int r1, .int (iI x9), .int (iI x10), .int (iI x11), .long y0, .int (iI x12), .ref a2, .ref a3, .ref a4, .ref a5, .ref a6, .ref a7, .ref a8, .ref a9, .ref a10, .ref a11, .int (iI x13), .ref a12, .ref a13, .ref a14, .ref a15, .int (iI x14), .int r2, .int r3, .ref a16, .int (iI x15), .int (iI x16), .ref a17, .ref a18, .int (iI x17), .ref a19, .int (iI x18), .int r4, .ref a20, .ref a21, .int (iI x19), .int r5, .ref a22, .int (iI x20), .int (iI x21), .int (iI x22), .int (iI x23)])), (a2, .inl (T 0, 329, .inl (cI f0)))] sz) := by
  refine e_V (by decide) (Nat.le_of_ble_eq_true rfl) ?_
  intro p e s m args below meth c A Q ls M hin w ret hl
  have hx := M.1.1
  have hb := M.1.2.1
  have hl : lv_has ls 5 [(0, .ref a0), (1, .int (iI 0)), (2, .int (iI x0)), (3, .int (iI x1)), (4, .int (iI x2))] := hl
  refine lv_iload_n hx hb dX12_live_0 rfl (lv_at hl 1 rfl) ?_
  refine lv_lookup (off := 27) (tgt := 28) hx hb dX12_live_1 (by decide +kernel) (by decide +kernel) (by decide) ?_
  refine lv_aload_n hx hb dX12_live_28 rfl (lv_at hl 0 rfl) ?_
  refine r_get (v := .ref a2) M w 0 14 clX12 rfl (by decide) G1477 rfl rfl dX12_live_29 ?_
  refine lv_bipush (v := iI 57) hx hb dX12_live_32 (by decide +kernel) ?_
  refine lv_iload_n hx hb dX12_live_34 rfl (lv_at hl 3 rfl) ?_
  refine r_iadd (v := iI (57 + x1)) M (iI_add _ _) dX12_live_35 ?_
  refine lv_iload hx hb dX12_live_36 (lv_at hl 4 rfl) ?_
  refine r_iast (ws' := [(a0, .inr (11, [.int r0, .ref a1, .int (iI x3), .int (iI x4), .int (iI x5), .int (iI x6), .int (iI x7), .int (iI x8), .int r1, .int (iI x9), .int (iI x10), .int (iI x11), .long y0, .int (iI x12), .ref a2, .ref a3, .ref a4, .ref a5, .ref a6, .ref a7, .ref a8, .ref a9, .ref a10, .ref a11, .int (iI x13), .ref a12, .ref a13, .ref a14, .ref a15, .int (iI x14), .int r2, .int r3, .ref a16, .int (iI x15), .int (iI x16), .ref a17, .ref a18, .int (iI x17), .ref a19, .int (iI x18), .int r4, .ref a20, .ref a21, .int (iI x19), .int r5, .ref a22, .int (iI x20), .int (iI x21), .int (iI x22), .int (iI x23)])), (a2, .inl (T 0, 329, .inl (cI (upz f0 (57 + x1) x2))))]) M w 1 rfl (iI_in (by omega) (by omega) (by decide)) (by rw [cI_up (by omega) (by omega)]; rfl) dX12_live_38 (fun H locs w => ?_)
  refine lv_aload_n hx hb dX12_live_39 rfl (lv_at hl 0 rfl) ?_
  refine r_get (v := .ref a2) M w 0 14 clX12 rfl (by decide) G1477 rfl rfl dX12_live_40 ?_
  refine lv_bipush (v := iI 66) hx hb dX12_live_43 (by decide +kernel) ?_
  refine lv_iload hx hb dX12_live_45 (lv_at hl 4 rfl) ?_
  refine r_iadd (v := iI (66 + x2)) M (iI_add _ _) dX12_live_47 ?_
  refine lv_iload_n hx hb dX12_live_48 rfl (lv_at hl 3 rfl) ?_
  refine r_iast (ws' := [(a0, .inr (11, [.int r0, .ref a1, .int (iI x3), .int (iI x4), .int (iI x5), .int (iI x6), .int (iI x7), .int (iI x8), .int r1, .int (iI x9), .int (iI x10), .int (iI x11), .long y0, .int (iI x12), .ref a2, .ref a3, .ref a4, .ref a5, .ref a6, .ref a7, .ref a8, .ref a9, .ref a10, .ref a11, .int (iI x13), .ref a12, .ref a13, .ref a14, .ref a15, .int (iI x14), .int r2, .int r3, .ref a16, .int (iI x15), .int (iI x16), .ref a17, .ref a18, .int (iI x17), .ref a19, .int (iI x18), .int r4, .ref a20, .ref a21, .int (iI x19), .int r5, .ref a22, .int (iI x20), .int (iI x21), .int (iI x22), .int (iI x23)])), (a2, .inl (T 0, 329, .inl (cI (upz (upz f0 (57 + x1) x2) (66 + x2) x1))))]) M w 1 rfl (iI_in (by omega) (by omega) (by decide)) (by rw [cI_up (by omega) (by omega)]; rfl) dX12_live_49 (fun H locs w => ?_)
  refine lv_aload_n hx hb dX12_live_50 rfl (lv_at hl 0 rfl) ?_
  refine r_get (v := .ref a2) M w 0 14 clX12 rfl (by decide) G1477 rfl rfl dX12_live_51 ?_
  refine lv_bipush (v := iI 84) hx hb dX12_live_54 (by decide +kernel) ?_
  refine lv_iload_n hx hb dX12_live_56 rfl (lv_at hl 2 rfl) ?_
  refine r_iadd (v := iI (84 + x0)) M (iI_add _ _) dX12_live_57 ?_
  refine lv_dup2_11 hx hb dX12_live_58 rfl rfl ?_
  refine r_iald (v := iI (f0 (84 + x0))) M w 1 rfl (iI_in (by omega) (by omega) (by decide)) ((cI_at (by omega) (by omega)).trans (congrArg iI (by rw [upz_n (by omega), upz_n (by omega)]))) dX12_live_59 ?_
  have hh1 : (-2147483648) ≤ (f0 (84 + x0)) ∧ (f0 (84 + x0)) ≤ 2147483647 := f0_h.1 (84 + x0)
  refine lv_iconst (v := iI 1) hx hb dX12_live_60 (by decide +kernel) ?_
  refine r_iadd (v := _) M rfl dX12_live_61 ?_
  refine b_any (fun z2 z2_a z2_b => ?_)
  refine r_iast (ws' := [(a0, .inr (11, [.int r0, .ref a1, .int (iI x3), .int (iI x4), .int (iI x5), .int (iI x6), .int (iI x7), .int (iI x8), .int r1, .int (iI x9), .int (iI x10), .int (iI x11), .long y0, .int (iI x12), .ref a2, .ref a3, .ref a4, .ref a5, .ref a6, .ref a7, .ref a8, .ref a9, .ref a10, .ref a11, .int (iI x13), .ref a12, .ref a13, .ref a14, .ref a15, .int (iI x14), .int r2, .int r3, .ref a16, .int (iI x15), .int (iI x16), .ref a17, .ref a18, .int (iI x17), .ref a19, .int (iI x18), .int r4, .ref a20, .ref a21, .int (iI x19), .int r5, .ref a22, .int (iI x20), .int (iI x21), .int (iI x22), .int (iI x23)])), (a2, .inl (T 0, 329, .inl (cI (upz (upz (upz f0 (57 + x1) x2) (66 + x2) x1) (84 + x0) z2))))]) M w 1 rfl (iI_in (by omega) (by omega) (by decide)) (by rw [cI_up (by omega) (by omega)]; rfl) dX12_live_62 (fun H locs w => ?_)
  refine lv_aload_n hx hb dX12_live_63 rfl (lv_at hl 0 rfl) ?_
  refine r_get (v := .ref a2) M w 0 14 clX12 rfl (by decide) G1477 rfl rfl dX12_live_64 ?_
  refine lv_bipush (v := iI 55) hx hb dX12_live_67 (by decide +kernel) ?_
  refine lv_dup2_11 hx hb dX12_live_69 rfl rfl ?_
  refine r_iald (v := iI (f0 55)) M w 1 rfl (iI_in (by decide) (by decide) (by decide)) ((cI_at (by omega) (by omega)).trans (congrArg iI (by rw [upz_n (by omega), upz_n (by omega), upz_n (by omega)]))) dX12_live_70 ?_
  have hh3 : (-2147483648) ≤ (f0 55) ∧ (f0 55) ≤ 2147483647 := f0_h.1 55
  refine lv_iconst (v := iI 1) hx hb dX12_live_71 (by decide +kernel) ?_
  refine r_iadd (v := _) M rfl dX12_live_72 ?_
  refine b_any (fun z4 z4_a z4_b => ?_)
  refine r_iast (ws' := [(a0, .inr (11, [.int r0, .ref a1, .int (iI x3), .int (iI x4), .int (iI x5), .int (iI x6), .int (iI x7), .int (iI x8), .int r1, .int (iI x9), .int (iI x10), .int (iI x11), .long y0, .int (iI x12), .ref a2, .ref a3, .ref a4, .ref a5, .ref a6, .ref a7, .ref a8, .ref a9, .ref a10, .ref a11, .int (iI x13), .ref a12, .ref a13, .ref a14, .ref a15, .int (iI x14), .int r2, .int r3, .ref a16, .int (iI x15), .int (iI x16), .ref a17, .ref a18, .int (iI x17), .ref a19, .int (iI x18), .int r4, .ref a20, .ref a21, .int (iI x19), .int r5, .ref a22, .int (iI x20), .int (iI x21), .int (iI x22), .int (iI x23)])), (a2, .inl (T 0, 329, .inl (cI (upz (upz (upz (upz f0 (57 + x1) x2) (66 + x2) x1) (84 + x0) z2) 55 z4))))]) M w 1 rfl (iI_in (by decide) (by decide) (by decide)) (by rw [cI_up (by omega) (by omega)]; rfl) dX12_live_73 (fun H locs w => ?_)
  exact ret (upz (upz (upz (upz f0 (57 + x1) x2) (66 + x2) x1) (84 + x0) z2) 55 z4) _ _ _ _ _ [0, 1] dX12_live_74 ⟨(now_up (now_up (now_do f0_h (by omega) (by omega) (by omega) (by omega) pp_b) (by omega) (by omega) (by unfold nr; omega) (by omega) (by omega)) (by omega) (by omega) (by unfold nr; omega) (by omega) (by omega)), (show kp 53 f0 (upz (upz (upz (upz f0 (57 + x1) x2) (66 + x2) x1) (84 + x0) z2) 55 z4) from (kp_up (kp_up (kp_up (kp_up kp_rfl (by omega)) (by omega)) (by omega)) (by omega)))⟩ w (by decide) rfl
set_option maxRecDepth 100000 in
set_option maxHeartbeats 4000000 in
theorem c83_X12_act (l : Launch) (D : va_G) (T : Nat → ClassId) (sz : Nat) (a0 : Nat) (x0 : Int) (x1 : Int) (x2 : Int) (x3 : Int) (r0 : Int32) (a1 : Nat) (x4 : Int) (x5 : Int) (x6 : Int) (x7 : Int) (x8 : Int) (x9 : Int) (r1 : Int32) (x10 : Int) (x11 : Int) (x12 : Int) (y0 : Int64) (x13 : Int) (a2 : Nat) (a3 : Nat) (a4 : Nat) (a5 : Nat) (a6 : Nat) (a7 : Nat) (a8 : Nat) (a9 : Nat) (a10 : Nat) (a11 : Nat) (x14 : Int) (a12 : Nat) (a13 : Nat) (a14 : Nat) (a15 : Nat) (x15 : Int) (r2 : Int32) (r3 : Int32) (a16 : Nat) (x16 : Int) (x17 : Int) (a17 : Nat) (a18 : Nat) (x18 : Int) (a19 : Nat) (x19 : Int) (r4 : Int32) (a20 : Nat) (a21 : Nat) (x20 : Int) (r5 : Int32) (a22 : Nat) (x21 : Int) (x22 : Int) (x23 : Int) (x24 : Int) (f0 : Int → Int) (f1 : Int → Int) (x0_a : (-2147483648) ≤ x0) (x0_b : x0 ≤ 2147483647) (x1_a : (-2147483648) ≤ x1) (x1_b : x1 ≤ 2147483647) (x2_a : (-2147483648) ≤ x2) (x2_b : x2 ≤ 2147483647) (x3_a : 0 ≤ x3) (x3_b : x3 ≤ 1) (x4_a : 0 ≤ x4) (x4_b : x4 ≤ 940) (x5_a : 0 ≤ x5) (x5_b : x5 ≤ 940) (x6_a : 0 ≤ x6) (x6_b : x6 ≤ 940) (x7_a : 0 ≤ x7) (x7_b : x7 ≤ 940) (x8_a : 0 ≤ x8) (x8_b : x8 ≤ 940) (x9_a : 0 ≤ x9) (x9_b : x9 ≤ 4) (x10_a : (-2147483648) ≤ x10) (x10_b : x10 ≤ 2147483647) (x11_a : (-2147483648) ≤ x11) (x11_b : x11 ≤ 2147483647) (x12_a : 0 ≤ x12) (x12_b : x12 ≤ 940) (x13_a : (-2147483648) ≤ x13) (x13_b : x13 ≤ 2147483647) (x14_a : 0 ≤ x14) (x14_b : x14 ≤ 8) (x15_a : 0 ≤ x15) (x15_b : x15 ≤ 9) (x16_a : (-1) ≤ x16) (x16_b : x16 ≤ 9) (x17_a : (-1) ≤ x17) (x17_b : x17 ≤ 8) (x18_a : 0 ≤ x18) (x18_b : x18 ≤ 9) (x19_a : 0 ≤ x19) (x19_b : x19 ≤ 64) (x20_a : 0 ≤ x20) (x20_b : x20 ≤ 40) (x21_a : 0 ≤ x21) (x21_b : x21 ≤ 40) (x22_a : 0 ≤ x22) (x22_b : x22 ≤ 20) (x23_a : 0 ≤ x23) (x23_b : x23 ≤ 8) (x24_a : 0 ≤ x24) (x24_b : x24 ≤ 39) (f0_h : nowI f0) (f1_h : FL f1) (pp_s : snI f1 x14) (pr_0 : 0 ≤ ((x0 + 4294967296) - (x3 * 4294967296))) (pr_1 : 0 ≤ (((2 - x0) + 4294967296) - (x3 * 4294967296))) (pr_2 : 0 ≤ ((x1 + 4294967296) - (x3 * 4294967296))) (pr_3 : 0 ≤ (((8 - x1) + 4294967296) - (x3 * 4294967296))) (pr_4 : 0 ≤ ((x2 + 4294967296) - (x3 * 4294967296))) (pr_5 : 0 ≤ (((8 - x2) + 4294967296) - (x3 * 4294967296))) : Met l yX12_act (Cond.code yX12_act cX12_act 7 (some .int) :: GW) (Rm 3 0 0) (cPre [.ref a0, .int (iI 0), .int (iI x0), .int (iI x1), .int (iI x2), .int (iI x3)] D T [(a0, .inr (11, [.int r0, .ref a1, .int (iI x4), .int (iI x5), .int (iI x6), .int (iI x7), .int (iI x8), .int (iI x9), .int r1, .int (iI x10), .int (iI x11), .int (iI x12), .long y0, .int (iI x13), .ref a2, .ref a3, .ref a4, .ref a5, .ref a6, .ref a7, .ref a8, .ref a9, .ref a10, .ref a11, .int (iI x14), .ref a12, .ref a13, .ref a14, .ref a15, .int (iI x15), .int r2, .int r3, .ref a16, .int (iI x16), .int (iI x17), .ref a17, .ref a18, .int (iI x18), .ref a19, .int (iI x19), .int r4, .ref a20, .ref a21, .int (iI x20), .int r5, .ref a22, .int (iI x21), .int (iI x22), .int (iI x23), .int (iI x24)])), (a2, .inl (T 0, 329, .inl (cI f0))), (a5, .inl (T 0, 272, .inl (cI f1)))] sz) (qI D [(a0, .inr (11, [.int r0, .ref a1, .int (iI x4), .int (iI x5), .int (iI x6), .int (iI x7), .int (iI x8), .int (iI x9), .int r1, .int (iI x10), .int (iI x11), .int (iI x12), .long y0, .int (iI x13), .ref a2, .ref a3, .ref a4, .ref a5, .ref a6, .ref a7, .ref a8, .ref a9, .ref a10, .ref a11, .int (iI x14), .ref a12, .ref a13, .ref a14, .ref a15, .int (iI x15), .int r2, .int r3, .ref a16, .int (iI x16), .int (iI x17), .ref a17, .ref a18, .int (iI x18), .ref a19, .int (iI x19), .int r4, .ref a20, .ref a21, .int (iI x20), .int r5, .ref a22, .int (iI x21), .int (iI x22), .int (iI x23), .int (iI x24)])), (a2, .inl (T 0, 329, .inl (cI f0))), (a5, .inl (T 0, 272, .inl (cI f1)))] sz (fun (v : Int32) (u : Int × Int × (Int → Int) × (Int → Int)) => iI u.1 = v ∧ (-2147483648) ≤ u.1 ∧ u.1 ≤ 2147483647 ∧ 0 ≤ u.2.1 ∧ u.2.1 ≤ 8 ∧ nowI u.2.2.1 ∧ FL u.2.2.2 ∧ (snI u.2.2.2 u.2.1) ∧ (kp 53 f0 u.2.2.1)) (fun u => [(a0, .inr (11, [.int r0, .ref a1, .int (iI x4), .int (iI x5), .int (iI x6), .int (iI x7), .int (iI x8), .int (iI x9), .int r1, .int (iI x10), .int (iI x11), .int (iI x12), .long y0, .int (iI x13), .ref a2, .ref a3, .ref a4, .ref a5, .ref a6, .ref a7, .ref a8, .ref a9, .ref a10, .ref a11, .int (iI u.2.1), .ref a12, .ref a13, .ref a14, .ref a15, .int (iI x15), .int r2, .int r3, .ref a16, .int (iI x16), .int (iI x17), .ref a17, .ref a18, .int (iI x18), .ref a19, .int (iI x19), .int r4, .ref a20, .ref a21, .int (iI x20), .int r5, .ref a22, .int (iI x21), .int (iI x22), .int (iI x23), .int (iI x24)])), (a2, .inl (T 0, 329, .inl (cI u.2.2.1))), (a5, .inl (T 0, 272, .inl (cI u.2.2.2)))])) 0 0 (va_A [(a0, .inr (11, [.int r0, .ref a1, .int (iI x4), .int (iI x5), .int (iI x6), .int (iI x7), .int (iI x8), .int (iI x9), .int r1, .int (iI x10), .int (iI x11), .int (iI x12), .long y0, .int (iI x13), .ref a2, .ref a3, .ref a4, .ref a5, .ref a6, .ref a7, .ref a8, .ref a9, .ref a10, .ref a11, .int (iI x14), .ref a12, .ref a13, .ref a14, .ref a15, .int (iI x15), .int r2, .int r3, .ref a16, .int (iI x16), .int (iI x17), .ref a17, .ref a18, .int (iI x18), .ref a19, .int (iI x19), .int r4, .ref a20, .ref a21, .int (iI x20), .int r5, .ref a22, .int (iI x21), .int (iI x22), .int (iI x23), .int (iI x24)])), (a2, .inl (T 0, 329, .inl (cI f0))), (a5, .inl (T 0, 272, .inl (cI f1)))] sz) := by
  refine e_I (by decide) (Nat.le_of_ble_eq_true rfl) ?_
  intro p e s m args below meth c A Q ls M hin w ret hl
  have hx := M.1.1
  have hb := M.1.2.1
  have hl : lv_has ls 7 [(0, .ref a0), (1, .int (iI 0)), (2, .int (iI x0)), (3, .int (iI x1)), (4, .int (iI x2)), (5, .int (iI x3))] := hl
  refine lv_iload hx hb dX12_act_0 (lv_at hl 5 rfl) ?_
  refine lv_if_ne (tgt := 7) hx hb dX12_act_2 (by decide) (fun c_1 => ?_) (fun c_1 => ?_)
  · replace c_1 : ¬ x3 = 0 := fun h => c_1 ((iz_eq (Int.le_trans (by decide) x3_a) (Int.le_trans x3_b (by decide))).mpr h)
    refine lv_aload_n hx hb dX12_act_7 rfl (lv_at hl 0 rfl) ?_
    refine lv_iload_n hx hb dX12_act_8 rfl (lv_at hl 1 rfl) ?_
    refine lv_iload_n hx hb dX12_act_9 rfl (lv_at hl 2 rfl) ?_
    refine lv_iload_n hx hb dX12_act_10 rfl (lv_at hl 3 rfl) ?_
    refine lv_iload hx hb dX12_act_11 (lv_at hl 4 rfl) ?_
    refine k_I (ce := 0) (sl := 0) (rest := []) (wr := [(a5, .inl (T 0, 272, .inl (cI f1)))]) (r_V (f := 2) [0, 1] M w V_HookedCityModel_280 G1792 G79 (c81_X12_why l D T _ a0 x0 x1 x2 r0 a1 x4 x5 x6 x7 x8 x9 r1 x10 x11 x12 y0 x13 a2 a3 a4 a5 a6 a7 a8 a9 a10 a11 x14 a12 a13 a14 a15 x15 r2 r3 a16 x16 x17 a17 a18 x18 a19 x19 r4 a20 a21 x20 r5 a22 x21 x22 x23 x24 f0 (by omega) (by omega) (by omega) (by omega) (by omega) (by omega) x4_a x4_b x5_a x5_b x6_a x6_b x7_a x7_b x8_a x8_b x9_a x9_b x10_a x10_b x11_a x11_b x12_a x12_b x13_a x13_b x14_a x14_b x15_a x15_b x16_a x16_b x17_a x17_b x18_a x18_b x19_a x19_b x20_a x20_b x21_a x21_b x22_a x22_b x23_a x23_b x24_a x24_b f0_h) 0 clX12 rfl rfl (by decide) rfl hl.1 rfl (Nat.le_of_ble_eq_true rfl) dX12_act_13 (by decide) (by decide) (by decide) (by decide)) w [0, 1] [2] rfl rfl (by decide) (by decide) rfl rfl (fun v z2 H locs hp w => ?_)
    have hv : iI z2 = v := hp.1
    subst hv
    have z2_a : 0 ≤ z2 := hp.2.1
    have z2_b : z2 ≤ 7 := hp.2.2.1
    have pq3 : z2 = 0 → f0 (66 + x2) = -1 := hp.2.2.2
    have w : WD D A s.heap [(a5, .inl (T 0, 272, .inl (cI f1))), (a0, .inr (11, [.int r0, .ref a1, .int (iI x4), .int (iI x5), .int (iI x6), .int (iI x7), .int (iI x8), .int (iI x9), .int r1, .int (iI x10), .int (iI x11), .int (iI x12), .long y0, .int (iI x13), .ref a2, .ref a3, .ref a4, .ref a5, .ref a6, .ref a7, .ref a8, .ref a9, .ref a10, .ref a11, .int (iI x14), .ref a12, .ref a13, .ref a14, .ref a15, .int (iI x15), .int r2, .int r3, .ref a16, .int (iI x16), .int (iI x17), .ref a17, .ref a18, .int (iI x18), .ref a19, .int (iI x19), .int r4, .ref a20, .ref a21, .int (iI x20), .int r5, .ref a22, .int (iI x21), .int (iI x22), .int (iI x23), .int (iI x24)])), (a2, .inl (T 0, 329, .inl (cI f0)))] H locs := w
    refine lv_istore (lv' := [(6, .int (iI z2)), (0, .ref a0), (1, .int (iI 0)), (2, .int (iI x0)), (3, .int (iI x1)), (4, .int (iI x2)), (5, .int (iI x3))]) hx hb dX12_act_16 hl (by decide) rfl (fun ls hl => ?_)
    refine lv_iload hx hb dX12_act_18 (lv_at hl 0 rfl) ?_
    refine lv_if_eq (tgt := 26) hx hb dX12_act_20 (by decide) (fun c_4 => ?_) (fun c_4 => ?_)
    · replace c_4 := (iz_eq (Int.le_trans (by decide) z2_a) (Int.le_trans z2_b (by decide))).mp c_4
      refine lv_aload_n hx hb dX12_act_26 rfl (lv_at hl 1 rfl) ?_
      refine k_V (ce := 0) (sl := 0) (rest := []) (wr := []) (r_V (f := 0) [1, 2, 0] M w V_HookedCityModel_284 G1804 G82 (c80_X12_snap l D T _ a0 r0 a1 x4 x5 x6 x7 x8 x9 r1 x10 x11 x12 y0 x13 a2 a3 a4 a5 a6 a7 a8 a9 a10 a11 x14 a12 a13 a14 a15 x15 r2 r3 a16 x16 x17 a17 a18 x18 a19 x19 r4 a20 a21 x20 r5 a22 x21 x22 x23 x24 f0 f1 x4_a x4_b x5_a x5_b x6_a x6_b x7_a x7_b x8_a x8_b x9_a x9_b x10_a x10_b x11_a x11_b x12_a x12_b x13_a x13_b x14_a x14_b x15_a x15_b x16_a x16_b x17_a x17_b x18_a x18_b x19_a x19_b x20_a x20_b x21_a x21_b x22_a x22_b x23_a x23_b x24_a x24_b f0_h f1_h pp_s) 1 clX12 rfl rfl (by decide) rfl hl.1 rfl (Nat.le_of_ble_eq_true rfl) dX12_act_27 (by decide) (by decide) (by decide) (by decide)) w [1, 2, 0] [] rfl rfl (by decide) (by decide) rfl rfl (fun u H locs hp w => ?_)
      obtain ⟨z5, ff6⟩ := u
      have z5_a : 0 ≤ z5 := hp.1
      have z5_b : z5 ≤ 8 := hp.2.1
      have ff6_h : FL ff6 := hp.2.2.1
      have pq7 : snI ff6 z5 := hp.2.2.2
      have w : WD D A s.heap [(a0, .inr (11, [.int r0, .ref a1, .int (iI x4), .int (iI x5), .int (iI x6), .int (iI x7), .int (iI x8), .int (iI x9), .int r1, .int (iI x10), .int (iI x11), .int (iI x12), .long y0, .int (iI x13), .ref a2, .ref a3, .ref a4, .ref a5, .ref a6, .ref a7, .ref a8, .ref a9, .ref a10, .ref a11, .int (iI z5), .ref a12, .ref a13, .ref a14, .ref a15, .int (iI x15), .int r2, .int r3, .ref a16, .int (iI x16), .int (iI x17), .ref a17, .ref a18, .int (iI x18), .ref a19, .int (iI x19), .int r4, .ref a20, .ref a21, .int (iI x20), .int r5, .ref a22, .int (iI x21), .int (iI x22), .int (iI x23), .int (iI x24)])), (a2, .inl (T 0, 329, .inl (cI f0))), (a5, .inl (T 0, 272, .inl (cI ff6)))] H locs := w
      refine lv_aload_n hx hb dX12_act_30 rfl (lv_at hl 1 rfl) ?_
      refine lv_iload_n hx hb dX12_act_31 rfl (lv_at hl 2 rfl) ?_
      refine lv_iload_n hx hb dX12_act_32 rfl (lv_at hl 3 rfl) ?_
      refine lv_iload_n hx hb dX12_act_33 rfl (lv_at hl 4 rfl) ?_
      refine lv_iload hx hb dX12_act_34 (lv_at hl 5 rfl) ?_
      refine k_V (ce := 0) (sl := 0) (rest := []) (wr := [(a5, .inl (T 0, 272, .inl (cI ff6)))]) (r_V (f := 0) [0, 1] M w V_HookedCityModel_287 G1808 G83 (c82_X12_live l D T _ a0 x0 x1 x2 r0 a1 x4 x5 x6 x7 x8 x9 r1 x10 x11 x12 y0 x13 a2 a3 a4 a5 a6 a7 a8 a9 a10 a11 z5 a12 a13 a14 a15 x15 r2 r3 a16 x16 x17 a17 a18 x18 a19 x19 r4 a20 a21 x20 r5 a22 x21 x22 x23 x24 f0 (by omega) (by omega) (by omega) (by omega) (by omega) (by omega) x4_a x4_b x5_a x5_b x6_a x6_b x7_a x7_b x8_a x8_b x9_a x9_b x10_a x10_b x11_a x11_b x12_a x12_b x13_a x13_b z5_a z5_b x15_a x15_b x16_a x16_b x17_a x17_b x18_a x18_b x19_a x19_b x20_a x20_b x21_a x21_b x22_a x22_b x23_a x23_b x24_a x24_b f0_h (pq3 (by omega))) 0 clX12 rfl rfl (by decide) rfl hl.1 rfl (Nat.le_of_ble_eq_true rfl) dX12_act_36 (by decide) (by decide) (by decide) (by decide)) w [0, 1] [2] rfl rfl (by decide) (by decide) rfl rfl (fun ff8 H locs hp w => ?_)
      have ff8_h : nowI ff8 := hp.1
      have pq9 : kp 53 f0 ff8 := hp.2
      have w : WD D A s.heap [(a5, .inl (T 0, 272, .inl (cI ff6))), (a0, .inr (11, [.int r0, .ref a1, .int (iI x4), .int (iI x5), .int (iI x6), .int (iI x7), .int (iI x8), .int (iI x9), .int r1, .int (iI x10), .int (iI x11), .int (iI x12), .long y0, .int (iI x13), .ref a2, .ref a3, .ref a4, .ref a5, .ref a6, .ref a7, .ref a8, .ref a9, .ref a10, .ref a11, .int (iI z5), .ref a12, .ref a13, .ref a14, .ref a15, .int (iI x15), .int r2, .int r3, .ref a16, .int (iI x16), .int (iI x17), .ref a17, .ref a18, .int (iI x18), .ref a19, .int (iI x19), .int r4, .ref a20, .ref a21, .int (iI x20), .int r5, .ref a22, .int (iI x21), .int (iI x22), .int (iI x23), .int (iI x24)])), (a2, .inl (T 0, 329, .inl (cI ff8)))] H locs := w
      refine lv_iconst (v := iI 0) hx hb dX12_act_39 (by decide +kernel) ?_
      exact ret _ (0, z5, ff8, ff6) _ _ _ _ _ [1, 2, 0] dX12_act_40 ⟨rfl, (show (-2147483648) ≤ 0 from by decide), (show (0 : Int) ≤ 2147483647 from by decide), z5_a, z5_b, ff8_h, ff6_h, (show snI ff6 z5 from pq7), (show kp 53 f0 ff8 from pq9)⟩ w (by decide) rfl
    · replace c_4 : ¬ z2 = 0 := fun h => c_4 ((iz_eq (Int.le_trans (by decide) z2_a) (Int.le_trans z2_b (by decide))).mpr h)
      refine lv_iload hx hb dX12_act_23 (lv_at hl 0 rfl) ?_
      exact ret _ (z2, x14, f0, f1) _ _ _ _ _ [1, 2, 0] dX12_act_25 ⟨rfl, (show (-2147483648) ≤ z2 from by omega), (show z2 ≤ 2147483647 from by omega), x14_a, x14_b, f0_h, f1_h, (show snI f1 x14 from pp_s), (show kp 53 f0 f0 from kp_rfl)⟩ w (by decide) rfl
  · replace c_1 := (iz_eq (Int.le_trans (by decide) x3_a) (Int.le_trans x3_b (by decide))).mp c_1
    refine lv_iconst (v := iI (-1)) hx hb dX12_act_5 (by decide +kernel) ?_
    exact ret _ ((-1), x14, f0, f1) _ _ _ _ _ [0, 1, 2] dX12_act_6 ⟨rfl, (show (-2147483648) ≤ (-1) from by decide), (show ((-1) : Int) ≤ 2147483647 from by decide), x14_a, x14_b, f0_h, f1_h, (show snI f1 x14 from pp_s), (show kp 53 f0 f0 from kp_rfl)⟩ w (by decide) rfl
set_option maxRecDepth 100000 in
set_option maxHeartbeats 4000000 in
theorem c84_X12_button (l : Launch) (D : va_G) (T : Nat → ClassId) (sz : Nat) (a0 : Nat) (x0 : Int) (x1 : Int) (x2 : Int) (r0 : Int32) (a1 : Nat) (x3 : Int) (x4 : Int) (x5 : Int) (x6 : Int) (x7 : Int) (x8 : Int) (r1 : Int32) (x9 : Int) (x10 : Int) (x11 : Int) (y0 : Int64) (x12 : Int) (a2 : Nat) (a3 : Nat) (a4 : Nat) (a5 : Nat) (a6 : Nat) (a7 : Nat) (a8 : Nat) (a9 : Nat) (a10 : Nat) (a11 : Nat) (x13 : Int) (a12 : Nat) (a13 : Nat) (a14 : Nat) (a15 : Nat) (x14 : Int) (r2 : Int32) (r3 : Int32) (a16 : Nat) (x15 : Int) (x16 : Int) (a17 : Nat) (a18 : Nat) (x17 : Int) (a19 : Nat) (x18 : Int) (r4 : Int32) (a20 : Nat) (a21 : Nat) (x19 : Int) (r5 : Int32) (a22 : Nat) (x20 : Int) (x21 : Int) (x22 : Int) (x23 : Int) (f0 : Int → Int) (f1 : Int → Int) (x0_a : (-2147483648) ≤ x0) (x0_b : x0 ≤ 2147483647) (x1_a : (-2147483648) ≤ x1) (x1_b : x1 ≤ 2147483647) (x2_a : (-2147483648) ≤ x2) (x2_b : x2 ≤ 2147483647) (x3_a : 0 ≤ x3) (x3_b : x3 ≤ 940) (x4_a : 0 ≤ x4) (x4_b : x4 ≤ 940) (x5_a : 0 ≤ x5) (x5_b : x5 ≤ 940) (x6_a : 0 ≤ x6) (x6_b : x6 ≤ 940) (x7_a : 0 ≤ x7) (x7_b : x7 ≤ 940) (x8_a : 0 ≤ x8) (x8_b : x8 ≤ 4) (x9_a : (-2147483648) ≤ x9) (x9_b : x9 ≤ 2147483647) (x10_a : (-2147483648) ≤ x10) (x10_b : x10 ≤ 2147483647) (x11_a : 0 ≤ x11) (x11_b : x11 ≤ 940) (x12_a : (-2147483648) ≤ x12) (x12_b : x12 ≤ 2147483647) (x13_a : 0 ≤ x13) (x13_b : x13 ≤ 8) (x14_a : 0 ≤ x14) (x14_b : x14 ≤ 9) (x15_a : (-1) ≤ x15) (x15_b : x15 ≤ 9) (x16_a : (-1) ≤ x16) (x16_b : x16 ≤ 8) (x17_a : 0 ≤ x17) (x17_b : x17 ≤ 9) (x18_a : 0 ≤ x18) (x18_b : x18 ≤ 64) (x19_a : 0 ≤ x19) (x19_b : x19 ≤ 40) (x20_a : 0 ≤ x20) (x20_b : x20 ≤ 40) (x21_a : 0 ≤ x21) (x21_b : x21 ≤ 20) (x22_a : 0 ≤ x22) (x22_b : x22 ≤ 8) (x23_a : 0 ≤ x23) (x23_b : x23 ≤ 39) (f0_h : nowI f0) (f1_h : FL f1) (pp_s : snI f1 x13) : Met l yX12_button (Cond.code yX12_button cX12_button 4 (some .int) :: GW) (Rm 4 0 0) (cPre [.ref a0, .int (iI x0), .int (iI x1), .int (iI x2)] D T [(a0, .inr (11, [.int r0, .ref a1, .int (iI x3), .int (iI x4), .int (iI x5), .int (iI x6), .int (iI x7), .int (iI x8), .int r1, .int (iI x9), .int (iI x10), .int (iI x11), .long y0, .int (iI x12), .ref a2, .ref a3, .ref a4, .ref a5, .ref a6, .ref a7, .ref a8, .ref a9, .ref a10, .ref a11, .int (iI x13), .ref a12, .ref a13, .ref a14, .ref a15, .int (iI x14), .int r2, .int r3, .ref a16, .int (iI x15), .int (iI x16), .ref a17, .ref a18, .int (iI x17), .ref a19, .int (iI x18), .int r4, .ref a20, .ref a21, .int (iI x19), .int r5, .ref a22, .int (iI x20), .int (iI x21), .int (iI x22), .int (iI x23)])), (a2, .inl (T 0, 329, .inl (cI f0))), (a5, .inl (T 0, 272, .inl (cI f1)))] sz) (qI D [(a0, .inr (11, [.int r0, .ref a1, .int (iI x3), .int (iI x4), .int (iI x5), .int (iI x6), .int (iI x7), .int (iI x8), .int r1, .int (iI x9), .int (iI x10), .int (iI x11), .long y0, .int (iI x12), .ref a2, .ref a3, .ref a4, .ref a5, .ref a6, .ref a7, .ref a8, .ref a9, .ref a10, .ref a11, .int (iI x13), .ref a12, .ref a13, .ref a14, .ref a15, .int (iI x14), .int r2, .int r3, .ref a16, .int (iI x15), .int (iI x16), .ref a17, .ref a18, .int (iI x17), .ref a19, .int (iI x18), .int r4, .ref a20, .ref a21, .int (iI x19), .int r5, .ref a22, .int (iI x20), .int (iI x21), .int (iI x22), .int (iI x23)])), (a2, .inl (T 0, 329, .inl (cI f0))), (a5, .inl (T 0, 272, .inl (cI f1)))] sz (fun (v : Int32) (u : Int × Int32 × Int × (Int → Int) × (Int → Int)) => iI u.1 = v ∧ (-2147483648) ≤ u.1 ∧ u.1 ≤ 2147483647 ∧ 0 ≤ u.2.2.1 ∧ u.2.2.1 ≤ 8 ∧ nowI u.2.2.2.1 ∧ FL u.2.2.2.2 ∧ (snI u.2.2.2.2 u.2.2.1) ∧ (kp 53 f0 u.2.2.2.1)) (fun u => [(a0, .inr (11, [.int u.2.1, .ref a1, .int (iI x3), .int (iI x4), .int (iI x5), .int (iI x6), .int (iI x7), .int (iI x8), .int r1, .int (iI x9), .int (iI x10), .int (iI x11), .long y0, .int (iI x12), .ref a2, .ref a3, .ref a4, .ref a5, .ref a6, .ref a7, .ref a8, .ref a9, .ref a10, .ref a11, .int (iI u.2.2.1), .ref a12, .ref a13, .ref a14, .ref a15, .int (iI x14), .int r2, .int r3, .ref a16, .int (iI x15), .int (iI x16), .ref a17, .ref a18, .int (iI x17), .ref a19, .int (iI x18), .int r4, .ref a20, .ref a21, .int (iI x19), .int r5, .ref a22, .int (iI x20), .int (iI x21), .int (iI x22), .int (iI x23)])), (a2, .inl (T 0, 329, .inl (cI u.2.2.2.1))), (a5, .inl (T 0, 272, .inl (cI u.2.2.2.2)))])) 0 0 (va_A [(a0, .inr (11, [.int r0, .ref a1, .int (iI x3), .int (iI x4), .int (iI x5), .int (iI x6), .int (iI x7), .int (iI x8), .int r1, .int (iI x9), .int (iI x10), .int (iI x11), .long y0, .int (iI x12), .ref a2, .ref a3, .ref a4, .ref a5, .ref a6, .ref a7, .ref a8, .ref a9, .ref a10, .ref a11, .int (iI x13), .ref a12, .ref a13, .ref a14, .ref a15, .int (iI x14), .int r2, .int r3, .ref a16, .int (iI x15), .int (iI x16), .ref a17, .ref a18, .int (iI x17), .ref a19, .int (iI x18), .int r4, .ref a20, .ref a21, .int (iI x19), .int r5, .ref a22, .int (iI x20), .int (iI x21), .int (iI x22), .int (iI x23)])), (a2, .inl (T 0, 329, .inl (cI f0))), (a5, .inl (T 0, 272, .inl (cI f1)))] sz) := by
  refine e_I (by decide) (Nat.le_of_ble_eq_true rfl) ?_
  intro p e s m args below meth c A Q ls M hin w ret hl
  have hx := M.1.1
  have hb := M.1.2.1
  have hl : lv_has ls 4 [(0, .ref a0), (1, .int (iI x0)), (2, .int (iI x1)), (3, .int (iI x2))] := hl
  refine lv_aload_n hx hb dX12_button_0 rfl (lv_at hl 0 rfl) ?_
  refine lv_iconst (v := iI 0) hx hb dX12_button_1 (by decide +kernel) ?_
  refine r_put (ws' := [(a0, .inr (11, [.int (iI 0), .ref a1, .int (iI x3), .int (iI x4), .int (iI x5), .int (iI x6), .int (iI x7), .int (iI x8), .int r1, .int (iI x9), .int (iI x10), .int (iI x11), .long y0, .int (iI x12), .ref a2, .ref a3, .ref a4, .ref a5, .ref a6, .ref a7, .ref a8, .ref a9, .ref a10, .ref a11, .int (iI x13), .ref a12, .ref a13, .ref a14, .ref a15, .int (iI x14), .int r2, .int r3, .ref a16, .int (iI x15), .int (iI x16), .ref a17, .ref a18, .int (iI x17), .ref a19, .int (iI x18), .int r4, .ref a20, .ref a21, .int (iI x19), .int r5, .ref a22, .int (iI x20), .int (iI x21), .int (iI x22), .int (iI x23)])), (a2, .inl (T 0, 329, .inl (cI f0))), (a5, .inl (T 0, 272, .inl (cI f1)))]) M w 0 0 clX12 rfl (by decide) G1463 rfl rfl rfl rfl (Nat.le_of_ble_eq_true rfl) rfl dX12_button_2 (fun H locs w => ?_)
  refine lv_aload_n hx hb dX12_button_5 rfl (lv_at hl 0 rfl) ?_
  refine lv_iconst (v := iI 0) hx hb dX12_button_6 (by decide +kernel) ?_
  refine lv_iload_n hx hb dX12_button_7 rfl (lv_at hl 1 rfl) ?_
  refine lv_iload_n hx hb dX12_button_8 rfl (lv_at hl 2 rfl) ?_
  refine lv_iload_n hx hb dX12_button_9 rfl (lv_at hl 3 rfl) ?_
  refine lv_aload_n hx hb dX12_button_10 rfl (lv_at hl 0 rfl) ?_
  refine lv_iload_n hx hb dX12_button_11 rfl (lv_at hl 1 rfl) ?_
  refine k_I (ce := 0) (sl := 0) (rest := [.int (iI x2), .int (iI x1), .int (iI x0), .int (iI 0), .ref a0]) (wr := [(a5, .inl (T 0, 272, .inl (cI f1)))]) (r_V (f := 1) [0, 1] M w V_HookedCityModel_252 G1756 G72 (c69_X12_isMaid l D T _ a0 x0 (iI 0) a1 x3 x4 x5 x6 x7 x8 r1 x9 x10 x11 y0 x12 a2 a3 a4 a5 a6 a7 a8 a9 a10 a11 x13 a12 a13 a14 a15 x14 r2 r3 a16 x15 x16 a17 a18 x17 a19 x18 r4 a20 a21 x19 r5 a22 x20 x21 x22 x23 f0 x0_a x0_b x3_a x3_b x4_a x4_b x5_a x5_b x6_a x6_b x7_a x7_b x8_a x8_b x9_a x9_b x10_a x10_b x11_a x11_b x12_a x12_b x13_a x13_b x14_a x14_b x15_a x15_b x16_a x16_b x17_a x17_b x18_a x18_b x19_a x19_b x20_a x20_b x21_a x21_b x22_a x22_b x23_a x23_b f0_h) 0 clX12 rfl rfl (by decide) rfl hl.1 rfl (Nat.le_of_ble_eq_true rfl) dX12_button_12 (by decide) (by decide) (by decide) (by decide)) w [0, 1] [2] rfl rfl (by decide) (by decide) rfl rfl (fun v z1 H locs hp w => ?_)
  have hv : iI z1 = v := hp.1
  subst hv
  have z1_a : 0 ≤ z1 := hp.2.1
  have z1_b : z1 ≤ 1 := hp.2.2.1
  have ee2 : 0 ≤ ((x0 + 4294967296) - (z1 * 4294967296)) := hp.2.2.2.1
  have ee3 : 0 ≤ (((2 - x0) + 4294967296) - (z1 * 4294967296)) := hp.2.2.2.2
  have w : WD D A s.heap [(a5, .inl (T 0, 272, .inl (cI f1))), (a0, .inr (11, [.int (iI 0), .ref a1, .int (iI x3), .int (iI x4), .int (iI x5), .int (iI x6), .int (iI x7), .int (iI x8), .int r1, .int (iI x9), .int (iI x10), .int (iI x11), .long y0, .int (iI x12), .ref a2, .ref a3, .ref a4, .ref a5, .ref a6, .ref a7, .ref a8, .ref a9, .ref a10, .ref a11, .int (iI x13), .ref a12, .ref a13, .ref a14, .ref a15, .int (iI x14), .int r2, .int r3, .ref a16, .int (iI x15), .int (iI x16), .ref a17, .ref a18, .int (iI x17), .ref a19, .int (iI x18), .int r4, .ref a20, .ref a21, .int (iI x19), .int r5, .ref a22, .int (iI x20), .int (iI x21), .int (iI x22), .int (iI x23)])), (a2, .inl (T 0, 329, .inl (cI f0)))] H locs := w
  refine lv_if_eq (tgt := 38) hx hb dX12_button_15 (by decide) (fun c_4 => ?_) (fun c_4 => ?_)
  · replace c_4 := (iz_eq (Int.le_trans (by decide) z1_a) (Int.le_trans z1_b (by decide))).mp c_4
    refine lv_iconst (v := iI 0) hx hb dX12_button_38 (by decide +kernel) ?_
    refine k_I (ce := 0) (sl := 0) (rest := []) (wr := []) (r_V (f := 3) [1, 2, 0] M w V_HookedCityModel_291 G1788 G78 (c83_X12_act l D T _ a0 x0 x1 x2 0 (iI 0) a1 x3 x4 x5 x6 x7 x8 r1 x9 x10 x11 y0 x12 a2 a3 a4 a5 a6 a7 a8 a9 a10 a11 x13 a12 a13 a14 a15 x14 r2 r3 a16 x15 x16 a17 a18 x17 a19 x18 r4 a20 a21 x19 r5 a22 x20 x21 x22 x23 f0 f1 x0_a x0_b x1_a x1_b x2_a x2_b (by decide) (by decide) x3_a x3_b x4_a x4_b x5_a x5_b x6_a x6_b x7_a x7_b x8_a x8_b x9_a x9_b x10_a x10_b x11_a x11_b x12_a x12_b x13_a x13_b x14_a x14_b x15_a x15_b x16_a x16_b x17_a x17_b x18_a x18_b x19_a x19_b x20_a x20_b x21_a x21_b x22_a x22_b x23_a x23_b f0_h f1_h pp_s (by omega) (by omega) (by omega) (by omega) (by omega) (by omega)) 1 clX12 rfl rfl (by decide) rfl hl.1 rfl (Nat.le_of_ble_eq_true rfl) dX12_button_39 (by decide) (by decide) (by decide) (by decide)) w [1, 2, 0] [] rfl rfl (by decide) (by decide) rfl rfl (fun v u H locs hp w => ?_)
    obtain ⟨z5, z6, ff7, ff8⟩ := u
    have hv : iI z5 = v := hp.1
    subst hv
    have z5_a : (-2147483648) ≤ z5 := hp.2.1
    have z5_b : z5 ≤ 2147483647 := hp.2.2.1
    have z6_a : 0 ≤ z6 := hp.2.2.2.1
    have z6_b : z6 ≤ 8 := hp.2.2.2.2.1
    have ff7_h : nowI ff7 := hp.2.2.2.2.2.1
    have ff8_h : FL ff8 := hp.2.2.2.2.2.2.1
    have pq9 : snI ff8 z6 := hp.2.2.2.2.2.2.2.1
    have pq10 : kp 53 f0 ff7 := hp.2.2.2.2.2.2.2.2
    have w : WD D A s.heap [(a0, .inr (11, [.int (iI 0), .ref a1, .int (iI x3), .int (iI x4), .int (iI x5), .int (iI x6), .int (iI x7), .int (iI x8), .int r1, .int (iI x9), .int (iI x10), .int (iI x11), .long y0, .int (iI x12), .ref a2, .ref a3, .ref a4, .ref a5, .ref a6, .ref a7, .ref a8, .ref a9, .ref a10, .ref a11, .int (iI z6), .ref a12, .ref a13, .ref a14, .ref a15, .int (iI x14), .int r2, .int r3, .ref a16, .int (iI x15), .int (iI x16), .ref a17, .ref a18, .int (iI x17), .ref a19, .int (iI x18), .int r4, .ref a20, .ref a21, .int (iI x19), .int r5, .ref a22, .int (iI x20), .int (iI x21), .int (iI x22), .int (iI x23)])), (a2, .inl (T 0, 329, .inl (cI ff7))), (a5, .inl (T 0, 272, .inl (cI ff8)))] H locs := w
    exact ret _ (z5, (iI 0), z6, ff7, ff8) _ _ _ _ _ [0, 1, 2] dX12_button_42 ⟨rfl, z5_a, z5_b, z6_a, z6_b, ff7_h, ff8_h, (show snI ff8 z6 from pq9), (show kp 53 f0 ff7 from pq10)⟩ w (by decide) rfl
  · replace c_4 : ¬ z1 = 0 := fun h => c_4 ((iz_eq (Int.le_trans (by decide) z1_a) (Int.le_trans z1_b (by decide))).mpr h)
    refine lv_aload_n hx hb dX12_button_18 rfl (lv_at hl 0 rfl) ?_
    refine lv_iload_n hx hb dX12_button_19 rfl (lv_at hl 2 rfl) ?_
    refine k_I (ce := 0) (sl := 0) (rest := [.int (iI x2), .int (iI x1), .int (iI x0), .int (iI 0), .ref a0]) (wr := [(a5, .inl (T 0, 272, .inl (cI f1)))]) (r_V (f := 1) [1, 2] M w V_HookedCityModel_240 G1736 G68 (c68_X12_isPerson l D T _ a0 x1 (iI 0) a1 x3 x4 x5 x6 x7 x8 r1 x9 x10 x11 y0 x12 a2 a3 a4 a5 a6 a7 a8 a9 a10 a11 x13 a12 a13 a14 a15 x14 r2 r3 a16 x15 x16 a17 a18 x17 a19 x18 r4 a20 a21 x19 r5 a22 x20 x21 x22 x23 f0 x1_a x1_b x3_a x3_b x4_a x4_b x5_a x5_b x6_a x6_b x7_a x7_b x8_a x8_b x9_a x9_b x10_a x10_b x11_a x11_b x12_a x12_b x13_a x13_b x14_a x14_b x15_a x15_b x16_a x16_b x17_a x17_b x18_a x18_b x19_a x19_b x20_a x20_b x21_a x21_b x22_a x22_b x23_a x23_b f0_h) 1 clX12 rfl rfl (by decide) rfl hl.1 rfl (Nat.le_of_ble_eq_true rfl) dX12_button_20 (by decide) (by decide) (by decide) (by decide)) w [1, 2] [0] rfl rfl (by decide) (by decide) rfl rfl (fun v z11 H locs hp w => ?_)
    have hv : iI z11 = v := hp.1
    subst hv
    have z11_a : 0 ≤ z11 := hp.2.1
    have z11_b : z11 ≤ 1 := hp.2.2.1
    have ee12 : 0 ≤ ((x1 + 4294967296) - (z11 * 4294967296)) := hp.2.2.2.1
    have ee13 : 0 ≤ (((8 - x1) + 4294967296) - (z11 * 4294967296)) := hp.2.2.2.2.1
    have pq14 : ipQ z11 x1 (f0 0) := hp.2.2.2.2.2
    have w : WD D A s.heap [(a5, .inl (T 0, 272, .inl (cI f1))), (a0, .inr (11, [.int (iI 0), .ref a1, .int (iI x3), .int (iI x4), .int (iI x5), .int (iI x6), .int (iI x7), .int (iI x8), .int r1, .int (iI x9), .int (iI x10), .int (iI x11), .long y0, .int (iI x12), .ref a2, .ref a3, .ref a4, .ref a5, .ref a6, .ref a7, .ref a8, .ref a9, .ref a10, .ref a11, .int (iI x13), .ref a12, .ref a13, .ref a14, .ref a15, .int (iI x14), .int r2, .int r3, .ref a16, .int (iI x15), .int (iI x16), .ref a17, .ref a18, .int (iI x17), .ref a19, .int (iI x18), .int r4, .ref a20, .ref a21, .int (iI x19), .int r5, .ref a22, .int (iI x20), .int (iI x21), .int (iI x22), .int (iI x23)])), (a2, .inl (T 0, 329, .inl (cI f0)))] H locs := w
    refine lv_if_eq (tgt := 38) hx hb dX12_button_23 (by decide) (fun c_15 => ?_) (fun c_15 => ?_)
    · replace c_15 := (iz_eq (Int.le_trans (by decide) z11_a) (Int.le_trans z11_b (by decide))).mp c_15
      refine lv_iconst (v := iI 0) hx hb dX12_button_38 (by decide +kernel) ?_
      refine k_I (ce := 0) (sl := 0) (rest := []) (wr := []) (r_V (f := 3) [1, 2, 0] M w V_HookedCityModel_291 G1788 G78 (c83_X12_act l D T _ a0 x0 x1 x2 0 (iI 0) a1 x3 x4 x5 x6 x7 x8 r1 x9 x10 x11 y0 x12 a2 a3 a4 a5 a6 a7 a8 a9 a10 a11 x13 a12 a13 a14 a15 x14 r2 r3 a16 x15 x16 a17 a18 x17 a19 x18 r4 a20 a21 x19 r5 a22 x20 x21 x22 x23 f0 f1 x0_a x0_b x1_a x1_b x2_a x2_b (by decide) (by decide) x3_a x3_b x4_a x4_b x5_a x5_b x6_a x6_b x7_a x7_b x8_a x8_b x9_a x9_b x10_a x10_b x11_a x11_b x12_a x12_b x13_a x13_b x14_a x14_b x15_a x15_b x16_a x16_b x17_a x17_b x18_a x18_b x19_a x19_b x20_a x20_b x21_a x21_b x22_a x22_b x23_a x23_b f0_h f1_h pp_s (by omega) (by omega) (by omega) (by omega) (by omega) (by omega)) 1 clX12 rfl rfl (by decide) rfl hl.1 rfl (Nat.le_of_ble_eq_true rfl) dX12_button_39 (by decide) (by decide) (by decide) (by decide)) w [1, 2, 0] [] rfl rfl (by decide) (by decide) rfl rfl (fun v u H locs hp w => ?_)
      obtain ⟨z16, z17, ff18, ff19⟩ := u
      have hv : iI z16 = v := hp.1
      subst hv
      have z16_a : (-2147483648) ≤ z16 := hp.2.1
      have z16_b : z16 ≤ 2147483647 := hp.2.2.1
      have z17_a : 0 ≤ z17 := hp.2.2.2.1
      have z17_b : z17 ≤ 8 := hp.2.2.2.2.1
      have ff18_h : nowI ff18 := hp.2.2.2.2.2.1
      have ff19_h : FL ff19 := hp.2.2.2.2.2.2.1
      have pq20 : snI ff19 z17 := hp.2.2.2.2.2.2.2.1
      have pq21 : kp 53 f0 ff18 := hp.2.2.2.2.2.2.2.2
      have w : WD D A s.heap [(a0, .inr (11, [.int (iI 0), .ref a1, .int (iI x3), .int (iI x4), .int (iI x5), .int (iI x6), .int (iI x7), .int (iI x8), .int r1, .int (iI x9), .int (iI x10), .int (iI x11), .long y0, .int (iI x12), .ref a2, .ref a3, .ref a4, .ref a5, .ref a6, .ref a7, .ref a8, .ref a9, .ref a10, .ref a11, .int (iI z17), .ref a12, .ref a13, .ref a14, .ref a15, .int (iI x14), .int r2, .int r3, .ref a16, .int (iI x15), .int (iI x16), .ref a17, .ref a18, .int (iI x17), .ref a19, .int (iI x18), .int r4, .ref a20, .ref a21, .int (iI x19), .int r5, .ref a22, .int (iI x20), .int (iI x21), .int (iI x22), .int (iI x23)])), (a2, .inl (T 0, 329, .inl (cI ff18))), (a5, .inl (T 0, 272, .inl (cI ff19)))] H locs := w
      exact ret _ (z16, (iI 0), z17, ff18, ff19) _ _ _ _ _ [0, 1, 2] dX12_button_42 ⟨rfl, z16_a, z16_b, z17_a, z17_b, ff18_h, ff19_h, (show snI ff19 z17 from pq20), (show kp 53 f0 ff18 from pq21)⟩ w (by decide) rfl
    · replace c_15 : ¬ z11 = 0 := fun h => c_15 ((iz_eq (Int.le_trans (by decide) z11_a) (Int.le_trans z11_b (by decide))).mpr h)
      refine lv_aload_n hx hb dX12_button_26 rfl (lv_at hl 0 rfl) ?_
      refine lv_iload_n hx hb dX12_button_27 rfl (lv_at hl 3 rfl) ?_
      refine k_I (ce := 0) (sl := 0) (rest := [.int (iI x2), .int (iI x1), .int (iI x0), .int (iI 0), .ref a0]) (wr := [(a5, .inl (T 0, 272, .inl (cI f1)))]) (r_V (f := 1) [1, 2] M w V_HookedCityModel_240 G1736 G68 (c68_X12_isPerson l D T _ a0 x2 (iI 0) a1 x3 x4 x5 x6 x7 x8 r1 x9 x10 x11 y0 x12 a2 a3 a4 a5 a6 a7 a8 a9 a10 a11 x13 a12 a13 a14 a15 x14 r2 r3 a16 x15 x16 a17 a18 x17 a19 x18 r4 a20 a21 x19 r5 a22 x20 x21 x22 x23 f0 x2_a x2_b x3_a x3_b x4_a x4_b x5_a x5_b x6_a x6_b x7_a x7_b x8_a x8_b x9_a x9_b x10_a x10_b x11_a x11_b x12_a x12_b x13_a x13_b x14_a x14_b x15_a x15_b x16_a x16_b x17_a x17_b x18_a x18_b x19_a x19_b x20_a x20_b x21_a x21_b x22_a x22_b x23_a x23_b f0_h) 1 clX12 rfl rfl (by decide) rfl hl.1 rfl (Nat.le_of_ble_eq_true rfl) dX12_button_28 (by decide) (by decide) (by decide) (by decide)) w [1, 2] [0] rfl rfl (by decide) (by decide) rfl rfl (fun v z22 H locs hp w => ?_)
      have hv : iI z22 = v := hp.1
      subst hv
      have z22_a : 0 ≤ z22 := hp.2.1
      have z22_b : z22 ≤ 1 := hp.2.2.1
      have ee23 : 0 ≤ ((x2 + 4294967296) - (z22 * 4294967296)) := hp.2.2.2.1
      have ee24 : 0 ≤ (((8 - x2) + 4294967296) - (z22 * 4294967296)) := hp.2.2.2.2.1
      have pq25 : ipQ z22 x2 (f0 0) := hp.2.2.2.2.2
      have w : WD D A s.heap [(a5, .inl (T 0, 272, .inl (cI f1))), (a0, .inr (11, [.int (iI 0), .ref a1, .int (iI x3), .int (iI x4), .int (iI x5), .int (iI x6), .int (iI x7), .int (iI x8), .int r1, .int (iI x9), .int (iI x10), .int (iI x11), .long y0, .int (iI x12), .ref a2, .ref a3, .ref a4, .ref a5, .ref a6, .ref a7, .ref a8, .ref a9, .ref a10, .ref a11, .int (iI x13), .ref a12, .ref a13, .ref a14, .ref a15, .int (iI x14), .int r2, .int r3, .ref a16, .int (iI x15), .int (iI x16), .ref a17, .ref a18, .int (iI x17), .ref a19, .int (iI x18), .int r4, .ref a20, .ref a21, .int (iI x19), .int r5, .ref a22, .int (iI x20), .int (iI x21), .int (iI x22), .int (iI x23)])), (a2, .inl (T 0, 329, .inl (cI f0)))] H locs := w
      refine lv_if_eq (tgt := 38) hx hb dX12_button_31 (by decide) (fun c_26 => ?_) (fun c_26 => ?_)
      · replace c_26 := (iz_eq (Int.le_trans (by decide) z22_a) (Int.le_trans z22_b (by decide))).mp c_26
        refine lv_iconst (v := iI 0) hx hb dX12_button_38 (by decide +kernel) ?_
        refine k_I (ce := 0) (sl := 0) (rest := []) (wr := []) (r_V (f := 3) [1, 2, 0] M w V_HookedCityModel_291 G1788 G78 (c83_X12_act l D T _ a0 x0 x1 x2 0 (iI 0) a1 x3 x4 x5 x6 x7 x8 r1 x9 x10 x11 y0 x12 a2 a3 a4 a5 a6 a7 a8 a9 a10 a11 x13 a12 a13 a14 a15 x14 r2 r3 a16 x15 x16 a17 a18 x17 a19 x18 r4 a20 a21 x19 r5 a22 x20 x21 x22 x23 f0 f1 x0_a x0_b x1_a x1_b x2_a x2_b (by decide) (by decide) x3_a x3_b x4_a x4_b x5_a x5_b x6_a x6_b x7_a x7_b x8_a x8_b x9_a x9_b x10_a x10_b x11_a x11_b x12_a x12_b x13_a x13_b x14_a x14_b x15_a x15_b x16_a x16_b x17_a x17_b x18_a x18_b x19_a x19_b x20_a x20_b x21_a x21_b x22_a x22_b x23_a x23_b f0_h f1_h pp_s (by omega) (by omega) (by omega) (by omega) (by omega) (by omega)) 1 clX12 rfl rfl (by decide) rfl hl.1 rfl (Nat.le_of_ble_eq_true rfl) dX12_button_39 (by decide) (by decide) (by decide) (by decide)) w [1, 2, 0] [] rfl rfl (by decide) (by decide) rfl rfl (fun v u H locs hp w => ?_)
        obtain ⟨z27, z28, ff29, ff30⟩ := u
        have hv : iI z27 = v := hp.1
        subst hv
        have z27_a : (-2147483648) ≤ z27 := hp.2.1
        have z27_b : z27 ≤ 2147483647 := hp.2.2.1
        have z28_a : 0 ≤ z28 := hp.2.2.2.1
        have z28_b : z28 ≤ 8 := hp.2.2.2.2.1
        have ff29_h : nowI ff29 := hp.2.2.2.2.2.1
        have ff30_h : FL ff30 := hp.2.2.2.2.2.2.1
        have pq31 : snI ff30 z28 := hp.2.2.2.2.2.2.2.1
        have pq32 : kp 53 f0 ff29 := hp.2.2.2.2.2.2.2.2
        have w : WD D A s.heap [(a0, .inr (11, [.int (iI 0), .ref a1, .int (iI x3), .int (iI x4), .int (iI x5), .int (iI x6), .int (iI x7), .int (iI x8), .int r1, .int (iI x9), .int (iI x10), .int (iI x11), .long y0, .int (iI x12), .ref a2, .ref a3, .ref a4, .ref a5, .ref a6, .ref a7, .ref a8, .ref a9, .ref a10, .ref a11, .int (iI z28), .ref a12, .ref a13, .ref a14, .ref a15, .int (iI x14), .int r2, .int r3, .ref a16, .int (iI x15), .int (iI x16), .ref a17, .ref a18, .int (iI x17), .ref a19, .int (iI x18), .int r4, .ref a20, .ref a21, .int (iI x19), .int r5, .ref a22, .int (iI x20), .int (iI x21), .int (iI x22), .int (iI x23)])), (a2, .inl (T 0, 329, .inl (cI ff29))), (a5, .inl (T 0, 272, .inl (cI ff30)))] H locs := w
        exact ret _ (z27, (iI 0), z28, ff29, ff30) _ _ _ _ _ [0, 1, 2] dX12_button_42 ⟨rfl, z27_a, z27_b, z28_a, z28_b, ff29_h, ff30_h, (show snI ff30 z28 from pq31), (show kp 53 f0 ff29 from pq32)⟩ w (by decide) rfl
      · replace c_26 : ¬ z22 = 0 := fun h => c_26 ((iz_eq (Int.le_trans (by decide) z22_a) (Int.le_trans z22_b (by decide))).mpr h)
        refine lv_iconst (v := iI 1) hx hb dX12_button_34 (by decide +kernel) ?_
        refine lv_goto (tgt := 39) hx hb dX12_button_35 (by decide) ?_
        refine k_I (ce := 0) (sl := 0) (rest := []) (wr := []) (r_V (f := 3) [1, 2, 0] M w V_HookedCityModel_291 G1788 G78 (c83_X12_act l D T _ a0 x0 x1 x2 1 (iI 0) a1 x3 x4 x5 x6 x7 x8 r1 x9 x10 x11 y0 x12 a2 a3 a4 a5 a6 a7 a8 a9 a10 a11 x13 a12 a13 a14 a15 x14 r2 r3 a16 x15 x16 a17 a18 x17 a19 x18 r4 a20 a21 x19 r5 a22 x20 x21 x22 x23 f0 f1 x0_a x0_b x1_a x1_b x2_a x2_b (by decide) (by decide) x3_a x3_b x4_a x4_b x5_a x5_b x6_a x6_b x7_a x7_b x8_a x8_b x9_a x9_b x10_a x10_b x11_a x11_b x12_a x12_b x13_a x13_b x14_a x14_b x15_a x15_b x16_a x16_b x17_a x17_b x18_a x18_b x19_a x19_b x20_a x20_b x21_a x21_b x22_a x22_b x23_a x23_b f0_h f1_h pp_s (by omega) (by omega) (by omega) (by omega) (by omega) (by omega)) 1 clX12 rfl rfl (by decide) rfl hl.1 rfl (Nat.le_of_ble_eq_true rfl) dX12_button_39 (by decide) (by decide) (by decide) (by decide)) w [1, 2, 0] [] rfl rfl (by decide) (by decide) rfl rfl (fun v u H locs hp w => ?_)
        obtain ⟨z33, z34, ff35, ff36⟩ := u
        have hv : iI z33 = v := hp.1
        subst hv
        have z33_a : (-2147483648) ≤ z33 := hp.2.1
        have z33_b : z33 ≤ 2147483647 := hp.2.2.1
        have z34_a : 0 ≤ z34 := hp.2.2.2.1
        have z34_b : z34 ≤ 8 := hp.2.2.2.2.1
        have ff35_h : nowI ff35 := hp.2.2.2.2.2.1
        have ff36_h : FL ff36 := hp.2.2.2.2.2.2.1
        have pq37 : snI ff36 z34 := hp.2.2.2.2.2.2.2.1
        have pq38 : kp 53 f0 ff35 := hp.2.2.2.2.2.2.2.2
        have w : WD D A s.heap [(a0, .inr (11, [.int (iI 0), .ref a1, .int (iI x3), .int (iI x4), .int (iI x5), .int (iI x6), .int (iI x7), .int (iI x8), .int r1, .int (iI x9), .int (iI x10), .int (iI x11), .long y0, .int (iI x12), .ref a2, .ref a3, .ref a4, .ref a5, .ref a6, .ref a7, .ref a8, .ref a9, .ref a10, .ref a11, .int (iI z34), .ref a12, .ref a13, .ref a14, .ref a15, .int (iI x14), .int r2, .int r3, .ref a16, .int (iI x15), .int (iI x16), .ref a17, .ref a18, .int (iI x17), .ref a19, .int (iI x18), .int r4, .ref a20, .ref a21, .int (iI x19), .int r5, .ref a22, .int (iI x20), .int (iI x21), .int (iI x22), .int (iI x23)])), (a2, .inl (T 0, 329, .inl (cI ff35))), (a5, .inl (T 0, 272, .inl (cI ff36)))] H locs := w
        exact ret _ (z33, (iI 0), z34, ff35, ff36) _ _ _ _ _ [0, 1, 2] dX12_button_42 ⟨rfl, z33_a, z33_b, z34_a, z34_b, ff35_h, ff36_h, (show snI ff36 z34 from pq37), (show kp 53 f0 ff35 from pq38)⟩ w (by decide) rfl
set_option maxRecDepth 100000 in
set_option maxHeartbeats 4000000 in
theorem c85_X12_why (l : Launch) (D : va_G) (T : Nat → ClassId) (sz : Nat) (a0 : Nat) (x0 : Int) (x1 : Int) (x2 : Int) (r0 : Int32) (a1 : Nat) (x3 : Int) (x4 : Int) (x5 : Int) (x6 : Int) (x7 : Int) (x8 : Int) (r1 : Int32) (x9 : Int) (x10 : Int) (x11 : Int) (y0 : Int64) (x12 : Int) (a2 : Nat) (a3 : Nat) (a4 : Nat) (a5 : Nat) (a6 : Nat) (a7 : Nat) (a8 : Nat) (a9 : Nat) (a10 : Nat) (a11 : Nat) (x13 : Int) (a12 : Nat) (a13 : Nat) (a14 : Nat) (a15 : Nat) (x14 : Int) (r2 : Int32) (r3 : Int32) (a16 : Nat) (x15 : Int) (x16 : Int) (a17 : Nat) (a18 : Nat) (x17 : Int) (a19 : Nat) (x18 : Int) (r4 : Int32) (a20 : Nat) (a21 : Nat) (x19 : Int) (r5 : Int32) (a22 : Nat) (x20 : Int) (x21 : Int) (x22 : Int) (x23 : Int) (f0 : Int → Int) (x0_a : 0 ≤ x0) (x0_b : x0 ≤ 2) (x1_a : 0 ≤ x1) (x1_b : x1 ≤ 8) (x2_a : (-2147483648) ≤ x2) (x2_b : x2 ≤ 2147483647) (x3_a : 0 ≤ x3) (x3_b : x3 ≤ 940) (x4_a : 0 ≤ x4) (x4_b : x4 ≤ 940) (x5_a : 0 ≤ x5) (x5_b : x5 ≤ 940) (x6_a : 0 ≤ x6) (x6_b : x6 ≤ 940) (x7_a : 0 ≤ x7) (x7_b : x7 ≤ 940) (x8_a : 0 ≤ x8) (x8_b : x8 ≤ 4) (x9_a : (-2147483648) ≤ x9) (x9_b : x9 ≤ 2147483647) (x10_a : (-2147483648) ≤ x10) (x10_b : x10 ≤ 2147483647) (x11_a : 0 ≤ x11) (x11_b : x11 ≤ 940) (x12_a : (-2147483648) ≤ x12) (x12_b : x12 ≤ 2147483647) (x13_a : 0 ≤ x13) (x13_b : x13 ≤ 8) (x14_a : 0 ≤ x14) (x14_b : x14 ≤ 9) (x15_a : (-1) ≤ x15) (x15_b : x15 ≤ 9) (x16_a : (-1) ≤ x16) (x16_b : x16 ≤ 8) (x17_a : 0 ≤ x17) (x17_b : x17 ≤ 9) (x18_a : 0 ≤ x18) (x18_b : x18 ≤ 64) (x19_a : 0 ≤ x19) (x19_b : x19 ≤ 40) (x20_a : 0 ≤ x20) (x20_b : x20 ≤ 40) (x21_a : 0 ≤ x21) (x21_b : x21 ≤ 20) (x22_a : 0 ≤ x22) (x22_b : x22 ≤ 8) (x23_a : 0 ≤ x23) (x23_b : x23 ≤ 39) (f0_h : nowI f0) : Met l yX12_why (Cond.code yX12_why cX12_why 5 (some .int) :: GW) (Rm 1 0 0) (cPre [.ref a0, .int (iI 1), .int (iI x0), .int (iI x1), .int (iI x2)] D T [(a0, .inr (11, [.int r0, .ref a1, .int (iI x3), .int (iI x4), .int (iI x5), .int (iI x6), .int (iI x7), .int (iI x8), .int r1, .int (iI x9), .int (iI x10), .int (iI x11), .long y0, .int (iI x12), .ref a2, .ref a3, .ref a4, .ref a5, .ref a6, .ref a7, .ref a8, .ref a9, .ref a10, .ref a11, .int (iI x13), .ref a12, .ref a13, .ref a14, .ref a15, .int (iI x14), .int r2, .int r3, .ref a16, .int (iI x15), .int (iI x16), .ref a17, .ref a18, .int (iI x17), .ref a19, .int (iI x18), .int r4, .ref a20, .ref a21, .int (iI x19), .int r5, .ref a22, .int (iI x20), .int (iI x21), .int (iI x22), .int (iI x23)])), (a2, .inl (T 0, 329, .inl (cI f0)))] sz) (qI D [(a0, .inr (11, [.int r0, .ref a1, .int (iI x3), .int (iI x4), .int (iI x5), .int (iI x6), .int (iI x7), .int (iI x8), .int r1, .int (iI x9), .int (iI x10), .int (iI x11), .long y0, .int (iI x12), .ref a2, .ref a3, .ref a4, .ref a5, .ref a6, .ref a7, .ref a8, .ref a9, .ref a10, .ref a11, .int (iI x13), .ref a12, .ref a13, .ref a14, .ref a15, .int (iI x14), .int r2, .int r3, .ref a16, .int (iI x15), .int (iI x16), .ref a17, .ref a18, .int (iI x17), .ref a19, .int (iI x18), .int r4, .ref a20, .ref a21, .int (iI x19), .int r5, .ref a22, .int (iI x20), .int (iI x21), .int (iI x22), .int (iI x23)])), (a2, .inl (T 0, 329, .inl (cI f0)))] sz (fun (v : Int32) (u : Int) => iI u = v ∧ 0 ≤ u ∧ u ≤ 7) (fun u => [(a0, .inr (11, [.int r0, .ref a1, .int (iI x3), .int (iI x4), .int (iI x5), .int (iI x6), .int (iI x7), .int (iI x8), .int r1, .int (iI x9), .int (iI x10), .int (iI x11), .long y0, .int (iI x12), .ref a2, .ref a3, .ref a4, .ref a5, .ref a6, .ref a7, .ref a8, .ref a9, .ref a10, .ref a11, .int (iI x13), .ref a12, .ref a13, .ref a14, .ref a15, .int (iI x14), .int r2, .int r3, .ref a16, .int (iI x15), .int (iI x16), .ref a17, .ref a18, .int (iI x17), .ref a19, .int (iI x18), .int r4, .ref a20, .ref a21, .int (iI x19), .int r5, .ref a22, .int (iI x20), .int (iI x21), .int (iI x22), .int (iI x23)])), (a2, .inl (T 0, 329, .inl (cI f0)))])) 0 0 (va_A [(a0, .inr (11, [.int r0, .ref a1, .int (iI x3), .int (iI x4), .int (iI x5), .int (iI x6), .int (iI x7), .int (iI x8), .int r1, .int (iI x9), .int (iI x10), .int (iI x11), .long y0, .int (iI x12), .ref a2, .ref a3, .ref a4, .ref a5, .ref a6, .ref a7, .ref a8, .ref a9, .ref a10, .ref a11, .int (iI x13), .ref a12, .ref a13, .ref a14, .ref a15, .int (iI x14), .int r2, .int r3, .ref a16, .int (iI x15), .int (iI x16), .ref a17, .ref a18, .int (iI x17), .ref a19, .int (iI x18), .int r4, .ref a20, .ref a21, .int (iI x19), .int r5, .ref a22, .int (iI x20), .int (iI x21), .int (iI x22), .int (iI x23)])), (a2, .inl (T 0, 329, .inl (cI f0)))] sz) := by
  refine e_I (by decide) (Nat.le_of_ble_eq_true rfl) ?_
  intro p e s m args below meth c A Q ls M hin w ret hl
  have hx := M.1.1
  have hb := M.1.2.1
  have hl : lv_has ls 5 [(0, .ref a0), (1, .int (iI 1)), (2, .int (iI x0)), (3, .int (iI x1)), (4, .int (iI x2))] := hl
  refine lv_iload_n hx hb dX12_why_0 rfl (lv_at hl 1 rfl) ?_
  refine lv_lookup (off := 47) (tgt := 48) hx hb dX12_why_1 (by decide +kernel) (by decide +kernel) (by decide) ?_
  refine lv_aload_n hx hb dX12_why_48 rfl (lv_at hl 0 rfl) ?_
  refine lv_iload_n hx hb dX12_why_49 rfl (lv_at hl 2 rfl) ?_
  refine k_I (ce := 0) (sl := 0) (rest := []) (wr := []) (r_V (f := 0) [0, 1] M w V_HookedCityModel_270 G1796 G80 (c78_X12_isTired l D T _ a0 x0 r0 a1 x3 x4 x5 x6 x7 x8 r1 x9 x10 x11 y0 x12 a2 a3 a4 a5 a6 a7 a8 a9 a10 a11 x13 a12 a13 a14 a15 x14 r2 r3 a16 x15 x16 a17 a18 x17 a19 x18 r4 a20 a21 x19 r5 a22 x20 x21 x22 x23 f0 x0_a x0_b x3_a x3_b x4_a x4_b x5_a x5_b x6_a x6_b x7_a x7_b x8_a x8_b x9_a x9_b x10_a x10_b x11_a x11_b x12_a x12_b x13_a x13_b x14_a x14_b x15_a x15_b x16_a x16_b x17_a x17_b x18_a x18_b x19_a x19_b x20_a x20_b x21_a x21_b x22_a x22_b x23_a x23_b f0_h) 0 clX12 rfl rfl (by decide) rfl hl.1 rfl (Nat.le_of_ble_eq_true rfl) dX12_why_50 (by decide) (by decide) (by decide) (by decide)) w [0, 1] [] rfl rfl (by decide) (by decide) rfl rfl (fun v z1 H locs hp w => ?_)
  have hv : iI z1 = v := hp.1
  subst hv
  have z1_a : 0 ≤ z1 := hp.2.1
  have z1_b : z1 ≤ 1 := hp.2.2
  have w : WD D A s.heap [(a0, .inr (11, [.int r0, .ref a1, .int (iI x3), .int (iI x4), .int (iI x5), .int (iI x6), .int (iI x7), .int (iI x8), .int r1, .int (iI x9), .int (iI x10), .int (iI x11), .long y0, .int (iI x12), .ref a2, .ref a3, .ref a4, .ref a5, .ref a6, .ref a7, .ref a8, .ref a9, .ref a10, .ref a11, .int (iI x13), .ref a12, .ref a13, .ref a14, .ref a15, .int (iI x14), .int r2, .int r3, .ref a16, .int (iI x15), .int (iI x16), .ref a17, .ref a18, .int (iI x17), .ref a19, .int (iI x18), .int r4, .ref a20, .ref a21, .int (iI x19), .int r5, .ref a22, .int (iI x20), .int (iI x21), .int (iI x22), .int (iI x23)])), (a2, .inl (T 0, 329, .inl (cI f0)))] H locs := w
  refine lv_if_eq (tgt := 60) hx hb dX12_why_53 (by decide) (fun c_2 => ?_) (fun c_2 => ?_)
  · replace c_2 := (iz_eq (Int.le_trans (by decide) z1_a) (Int.le_trans z1_b (by decide))).mp c_2
    refine lv_aload_n hx hb dX12_why_60 rfl (lv_at hl 0 rfl) ?_
    refine lv_iload_n hx hb dX12_why_61 rfl (lv_at hl 3 rfl) ?_
    refine k_I (ce := 0) (sl := 0) (rest := []) (wr := []) (r_V (f := 0) [0, 1] M w V_HookedCityModel_255 G1768 G74 (c70_X12_isOpen l D T _ a0 x1 r0 a1 x3 x4 x5 x6 x7 x8 r1 x9 x10 x11 y0 x12 a2 a3 a4 a5 a6 a7 a8 a9 a10 a11 x13 a12 a13 a14 a15 x14 r2 r3 a16 x15 x16 a17 a18 x17 a19 x18 r4 a20 a21 x19 r5 a22 x20 x21 x22 x23 f0 x1_a x1_b x3_a x3_b x4_a x4_b x5_a x5_b x6_a x6_b x7_a x7_b x8_a x8_b x9_a x9_b x10_a x10_b x11_a x11_b x12_a x12_b x13_a x13_b x14_a x14_b x15_a x15_b x16_a x16_b x17_a x17_b x18_a x18_b x19_a x19_b x20_a x20_b x21_a x21_b x22_a x22_b x23_a x23_b f0_h) 0 clX12 rfl rfl (by decide) rfl hl.1 rfl (Nat.le_of_ble_eq_true rfl) dX12_why_62 (by decide) (by decide) (by decide) (by decide)) w [0, 1] [] rfl rfl (by decide) (by decide) rfl rfl (fun v z3 H locs hp w => ?_)
    have hv : iI z3 = v := hp.1
    subst hv
    have z3_a : 0 ≤ z3 := hp.2.1
    have z3_b : z3 ≤ 1 := hp.2.2.1
    have pq4 : z3 = 0 → 0 ≤ f0 (57 + x1) := hp.2.2.2
    have w : WD D A s.heap [(a0, .inr (11, [.int r0, .ref a1, .int (iI x3), .int (iI x4), .int (iI x5), .int (iI x6), .int (iI x7), .int (iI x8), .int r1, .int (iI x9), .int (iI x10), .int (iI x11), .long y0, .int (iI x12), .ref a2, .ref a3, .ref a4, .ref a5, .ref a6, .ref a7, .ref a8, .ref a9, .ref a10, .ref a11, .int (iI x13), .ref a12, .ref a13, .ref a14, .ref a15, .int (iI x14), .int r2, .int r3, .ref a16, .int (iI x15), .int (iI x16), .ref a17, .ref a18, .int (iI x17), .ref a19, .int (iI x18), .int r4, .ref a20, .ref a21, .int (iI x19), .int r5, .ref a22, .int (iI x20), .int (iI x21), .int (iI x22), .int (iI x23)])), (a2, .inl (T 0, 329, .inl (cI f0)))] H locs := w
    refine lv_if_eq (tgt := 72) hx hb dX12_why_65 (by decide) (fun c_5 => ?_) (fun c_5 => ?_)
    · replace c_5 := (iz_eq (Int.le_trans (by decide) z3_a) (Int.le_trans z3_b (by decide))).mp c_5
      refine lv_iconst (v := iI 0) hx hb dX12_why_72 (by decide +kernel) ?_
      exact ret _ 0 _ _ _ _ _ [0, 1] dX12_why_73 ⟨rfl, (show (0 : Int) ≤ 0 from by decide), (show (0 : Int) ≤ 7 from by decide)⟩ w (by decide) rfl
    · replace c_5 : ¬ z3 = 0 := fun h => c_5 ((iz_eq (Int.le_trans (by decide) z3_a) (Int.le_trans z3_b (by decide))).mpr h)
      refine lv_iconst (v := iI 2) hx hb dX12_why_68 (by decide +kernel) ?_
      refine lv_goto (tgt := 73) hx hb dX12_why_69 (by decide) ?_
      exact ret _ 2 _ _ _ _ _ [0, 1] dX12_why_73 ⟨rfl, (show (0 : Int) ≤ 2 from by decide), (show (2 : Int) ≤ 7 from by decide)⟩ w (by decide) rfl
  · replace c_2 : ¬ z1 = 0 := fun h => c_2 ((iz_eq (Int.le_trans (by decide) z1_a) (Int.le_trans z1_b (by decide))).mpr h)
    refine lv_iconst (v := iI 1) hx hb dX12_why_56 (by decide +kernel) ?_
    refine lv_goto (tgt := 73) hx hb dX12_why_57 (by decide) ?_
    exact ret _ 1 _ _ _ _ _ [0, 1] dX12_why_73 ⟨rfl, (show (0 : Int) ≤ 1 from by decide), (show (1 : Int) ≤ 7 from by decide)⟩ w (by decide) rfl
set_option maxRecDepth 100000 in
set_option maxHeartbeats 4000000 in
theorem c86_X12_live (l : Launch) (D : va_G) (T : Nat → ClassId) (sz : Nat) (a0 : Nat) (x0 : Int) (x1 : Int) (x2 : Int) (r0 : Int32) (a1 : Nat) (x3 : Int) (x4 : Int) (x5 : Int) (x6 : Int) (x7 : Int) (x8 : Int) (r1 : Int32) (x9 : Int) (x10 : Int) (x11 : Int) (y0 : Int64) (x12 : Int) (a2 : Nat) (a3 : Nat) (a4 : Nat) (a5 : Nat) (a6 : Nat) (a7 : Nat) (a8 : Nat) (a9 : Nat) (a10 : Nat) (a11 : Nat) (x13 : Int) (a12 : Nat) (a13 : Nat) (a14 : Nat) (a15 : Nat) (x14 : Int) (r2 : Int32) (r3 : Int32) (a16 : Nat) (x15 : Int) (x16 : Int) (a17 : Nat) (a18 : Nat) (x17 : Int) (a19 : Nat) (x18 : Int) (r4 : Int32) (a20 : Nat) (a21 : Nat) (x19 : Int) (r5 : Int32) (a22 : Nat) (x20 : Int) (x21 : Int) (x22 : Int) (x23 : Int) (f0 : Int → Int) (x0_a : 0 ≤ x0) (x0_b : x0 ≤ 2) (x1_a : 0 ≤ x1) (x1_b : x1 ≤ 8) (x2_a : (-2147483648) ≤ x2) (x2_b : x2 ≤ 2147483647) (x3_a : 0 ≤ x3) (x3_b : x3 ≤ 940) (x4_a : 0 ≤ x4) (x4_b : x4 ≤ 940) (x5_a : 0 ≤ x5) (x5_b : x5 ≤ 940) (x6_a : 0 ≤ x6) (x6_b : x6 ≤ 940) (x7_a : 0 ≤ x7) (x7_b : x7 ≤ 940) (x8_a : 0 ≤ x8) (x8_b : x8 ≤ 4) (x9_a : (-2147483648) ≤ x9) (x9_b : x9 ≤ 2147483647) (x10_a : (-2147483648) ≤ x10) (x10_b : x10 ≤ 2147483647) (x11_a : 0 ≤ x11) (x11_b : x11 ≤ 940) (x12_a : (-2147483648) ≤ x12) (x12_b : x12 ≤ 2147483647) (x13_a : 0 ≤ x13) (x13_b : x13 ≤ 8) (x14_a : 0 ≤ x14) (x14_b : x14 ≤ 9) (x15_a : (-1) ≤ x15) (x15_b : x15 ≤ 9) (x16_a : (-1) ≤ x16) (x16_b : x16 ≤ 8) (x17_a : 0 ≤ x17) (x17_b : x17 ≤ 9) (x18_a : 0 ≤ x18) (x18_b : x18 ≤ 64) (x19_a : 0 ≤ x19) (x19_b : x19 ≤ 40) (x20_a : 0 ≤ x20) (x20_b : x20 ≤ 40) (x21_a : 0 ≤ x21) (x21_b : x21 ≤ 20) (x22_a : 0 ≤ x22) (x22_b : x22 ≤ 8) (x23_a : 0 ≤ x23) (x23_b : x23 ≤ 39) (f0_h : nowI f0) : Met l yX12_live (Cond.code yX12_live cX12_live 5 none :: GW) (Rm 1 0 0) (cPre [.ref a0, .int (iI 1), .int (iI x0), .int (iI x1), .int (iI x2)] D T [(a0, .inr (11, [.int r0, .ref a1, .int (iI x3), .int (iI x4), .int (iI x5), .int (iI x6), .int (iI x7), .int (iI x8), .int r1, .int (iI x9), .int (iI x10), .int (iI x11), .long y0, .int (iI x12), .ref a2, .ref a3, .ref a4, .ref a5, .ref a6, .ref a7, .ref a8, .ref a9, .ref a10, .ref a11, .int (iI x13), .ref a12, .ref a13, .ref a14, .ref a15, .int (iI x14), .int r2, .int r3, .ref a16, .int (iI x15), .int (iI x16), .ref a17, .ref a18, .int (iI x17), .ref a19, .int (iI x18), .int r4, .ref a20, .ref a21, .int (iI x19), .int r5, .ref a22, .int (iI x20), .int (iI x21), .int (iI x22), .int (iI x23)])), (a2, .inl (T 0, 329, .inl (cI f0)))] sz) (qV D [(a0, .inr (11, [.int r0, .ref a1, .int (iI x3), .int (iI x4), .int (iI x5), .int (iI x6), .int (iI x7), .int (iI x8), .int r1, .int (iI x9), .int (iI x10), .int (iI x11), .long y0, .int (iI x12), .ref a2, .ref a3, .ref a4, .ref a5, .ref a6, .ref a7, .ref a8, .ref a9, .ref a10, .ref a11, .int (iI x13), .ref a12, .ref a13, .ref a14, .ref a15, .int (iI x14), .int r2, .int r3, .ref a16, .int (iI x15), .int (iI x16), .ref a17, .ref a18, .int (iI x17), .ref a19, .int (iI x18), .int r4, .ref a20, .ref a21, .int (iI x19), .int r5, .ref a22, .int (iI x20), .int (iI x21), .int (iI x22), .int (iI x23)])), (a2, .inl (T 0, 329, .inl (cI f0)))] sz (fun (u : (Int → Int)) => nowI u ∧ (kp 53 f0 u)) (fun u => [(a0, .inr (11, [.int r0, .ref a1, .int (iI x3), .int (iI x4), .int (iI x5), .int (iI x6), .int (iI x7), .int (iI x8), .int r1, .int (iI x9), .int (iI x10), .int (iI x11), .long y0, .int (iI x12), .ref a2, .ref a3, .ref a4, .ref a5, .ref a6, .ref a7, .ref a8, .ref a9, .ref a10, .ref a11, .int (iI x13), .ref a12, .ref a13, .ref a14, .ref a15, .int (iI x14), .int r2, .int r3, .ref a16, .int (iI x15), .int (iI x16), .ref a17, .ref a18, .int (iI x17), .ref a19, .int (iI x18), .int r4, .ref a20, .ref a21, .int (iI x19), .int r5, .ref a22, .int (iI x20), .int (iI x21), .int (iI x22), .int (iI x23)])), (a2, .inl (T 0, 329, .inl (cI u)))])) 0 0 (va_A [(a0, .inr (11, [.int r0, .ref a1, .int (iI x3), .int (iI x4), .int (iI x5), .int (iI x6), .int (iI x7), .int (iI x8), .int r1, .int (iI x9), .int (iI x10), .int (iI x11), .long y0, .int (iI x12), .ref a2, .ref a3, .ref a4, .ref a5, .ref a6, .ref a7, .ref a8, .ref a9, .ref a10, .ref a11, .int (iI x13), .ref a12, .ref a13, .ref a14, .ref a15, .int (iI x14), .int r2, .int r3, .ref a16, .int (iI x15), .int (iI x16), .ref a17, .ref a18, .int (iI x17), .ref a19, .int (iI x18), .int r4, .ref a20, .ref a21, .int (iI x19), .int r5, .ref a22, .int (iI x20), .int (iI x21), .int (iI x22), .int (iI x23)])), (a2, .inl (T 0, 329, .inl (cI f0)))] sz) := by
  refine e_V (by decide) (Nat.le_of_ble_eq_true rfl) ?_
  intro p e s m args below meth c A Q ls M hin w ret hl
  have hx := M.1.1
  have hb := M.1.2.1
  have hl : lv_has ls 5 [(0, .ref a0), (1, .int (iI 1)), (2, .int (iI x0)), (3, .int (iI x1)), (4, .int (iI x2))] := hl
  refine lv_iload_n hx hb dX12_live_0 rfl (lv_at hl 1 rfl) ?_
  refine lv_lookup (off := 74) (tgt := 75) hx hb dX12_live_1 (by decide +kernel) (by decide +kernel) (by decide) ?_
  refine lv_aload_n hx hb dX12_live_75 rfl (lv_at hl 0 rfl) ?_
  refine lv_iload_n hx hb dX12_live_76 rfl (lv_at hl 3 rfl) ?_
  refine k_V (ce := 0) (sl := 0) (rest := []) (wr := []) (r_V (f := 0) [0, 1] M w V_HookedCityModel_277 G1812 G84 (c79_X12_out l D T _ a0 x1 r0 a1 x3 x4 x5 x6 x7 x8 r1 x9 x10 x11 y0 x12 a2 a3 a4 a5 a6 a7 a8 a9 a10 a11 x13 a12 a13 a14 a15 x14 r2 r3 a16 x15 x16 a17 a18 x17 a19 x18 r4 a20 a21 x19 r5 a22 x20 x21 x22 x23 f0 x1_a x1_b x3_a x3_b x4_a x4_b x5_a x5_b x6_a x6_b x7_a x7_b x8_a x8_b x9_a x9_b x10_a x10_b x11_a x11_b x12_a x12_b x13_a x13_b x14_a x14_b x15_a x15_b x16_a x16_b x17_a x17_b x18_a x18_b x19_a x19_b x20_a x20_b x21_a x21_b x22_a x22_b x23_a x23_b f0_h) 0 clX12 rfl rfl (by decide) rfl hl.1 rfl (Nat.le_of_ble_eq_true rfl) dX12_live_77 (by decide) (by decide) (by decide) (by decide)) w [0, 1] [] rfl rfl (by decide) (by decide) rfl rfl (fun ff1 H locs hp w => ?_)
  have ff1_h : nowI ff1 := hp.1
  have pq2 : kp 53 f0 ff1 := hp.2
  have w : WD D A s.heap [(a0, .inr (11, [.int r0, .ref a1, .int (iI x3), .int (iI x4), .int (iI x5), .int (iI x6), .int (iI x7), .int (iI x8), .int r1, .int (iI x9), .int (iI x10), .int (iI x11), .long y0, .int (iI x12), .ref a2, .ref a3, .ref a4, .ref a5, .ref a6, .ref a7, .ref a8, .ref a9, .ref a10, .ref a11, .int (iI x13), .ref a12, .ref a13, .ref a14, .ref a15, .int (iI x14), .int r2, .int r3, .ref a16, .int (iI x15), .int (iI x16), .ref a17, .ref a18, .int (iI x17), .ref a19, .int (iI x18), .int r4, .ref a20, .ref a21, .int (iI x19), .int r5, .ref a22, .int (iI x20), .int (iI x21), .int (iI x22), .int (iI x23)])), (a2, .inl (T 0, 329, .inl (cI ff1)))] H locs := w
  refine lv_aload_n hx hb dX12_live_80 rfl (lv_at hl 0 rfl) ?_
  refine r_get (v := .ref a2) M w 0 14 clX12 rfl (by decide) G1477 rfl rfl dX12_live_81 ?_
  refine lv_bipush (v := iI 84) hx hb dX12_live_84 (by decide +kernel) ?_
  refine lv_iload_n hx hb dX12_live_86 rfl (lv_at hl 2 rfl) ?_
  refine r_iadd (v := iI (84 + x0)) M (iI_add _ _) dX12_live_87 ?_
  refine lv_dup2_11 hx hb dX12_live_88 rfl rfl ?_
  refine r_iald (v := iI (ff1 (84 + x0))) M w 1 rfl (iI_in (by omega) (by omega) (by decide)) (cI_at (by omega) (by omega)) dX12_live_89 ?_
  have hh3 : (-2147483648) ≤ (ff1 (84 + x0)) ∧ (ff1 (84 + x0)) ≤ 2147483647 := ff1_h.1 (84 + x0)
  refine lv_iconst (v := iI 1) hx hb dX12_live_90 (by decide +kernel) ?_
  refine r_iadd (v := _) M rfl dX12_live_91 ?_
  refine b_any (fun z4 z4_a z4_b => ?_)
  refine r_iast (ws' := [(a0, .inr (11, [.int r0, .ref a1, .int (iI x3), .int (iI x4), .int (iI x5), .int (iI x6), .int (iI x7), .int (iI x8), .int r1, .int (iI x9), .int (iI x10), .int (iI x11), .long y0, .int (iI x12), .ref a2, .ref a3, .ref a4, .ref a5, .ref a6, .ref a7, .ref a8, .ref a9, .ref a10, .ref a11, .int (iI x13), .ref a12, .ref a13, .ref a14, .ref a15, .int (iI x14), .int r2, .int r3, .ref a16, .int (iI x15), .int (iI x16), .ref a17, .ref a18, .int (iI x17), .ref a19, .int (iI x18), .int r4, .ref a20, .ref a21, .int (iI x19), .int r5, .ref a22, .int (iI x20), .int (iI x21), .int (iI x22), .int (iI x23)])), (a2, .inl (T 0, 329, .inl (cI (upz ff1 (84 + x0) z4))))]) M w 1 rfl (iI_in (by omega) (by omega) (by decide)) (by rw [cI_up (by omega) (by omega)]; rfl) dX12_live_92 (fun H locs w => ?_)
  exact ret (upz ff1 (84 + x0) z4) _ _ _ _ _ [0, 1] dX12_live_93 ⟨(now_up ff1_h (by omega) (by omega) (by unfold nr; omega) (by omega) (by omega)), (show kp 53 f0 (upz ff1 (84 + x0) z4) from (kp_up (kp_tr kp_rfl pq2) (by omega)))⟩ w (by decide) rfl
set_option maxRecDepth 100000 in
set_option maxHeartbeats 4000000 in
theorem c87_X12_act (l : Launch) (D : va_G) (T : Nat → ClassId) (sz : Nat) (a0 : Nat) (x0 : Int) (x1 : Int) (x2 : Int) (x3 : Int) (r0 : Int32) (a1 : Nat) (x4 : Int) (x5 : Int) (x6 : Int) (x7 : Int) (x8 : Int) (x9 : Int) (r1 : Int32) (x10 : Int) (x11 : Int) (x12 : Int) (y0 : Int64) (x13 : Int) (a2 : Nat) (a3 : Nat) (a4 : Nat) (a5 : Nat) (a6 : Nat) (a7 : Nat) (a8 : Nat) (a9 : Nat) (a10 : Nat) (a11 : Nat) (x14 : Int) (a12 : Nat) (a13 : Nat) (a14 : Nat) (a15 : Nat) (x15 : Int) (r2 : Int32) (r3 : Int32) (a16 : Nat) (x16 : Int) (x17 : Int) (a17 : Nat) (a18 : Nat) (x18 : Int) (a19 : Nat) (x19 : Int) (r4 : Int32) (a20 : Nat) (a21 : Nat) (x20 : Int) (r5 : Int32) (a22 : Nat) (x21 : Int) (x22 : Int) (x23 : Int) (x24 : Int) (f0 : Int → Int) (f1 : Int → Int) (x0_a : (-2147483648) ≤ x0) (x0_b : x0 ≤ 2147483647) (x1_a : (-2147483648) ≤ x1) (x1_b : x1 ≤ 2147483647) (x2_a : (-2147483648) ≤ x2) (x2_b : x2 ≤ 2147483647) (x3_a : 0 ≤ x3) (x3_b : x3 ≤ 1) (x4_a : 0 ≤ x4) (x4_b : x4 ≤ 940) (x5_a : 0 ≤ x5) (x5_b : x5 ≤ 940) (x6_a : 0 ≤ x6) (x6_b : x6 ≤ 940) (x7_a : 0 ≤ x7) (x7_b : x7 ≤ 940) (x8_a : 0 ≤ x8) (x8_b : x8 ≤ 940) (x9_a : 0 ≤ x9) (x9_b : x9 ≤ 4) (x10_a : (-2147483648) ≤ x10) (x10_b : x10 ≤ 2147483647) (x11_a : (-2147483648) ≤ x11) (x11_b : x11 ≤ 2147483647) (x12_a : 0 ≤ x12) (x12_b : x12 ≤ 940) (x13_a : (-2147483648) ≤ x13) (x13_b : x13 ≤ 2147483647) (x14_a : 0 ≤ x14) (x14_b : x14 ≤ 8) (x15_a : 0 ≤ x15) (x15_b : x15 ≤ 9) (x16_a : (-1) ≤ x16) (x16_b : x16 ≤ 9) (x17_a : (-1) ≤ x17) (x17_b : x17 ≤ 8) (x18_a : 0 ≤ x18) (x18_b : x18 ≤ 9) (x19_a : 0 ≤ x19) (x19_b : x19 ≤ 64) (x20_a : 0 ≤ x20) (x20_b : x20 ≤ 40) (x21_a : 0 ≤ x21) (x21_b : x21 ≤ 40) (x22_a : 0 ≤ x22) (x22_b : x22 ≤ 20) (x23_a : 0 ≤ x23) (x23_b : x23 ≤ 8) (x24_a : 0 ≤ x24) (x24_b : x24 ≤ 39) (f0_h : nowI f0) (f1_h : FL f1) (pp_s : snI f1 x14) (pr_0 : 0 ≤ ((x0 + 4294967296) - (x3 * 4294967296))) (pr_1 : 0 ≤ (((2 - x0) + 4294967296) - (x3 * 4294967296))) (pr_2 : 0 ≤ ((x1 + 4294967296) - (x3 * 4294967296))) (pr_3 : 0 ≤ (((8 - x1) + 4294967296) - (x3 * 4294967296))) : Met l yX12_act (Cond.code yX12_act cX12_act 7 (some .int) :: GW) (Rm 2 0 0) (cPre [.ref a0, .int (iI 1), .int (iI x0), .int (iI x1), .int (iI x2), .int (iI x3)] D T [(a0, .inr (11, [.int r0, .ref a1, .int (iI x4), .int (iI x5), .int (iI x6), .int (iI x7), .int (iI x8), .int (iI x9), .int r1, .int (iI x10), .int (iI x11), .int (iI x12), .long y0, .int (iI x13), .ref a2, .ref a3, .ref a4, .ref a5, .ref a6, .ref a7, .ref a8, .ref a9, .ref a10, .ref a11, .int (iI x14), .ref a12, .ref a13, .ref a14, .ref a15, .int (iI x15), .int r2, .int r3, .ref a16, .int (iI x16), .int (iI x17), .ref a17, .ref a18, .int (iI x18), .ref a19, .int (iI x19), .int r4, .ref a20, .ref a21, .int (iI x20), .int r5, .ref a22, .int (iI x21), .int (iI x22), .int (iI x23), .int (iI x24)])), (a2, .inl (T 0, 329, .inl (cI f0))), (a5, .inl (T 0, 272, .inl (cI f1)))] sz) (qI D [(a0, .inr (11, [.int r0, .ref a1, .int (iI x4), .int (iI x5), .int (iI x6), .int (iI x7), .int (iI x8), .int (iI x9), .int r1, .int (iI x10), .int (iI x11), .int (iI x12), .long y0, .int (iI x13), .ref a2, .ref a3, .ref a4, .ref a5, .ref a6, .ref a7, .ref a8, .ref a9, .ref a10, .ref a11, .int (iI x14), .ref a12, .ref a13, .ref a14, .ref a15, .int (iI x15), .int r2, .int r3, .ref a16, .int (iI x16), .int (iI x17), .ref a17, .ref a18, .int (iI x18), .ref a19, .int (iI x19), .int r4, .ref a20, .ref a21, .int (iI x20), .int r5, .ref a22, .int (iI x21), .int (iI x22), .int (iI x23), .int (iI x24)])), (a2, .inl (T 0, 329, .inl (cI f0))), (a5, .inl (T 0, 272, .inl (cI f1)))] sz (fun (v : Int32) (u : Int × Int × (Int → Int) × (Int → Int)) => iI u.1 = v ∧ (-2147483648) ≤ u.1 ∧ u.1 ≤ 2147483647 ∧ 0 ≤ u.2.1 ∧ u.2.1 ≤ 8 ∧ nowI u.2.2.1 ∧ FL u.2.2.2 ∧ (snI u.2.2.2 u.2.1) ∧ (kp 53 f0 u.2.2.1)) (fun u => [(a0, .inr (11, [.int r0, .ref a1, .int (iI x4), .int (iI x5), .int (iI x6), .int (iI x7), .int (iI x8), .int (iI x9), .int r1, .int (iI x10), .int (iI x11), .int (iI x12), .long y0, .int (iI x13), .ref a2, .ref a3, .ref a4, .ref a5, .ref a6, .ref a7, .ref a8, .ref a9, .ref a10, .ref a11, .int (iI u.2.1), .ref a12, .ref a13, .ref a14, .ref a15, .int (iI x15), .int r2, .int r3, .ref a16, .int (iI x16), .int (iI x17), .ref a17, .ref a18, .int (iI x18), .ref a19, .int (iI x19), .int r4, .ref a20, .ref a21, .int (iI x20), .int r5, .ref a22, .int (iI x21), .int (iI x22), .int (iI x23), .int (iI x24)])), (a2, .inl (T 0, 329, .inl (cI u.2.2.1))), (a5, .inl (T 0, 272, .inl (cI u.2.2.2)))])) 0 0 (va_A [(a0, .inr (11, [.int r0, .ref a1, .int (iI x4), .int (iI x5), .int (iI x6), .int (iI x7), .int (iI x8), .int (iI x9), .int r1, .int (iI x10), .int (iI x11), .int (iI x12), .long y0, .int (iI x13), .ref a2, .ref a3, .ref a4, .ref a5, .ref a6, .ref a7, .ref a8, .ref a9, .ref a10, .ref a11, .int (iI x14), .ref a12, .ref a13, .ref a14, .ref a15, .int (iI x15), .int r2, .int r3, .ref a16, .int (iI x16), .int (iI x17), .ref a17, .ref a18, .int (iI x18), .ref a19, .int (iI x19), .int r4, .ref a20, .ref a21, .int (iI x20), .int r5, .ref a22, .int (iI x21), .int (iI x22), .int (iI x23), .int (iI x24)])), (a2, .inl (T 0, 329, .inl (cI f0))), (a5, .inl (T 0, 272, .inl (cI f1)))] sz) := by
  refine e_I (by decide) (Nat.le_of_ble_eq_true rfl) ?_
  intro p e s m args below meth c A Q ls M hin w ret hl
  have hx := M.1.1
  have hb := M.1.2.1
  have hl : lv_has ls 7 [(0, .ref a0), (1, .int (iI 1)), (2, .int (iI x0)), (3, .int (iI x1)), (4, .int (iI x2)), (5, .int (iI x3))] := hl
  refine lv_iload hx hb dX12_act_0 (lv_at hl 5 rfl) ?_
  refine lv_if_ne (tgt := 7) hx hb dX12_act_2 (by decide) (fun c_1 => ?_) (fun c_1 => ?_)
  · replace c_1 : ¬ x3 = 0 := fun h => c_1 ((iz_eq (Int.le_trans (by decide) x3_a) (Int.le_trans x3_b (by decide))).mpr h)
    refine lv_aload_n hx hb dX12_act_7 rfl (lv_at hl 0 rfl) ?_
    refine lv_iload_n hx hb dX12_act_8 rfl (lv_at hl 1 rfl) ?_
    refine lv_iload_n hx hb dX12_act_9 rfl (lv_at hl 2 rfl) ?_
    refine lv_iload_n hx hb dX12_act_10 rfl (lv_at hl 3 rfl) ?_
    refine lv_iload hx hb dX12_act_11 (lv_at hl 4 rfl) ?_
    refine k_I (ce := 0) (sl := 0) (rest := []) (wr := [(a5, .inl (T 0, 272, .inl (cI f1)))]) (r_V (f := 1) [0, 1] M w V_HookedCityModel_280 G1792 G79 (c85_X12_why l D T _ a0 x0 x1 x2 r0 a1 x4 x5 x6 x7 x8 x9 r1 x10 x11 x12 y0 x13 a2 a3 a4 a5 a6 a7 a8 a9 a10 a11 x14 a12 a13 a14 a15 x15 r2 r3 a16 x16 x17 a17 a18 x18 a19 x19 r4 a20 a21 x20 r5 a22 x21 x22 x23 x24 f0 (by omega) (by omega) (by omega) (by omega) x2_a x2_b x4_a x4_b x5_a x5_b x6_a x6_b x7_a x7_b x8_a x8_b x9_a x9_b x10_a x10_b x11_a x11_b x12_a x12_b x13_a x13_b x14_a x14_b x15_a x15_b x16_a x16_b x17_a x17_b x18_a x18_b x19_a x19_b x20_a x20_b x21_a x21_b x22_a x22_b x23_a x23_b x24_a x24_b f0_h) 0 clX12 rfl rfl (by decide) rfl hl.1 rfl (Nat.le_of_ble_eq_true rfl) dX12_act_13 (by decide) (by decide) (by decide) (by decide)) w [0, 1] [2] rfl rfl (by decide) (by decide) rfl rfl (fun v z2 H locs hp w => ?_)
    have hv : iI z2 = v := hp.1
    subst hv
    have z2_a : 0 ≤ z2 := hp.2.1
    have z2_b : z2 ≤ 7 := hp.2.2
    have w : WD D A s.heap [(a5, .inl (T 0, 272, .inl (cI f1))), (a0, .inr (11, [.int r0, .ref a1, .int (iI x4), .int (iI x5), .int (iI x6), .int (iI x7), .int (iI x8), .int (iI x9), .int r1, .int (iI x10), .int (iI x11), .int (iI x12), .long y0, .int (iI x13), .ref a2, .ref a3, .ref a4, .ref a5, .ref a6, .ref a7, .ref a8, .ref a9, .ref a10, .ref a11, .int (iI x14), .ref a12, .ref a13, .ref a14, .ref a15, .int (iI x15), .int r2, .int r3, .ref a16, .int (iI x16), .int (iI x17), .ref a17, .ref a18, .int (iI x18), .ref a19, .int (iI x19), .int r4, .ref a20, .ref a21, .int (iI x20), .int r5, .ref a22, .int (iI x21), .int (iI x22), .int (iI x23), .int (iI x24)])), (a2, .inl (T 0, 329, .inl (cI f0)))] H locs := w
    refine lv_istore (lv' := [(6, .int (iI z2)), (0, .ref a0), (1, .int (iI 1)), (2, .int (iI x0)), (3, .int (iI x1)), (4, .int (iI x2)), (5, .int (iI x3))]) hx hb dX12_act_16 hl (by decide) rfl (fun ls hl => ?_)
    refine lv_iload hx hb dX12_act_18 (lv_at hl 0 rfl) ?_
    refine lv_if_eq (tgt := 26) hx hb dX12_act_20 (by decide) (fun c_3 => ?_) (fun c_3 => ?_)
    · replace c_3 := (iz_eq (Int.le_trans (by decide) z2_a) (Int.le_trans z2_b (by decide))).mp c_3
      refine lv_aload_n hx hb dX12_act_26 rfl (lv_at hl 1 rfl) ?_
      refine k_V (ce := 0) (sl := 0) (rest := []) (wr := []) (r_V (f := 0) [1, 2, 0] M w V_HookedCityModel_284 G1804 G82 (c80_X12_snap l D T _ a0 r0 a1 x4 x5 x6 x7 x8 x9 r1 x10 x11 x12 y0 x13 a2 a3 a4 a5 a6 a7 a8 a9 a10 a11 x14 a12 a13 a14 a15 x15 r2 r3 a16 x16 x17 a17 a18 x18 a19 x19 r4 a20 a21 x20 r5 a22 x21 x22 x23 x24 f0 f1 x4_a x4_b x5_a x5_b x6_a x6_b x7_a x7_b x8_a x8_b x9_a x9_b x10_a x10_b x11_a x11_b x12_a x12_b x13_a x13_b x14_a x14_b x15_a x15_b x16_a x16_b x17_a x17_b x18_a x18_b x19_a x19_b x20_a x20_b x21_a x21_b x22_a x22_b x23_a x23_b x24_a x24_b f0_h f1_h pp_s) 1 clX12 rfl rfl (by decide) rfl hl.1 rfl (Nat.le_of_ble_eq_true rfl) dX12_act_27 (by decide) (by decide) (by decide) (by decide)) w [1, 2, 0] [] rfl rfl (by decide) (by decide) rfl rfl (fun u H locs hp w => ?_)
      obtain ⟨z4, ff5⟩ := u
      have z4_a : 0 ≤ z4 := hp.1
      have z4_b : z4 ≤ 8 := hp.2.1
      have ff5_h : FL ff5 := hp.2.2.1
      have pq6 : snI ff5 z4 := hp.2.2.2
      have w : WD D A s.heap [(a0, .inr (11, [.int r0, .ref a1, .int (iI x4), .int (iI x5), .int (iI x6), .int (iI x7), .int (iI x8), .int (iI x9), .int r1, .int (iI x10), .int (iI x11), .int (iI x12), .long y0, .int (iI x13), .ref a2, .ref a3, .ref a4, .ref a5, .ref a6, .ref a7, .ref a8, .ref a9, .ref a10, .ref a11, .int (iI z4), .ref a12, .ref a13, .ref a14, .ref a15, .int (iI x15), .int r2, .int r3, .ref a16, .int (iI x16), .int (iI x17), .ref a17, .ref a18, .int (iI x18), .ref a19, .int (iI x19), .int r4, .ref a20, .ref a21, .int (iI x20), .int r5, .ref a22, .int (iI x21), .int (iI x22), .int (iI x23), .int (iI x24)])), (a2, .inl (T 0, 329, .inl (cI f0))), (a5, .inl (T 0, 272, .inl (cI ff5)))] H locs := w
      refine lv_aload_n hx hb dX12_act_30 rfl (lv_at hl 1 rfl) ?_
      refine lv_iload_n hx hb dX12_act_31 rfl (lv_at hl 2 rfl) ?_
      refine lv_iload_n hx hb dX12_act_32 rfl (lv_at hl 3 rfl) ?_
      refine lv_iload_n hx hb dX12_act_33 rfl (lv_at hl 4 rfl) ?_
      refine lv_iload hx hb dX12_act_34 (lv_at hl 5 rfl) ?_
      refine k_V (ce := 0) (sl := 0) (rest := []) (wr := [(a5, .inl (T 0, 272, .inl (cI ff5)))]) (r_V (f := 1) [0, 1] M w V_HookedCityModel_287 G1808 G83 (c86_X12_live l D T _ a0 x0 x1 x2 r0 a1 x4 x5 x6 x7 x8 x9 r1 x10 x11 x12 y0 x13 a2 a3 a4 a5 a6 a7 a8 a9 a10 a11 z4 a12 a13 a14 a15 x15 r2 r3 a16 x16 x17 a17 a18 x18 a19 x19 r4 a20 a21 x20 r5 a22 x21 x22 x23 x24 f0 (by omega) (by omega) (by omega) (by omega) x2_a x2_b x4_a x4_b x5_a x5_b x6_a x6_b x7_a x7_b x8_a x8_b x9_a x9_b x10_a x10_b x11_a x11_b x12_a x12_b x13_a x13_b z4_a z4_b x15_a x15_b x16_a x16_b x17_a x17_b x18_a x18_b x19_a x19_b x20_a x20_b x21_a x21_b x22_a x22_b x23_a x23_b x24_a x24_b f0_h) 0 clX12 rfl rfl (by decide) rfl hl.1 rfl (Nat.le_of_ble_eq_true rfl) dX12_act_36 (by decide) (by decide) (by decide) (by decide)) w [0, 1] [2] rfl rfl (by decide) (by decide) rfl rfl (fun ff7 H locs hp w => ?_)
      have ff7_h : nowI ff7 := hp.1
      have pq8 : kp 53 f0 ff7 := hp.2
      have w : WD D A s.heap [(a5, .inl (T 0, 272, .inl (cI ff5))), (a0, .inr (11, [.int r0, .ref a1, .int (iI x4), .int (iI x5), .int (iI x6), .int (iI x7), .int (iI x8), .int (iI x9), .int r1, .int (iI x10), .int (iI x11), .int (iI x12), .long y0, .int (iI x13), .ref a2, .ref a3, .ref a4, .ref a5, .ref a6, .ref a7, .ref a8, .ref a9, .ref a10, .ref a11, .int (iI z4), .ref a12, .ref a13, .ref a14, .ref a15, .int (iI x15), .int r2, .int r3, .ref a16, .int (iI x16), .int (iI x17), .ref a17, .ref a18, .int (iI x18), .ref a19, .int (iI x19), .int r4, .ref a20, .ref a21, .int (iI x20), .int r5, .ref a22, .int (iI x21), .int (iI x22), .int (iI x23), .int (iI x24)])), (a2, .inl (T 0, 329, .inl (cI ff7)))] H locs := w
      refine lv_iconst (v := iI 0) hx hb dX12_act_39 (by decide +kernel) ?_
      exact ret _ (0, z4, ff7, ff5) _ _ _ _ _ [1, 2, 0] dX12_act_40 ⟨rfl, (show (-2147483648) ≤ 0 from by decide), (show (0 : Int) ≤ 2147483647 from by decide), z4_a, z4_b, ff7_h, ff5_h, (show snI ff5 z4 from pq6), (show kp 53 f0 ff7 from pq8)⟩ w (by decide) rfl
    · replace c_3 : ¬ z2 = 0 := fun h => c_3 ((iz_eq (Int.le_trans (by decide) z2_a) (Int.le_trans z2_b (by decide))).mpr h)
      refine lv_iload hx hb dX12_act_23 (lv_at hl 0 rfl) ?_
      exact ret _ (z2, x14, f0, f1) _ _ _ _ _ [1, 2, 0] dX12_act_25 ⟨rfl, (show (-2147483648) ≤ z2 from by omega), (show z2 ≤ 2147483647 from by omega), x14_a, x14_b, f0_h, f1_h, (show snI f1 x14 from pp_s), (show kp 53 f0 f0 from kp_rfl)⟩ w (by decide) rfl
  · replace c_1 := (iz_eq (Int.le_trans (by decide) x3_a) (Int.le_trans x3_b (by decide))).mp c_1
    refine lv_iconst (v := iI (-1)) hx hb dX12_act_5 (by decide +kernel) ?_
    exact ret _ ((-1), x14, f0, f1) _ _ _ _ _ [0, 1, 2] dX12_act_6 ⟨rfl, (show (-2147483648) ≤ (-1) from by decide), (show ((-1) : Int) ≤ 2147483647 from by decide), x14_a, x14_b, f0_h, f1_h, (show snI f1 x14 from pp_s), (show kp 53 f0 f0 from kp_rfl)⟩ w (by decide) rfl
set_option maxRecDepth 100000 in
set_option maxHeartbeats 4000000 in
theorem c88_X12_loose (l : Launch) (D : va_G) (T : Nat → ClassId) (sz : Nat) (a0 : Nat) (x0 : Int) (x1 : Int) (r0 : Int32) (a1 : Nat) (x2 : Int) (x3 : Int) (x4 : Int) (x5 : Int) (x6 : Int) (x7 : Int) (r1 : Int32) (x8 : Int) (x9 : Int) (x10 : Int) (y0 : Int64) (x11 : Int) (a2 : Nat) (a3 : Nat) (a4 : Nat) (a5 : Nat) (a6 : Nat) (a7 : Nat) (a8 : Nat) (a9 : Nat) (a10 : Nat) (a11 : Nat) (x12 : Int) (a12 : Nat) (a13 : Nat) (a14 : Nat) (a15 : Nat) (x13 : Int) (r2 : Int32) (r3 : Int32) (a16 : Nat) (x14 : Int) (x15 : Int) (a17 : Nat) (a18 : Nat) (x16 : Int) (a19 : Nat) (x17 : Int) (r4 : Int32) (a20 : Nat) (a21 : Nat) (x18 : Int) (r5 : Int32) (a22 : Nat) (x19 : Int) (x20 : Int) (x21 : Int) (x22 : Int) (f0 : Int → Int) (f1 : Int → Int) (x0_a : (-2147483648) ≤ x0) (x0_b : x0 ≤ 2147483647) (x1_a : (-2147483648) ≤ x1) (x1_b : x1 ≤ 2147483647) (x2_a : 0 ≤ x2) (x2_b : x2 ≤ 940) (x3_a : 0 ≤ x3) (x3_b : x3 ≤ 940) (x4_a : 0 ≤ x4) (x4_b : x4 ≤ 940) (x5_a : 0 ≤ x5) (x5_b : x5 ≤ 940) (x6_a : 0 ≤ x6) (x6_b : x6 ≤ 940) (x7_a : 0 ≤ x7) (x7_b : x7 ≤ 4) (x8_a : (-2147483648) ≤ x8) (x8_b : x8 ≤ 2147483647) (x9_a : (-2147483648) ≤ x9) (x9_b : x9 ≤ 2147483647) (x10_a : 0 ≤ x10) (x10_b : x10 ≤ 940) (x11_a : (-2147483648) ≤ x11) (x11_b : x11 ≤ 2147483647) (x12_a : 0 ≤ x12) (x12_b : x12 ≤ 8) (x13_a : 0 ≤ x13) (x13_b : x13 ≤ 9) (x14_a : (-1) ≤ x14) (x14_b : x14 ≤ 9) (x15_a : (-1) ≤ x15) (x15_b : x15 ≤ 8) (x16_a : 0 ≤ x16) (x16_b : x16 ≤ 9) (x17_a : 0 ≤ x17) (x17_b : x17 ≤ 64) (x18_a : 0 ≤ x18) (x18_b : x18 ≤ 40) (x19_a : 0 ≤ x19) (x19_b : x19 ≤ 40) (x20_a : 0 ≤ x20) (x20_b : x20 ≤ 20) (x21_a : 0 ≤ x21) (x21_b : x21 ≤ 8) (x22_a : 0 ≤ x22) (x22_b : x22 ≤ 39) (f0_h : nowI f0) (f1_h : FL f1) (pp_s : snI f1 x12) : Met l yX12_loose (Cond.code yX12_loose cX12_loose 3 (some .int) :: GW) (Rm 3 0 0) (cPre [.ref a0, .int (iI x0), .int (iI x1)] D T [(a0, .inr (11, [.int r0, .ref a1, .int (iI x2), .int (iI x3), .int (iI x4), .int (iI x5), .int (iI x6), .int (iI x7), .int r1, .int (iI x8), .int (iI x9), .int (iI x10), .long y0, .int (iI x11), .ref a2, .ref a3, .ref a4, .ref a5, .ref a6, .ref a7, .ref a8, .ref a9, .ref a10, .ref a11, .int (iI x12), .ref a12, .ref a13, .ref a14, .ref a15, .int (iI x13), .int r2, .int r3, .ref a16, .int (iI x14), .int (iI x15), .ref a17, .ref a18, .int (iI x16), .ref a19, .int (iI x17), .int r4, .ref a20, .ref a21, .int (iI x18), .int r5, .ref a22, .int (iI x19), .int (iI x20), .int (iI x21), .int (iI x22)])), (a2, .inl (T 0, 329, .inl (cI f0))), (a5, .inl (T 0, 272, .inl (cI f1)))] sz) (qI D [(a0, .inr (11, [.int r0, .ref a1, .int (iI x2), .int (iI x3), .int (iI x4), .int (iI x5), .int (iI x6), .int (iI x7), .int r1, .int (iI x8), .int (iI x9), .int (iI x10), .long y0, .int (iI x11), .ref a2, .ref a3, .ref a4, .ref a5, .ref a6, .ref a7, .ref a8, .ref a9, .ref a10, .ref a11, .int (iI x12), .ref a12, .ref a13, .ref a14, .ref a15, .int (iI x13), .int r2, .int r3, .ref a16, .int (iI x14), .int (iI x15), .ref a17, .ref a18, .int (iI x16), .ref a19, .int (iI x17), .int r4, .ref a20, .ref a21, .int (iI x18), .int r5, .ref a22, .int (iI x19), .int (iI x20), .int (iI x21), .int (iI x22)])), (a2, .inl (T 0, 329, .inl (cI f0))), (a5, .inl (T 0, 272, .inl (cI f1)))] sz (fun (v : Int32) (u : Int × Int32 × Int × (Int → Int) × (Int → Int)) => iI u.1 = v ∧ (-2147483648) ≤ u.1 ∧ u.1 ≤ 2147483647 ∧ 0 ≤ u.2.2.1 ∧ u.2.2.1 ≤ 8 ∧ nowI u.2.2.2.1 ∧ FL u.2.2.2.2 ∧ (snI u.2.2.2.2 u.2.2.1) ∧ (kp 53 f0 u.2.2.2.1)) (fun u => [(a0, .inr (11, [.int u.2.1, .ref a1, .int (iI x2), .int (iI x3), .int (iI x4), .int (iI x5), .int (iI x6), .int (iI x7), .int r1, .int (iI x8), .int (iI x9), .int (iI x10), .long y0, .int (iI x11), .ref a2, .ref a3, .ref a4, .ref a5, .ref a6, .ref a7, .ref a8, .ref a9, .ref a10, .ref a11, .int (iI u.2.2.1), .ref a12, .ref a13, .ref a14, .ref a15, .int (iI x13), .int r2, .int r3, .ref a16, .int (iI x14), .int (iI x15), .ref a17, .ref a18, .int (iI x16), .ref a19, .int (iI x17), .int r4, .ref a20, .ref a21, .int (iI x18), .int r5, .ref a22, .int (iI x19), .int (iI x20), .int (iI x21), .int (iI x22)])), (a2, .inl (T 0, 329, .inl (cI u.2.2.2.1))), (a5, .inl (T 0, 272, .inl (cI u.2.2.2.2)))])) 0 0 (va_A [(a0, .inr (11, [.int r0, .ref a1, .int (iI x2), .int (iI x3), .int (iI x4), .int (iI x5), .int (iI x6), .int (iI x7), .int r1, .int (iI x8), .int (iI x9), .int (iI x10), .long y0, .int (iI x11), .ref a2, .ref a3, .ref a4, .ref a5, .ref a6, .ref a7, .ref a8, .ref a9, .ref a10, .ref a11, .int (iI x12), .ref a12, .ref a13, .ref a14, .ref a15, .int (iI x13), .int r2, .int r3, .ref a16, .int (iI x14), .int (iI x15), .ref a17, .ref a18, .int (iI x16), .ref a19, .int (iI x17), .int r4, .ref a20, .ref a21, .int (iI x18), .int r5, .ref a22, .int (iI x19), .int (iI x20), .int (iI x21), .int (iI x22)])), (a2, .inl (T 0, 329, .inl (cI f0))), (a5, .inl (T 0, 272, .inl (cI f1)))] sz) := by
  refine e_I (by decide) (Nat.le_of_ble_eq_true rfl) ?_
  intro p e s m args below meth c A Q ls M hin w ret hl
  have hx := M.1.1
  have hb := M.1.2.1
  have hl : lv_has ls 3 [(0, .ref a0), (1, .int (iI x0)), (2, .int (iI x1))] := hl
  refine lv_aload_n hx hb dX12_loose_0 rfl (lv_at hl 0 rfl) ?_
  refine lv_iconst (v := iI 0) hx hb dX12_loose_1 (by decide +kernel) ?_
  refine r_put (ws' := [(a0, .inr (11, [.int (iI 0), .ref a1, .int (iI x2), .int (iI x3), .int (iI x4), .int (iI x5), .int (iI x6), .int (iI x7), .int r1, .int (iI x8), .int (iI x9), .int (iI x10), .long y0, .int (iI x11), .ref a2, .ref a3, .ref a4, .ref a5, .ref a6, .ref a7, .ref a8, .ref a9, .ref a10, .ref a11, .int (iI x12), .ref a12, .ref a13, .ref a14, .ref a15, .int (iI x13), .int r2, .int r3, .ref a16, .int (iI x14), .int (iI x15), .ref a17, .ref a18, .int (iI x16), .ref a19, .int (iI x17), .int r4, .ref a20, .ref a21, .int (iI x18), .int r5, .ref a22, .int (iI x19), .int (iI x20), .int (iI x21), .int (iI x22)])), (a2, .inl (T 0, 329, .inl (cI f0))), (a5, .inl (T 0, 272, .inl (cI f1)))]) M w 0 0 clX12 rfl (by decide) G1463 rfl rfl rfl rfl (Nat.le_of_ble_eq_true rfl) rfl dX12_loose_2 (fun H locs w => ?_)
  refine lv_aload_n hx hb dX12_loose_5 rfl (lv_at hl 0 rfl) ?_
  refine lv_iconst (v := iI 1) hx hb dX12_loose_6 (by decide +kernel) ?_
  refine lv_iload_n hx hb dX12_loose_7 rfl (lv_at hl 1 rfl) ?_
  refine lv_iload_n hx hb dX12_loose_8 rfl (lv_at hl 2 rfl) ?_
  refine lv_iconst (v := iI 0) hx hb dX12_loose_9 (by decide +kernel) ?_
  refine lv_aload_n hx hb dX12_loose_10 rfl (lv_at hl 0 rfl) ?_
  refine lv_iload_n hx hb dX12_loose_11 rfl (lv_at hl 1 rfl) ?_
  refine k_I (ce := 0) (sl := 0) (rest := [.int (iI 0), .int (iI x1), .int (iI x0), .int (iI 1), .ref a0]) (wr := [(a5, .inl (T 0, 272, .inl (cI f1)))]) (r_V (f := 1) [0, 1] M w V_HookedCityModel_252 G1756 G72 (c69_X12_isMaid l D T _ a0 x0 (iI 0) a1 x2 x3 x4 x5 x6 x7 r1 x8 x9 x10 y0 x11 a2 a3 a4 a5 a6 a7 a8 a9 a10 a11 x12 a12 a13 a14 a15 x13 r2 r3 a16 x14 x15 a17 a18 x16 a19 x17 r4 a20 a21 x18 r5 a22 x19 x20 x21 x22 f0 x0_a x0_b x2_a x2_b x3_a x3_b x4_a x4_b x5_a x5_b x6_a x6_b x7_a x7_b x8_a x8_b x9_a x9_b x10_a x10_b x11_a x11_b x12_a x12_b x13_a x13_b x14_a x14_b x15_a x15_b x16_a x16_b x17_a x17_b x18_a x18_b x19_a x19_b x20_a x20_b x21_a x21_b x22_a x22_b f0_h) 0 clX12 rfl rfl (by decide) rfl hl.1 rfl (Nat.le_of_ble_eq_true rfl) dX12_loose_12 (by decide) (by decide) (by decide) (by decide)) w [0, 1] [2] rfl rfl (by decide) (by decide) rfl rfl (fun v z1 H locs hp w => ?_)
  have hv : iI z1 = v := hp.1
  subst hv
  have z1_a : 0 ≤ z1 := hp.2.1
  have z1_b : z1 ≤ 1 := hp.2.2.1
  have ee2 : 0 ≤ ((x0 + 4294967296) - (z1 * 4294967296)) := hp.2.2.2.1
  have ee3 : 0 ≤ (((2 - x0) + 4294967296) - (z1 * 4294967296)) := hp.2.2.2.2
  have w : WD D A s.heap [(a5, .inl (T 0, 272, .inl (cI f1))), (a0, .inr (11, [.int (iI 0), .ref a1, .int (iI x2), .int (iI x3), .int (iI x4), .int (iI x5), .int (iI x6), .int (iI x7), .int r1, .int (iI x8), .int (iI x9), .int (iI x10), .long y0, .int (iI x11), .ref a2, .ref a3, .ref a4, .ref a5, .ref a6, .ref a7, .ref a8, .ref a9, .ref a10, .ref a11, .int (iI x12), .ref a12, .ref a13, .ref a14, .ref a15, .int (iI x13), .int r2, .int r3, .ref a16, .int (iI x14), .int (iI x15), .ref a17, .ref a18, .int (iI x16), .ref a19, .int (iI x17), .int r4, .ref a20, .ref a21, .int (iI x18), .int r5, .ref a22, .int (iI x19), .int (iI x20), .int (iI x21), .int (iI x22)])), (a2, .inl (T 0, 329, .inl (cI f0)))] H locs := w
  refine lv_if_eq (tgt := 30) hx hb dX12_loose_15 (by decide) (fun c_4 => ?_) (fun c_4 => ?_)
  · replace c_4 := (iz_eq (Int.le_trans (by decide) z1_a) (Int.le_trans z1_b (by decide))).mp c_4
    refine lv_iconst (v := iI 0) hx hb dX12_loose_30 (by decide +kernel) ?_
    refine k_I (ce := 0) (sl := 0) (rest := []) (wr := []) (r_V (f := 2) [1, 2, 0] M w V_HookedCityModel_291 G1788 G78 (c87_X12_act l D T _ a0 x0 x1 0 0 (iI 0) a1 x2 x3 x4 x5 x6 x7 r1 x8 x9 x10 y0 x11 a2 a3 a4 a5 a6 a7 a8 a9 a10 a11 x12 a12 a13 a14 a15 x13 r2 r3 a16 x14 x15 a17 a18 x16 a19 x17 r4 a20 a21 x18 r5 a22 x19 x20 x21 x22 f0 f1 x0_a x0_b x1_a x1_b (by decide) (by decide) (by decide) (by decide) x2_a x2_b x3_a x3_b x4_a x4_b x5_a x5_b x6_a x6_b x7_a x7_b x8_a x8_b x9_a x9_b x10_a x10_b x11_a x11_b x12_a x12_b x13_a x13_b x14_a x14_b x15_a x15_b x16_a x16_b x17_a x17_b x18_a x18_b x19_a x19_b x20_a x20_b x21_a x21_b x22_a x22_b f0_h f1_h pp_s (by omega) (by omega) (by omega) (by omega)) 1 clX12 rfl rfl (by decide) rfl hl.1 rfl (Nat.le_of_ble_eq_true rfl) dX12_loose_31 (by decide) (by decide) (by decide) (by decide)) w [1, 2, 0] [] rfl rfl (by decide) (by decide) rfl rfl (fun v u H locs hp w => ?_)
    obtain ⟨z5, z6, ff7, ff8⟩ := u
    have hv : iI z5 = v := hp.1
    subst hv
    have z5_a : (-2147483648) ≤ z5 := hp.2.1
    have z5_b : z5 ≤ 2147483647 := hp.2.2.1
    have z6_a : 0 ≤ z6 := hp.2.2.2.1
    have z6_b : z6 ≤ 8 := hp.2.2.2.2.1
    have ff7_h : nowI ff7 := hp.2.2.2.2.2.1
    have ff8_h : FL ff8 := hp.2.2.2.2.2.2.1
    have pq9 : snI ff8 z6 := hp.2.2.2.2.2.2.2.1
    have pq10 : kp 53 f0 ff7 := hp.2.2.2.2.2.2.2.2
    have w : WD D A s.heap [(a0, .inr (11, [.int (iI 0), .ref a1, .int (iI x2), .int (iI x3), .int (iI x4), .int (iI x5), .int (iI x6), .int (iI x7), .int r1, .int (iI x8), .int (iI x9), .int (iI x10), .long y0, .int (iI x11), .ref a2, .ref a3, .ref a4, .ref a5, .ref a6, .ref a7, .ref a8, .ref a9, .ref a10, .ref a11, .int (iI z6), .ref a12, .ref a13, .ref a14, .ref a15, .int (iI x13), .int r2, .int r3, .ref a16, .int (iI x14), .int (iI x15), .ref a17, .ref a18, .int (iI x16), .ref a19, .int (iI x17), .int r4, .ref a20, .ref a21, .int (iI x18), .int r5, .ref a22, .int (iI x19), .int (iI x20), .int (iI x21), .int (iI x22)])), (a2, .inl (T 0, 329, .inl (cI ff7))), (a5, .inl (T 0, 272, .inl (cI ff8)))] H locs := w
    exact ret _ (z5, (iI 0), z6, ff7, ff8) _ _ _ _ _ [0, 1, 2] dX12_loose_34 ⟨rfl, z5_a, z5_b, z6_a, z6_b, ff7_h, ff8_h, (show snI ff8 z6 from pq9), (show kp 53 f0 ff7 from pq10)⟩ w (by decide) rfl
  · replace c_4 : ¬ z1 = 0 := fun h => c_4 ((iz_eq (Int.le_trans (by decide) z1_a) (Int.le_trans z1_b (by decide))).mpr h)
    refine lv_aload_n hx hb dX12_loose_18 rfl (lv_at hl 0 rfl) ?_
    refine lv_iload_n hx hb dX12_loose_19 rfl (lv_at hl 2 rfl) ?_
    refine k_I (ce := 0) (sl := 0) (rest := [.int (iI 0), .int (iI x1), .int (iI x0), .int (iI 1), .ref a0]) (wr := [(a5, .inl (T 0, 272, .inl (cI f1)))]) (r_V (f := 1) [1, 2] M w V_HookedCityModel_240 G1736 G68 (c68_X12_isPerson l D T _ a0 x1 (iI 0) a1 x2 x3 x4 x5 x6 x7 r1 x8 x9 x10 y0 x11 a2 a3 a4 a5 a6 a7 a8 a9 a10 a11 x12 a12 a13 a14 a15 x13 r2 r3 a16 x14 x15 a17 a18 x16 a19 x17 r4 a20 a21 x18 r5 a22 x19 x20 x21 x22 f0 x1_a x1_b x2_a x2_b x3_a x3_b x4_a x4_b x5_a x5_b x6_a x6_b x7_a x7_b x8_a x8_b x9_a x9_b x10_a x10_b x11_a x11_b x12_a x12_b x13_a x13_b x14_a x14_b x15_a x15_b x16_a x16_b x17_a x17_b x18_a x18_b x19_a x19_b x20_a x20_b x21_a x21_b x22_a x22_b f0_h) 1 clX12 rfl rfl (by decide) rfl hl.1 rfl (Nat.le_of_ble_eq_true rfl) dX12_loose_20 (by decide) (by decide) (by decide) (by decide)) w [1, 2] [0] rfl rfl (by decide) (by decide) rfl rfl (fun v z11 H locs hp w => ?_)
    have hv : iI z11 = v := hp.1
    subst hv
    have z11_a : 0 ≤ z11 := hp.2.1
    have z11_b : z11 ≤ 1 := hp.2.2.1
    have ee12 : 0 ≤ ((x1 + 4294967296) - (z11 * 4294967296)) := hp.2.2.2.1
    have ee13 : 0 ≤ (((8 - x1) + 4294967296) - (z11 * 4294967296)) := hp.2.2.2.2.1
    have pq14 : ipQ z11 x1 (f0 0) := hp.2.2.2.2.2
    have w : WD D A s.heap [(a5, .inl (T 0, 272, .inl (cI f1))), (a0, .inr (11, [.int (iI 0), .ref a1, .int (iI x2), .int (iI x3), .int (iI x4), .int (iI x5), .int (iI x6), .int (iI x7), .int r1, .int (iI x8), .int (iI x9), .int (iI x10), .long y0, .int (iI x11), .ref a2, .ref a3, .ref a4, .ref a5, .ref a6, .ref a7, .ref a8, .ref a9, .ref a10, .ref a11, .int (iI x12), .ref a12, .ref a13, .ref a14, .ref a15, .int (iI x13), .int r2, .int r3, .ref a16, .int (iI x14), .int (iI x15), .ref a17, .ref a18, .int (iI x16), .ref a19, .int (iI x17), .int r4, .ref a20, .ref a21, .int (iI x18), .int r5, .ref a22, .int (iI x19), .int (iI x20), .int (iI x21), .int (iI x22)])), (a2, .inl (T 0, 329, .inl (cI f0)))] H locs := w
    refine lv_if_eq (tgt := 30) hx hb dX12_loose_23 (by decide) (fun c_15 => ?_) (fun c_15 => ?_)
    · replace c_15 := (iz_eq (Int.le_trans (by decide) z11_a) (Int.le_trans z11_b (by decide))).mp c_15
      refine lv_iconst (v := iI 0) hx hb dX12_loose_30 (by decide +kernel) ?_
      refine k_I (ce := 0) (sl := 0) (rest := []) (wr := []) (r_V (f := 2) [1, 2, 0] M w V_HookedCityModel_291 G1788 G78 (c87_X12_act l D T _ a0 x0 x1 0 0 (iI 0) a1 x2 x3 x4 x5 x6 x7 r1 x8 x9 x10 y0 x11 a2 a3 a4 a5 a6 a7 a8 a9 a10 a11 x12 a12 a13 a14 a15 x13 r2 r3 a16 x14 x15 a17 a18 x16 a19 x17 r4 a20 a21 x18 r5 a22 x19 x20 x21 x22 f0 f1 x0_a x0_b x1_a x1_b (by decide) (by decide) (by decide) (by decide) x2_a x2_b x3_a x3_b x4_a x4_b x5_a x5_b x6_a x6_b x7_a x7_b x8_a x8_b x9_a x9_b x10_a x10_b x11_a x11_b x12_a x12_b x13_a x13_b x14_a x14_b x15_a x15_b x16_a x16_b x17_a x17_b x18_a x18_b x19_a x19_b x20_a x20_b x21_a x21_b x22_a x22_b f0_h f1_h pp_s (by omega) (by omega) (by omega) (by omega)) 1 clX12 rfl rfl (by decide) rfl hl.1 rfl (Nat.le_of_ble_eq_true rfl) dX12_loose_31 (by decide) (by decide) (by decide) (by decide)) w [1, 2, 0] [] rfl rfl (by decide) (by decide) rfl rfl (fun v u H locs hp w => ?_)
      obtain ⟨z16, z17, ff18, ff19⟩ := u
      have hv : iI z16 = v := hp.1
      subst hv
      have z16_a : (-2147483648) ≤ z16 := hp.2.1
      have z16_b : z16 ≤ 2147483647 := hp.2.2.1
      have z17_a : 0 ≤ z17 := hp.2.2.2.1
      have z17_b : z17 ≤ 8 := hp.2.2.2.2.1
      have ff18_h : nowI ff18 := hp.2.2.2.2.2.1
      have ff19_h : FL ff19 := hp.2.2.2.2.2.2.1
      have pq20 : snI ff19 z17 := hp.2.2.2.2.2.2.2.1
      have pq21 : kp 53 f0 ff18 := hp.2.2.2.2.2.2.2.2
      have w : WD D A s.heap [(a0, .inr (11, [.int (iI 0), .ref a1, .int (iI x2), .int (iI x3), .int (iI x4), .int (iI x5), .int (iI x6), .int (iI x7), .int r1, .int (iI x8), .int (iI x9), .int (iI x10), .long y0, .int (iI x11), .ref a2, .ref a3, .ref a4, .ref a5, .ref a6, .ref a7, .ref a8, .ref a9, .ref a10, .ref a11, .int (iI z17), .ref a12, .ref a13, .ref a14, .ref a15, .int (iI x13), .int r2, .int r3, .ref a16, .int (iI x14), .int (iI x15), .ref a17, .ref a18, .int (iI x16), .ref a19, .int (iI x17), .int r4, .ref a20, .ref a21, .int (iI x18), .int r5, .ref a22, .int (iI x19), .int (iI x20), .int (iI x21), .int (iI x22)])), (a2, .inl (T 0, 329, .inl (cI ff18))), (a5, .inl (T 0, 272, .inl (cI ff19)))] H locs := w
      exact ret _ (z16, (iI 0), z17, ff18, ff19) _ _ _ _ _ [0, 1, 2] dX12_loose_34 ⟨rfl, z16_a, z16_b, z17_a, z17_b, ff18_h, ff19_h, (show snI ff19 z17 from pq20), (show kp 53 f0 ff18 from pq21)⟩ w (by decide) rfl
    · replace c_15 : ¬ z11 = 0 := fun h => c_15 ((iz_eq (Int.le_trans (by decide) z11_a) (Int.le_trans z11_b (by decide))).mpr h)
      refine lv_iconst (v := iI 1) hx hb dX12_loose_26 (by decide +kernel) ?_
      refine lv_goto (tgt := 31) hx hb dX12_loose_27 (by decide) ?_
      refine k_I (ce := 0) (sl := 0) (rest := []) (wr := []) (r_V (f := 2) [1, 2, 0] M w V_HookedCityModel_291 G1788 G78 (c87_X12_act l D T _ a0 x0 x1 0 1 (iI 0) a1 x2 x3 x4 x5 x6 x7 r1 x8 x9 x10 y0 x11 a2 a3 a4 a5 a6 a7 a8 a9 a10 a11 x12 a12 a13 a14 a15 x13 r2 r3 a16 x14 x15 a17 a18 x16 a19 x17 r4 a20 a21 x18 r5 a22 x19 x20 x21 x22 f0 f1 x0_a x0_b x1_a x1_b (by decide) (by decide) (by decide) (by decide) x2_a x2_b x3_a x3_b x4_a x4_b x5_a x5_b x6_a x6_b x7_a x7_b x8_a x8_b x9_a x9_b x10_a x10_b x11_a x11_b x12_a x12_b x13_a x13_b x14_a x14_b x15_a x15_b x16_a x16_b x17_a x17_b x18_a x18_b x19_a x19_b x20_a x20_b x21_a x21_b x22_a x22_b f0_h f1_h pp_s (by omega) (by omega) (by omega) (by omega)) 1 clX12 rfl rfl (by decide) rfl hl.1 rfl (Nat.le_of_ble_eq_true rfl) dX12_loose_31 (by decide) (by decide) (by decide) (by decide)) w [1, 2, 0] [] rfl rfl (by decide) (by decide) rfl rfl (fun v u H locs hp w => ?_)
      obtain ⟨z22, z23, ff24, ff25⟩ := u
      have hv : iI z22 = v := hp.1
      subst hv
      have z22_a : (-2147483648) ≤ z22 := hp.2.1
      have z22_b : z22 ≤ 2147483647 := hp.2.2.1
      have z23_a : 0 ≤ z23 := hp.2.2.2.1
      have z23_b : z23 ≤ 8 := hp.2.2.2.2.1
      have ff24_h : nowI ff24 := hp.2.2.2.2.2.1
      have ff25_h : FL ff25 := hp.2.2.2.2.2.2.1
      have pq26 : snI ff25 z23 := hp.2.2.2.2.2.2.2.1
      have pq27 : kp 53 f0 ff24 := hp.2.2.2.2.2.2.2.2
      have w : WD D A s.heap [(a0, .inr (11, [.int (iI 0), .ref a1, .int (iI x2), .int (iI x3), .int (iI x4), .int (iI x5), .int (iI x6), .int (iI x7), .int r1, .int (iI x8), .int (iI x9), .int (iI x10), .long y0, .int (iI x11), .ref a2, .ref a3, .ref a4, .ref a5, .ref a6, .ref a7, .ref a8, .ref a9, .ref a10, .ref a11, .int (iI z23), .ref a12, .ref a13, .ref a14, .ref a15, .int (iI x13), .int r2, .int r3, .ref a16, .int (iI x14), .int (iI x15), .ref a17, .ref a18, .int (iI x16), .ref a19, .int (iI x17), .int r4, .ref a20, .ref a21, .int (iI x18), .int r5, .ref a22, .int (iI x19), .int (iI x20), .int (iI x21), .int (iI x22)])), (a2, .inl (T 0, 329, .inl (cI ff24))), (a5, .inl (T 0, 272, .inl (cI ff25)))] H locs := w
      exact ret _ (z22, (iI 0), z23, ff24, ff25) _ _ _ _ _ [0, 1, 2] dX12_loose_34 ⟨rfl, z22_a, z22_b, z23_a, z23_b, ff24_h, ff25_h, (show snI ff25 z23 from pq26), (show kp 53 f0 ff24 from pq27)⟩ w (by decide) rfl
set_option maxRecDepth 100000 in
set_option maxHeartbeats 4000000 in
theorem c89_X12_why (l : Launch) (D : va_G) (T : Nat → ClassId) (sz : Nat) (a0 : Nat) (x0 : Int) (x1 : Int) (x2 : Int) (r0 : Int32) (a1 : Nat) (x3 : Int) (x4 : Int) (x5 : Int) (x6 : Int) (x7 : Int) (x8 : Int) (r1 : Int32) (x9 : Int) (x10 : Int) (x11 : Int) (y0 : Int64) (x12 : Int) (a2 : Nat) (a3 : Nat) (a4 : Nat) (a5 : Nat) (a6 : Nat) (a7 : Nat) (a8 : Nat) (a9 : Nat) (a10 : Nat) (a11 : Nat) (x13 : Int) (a12 : Nat) (a13 : Nat) (a14 : Nat) (a15 : Nat) (x14 : Int) (r2 : Int32) (r3 : Int32) (a16 : Nat) (x15 : Int) (x16 : Int) (a17 : Nat) (a18 : Nat) (x17 : Int) (a19 : Nat) (x18 : Int) (r4 : Int32) (a20 : Nat) (a21 : Nat) (x19 : Int) (r5 : Int32) (a22 : Nat) (x20 : Int) (x21 : Int) (x22 : Int) (x23 : Int) (f0 : Int → Int) (x0_a : 0 ≤ x0) (x0_b : x0 ≤ 8) (x1_a : (-2147483648) ≤ x1) (x1_b : x1 ≤ 2147483647) (x2_a : (-2147483648) ≤ x2) (x2_b : x2 ≤ 2147483647) (x3_a : 0 ≤ x3) (x3_b : x3 ≤ 940) (x4_a : 0 ≤ x4) (x4_b : x4 ≤ 940) (x5_a : 0 ≤ x5) (x5_b : x5 ≤ 940) (x6_a : 0 ≤ x6) (x6_b : x6 ≤ 940) (x7_a : 0 ≤ x7) (x7_b : x7 ≤ 940) (x8_a : 0 ≤ x8) (x8_b : x8 ≤ 4) (x9_a : (-2147483648) ≤ x9) (x9_b : x9 ≤ 2147483647) (x10_a : (-2147483648) ≤ x10) (x10_b : x10 ≤ 2147483647) (x11_a : 0 ≤ x11) (x11_b : x11 ≤ 940) (x12_a : (-2147483648) ≤ x12) (x12_b : x12 ≤ 2147483647) (x13_a : 0 ≤ x13) (x13_b : x13 ≤ 8) (x14_a : 0 ≤ x14) (x14_b : x14 ≤ 9) (x15_a : (-1) ≤ x15) (x15_b : x15 ≤ 9) (x16_a : (-1) ≤ x16) (x16_b : x16 ≤ 8) (x17_a : 0 ≤ x17) (x17_b : x17 ≤ 9) (x18_a : 0 ≤ x18) (x18_b : x18 ≤ 64) (x19_a : 0 ≤ x19) (x19_b : x19 ≤ 40) (x20_a : 0 ≤ x20) (x20_b : x20 ≤ 40) (x21_a : 0 ≤ x21) (x21_b : x21 ≤ 20) (x22_a : 0 ≤ x22) (x22_b : x22 ≤ 8) (x23_a : 0 ≤ x23) (x23_b : x23 ≤ 39) (f0_h : nowI f0) : Met l yX12_why (Cond.code yX12_why cX12_why 5 (some .int) :: GW) (Rm 0 0 0) (cPre [.ref a0, .int (iI 2), .int (iI x0), .int (iI x1), .int (iI x2)] D T [(a0, .inr (11, [.int r0, .ref a1, .int (iI x3), .int (iI x4), .int (iI x5), .int (iI x6), .int (iI x7), .int (iI x8), .int r1, .int (iI x9), .int (iI x10), .int (iI x11), .long y0, .int (iI x12), .ref a2, .ref a3, .ref a4, .ref a5, .ref a6, .ref a7, .ref a8, .ref a9, .ref a10, .ref a11, .int (iI x13), .ref a12, .ref a13, .ref a14, .ref a15, .int (iI x14), .int r2, .int r3, .ref a16, .int (iI x15), .int (iI x16), .ref a17, .ref a18, .int (iI x17), .ref a19, .int (iI x18), .int r4, .ref a20, .ref a21, .int (iI x19), .int r5, .ref a22, .int (iI x20), .int (iI x21), .int (iI x22), .int (iI x23)])), (a2, .inl (T 0, 329, .inl (cI f0)))] sz) (qI D [(a0, .inr (11, [.int r0, .ref a1, .int (iI x3), .int (iI x4), .int (iI x5), .int (iI x6), .int (iI x7), .int (iI x8), .int r1, .int (iI x9), .int (iI x10), .int (iI x11), .long y0, .int (iI x12), .ref a2, .ref a3, .ref a4, .ref a5, .ref a6, .ref a7, .ref a8, .ref a9, .ref a10, .ref a11, .int (iI x13), .ref a12, .ref a13, .ref a14, .ref a15, .int (iI x14), .int r2, .int r3, .ref a16, .int (iI x15), .int (iI x16), .ref a17, .ref a18, .int (iI x17), .ref a19, .int (iI x18), .int r4, .ref a20, .ref a21, .int (iI x19), .int r5, .ref a22, .int (iI x20), .int (iI x21), .int (iI x22), .int (iI x23)])), (a2, .inl (T 0, 329, .inl (cI f0)))] sz (fun (v : Int32) (u : Int) => iI u = v ∧ 0 ≤ u ∧ u ≤ 7) (fun u => [(a0, .inr (11, [.int r0, .ref a1, .int (iI x3), .int (iI x4), .int (iI x5), .int (iI x6), .int (iI x7), .int (iI x8), .int r1, .int (iI x9), .int (iI x10), .int (iI x11), .long y0, .int (iI x12), .ref a2, .ref a3, .ref a4, .ref a5, .ref a6, .ref a7, .ref a8, .ref a9, .ref a10, .ref a11, .int (iI x13), .ref a12, .ref a13, .ref a14, .ref a15, .int (iI x14), .int r2, .int r3, .ref a16, .int (iI x15), .int (iI x16), .ref a17, .ref a18, .int (iI x17), .ref a19, .int (iI x18), .int r4, .ref a20, .ref a21, .int (iI x19), .int r5, .ref a22, .int (iI x20), .int (iI x21), .int (iI x22), .int (iI x23)])), (a2, .inl (T 0, 329, .inl (cI f0)))])) 0 0 (va_A [(a0, .inr (11, [.int r0, .ref a1, .int (iI x3), .int (iI x4), .int (iI x5), .int (iI x6), .int (iI x7), .int (iI x8), .int r1, .int (iI x9), .int (iI x10), .int (iI x11), .long y0, .int (iI x12), .ref a2, .ref a3, .ref a4, .ref a5, .ref a6, .ref a7, .ref a8, .ref a9, .ref a10, .ref a11, .int (iI x13), .ref a12, .ref a13, .ref a14, .ref a15, .int (iI x14), .int r2, .int r3, .ref a16, .int (iI x15), .int (iI x16), .ref a17, .ref a18, .int (iI x17), .ref a19, .int (iI x18), .int r4, .ref a20, .ref a21, .int (iI x19), .int r5, .ref a22, .int (iI x20), .int (iI x21), .int (iI x22), .int (iI x23)])), (a2, .inl (T 0, 329, .inl (cI f0)))] sz) := by
  refine e_I (by decide) (Nat.le_of_ble_eq_true rfl) ?_
  intro p e s m args below meth c A Q ls M hin w ret hl
  have hx := M.1.1
  have hb := M.1.2.1
  have hl : lv_has ls 5 [(0, .ref a0), (1, .int (iI 2)), (2, .int (iI x0)), (3, .int (iI x1)), (4, .int (iI x2))] := hl
  refine lv_iload_n hx hb dX12_why_0 rfl (lv_at hl 1 rfl) ?_
  refine lv_lookup (off := 73) (tgt := 74) hx hb dX12_why_1 (by decide +kernel) (by decide +kernel) (by decide) ?_
  refine lv_aload_n hx hb dX12_why_74 rfl (lv_at hl 0 rfl) ?_
  refine r_get (v := .ref a2) M w 0 14 clX12 rfl (by decide) G1477 rfl rfl dX12_why_75 ?_
  refine lv_bipush (v := iI 75) hx hb dX12_why_78 (by decide +kernel) ?_
  refine lv_iload_n hx hb dX12_why_80 rfl (lv_at hl 2 rfl) ?_
  refine r_iadd (v := iI (75 + x0)) M (iI_add _ _) dX12_why_81 ?_
  refine r_iald (v := iI (f0 (75 + x0))) M w 1 rfl (iI_in (by omega) (by omega) (by decide)) (cI_at (by omega) (by omega)) dX12_why_82 ?_
  have hh1 : (-2147483648) ≤ (f0 (75 + x0)) ∧ (f0 (75 + x0)) ≤ 2147483647 := f0_h.1 (75 + x0)
  refine lv_aload_n hx hb dX12_why_83 rfl (lv_at hl 0 rfl) ?_
  refine r_get (v := .ref a2) M w 0 14 clX12 rfl (by decide) G1477 rfl rfl dX12_why_84 ?_
  refine lv_bipush (v := iI 23) hx hb dX12_why_87 (by decide +kernel) ?_
  refine lv_iload_n hx hb dX12_why_89 rfl (lv_at hl 2 rfl) ?_
  refine r_iadd (v := iI (23 + x0)) M (iI_add _ _) dX12_why_90 ?_
  refine r_iald (v := iI (f0 (23 + x0))) M w 1 rfl (iI_in (by omega) (by omega) (by decide)) (cI_at (by omega) (by omega)) dX12_why_91 ?_
  have hh2 : (-2147483648) ≤ (f0 (23 + x0)) ∧ (f0 (23 + x0)) ≤ 2147483647 := f0_h.1 (23 + x0)
  refine lv_icmp_ne (tgt := 99) hx hb dX12_why_92 (by decide) (fun c_3 => ?_) (fun c_3 => ?_)
  · replace c_3 : ¬ (f0 (75 + x0)) = (f0 (23 + x0)) := fun h => c_3 ((iI_eq (by omega) (by omega) (by omega) (by omega)).mpr h)
    refine lv_aload_n hx hb dX12_why_99 rfl (lv_at hl 0 rfl) ?_
    refine r_get (v := .ref a2) M w 0 14 clX12 rfl (by decide) G1477 rfl rfl dX12_why_100 ?_
    refine lv_bipush (v := iI 54) hx hb dX12_why_103 (by decide +kernel) ?_
    refine r_iald (v := iI (f0 54)) M w 1 rfl (iI_in (by decide) (by decide) (by decide)) (cI_at (by omega) (by omega)) dX12_why_105 ?_
    have hh4 : (-2147483648) ≤ (f0 54) ∧ (f0 54) ≤ 2147483647 := f0_h.1 54
    refine lv_if_ne (tgt := 113) hx hb dX12_why_106 (by decide) (fun c_5 => ?_) (fun c_5 => ?_)
    · replace c_5 : ¬ (f0 54) = 0 := fun h => c_5 ((iz_eq (by omega) (by omega)).mpr h)
      refine lv_iconst (v := iI 0) hx hb dX12_why_113 (by decide +kernel) ?_
      exact ret _ 0 _ _ _ _ _ [0, 1] dX12_why_114 ⟨rfl, (show (0 : Int) ≤ 0 from by decide), (show (0 : Int) ≤ 7 from by decide)⟩ w (by decide) rfl
    · replace c_5 := (iz_eq (by omega) (by omega)).mp c_5
      refine lv_iconst (v := iI 2) hx hb dX12_why_109 (by decide +kernel) ?_
      refine lv_goto (tgt := 114) hx hb dX12_why_110 (by decide) ?_
      exact ret _ 2 _ _ _ _ _ [0, 1] dX12_why_114 ⟨rfl, (show (0 : Int) ≤ 2 from by decide), (show (2 : Int) ≤ 7 from by decide)⟩ w (by decide) rfl
  · replace c_3 := (iI_eq (by omega) (by omega) (by omega) (by omega)).mp c_3
    refine lv_iconst (v := iI 1) hx hb dX12_why_95 (by decide +kernel) ?_
    refine lv_goto (tgt := 114) hx hb dX12_why_96 (by decide) ?_
    exact ret _ 1 _ _ _ _ _ [0, 1] dX12_why_114 ⟨rfl, (show (0 : Int) ≤ 1 from by decide), (show (1 : Int) ≤ 7 from by decide)⟩ w (by decide) rfl
set_option maxRecDepth 100000 in
set_option maxHeartbeats 4000000 in
theorem c90_X12_live (l : Launch) (D : va_G) (T : Nat → ClassId) (sz : Nat) (a0 : Nat) (x0 : Int) (x1 : Int) (x2 : Int) (r0 : Int32) (a1 : Nat) (x3 : Int) (x4 : Int) (x5 : Int) (x6 : Int) (x7 : Int) (x8 : Int) (r1 : Int32) (x9 : Int) (x10 : Int) (x11 : Int) (y0 : Int64) (x12 : Int) (a2 : Nat) (a3 : Nat) (a4 : Nat) (a5 : Nat) (a6 : Nat) (a7 : Nat) (a8 : Nat) (a9 : Nat) (a10 : Nat) (a11 : Nat) (x13 : Int) (a12 : Nat) (a13 : Nat) (a14 : Nat) (a15 : Nat) (x14 : Int) (r2 : Int32) (r3 : Int32) (a16 : Nat) (x15 : Int) (x16 : Int) (a17 : Nat) (a18 : Nat) (x17 : Int) (a19 : Nat) (x18 : Int) (r4 : Int32) (a20 : Nat) (a21 : Nat) (x19 : Int) (r5 : Int32) (a22 : Nat) (x20 : Int) (x21 : Int) (x22 : Int) (x23 : Int) (f0 : Int → Int) (x0_a : 0 ≤ x0) (x0_b : x0 ≤ 8) (x1_a : (-2147483648) ≤ x1) (x1_b : x1 ≤ 2147483647) (x2_a : (-2147483648) ≤ x2) (x2_b : x2 ≤ 2147483647) (x3_a : 0 ≤ x3) (x3_b : x3 ≤ 940) (x4_a : 0 ≤ x4) (x4_b : x4 ≤ 940) (x5_a : 0 ≤ x5) (x5_b : x5 ≤ 940) (x6_a : 0 ≤ x6) (x6_b : x6 ≤ 940) (x7_a : 0 ≤ x7) (x7_b : x7 ≤ 940) (x8_a : 0 ≤ x8) (x8_b : x8 ≤ 4) (x9_a : (-2147483648) ≤ x9) (x9_b : x9 ≤ 2147483647) (x10_a : (-2147483648) ≤ x10) (x10_b : x10 ≤ 2147483647) (x11_a : 0 ≤ x11) (x11_b : x11 ≤ 940) (x12_a : (-2147483648) ≤ x12) (x12_b : x12 ≤ 2147483647) (x13_a : 0 ≤ x13) (x13_b : x13 ≤ 8) (x14_a : 0 ≤ x14) (x14_b : x14 ≤ 9) (x15_a : (-1) ≤ x15) (x15_b : x15 ≤ 9) (x16_a : (-1) ≤ x16) (x16_b : x16 ≤ 8) (x17_a : 0 ≤ x17) (x17_b : x17 ≤ 9) (x18_a : 0 ≤ x18) (x18_b : x18 ≤ 64) (x19_a : 0 ≤ x19) (x19_b : x19 ≤ 40) (x20_a : 0 ≤ x20) (x20_b : x20 ≤ 40) (x21_a : 0 ≤ x21) (x21_b : x21 ≤ 20) (x22_a : 0 ≤ x22) (x22_b : x22 ≤ 8) (x23_a : 0 ≤ x23) (x23_b : x23 ≤ 39) (f0_h : nowI f0) : Met l yX12_live (Cond.code yX12_live cX12_live 5 none :: GW) (Rm 0 0 0) (cPre [.ref a0, .int (iI 2), .int (iI x0), .int (iI x1), .int (iI x2)] D T [(a0, .inr (11, [.int r0, .ref a1, .int (iI x3), .int (iI x4), .int (iI x5), .int (iI x6), .int (iI x7), .int (iI x8), .int r1, .int (iI x9), .int (iI x10), .int (iI x11), .long y0, .int (iI x12), .ref a2, .ref a3, .ref a4, .ref a5, .ref a6, .ref a7, .ref a8, .ref a9, .ref a10, .ref a11, .int (iI x13), .ref a12, .ref a13, .ref a14, .ref a15, .int (iI x14), .int r2, .int r3, .ref a16, .int (iI x15), .int (iI x16), .ref a17, .ref a18, .int (iI x17), .ref a19, .int (iI x18), .int r4, .ref a20, .ref a21, .int (iI x19), .int r5, .ref a22, .int (iI x20), .int (iI x21), .int (iI x22), .int (iI x23)])), (a2, .inl (T 0, 329, .inl (cI f0)))] sz) (qV D [(a0, .inr (11, [.int r0, .ref a1, .int (iI x3), .int (iI x4), .int (iI x5), .int (iI x6), .int (iI x7), .int (iI x8), .int r1, .int (iI x9), .int (iI x10), .int (iI x11), .long y0, .int (iI x12), .ref a2, .ref a3, .ref a4, .ref a5, .ref a6, .ref a7, .ref a8, .ref a9, .ref a10, .ref a11, .int (iI x13), .ref a12, .ref a13, .ref a14, .ref a15, .int (iI x14), .int r2, .int r3, .ref a16, .int (iI x15), .int (iI x16), .ref a17, .ref a18, .int (iI x17), .ref a19, .int (iI x18), .int r4, .ref a20, .ref a21, .int (iI x19), .int r5, .ref a22, .int (iI x20), .int (iI x21), .int (iI x22), .int (iI x23)])), (a2, .inl (T 0, 329, .inl (cI f0)))] sz (fun (u : (Int → Int)) => nowI u ∧ (kp 53 f0 u)) (fun u => [(a0, .inr (11, [.int r0, .ref a1, .int (iI x3), .int (iI x4), .int (iI x5), .int (iI x6), .int (iI x7), .int (iI x8), .int r1, .int (iI x9), .int (iI x10), .int (iI x11), .long y0, .int (iI x12), .ref a2, .ref a3, .ref a4, .ref a5, .ref a6, .ref a7, .ref a8, .ref a9, .ref a10, .ref a11, .int (iI x13), .ref a12, .ref a13, .ref a14, .ref a15, .int (iI x14), .int r2, .int r3, .ref a16, .int (iI x15), .int (iI x16), .ref a17, .ref a18, .int (iI x17), .ref a19, .int (iI x18), .int r4, .ref a20, .ref a21, .int (iI x19), .int r5, .ref a22, .int (iI x20), .int (iI x21), .int (iI x22), .int (iI x23)])), (a2, .inl (T 0, 329, .inl (cI u)))])) 0 0 (va_A [(a0, .inr (11, [.int r0, .ref a1, .int (iI x3), .int (iI x4), .int (iI x5), .int (iI x6), .int (iI x7), .int (iI x8), .int r1, .int (iI x9), .int (iI x10), .int (iI x11), .long y0, .int (iI x12), .ref a2, .ref a3, .ref a4, .ref a5, .ref a6, .ref a7, .ref a8, .ref a9, .ref a10, .ref a11, .int (iI x13), .ref a12, .ref a13, .ref a14, .ref a15, .int (iI x14), .int r2, .int r3, .ref a16, .int (iI x15), .int (iI x16), .ref a17, .ref a18, .int (iI x17), .ref a19, .int (iI x18), .int r4, .ref a20, .ref a21, .int (iI x19), .int r5, .ref a22, .int (iI x20), .int (iI x21), .int (iI x22), .int (iI x23)])), (a2, .inl (T 0, 329, .inl (cI f0)))] sz) := by
  refine e_V (by decide) (Nat.le_of_ble_eq_true rfl) ?_
  intro p e s m args below meth c A Q ls M hin w ret hl
  have hx := M.1.1
  have hb := M.1.2.1
  have hl : lv_has ls 5 [(0, .ref a0), (1, .int (iI 2)), (2, .int (iI x0)), (3, .int (iI x1)), (4, .int (iI x2))] := hl
  refine lv_iload_n hx hb dX12_live_0 rfl (lv_at hl 1 rfl) ?_
  refine lv_lookup (off := 93) (tgt := 94) hx hb dX12_live_1 (by decide +kernel) (by decide +kernel) (by decide) ?_
  refine lv_aload_n hx hb dX12_live_94 rfl (lv_at hl 0 rfl) ?_
  refine r_get (v := .ref a2) M w 0 14 clX12 rfl (by decide) G1477 rfl rfl dX12_live_95 ?_
  refine lv_bipush (v := iI 75) hx hb dX12_live_98 (by decide +kernel) ?_
  refine lv_iload_n hx hb dX12_live_100 rfl (lv_at hl 2 rfl) ?_
  refine r_iadd (v := iI (75 + x0)) M (iI_add _ _) dX12_live_101 ?_
  refine lv_aload_n hx hb dX12_live_102 rfl (lv_at hl 0 rfl) ?_
  refine r_get (v := .ref a2) M w 0 14 clX12 rfl (by decide) G1477 rfl rfl dX12_live_103 ?_
  refine lv_bipush (v := iI 23) hx hb dX12_live_106 (by decide +kernel) ?_
  refine lv_iload_n hx hb dX12_live_108 rfl (lv_at hl 2 rfl) ?_
  refine r_iadd (v := iI (23 + x0)) M (iI_add _ _) dX12_live_109 ?_
  refine r_iald (v := iI (f0 (23 + x0))) M w 1 rfl (iI_in (by omega) (by omega) (by decide)) (cI_at (by omega) (by omega)) dX12_live_110 ?_
  have hh1 : (-2147483648) ≤ (f0 (23 + x0)) ∧ (f0 (23 + x0)) ≤ 2147483647 := f0_h.1 (23 + x0)
  refine r_iast (ws' := [(a0, .inr (11, [.int r0, .ref a1, .int (iI x3), .int (iI x4), .int (iI x5), .int (iI x6), .int (iI x7), .int (iI x8), .int r1, .int (iI x9), .int (iI x10), .int (iI x11), .long y0, .int (iI x12), .ref a2, .ref a3, .ref a4, .ref a5, .ref a6, .ref a7, .ref a8, .ref a9, .ref a10, .ref a11, .int (iI x13), .ref a12, .ref a13, .ref a14, .ref a15, .int (iI x14), .int r2, .int r3, .ref a16, .int (iI x15), .int (iI x16), .ref a17, .ref a18, .int (iI x17), .ref a19, .int (iI x18), .int r4, .ref a20, .ref a21, .int (iI x19), .int r5, .ref a22, .int (iI x20), .int (iI x21), .int (iI x22), .int (iI x23)])), (a2, .inl (T 0, 329, .inl (cI (upz f0 (75 + x0) (f0 (23 + x0))))))]) M w 1 rfl (iI_in (by omega) (by omega) (by decide)) (by rw [cI_up (by omega) (by omega)]; rfl) dX12_live_111 (fun H locs w => ?_)
  refine lv_aload_n hx hb dX12_live_112 rfl (lv_at hl 0 rfl) ?_
  refine r_get (v := .ref a2) M w 0 14 clX12 rfl (by decide) G1477 rfl rfl dX12_live_113 ?_
  refine lv_bipush (v := iI 54) hx hb dX12_live_116 (by decide +kernel) ?_
  refine lv_dup2_11 hx hb dX12_live_118 rfl rfl ?_
  refine r_iald (v := iI (f0 54)) M w 1 rfl (iI_in (by decide) (by decide) (by decide)) ((cI_at (by omega) (by omega)).trans (congrArg iI (by rw [upz_n (by omega)]))) dX12_live_119 ?_
  have hh2 : (-2147483648) ≤ (f0 54) ∧ (f0 54) ≤ 2147483647 := f0_h.1 54
  refine lv_iconst (v := iI 1) hx hb dX12_live_120 (by decide +kernel) ?_
  refine r_isub (v := _) M rfl dX12_live_121 ?_
  refine b_any (fun z3 z3_a z3_b => ?_)
  refine r_iast (ws' := [(a0, .inr (11, [.int r0, .ref a1, .int (iI x3), .int (iI x4), .int (iI x5), .int (iI x6), .int (iI x7), .int (iI x8), .int r1, .int (iI x9), .int (iI x10), .int (iI x11), .long y0, .int (iI x12), .ref a2, .ref a3, .ref a4, .ref a5, .ref a6, .ref a7, .ref a8, .ref a9, .ref a10, .ref a11, .int (iI x13), .ref a12, .ref a13, .ref a14, .ref a15, .int (iI x14), .int r2, .int r3, .ref a16, .int (iI x15), .int (iI x16), .ref a17, .ref a18, .int (iI x17), .ref a19, .int (iI x18), .int r4, .ref a20, .ref a21, .int (iI x19), .int r5, .ref a22, .int (iI x20), .int (iI x21), .int (iI x22), .int (iI x23)])), (a2, .inl (T 0, 329, .inl (cI (upz (upz f0 (75 + x0) (f0 (23 + x0))) 54 z3))))]) M w 1 rfl (iI_in (by decide) (by decide) (by decide)) (by rw [cI_up (by omega) (by omega)]; rfl) dX12_live_122 (fun H locs w => ?_)
  exact ret (upz (upz f0 (75 + x0) (f0 (23 + x0))) 54 z3) _ _ _ _ _ [0, 1] dX12_live_123 ⟨(now_up (now_up f0_h (by omega) (by omega) (by unfold nr; omega) (by omega) (by omega)) (by omega) (by omega) (by unfold nr; omega) (by omega) (by omega)), (show kp 53 f0 (upz (upz f0 (75 + x0) (f0 (23 + x0))) 54 z3) from (kp_up (kp_up kp_rfl (by omega)) (by omega)))⟩ w (by decide) rfl
set_option maxRecDepth 100000 in
set_option maxHeartbeats 4000000 in
theorem c91_X12_act (l : Launch) (D : va_G) (T : Nat → ClassId) (sz : Nat) (a0 : Nat) (x0 : Int) (x1 : Int) (x2 : Int) (x3 : Int) (r0 : Int32) (a1 : Nat) (x4 : Int) (x5 : Int) (x6 : Int) (x7 : Int) (x8 : Int) (x9 : Int) (r1 : Int32) (x10 : Int) (x11 : Int) (x12 : Int) (y0 : Int64) (x13 : Int) (a2 : Nat) (a3 : Nat) (a4 : Nat) (a5 : Nat) (a6 : Nat) (a7 : Nat) (a8 : Nat) (a9 : Nat) (a10 : Nat) (a11 : Nat) (x14 : Int) (a12 : Nat) (a13 : Nat) (a14 : Nat) (a15 : Nat) (x15 : Int) (r2 : Int32) (r3 : Int32) (a16 : Nat) (x16 : Int) (x17 : Int) (a17 : Nat) (a18 : Nat) (x18 : Int) (a19 : Nat) (x19 : Int) (r4 : Int32) (a20 : Nat) (a21 : Nat) (x20 : Int) (r5 : Int32) (a22 : Nat) (x21 : Int) (x22 : Int) (x23 : Int) (x24 : Int) (f0 : Int → Int) (f1 : Int → Int) (x0_a : (-2147483648) ≤ x0) (x0_b : x0 ≤ 2147483647) (x1_a : (-2147483648) ≤ x1) (x1_b : x1 ≤ 2147483647) (x2_a : (-2147483648) ≤ x2) (x2_b : x2 ≤ 2147483647) (x3_a : 0 ≤ x3) (x3_b : x3 ≤ 1) (x4_a : 0 ≤ x4) (x4_b : x4 ≤ 940) (x5_a : 0 ≤ x5) (x5_b : x5 ≤ 940) (x6_a : 0 ≤ x6) (x6_b : x6 ≤ 940) (x7_a : 0 ≤ x7) (x7_b : x7 ≤ 940) (x8_a : 0 ≤ x8) (x8_b : x8 ≤ 940) (x9_a : 0 ≤ x9) (x9_b : x9 ≤ 4) (x10_a : (-2147483648) ≤ x10) (x10_b : x10 ≤ 2147483647) (x11_a : (-2147483648) ≤ x11) (x11_b : x11 ≤ 2147483647) (x12_a : 0 ≤ x12) (x12_b : x12 ≤ 940) (x13_a : (-2147483648) ≤ x13) (x13_b : x13 ≤ 2147483647) (x14_a : 0 ≤ x14) (x14_b : x14 ≤ 8) (x15_a : 0 ≤ x15) (x15_b : x15 ≤ 9) (x16_a : (-1) ≤ x16) (x16_b : x16 ≤ 9) (x17_a : (-1) ≤ x17) (x17_b : x17 ≤ 8) (x18_a : 0 ≤ x18) (x18_b : x18 ≤ 9) (x19_a : 0 ≤ x19) (x19_b : x19 ≤ 64) (x20_a : 0 ≤ x20) (x20_b : x20 ≤ 40) (x21_a : 0 ≤ x21) (x21_b : x21 ≤ 40) (x22_a : 0 ≤ x22) (x22_b : x22 ≤ 20) (x23_a : 0 ≤ x23) (x23_b : x23 ≤ 8) (x24_a : 0 ≤ x24) (x24_b : x24 ≤ 39) (f0_h : nowI f0) (f1_h : FL f1) (pp_s : snI f1 x14) (pr_0 : 0 ≤ ((x0 + 4294967296) - (x3 * 4294967296))) (pr_1 : 0 ≤ (((8 - x0) + 4294967296) - (x3 * 4294967296))) : Met l yX12_act (Cond.code yX12_act cX12_act 7 (some .int) :: GW) (Rm 1 0 0) (cPre [.ref a0, .int (iI 2), .int (iI x0), .int (iI x1), .int (iI x2), .int (iI x3)] D T [(a0, .inr (11, [.int r0, .ref a1, .int (iI x4), .int (iI x5), .int (iI x6), .int (iI x7), .int (iI x8), .int (iI x9), .int r1, .int (iI x10), .int (iI x11), .int (iI x12), .long y0, .int (iI x13), .ref a2, .ref a3, .ref a4, .ref a5, .ref a6, .ref a7, .ref a8, .ref a9, .ref a10, .ref a11, .int (iI x14), .ref a12, .ref a13, .ref a14, .ref a15, .int (iI x15), .int r2, .int r3, .ref a16, .int (iI x16), .int (iI x17), .ref a17, .ref a18, .int (iI x18), .ref a19, .int (iI x19), .int r4, .ref a20, .ref a21, .int (iI x20), .int r5, .ref a22, .int (iI x21), .int (iI x22), .int (iI x23), .int (iI x24)])), (a2, .inl (T 0, 329, .inl (cI f0))), (a5, .inl (T 0, 272, .inl (cI f1)))] sz) (qI D [(a0, .inr (11, [.int r0, .ref a1, .int (iI x4), .int (iI x5), .int (iI x6), .int (iI x7), .int (iI x8), .int (iI x9), .int r1, .int (iI x10), .int (iI x11), .int (iI x12), .long y0, .int (iI x13), .ref a2, .ref a3, .ref a4, .ref a5, .ref a6, .ref a7, .ref a8, .ref a9, .ref a10, .ref a11, .int (iI x14), .ref a12, .ref a13, .ref a14, .ref a15, .int (iI x15), .int r2, .int r3, .ref a16, .int (iI x16), .int (iI x17), .ref a17, .ref a18, .int (iI x18), .ref a19, .int (iI x19), .int r4, .ref a20, .ref a21, .int (iI x20), .int r5, .ref a22, .int (iI x21), .int (iI x22), .int (iI x23), .int (iI x24)])), (a2, .inl (T 0, 329, .inl (cI f0))), (a5, .inl (T 0, 272, .inl (cI f1)))] sz (fun (v : Int32) (u : Int × Int × (Int → Int) × (Int → Int)) => iI u.1 = v ∧ (-2147483648) ≤ u.1 ∧ u.1 ≤ 2147483647 ∧ 0 ≤ u.2.1 ∧ u.2.1 ≤ 8 ∧ nowI u.2.2.1 ∧ FL u.2.2.2 ∧ (snI u.2.2.2 u.2.1) ∧ (kp 53 f0 u.2.2.1)) (fun u => [(a0, .inr (11, [.int r0, .ref a1, .int (iI x4), .int (iI x5), .int (iI x6), .int (iI x7), .int (iI x8), .int (iI x9), .int r1, .int (iI x10), .int (iI x11), .int (iI x12), .long y0, .int (iI x13), .ref a2, .ref a3, .ref a4, .ref a5, .ref a6, .ref a7, .ref a8, .ref a9, .ref a10, .ref a11, .int (iI u.2.1), .ref a12, .ref a13, .ref a14, .ref a15, .int (iI x15), .int r2, .int r3, .ref a16, .int (iI x16), .int (iI x17), .ref a17, .ref a18, .int (iI x18), .ref a19, .int (iI x19), .int r4, .ref a20, .ref a21, .int (iI x20), .int r5, .ref a22, .int (iI x21), .int (iI x22), .int (iI x23), .int (iI x24)])), (a2, .inl (T 0, 329, .inl (cI u.2.2.1))), (a5, .inl (T 0, 272, .inl (cI u.2.2.2)))])) 0 0 (va_A [(a0, .inr (11, [.int r0, .ref a1, .int (iI x4), .int (iI x5), .int (iI x6), .int (iI x7), .int (iI x8), .int (iI x9), .int r1, .int (iI x10), .int (iI x11), .int (iI x12), .long y0, .int (iI x13), .ref a2, .ref a3, .ref a4, .ref a5, .ref a6, .ref a7, .ref a8, .ref a9, .ref a10, .ref a11, .int (iI x14), .ref a12, .ref a13, .ref a14, .ref a15, .int (iI x15), .int r2, .int r3, .ref a16, .int (iI x16), .int (iI x17), .ref a17, .ref a18, .int (iI x18), .ref a19, .int (iI x19), .int r4, .ref a20, .ref a21, .int (iI x20), .int r5, .ref a22, .int (iI x21), .int (iI x22), .int (iI x23), .int (iI x24)])), (a2, .inl (T 0, 329, .inl (cI f0))), (a5, .inl (T 0, 272, .inl (cI f1)))] sz) := by
  refine e_I (by decide) (Nat.le_of_ble_eq_true rfl) ?_
  intro p e s m args below meth c A Q ls M hin w ret hl
  have hx := M.1.1
  have hb := M.1.2.1
  have hl : lv_has ls 7 [(0, .ref a0), (1, .int (iI 2)), (2, .int (iI x0)), (3, .int (iI x1)), (4, .int (iI x2)), (5, .int (iI x3))] := hl
  refine lv_iload hx hb dX12_act_0 (lv_at hl 5 rfl) ?_
  refine lv_if_ne (tgt := 7) hx hb dX12_act_2 (by decide) (fun c_1 => ?_) (fun c_1 => ?_)
  · replace c_1 : ¬ x3 = 0 := fun h => c_1 ((iz_eq (Int.le_trans (by decide) x3_a) (Int.le_trans x3_b (by decide))).mpr h)
    refine lv_aload_n hx hb dX12_act_7 rfl (lv_at hl 0 rfl) ?_
    refine lv_iload_n hx hb dX12_act_8 rfl (lv_at hl 1 rfl) ?_
    refine lv_iload_n hx hb dX12_act_9 rfl (lv_at hl 2 rfl) ?_
    refine lv_iload_n hx hb dX12_act_10 rfl (lv_at hl 3 rfl) ?_
    refine lv_iload hx hb dX12_act_11 (lv_at hl 4 rfl) ?_
    refine k_I (ce := 0) (sl := 0) (rest := []) (wr := [(a5, .inl (T 0, 272, .inl (cI f1)))]) (r_V (f := 0) [0, 1] M w V_HookedCityModel_280 G1792 G79 (c89_X12_why l D T _ a0 x0 x1 x2 r0 a1 x4 x5 x6 x7 x8 x9 r1 x10 x11 x12 y0 x13 a2 a3 a4 a5 a6 a7 a8 a9 a10 a11 x14 a12 a13 a14 a15 x15 r2 r3 a16 x16 x17 a17 a18 x18 a19 x19 r4 a20 a21 x20 r5 a22 x21 x22 x23 x24 f0 (by omega) (by omega) x1_a x1_b x2_a x2_b x4_a x4_b x5_a x5_b x6_a x6_b x7_a x7_b x8_a x8_b x9_a x9_b x10_a x10_b x11_a x11_b x12_a x12_b x13_a x13_b x14_a x14_b x15_a x15_b x16_a x16_b x17_a x17_b x18_a x18_b x19_a x19_b x20_a x20_b x21_a x21_b x22_a x22_b x23_a x23_b x24_a x24_b f0_h) 0 clX12 rfl rfl (by decide) rfl hl.1 rfl (Nat.le_of_ble_eq_true rfl) dX12_act_13 (by decide) (by decide) (by decide) (by decide)) w [0, 1] [2] rfl rfl (by decide) (by decide) rfl rfl (fun v z2 H locs hp w => ?_)
    have hv : iI z2 = v := hp.1
    subst hv
    have z2_a : 0 ≤ z2 := hp.2.1
    have z2_b : z2 ≤ 7 := hp.2.2
    have w : WD D A s.heap [(a5, .inl (T 0, 272, .inl (cI f1))), (a0, .inr (11, [.int r0, .ref a1, .int (iI x4), .int (iI x5), .int (iI x6), .int (iI x7), .int (iI x8), .int (iI x9), .int r1, .int (iI x10), .int (iI x11), .int (iI x12), .long y0, .int (iI x13), .ref a2, .ref a3, .ref a4, .ref a5, .ref a6, .ref a7, .ref a8, .ref a9, .ref a10, .ref a11, .int (iI x14), .ref a12, .ref a13, .ref a14, .ref a15, .int (iI x15), .int r2, .int r3, .ref a16, .int (iI x16), .int (iI x17), .ref a17, .ref a18, .int (iI x18), .ref a19, .int (iI x19), .int r4, .ref a20, .ref a21, .int (iI x20), .int r5, .ref a22, .int (iI x21), .int (iI x22), .int (iI x23), .int (iI x24)])), (a2, .inl (T 0, 329, .inl (cI f0)))] H locs := w
    refine lv_istore (lv' := [(6, .int (iI z2)), (0, .ref a0), (1, .int (iI 2)), (2, .int (iI x0)), (3, .int (iI x1)), (4, .int (iI x2)), (5, .int (iI x3))]) hx hb dX12_act_16 hl (by decide) rfl (fun ls hl => ?_)
    refine lv_iload hx hb dX12_act_18 (lv_at hl 0 rfl) ?_
    refine lv_if_eq (tgt := 26) hx hb dX12_act_20 (by decide) (fun c_3 => ?_) (fun c_3 => ?_)
    · replace c_3 := (iz_eq (Int.le_trans (by decide) z2_a) (Int.le_trans z2_b (by decide))).mp c_3
      refine lv_aload_n hx hb dX12_act_26 rfl (lv_at hl 1 rfl) ?_
      refine k_V (ce := 0) (sl := 0) (rest := []) (wr := []) (r_V (f := 0) [1, 2, 0] M w V_HookedCityModel_284 G1804 G82 (c80_X12_snap l D T _ a0 r0 a1 x4 x5 x6 x7 x8 x9 r1 x10 x11 x12 y0 x13 a2 a3 a4 a5 a6 a7 a8 a9 a10 a11 x14 a12 a13 a14 a15 x15 r2 r3 a16 x16 x17 a17 a18 x18 a19 x19 r4 a20 a21 x20 r5 a22 x21 x22 x23 x24 f0 f1 x4_a x4_b x5_a x5_b x6_a x6_b x7_a x7_b x8_a x8_b x9_a x9_b x10_a x10_b x11_a x11_b x12_a x12_b x13_a x13_b x14_a x14_b x15_a x15_b x16_a x16_b x17_a x17_b x18_a x18_b x19_a x19_b x20_a x20_b x21_a x21_b x22_a x22_b x23_a x23_b x24_a x24_b f0_h f1_h pp_s) 1 clX12 rfl rfl (by decide) rfl hl.1 rfl (Nat.le_of_ble_eq_true rfl) dX12_act_27 (by decide) (by decide) (by decide) (by decide)) w [1, 2, 0] [] rfl rfl (by decide) (by decide) rfl rfl (fun u H locs hp w => ?_)
      obtain ⟨z4, ff5⟩ := u
      have z4_a : 0 ≤ z4 := hp.1
      have z4_b : z4 ≤ 8 := hp.2.1
      have ff5_h : FL ff5 := hp.2.2.1
      have pq6 : snI ff5 z4 := hp.2.2.2
      have w : WD D A s.heap [(a0, .inr (11, [.int r0, .ref a1, .int (iI x4), .int (iI x5), .int (iI x6), .int (iI x7), .int (iI x8), .int (iI x9), .int r1, .int (iI x10), .int (iI x11), .int (iI x12), .long y0, .int (iI x13), .ref a2, .ref a3, .ref a4, .ref a5, .ref a6, .ref a7, .ref a8, .ref a9, .ref a10, .ref a11, .int (iI z4), .ref a12, .ref a13, .ref a14, .ref a15, .int (iI x15), .int r2, .int r3, .ref a16, .int (iI x16), .int (iI x17), .ref a17, .ref a18, .int (iI x18), .ref a19, .int (iI x19), .int r4, .ref a20, .ref a21, .int (iI x20), .int r5, .ref a22, .int (iI x21), .int (iI x22), .int (iI x23), .int (iI x24)])), (a2, .inl (T 0, 329, .inl (cI f0))), (a5, .inl (T 0, 272, .inl (cI ff5)))] H locs := w
      refine lv_aload_n hx hb dX12_act_30 rfl (lv_at hl 1 rfl) ?_
      refine lv_iload_n hx hb dX12_act_31 rfl (lv_at hl 2 rfl) ?_
      refine lv_iload_n hx hb dX12_act_32 rfl (lv_at hl 3 rfl) ?_
      refine lv_iload_n hx hb dX12_act_33 rfl (lv_at hl 4 rfl) ?_
      refine lv_iload hx hb dX12_act_34 (lv_at hl 5 rfl) ?_
      refine k_V (ce := 0) (sl := 0) (rest := []) (wr := [(a5, .inl (T 0, 272, .inl (cI ff5)))]) (r_V (f := 0) [0, 1] M w V_HookedCityModel_287 G1808 G83 (c90_X12_live l D T _ a0 x0 x1 x2 r0 a1 x4 x5 x6 x7 x8 x9 r1 x10 x11 x12 y0 x13 a2 a3 a4 a5 a6 a7 a8 a9 a10 a11 z4 a12 a13 a14 a15 x15 r2 r3 a16 x16 x17 a17 a18 x18 a19 x19 r4 a20 a21 x20 r5 a22 x21 x22 x23 x24 f0 (by omega) (by omega) x1_a x1_b x2_a x2_b x4_a x4_b x5_a x5_b x6_a x6_b x7_a x7_b x8_a x8_b x9_a x9_b x10_a x10_b x11_a x11_b x12_a x12_b x13_a x13_b z4_a z4_b x15_a x15_b x16_a x16_b x17_a x17_b x18_a x18_b x19_a x19_b x20_a x20_b x21_a x21_b x22_a x22_b x23_a x23_b x24_a x24_b f0_h) 0 clX12 rfl rfl (by decide) rfl hl.1 rfl (Nat.le_of_ble_eq_true rfl) dX12_act_36 (by decide) (by decide) (by decide) (by decide)) w [0, 1] [2] rfl rfl (by decide) (by decide) rfl rfl (fun ff7 H locs hp w => ?_)
      have ff7_h : nowI ff7 := hp.1
      have pq8 : kp 53 f0 ff7 := hp.2
      have w : WD D A s.heap [(a5, .inl (T 0, 272, .inl (cI ff5))), (a0, .inr (11, [.int r0, .ref a1, .int (iI x4), .int (iI x5), .int (iI x6), .int (iI x7), .int (iI x8), .int (iI x9), .int r1, .int (iI x10), .int (iI x11), .int (iI x12), .long y0, .int (iI x13), .ref a2, .ref a3, .ref a4, .ref a5, .ref a6, .ref a7, .ref a8, .ref a9, .ref a10, .ref a11, .int (iI z4), .ref a12, .ref a13, .ref a14, .ref a15, .int (iI x15), .int r2, .int r3, .ref a16, .int (iI x16), .int (iI x17), .ref a17, .ref a18, .int (iI x18), .ref a19, .int (iI x19), .int r4, .ref a20, .ref a21, .int (iI x20), .int r5, .ref a22, .int (iI x21), .int (iI x22), .int (iI x23), .int (iI x24)])), (a2, .inl (T 0, 329, .inl (cI ff7)))] H locs := w
      refine lv_iconst (v := iI 0) hx hb dX12_act_39 (by decide +kernel) ?_
      exact ret _ (0, z4, ff7, ff5) _ _ _ _ _ [1, 2, 0] dX12_act_40 ⟨rfl, (show (-2147483648) ≤ 0 from by decide), (show (0 : Int) ≤ 2147483647 from by decide), z4_a, z4_b, ff7_h, ff5_h, (show snI ff5 z4 from pq6), (show kp 53 f0 ff7 from pq8)⟩ w (by decide) rfl
    · replace c_3 : ¬ z2 = 0 := fun h => c_3 ((iz_eq (Int.le_trans (by decide) z2_a) (Int.le_trans z2_b (by decide))).mpr h)
      refine lv_iload hx hb dX12_act_23 (lv_at hl 0 rfl) ?_
      exact ret _ (z2, x14, f0, f1) _ _ _ _ _ [1, 2, 0] dX12_act_25 ⟨rfl, (show (-2147483648) ≤ z2 from by omega), (show z2 ≤ 2147483647 from by omega), x14_a, x14_b, f0_h, f1_h, (show snI f1 x14 from pp_s), (show kp 53 f0 f0 from kp_rfl)⟩ w (by decide) rfl
  · replace c_1 := (iz_eq (Int.le_trans (by decide) x3_a) (Int.le_trans x3_b (by decide))).mp c_1
    refine lv_iconst (v := iI (-1)) hx hb dX12_act_5 (by decide +kernel) ?_
    exact ret _ ((-1), x14, f0, f1) _ _ _ _ _ [0, 1, 2] dX12_act_6 ⟨rfl, (show (-2147483648) ≤ (-1) from by decide), (show ((-1) : Int) ≤ 2147483647 from by decide), x14_a, x14_b, f0_h, f1_h, (show snI f1 x14 from pp_s), (show kp 53 f0 f0 from kp_rfl)⟩ w (by decide) rfl
set_option maxRecDepth 100000 in
set_option maxHeartbeats 4000000 in
theorem c92_X12_mend (l : Launch) (D : va_G) (T : Nat → ClassId) (sz : Nat) (a0 : Nat) (x0 : Int) (r0 : Int32) (a1 : Nat) (x1 : Int) (x2 : Int) (x3 : Int) (x4 : Int) (x5 : Int) (x6 : Int) (r1 : Int32) (x7 : Int) (x8 : Int) (x9 : Int) (y0 : Int64) (x10 : Int) (a2 : Nat) (a3 : Nat) (a4 : Nat) (a5 : Nat) (a6 : Nat) (a7 : Nat) (a8 : Nat) (a9 : Nat) (a10 : Nat) (a11 : Nat) (x11 : Int) (a12 : Nat) (a13 : Nat) (a14 : Nat) (a15 : Nat) (x12 : Int) (r2 : Int32) (r3 : Int32) (a16 : Nat) (x13 : Int) (x14 : Int) (a17 : Nat) (a18 : Nat) (x15 : Int) (a19 : Nat) (x16 : Int) (r4 : Int32) (a20 : Nat) (a21 : Nat) (x17 : Int) (r5 : Int32) (a22 : Nat) (x18 : Int) (x19 : Int) (x20 : Int) (x21 : Int) (f0 : Int → Int) (f1 : Int → Int) (x0_a : (-2147483648) ≤ x0) (x0_b : x0 ≤ 2147483647) (x1_a : 0 ≤ x1) (x1_b : x1 ≤ 940) (x2_a : 0 ≤ x2) (x2_b : x2 ≤ 940) (x3_a : 0 ≤ x3) (x3_b : x3 ≤ 940) (x4_a : 0 ≤ x4) (x4_b : x4 ≤ 940) (x5_a : 0 ≤ x5) (x5_b : x5 ≤ 940) (x6_a : 0 ≤ x6) (x6_b : x6 ≤ 4) (x7_a : (-2147483648) ≤ x7) (x7_b : x7 ≤ 2147483647) (x8_a : (-2147483648) ≤ x8) (x8_b : x8 ≤ 2147483647) (x9_a : 0 ≤ x9) (x9_b : x9 ≤ 940) (x10_a : (-2147483648) ≤ x10) (x10_b : x10 ≤ 2147483647) (x11_a : 0 ≤ x11) (x11_b : x11 ≤ 8) (x12_a : 0 ≤ x12) (x12_b : x12 ≤ 9) (x13_a : (-1) ≤ x13) (x13_b : x13 ≤ 9) (x14_a : (-1) ≤ x14) (x14_b : x14 ≤ 8) (x15_a : 0 ≤ x15) (x15_b : x15 ≤ 9) (x16_a : 0 ≤ x16) (x16_b : x16 ≤ 64) (x17_a : 0 ≤ x17) (x17_b : x17 ≤ 40) (x18_a : 0 ≤ x18) (x18_b : x18 ≤ 40) (x19_a : 0 ≤ x19) (x19_b : x19 ≤ 20) (x20_a : 0 ≤ x20) (x20_b : x20 ≤ 8) (x21_a : 0 ≤ x21) (x21_b : x21 ≤ 39) (f0_h : nowI f0) (f1_h : FL f1) (pp_s : snI f1 x11) : Met l yX12_mend (Cond.code yX12_mend cX12_mend 2 (some .int) :: GW) (Rm 2 0 0) (cPre [.ref a0, .int (iI x0)] D T [(a0, .inr (11, [.int r0, .ref a1, .int (iI x1), .int (iI x2), .int (iI x3), .int (iI x4), .int (iI x5), .int (iI x6), .int r1, .int (iI x7), .int (iI x8), .int (iI x9), .long y0, .int (iI x10), .ref a2, .ref a3, .ref a4, .ref a5, .ref a6, .ref a7, .ref a8, .ref a9, .ref a10, .ref a11, .int (iI x11), .ref a12, .ref a13, .ref a14, .ref a15, .int (iI x12), .int r2, .int r3, .ref a16, .int (iI x13), .int (iI x14), .ref a17, .ref a18, .int (iI x15), .ref a19, .int (iI x16), .int r4, .ref a20, .ref a21, .int (iI x17), .int r5, .ref a22, .int (iI x18), .int (iI x19), .int (iI x20), .int (iI x21)])), (a2, .inl (T 0, 329, .inl (cI f0))), (a5, .inl (T 0, 272, .inl (cI f1)))] sz) (qI D [(a0, .inr (11, [.int r0, .ref a1, .int (iI x1), .int (iI x2), .int (iI x3), .int (iI x4), .int (iI x5), .int (iI x6), .int r1, .int (iI x7), .int (iI x8), .int (iI x9), .long y0, .int (iI x10), .ref a2, .ref a3, .ref a4, .ref a5, .ref a6, .ref a7, .ref a8, .ref a9, .ref a10, .ref a11, .int (iI x11), .ref a12, .ref a13, .ref a14, .ref a15, .int (iI x12), .int r2, .int r3, .ref a16, .int (iI x13), .int (iI x14), .ref a17, .ref a18, .int (iI x15), .ref a19, .int (iI x16), .int r4, .ref a20, .ref a21, .int (iI x17), .int r5, .ref a22, .int (iI x18), .int (iI x19), .int (iI x20), .int (iI x21)])), (a2, .inl (T 0, 329, .inl (cI f0))), (a5, .inl (T 0, 272, .inl (cI f1)))] sz (fun (v : Int32) (u : Int × Int32 × Int × (Int → Int) × (Int → Int)) => iI u.1 = v ∧ (-2147483648) ≤ u.1 ∧ u.1 ≤ 2147483647 ∧ 0 ≤ u.2.2.1 ∧ u.2.2.1 ≤ 8 ∧ nowI u.2.2.2.1 ∧ FL u.2.2.2.2 ∧ (snI u.2.2.2.2 u.2.2.1) ∧ (kp 53 f0 u.2.2.2.1)) (fun u => [(a0, .inr (11, [.int u.2.1, .ref a1, .int (iI x1), .int (iI x2), .int (iI x3), .int (iI x4), .int (iI x5), .int (iI x6), .int r1, .int (iI x7), .int (iI x8), .int (iI x9), .long y0, .int (iI x10), .ref a2, .ref a3, .ref a4, .ref a5, .ref a6, .ref a7, .ref a8, .ref a9, .ref a10, .ref a11, .int (iI u.2.2.1), .ref a12, .ref a13, .ref a14, .ref a15, .int (iI x12), .int r2, .int r3, .ref a16, .int (iI x13), .int (iI x14), .ref a17, .ref a18, .int (iI x15), .ref a19, .int (iI x16), .int r4, .ref a20, .ref a21, .int (iI x17), .int r5, .ref a22, .int (iI x18), .int (iI x19), .int (iI x20), .int (iI x21)])), (a2, .inl (T 0, 329, .inl (cI u.2.2.2.1))), (a5, .inl (T 0, 272, .inl (cI u.2.2.2.2)))])) 0 0 (va_A [(a0, .inr (11, [.int r0, .ref a1, .int (iI x1), .int (iI x2), .int (iI x3), .int (iI x4), .int (iI x5), .int (iI x6), .int r1, .int (iI x7), .int (iI x8), .int (iI x9), .long y0, .int (iI x10), .ref a2, .ref a3, .ref a4, .ref a5, .ref a6, .ref a7, .ref a8, .ref a9, .ref a10, .ref a11, .int (iI x11), .ref a12, .ref a13, .ref a14, .ref a15, .int (iI x12), .int r2, .int r3, .ref a16, .int (iI x13), .int (iI x14), .ref a17, .ref a18, .int (iI x15), .ref a19, .int (iI x16), .int r4, .ref a20, .ref a21, .int (iI x17), .int r5, .ref a22, .int (iI x18), .int (iI x19), .int (iI x20), .int (iI x21)])), (a2, .inl (T 0, 329, .inl (cI f0))), (a5, .inl (T 0, 272, .inl (cI f1)))] sz) := by
  refine e_I (by decide) (Nat.le_of_ble_eq_true rfl) ?_
  intro p e s m args below meth c A Q ls M hin w ret hl
  have hx := M.1.1
  have hb := M.1.2.1
  have hl : lv_has ls 2 [(0, .ref a0), (1, .int (iI x0))] := hl
  refine lv_aload_n hx hb dX12_mend_0 rfl (lv_at hl 0 rfl) ?_
  refine lv_iconst (v := iI 0) hx hb dX12_mend_1 (by decide +kernel) ?_
  refine r_put (ws' := [(a0, .inr (11, [.int (iI 0), .ref a1, .int (iI x1), .int (iI x2), .int (iI x3), .int (iI x4), .int (iI x5), .int (iI x6), .int r1, .int (iI x7), .int (iI x8), .int (iI x9), .long y0, .int (iI x10), .ref a2, .ref a3, .ref a4, .ref a5, .ref a6, .ref a7, .ref a8, .ref a9, .ref a10, .ref a11, .int (iI x11), .ref a12, .ref a13, .ref a14, .ref a15, .int (iI x12), .int r2, .int r3, .ref a16, .int (iI x13), .int (iI x14), .ref a17, .ref a18, .int (iI x15), .ref a19, .int (iI x16), .int r4, .ref a20, .ref a21, .int (iI x17), .int r5, .ref a22, .int (iI x18), .int (iI x19), .int (iI x20), .int (iI x21)])), (a2, .inl (T 0, 329, .inl (cI f0))), (a5, .inl (T 0, 272, .inl (cI f1)))]) M w 0 0 clX12 rfl (by decide) G1463 rfl rfl rfl rfl (Nat.le_of_ble_eq_true rfl) rfl dX12_mend_2 (fun H locs w => ?_)
  refine lv_aload_n hx hb dX12_mend_5 rfl (lv_at hl 0 rfl) ?_
  refine lv_iconst (v := iI 2) hx hb dX12_mend_6 (by decide +kernel) ?_
  refine lv_iload_n hx hb dX12_mend_7 rfl (lv_at hl 1 rfl) ?_
  refine lv_iconst (v := iI 0) hx hb dX12_mend_8 (by decide +kernel) ?_
  refine lv_iconst (v := iI 0) hx hb dX12_mend_9 (by decide +kernel) ?_
  refine lv_aload_n hx hb dX12_mend_10 rfl (lv_at hl 0 rfl) ?_
  refine lv_iload_n hx hb dX12_mend_11 rfl (lv_at hl 1 rfl) ?_
  refine k_I (ce := 0) (sl := 0) (rest := [.int (iI 0), .int (iI 0), .int (iI x0), .int (iI 2), .ref a0]) (wr := [(a5, .inl (T 0, 272, .inl (cI f1)))]) (r_V (f := 1) [0, 1] M w V_HookedCityModel_240 G1736 G68 (c68_X12_isPerson l D T _ a0 x0 (iI 0) a1 x1 x2 x3 x4 x5 x6 r1 x7 x8 x9 y0 x10 a2 a3 a4 a5 a6 a7 a8 a9 a10 a11 x11 a12 a13 a14 a15 x12 r2 r3 a16 x13 x14 a17 a18 x15 a19 x16 r4 a20 a21 x17 r5 a22 x18 x19 x20 x21 f0 x0_a x0_b x1_a x1_b x2_a x2_b x3_a x3_b x4_a x4_b x5_a x5_b x6_a x6_b x7_a x7_b x8_a x8_b x9_a x9_b x10_a x10_b x11_a x11_b x12_a x12_b x13_a x13_b x14_a x14_b x15_a x15_b x16_a x16_b x17_a x17_b x18_a x18_b x19_a x19_b x20_a x20_b x21_a x21_b f0_h) 0 clX12 rfl rfl (by decide) rfl hl.1 rfl (Nat.le_of_ble_eq_true rfl) dX12_mend_12 (by decide) (by decide) (by decide) (by decide)) w [0, 1] [2] rfl rfl (by decide) (by decide) rfl rfl (fun v z1 H locs hp w => ?_)
  have hv : iI z1 = v := hp.1
  subst hv
  have z1_a : 0 ≤ z1 := hp.2.1
  have z1_b : z1 ≤ 1 := hp.2.2.1
  have ee2 : 0 ≤ ((x0 + 4294967296) - (z1 * 4294967296)) := hp.2.2.2.1
  have ee3 : 0 ≤ (((8 - x0) + 4294967296) - (z1 * 4294967296)) := hp.2.2.2.2.1
  have pq4 : ipQ z1 x0 (f0 0) := hp.2.2.2.2.2
  have w : WD D A s.heap [(a5, .inl (T 0, 272, .inl (cI f1))), (a0, .inr (11, [.int (iI 0), .ref a1, .int (iI x1), .int (iI x2), .int (iI x3), .int (iI x4), .int (iI x5), .int (iI x6), .int r1, .int (iI x7), .int (iI x8), .int (iI x9), .long y0, .int (iI x10), .ref a2, .ref a3, .ref a4, .ref a5, .ref a6, .ref a7, .ref a8, .ref a9, .ref a10, .ref a11, .int (iI x11), .ref a12, .ref a13, .ref a14, .ref a15, .int (iI x12), .int r2, .int r3, .ref a16, .int (iI x13), .int (iI x14), .ref a17, .ref a18, .int (iI x15), .ref a19, .int (iI x16), .int r4, .ref a20, .ref a21, .int (iI x17), .int r5, .ref a22, .int (iI x18), .int (iI x19), .int (iI x20), .int (iI x21)])), (a2, .inl (T 0, 329, .inl (cI f0)))] H locs := w
  refine k_I (ce := 0) (sl := 0) (rest := []) (wr := []) (r_V (f := 1) [1, 2, 0] M w V_HookedCityModel_291 G1788 G78 (c91_X12_act l D T _ a0 x0 0 0 z1 (iI 0) a1 x1 x2 x3 x4 x5 x6 r1 x7 x8 x9 y0 x10 a2 a3 a4 a5 a6 a7 a8 a9 a10 a11 x11 a12 a13 a14 a15 x12 r2 r3 a16 x13 x14 a17 a18 x15 a19 x16 r4 a20 a21 x17 r5 a22 x18 x19 x20 x21 f0 f1 x0_a x0_b (by decide) (by decide) (by decide) (by decide) z1_a z1_b x1_a x1_b x2_a x2_b x3_a x3_b x4_a x4_b x5_a x5_b x6_a x6_b x7_a x7_b x8_a x8_b x9_a x9_b x10_a x10_b x11_a x11_b x12_a x12_b x13_a x13_b x14_a x14_b x15_a x15_b x16_a x16_b x17_a x17_b x18_a x18_b x19_a x19_b x20_a x20_b x21_a x21_b f0_h f1_h pp_s (by omega) (by omega)) 1 clX12 rfl rfl (by decide) rfl hl.1 rfl (Nat.le_of_ble_eq_true rfl) dX12_mend_15 (by decide) (by decide) (by decide) (by decide)) w [1, 2, 0] [] rfl rfl (by decide) (by decide) rfl rfl (fun v u H locs hp w => ?_)
  obtain ⟨z5, z6, ff7, ff8⟩ := u
  have hv : iI z5 = v := hp.1
  subst hv
  have z5_a : (-2147483648) ≤ z5 := hp.2.1
  have z5_b : z5 ≤ 2147483647 := hp.2.2.1
  have z6_a : 0 ≤ z6 := hp.2.2.2.1
  have z6_b : z6 ≤ 8 := hp.2.2.2.2.1
  have ff7_h : nowI ff7 := hp.2.2.2.2.2.1
  have ff8_h : FL ff8 := hp.2.2.2.2.2.2.1
  have pq9 : snI ff8 z6 := hp.2.2.2.2.2.2.2.1
  have pq10 : kp 53 f0 ff7 := hp.2.2.2.2.2.2.2.2
  have w : WD D A s.heap [(a0, .inr (11, [.int (iI 0), .ref a1, .int (iI x1), .int (iI x2), .int (iI x3), .int (iI x4), .int (iI x5), .int (iI x6), .int r1, .int (iI x7), .int (iI x8), .int (iI x9), .long y0, .int (iI x10), .ref a2, .ref a3, .ref a4, .ref a5, .ref a6, .ref a7, .ref a8, .ref a9, .ref a10, .ref a11, .int (iI z6), .ref a12, .ref a13, .ref a14, .ref a15, .int (iI x12), .int r2, .int r3, .ref a16, .int (iI x13), .int (iI x14), .ref a17, .ref a18, .int (iI x15), .ref a19, .int (iI x16), .int r4, .ref a20, .ref a21, .int (iI x17), .int r5, .ref a22, .int (iI x18), .int (iI x19), .int (iI x20), .int (iI x21)])), (a2, .inl (T 0, 329, .inl (cI ff7))), (a5, .inl (T 0, 272, .inl (cI ff8)))] H locs := w
  exact ret _ (z5, (iI 0), z6, ff7, ff8) _ _ _ _ _ [0, 1, 2] dX12_mend_18 ⟨rfl, z5_a, z5_b, z6_a, z6_b, ff7_h, ff8_h, (show snI ff8 z6 from pq9), (show kp 53 f0 ff7 from pq10)⟩ w (by decide) rfl
set_option maxRecDepth 100000 in
set_option maxHeartbeats 4000000 in
theorem c93_X12_wears (l : Launch) (D : va_G) (T : Nat → ClassId) (sz : Nat) (a0 : Nat) (r0 : Int32) (a1 : Nat) (x0 : Int) (x1 : Int) (x2 : Int) (x3 : Int) (x4 : Int) (x5 : Int) (r1 : Int32) (x6 : Int) (x7 : Int) (x8 : Int) (y0 : Int64) (x9 : Int) (a2 : Nat) (a3 : Nat) (a4 : Nat) (a5 : Nat) (a6 : Nat) (a7 : Nat) (a8 : Nat) (a9 : Nat) (a10 : Nat) (a11 : Nat) (x10 : Int) (a12 : Nat) (a13 : Nat) (a14 : Nat) (a15 : Nat) (x11 : Int) (r2 : Int32) (r3 : Int32) (a16 : Nat) (x12 : Int) (x13 : Int) (a17 : Nat) (a18 : Nat) (x14 : Int) (a19 : Nat) (x15 : Int) (r4 : Int32) (a20 : Nat) (a21 : Nat) (x16 : Int) (r5 : Int32) (a22 : Nat) (x17 : Int) (x18 : Int) (x19 : Int) (x20 : Int) (f0 : Int → Int) (x0_a : 0 ≤ x0) (x0_b : x0 ≤ 940) (x1_a : 0 ≤ x1) (x1_b : x1 ≤ 940) (x2_a : 0 ≤ x2) (x2_b : x2 ≤ 940) (x3_a : 0 ≤ x3) (x3_b : x3 ≤ 940) (x4_a : 0 ≤ x4) (x4_b : x4 ≤ 940) (x5_a : 0 ≤ x5) (x5_b : x5 ≤ 4) (x6_a : (-2147483648) ≤ x6) (x6_b : x6 ≤ 2147483647) (x7_a : (-2147483648) ≤ x7) (x7_b : x7 ≤ 2147483647) (x8_a : 0 ≤ x8) (x8_b : x8 ≤ 940) (x9_a : (-2147483648) ≤ x9) (x9_b : x9 ≤ 2147483647) (x10_a : 0 ≤ x10) (x10_b : x10 ≤ 8) (x11_a : 0 ≤ x11) (x11_b : x11 ≤ 9) (x12_a : (-1) ≤ x12) (x12_b : x12 ≤ 9) (x13_a : (-1) ≤ x13) (x13_b : x13 ≤ 8) (x14_a : 0 ≤ x14) (x14_b : x14 ≤ 9) (x15_a : 0 ≤ x15) (x15_b : x15 ≤ 64) (x16_a : 0 ≤ x16) (x16_b : x16 ≤ 40) (x17_a : 0 ≤ x17) (x17_b : x17 ≤ 40) (x18_a : 0 ≤ x18) (x18_b : x18 ≤ 20) (x19_a : 0 ≤ x19) (x19_b : x19 ≤ 8) (x20_a : 0 ≤ x20) (x20_b : x20 ≤ 39) (f0_h : nowI f0) : Met l yX12_wears (Cond.code yX12_wears cX12_wears 2 none :: GW) (Rm 1 0 0) (cPre [.ref a0] D T [(a0, .inr (11, [.int r0, .ref a1, .int (iI x0), .int (iI x1), .int (iI x2), .int (iI x3), .int (iI x4), .int (iI x5), .int r1, .int (iI x6), .int (iI x7), .int (iI x8), .long y0, .int (iI x9), .ref a2, .ref a3, .ref a4, .ref a5, .ref a6, .ref a7, .ref a8, .ref a9, .ref a10, .ref a11, .int (iI x10), .ref a12, .ref a13, .ref a14, .ref a15, .int (iI x11), .int r2, .int r3, .ref a16, .int (iI x12), .int (iI x13), .ref a17, .ref a18, .int (iI x14), .ref a19, .int (iI x15), .int r4, .ref a20, .ref a21, .int (iI x16), .int r5, .ref a22, .int (iI x17), .int (iI x18), .int (iI x19), .int (iI x20)])), (a2, .inl (T 0, 329, .inl (cI f0)))] sz) (qV D [(a0, .inr (11, [.int r0, .ref a1, .int (iI x0), .int (iI x1), .int (iI x2), .int (iI x3), .int (iI x4), .int (iI x5), .int r1, .int (iI x6), .int (iI x7), .int (iI x8), .long y0, .int (iI x9), .ref a2, .ref a3, .ref a4, .ref a5, .ref a6, .ref a7, .ref a8, .ref a9, .ref a10, .ref a11, .int (iI x10), .ref a12, .ref a13, .ref a14, .ref a15, .int (iI x11), .int r2, .int r3, .ref a16, .int (iI x12), .int (iI x13), .ref a17, .ref a18, .int (iI x14), .ref a19, .int (iI x15), .int r4, .ref a20, .ref a21, .int (iI x16), .int r5, .ref a22, .int (iI x17), .int (iI x18), .int (iI x19), .int (iI x20)])), (a2, .inl (T 0, 329, .inl (cI f0)))] sz (fun (u : (Int → Int)) => nowI u ∧ (kp 53 f0 u)) (fun u => [(a0, .inr (11, [.int r0, .ref a1, .int (iI x0), .int (iI x1), .int (iI x2), .int (iI x3), .int (iI x4), .int (iI x5), .int r1, .int (iI x6), .int (iI x7), .int (iI x8), .long y0, .int (iI x9), .ref a2, .ref a3, .ref a4, .ref a5, .ref a6, .ref a7, .ref a8, .ref a9, .ref a10, .ref a11, .int (iI x10), .ref a12, .ref a13, .ref a14, .ref a15, .int (iI x11), .int r2, .int r3, .ref a16, .int (iI x12), .int (iI x13), .ref a17, .ref a18, .int (iI x14), .ref a19, .int (iI x15), .int r4, .ref a20, .ref a21, .int (iI x16), .int r5, .ref a22, .int (iI x17), .int (iI x18), .int (iI x19), .int (iI x20)])), (a2, .inl (T 0, 329, .inl (cI u)))])) 0 0 (va_A [(a0, .inr (11, [.int r0, .ref a1, .int (iI x0), .int (iI x1), .int (iI x2), .int (iI x3), .int (iI x4), .int (iI x5), .int r1, .int (iI x6), .int (iI x7), .int (iI x8), .long y0, .int (iI x9), .ref a2, .ref a3, .ref a4, .ref a5, .ref a6, .ref a7, .ref a8, .ref a9, .ref a10, .ref a11, .int (iI x10), .ref a12, .ref a13, .ref a14, .ref a15, .int (iI x11), .int r2, .int r3, .ref a16, .int (iI x12), .int (iI x13), .ref a17, .ref a18, .int (iI x14), .ref a19, .int (iI x15), .int r4, .ref a20, .ref a21, .int (iI x16), .int r5, .ref a22, .int (iI x17), .int (iI x18), .int (iI x19), .int (iI x20)])), (a2, .inl (T 0, 329, .inl (cI f0)))] sz) := by
  refine e_V (by decide) (Nat.le_of_ble_eq_true rfl) ?_
  intro p e s m args below meth c A Q ls M hin w ret hl
  have hx := M.1.1
  have hb := M.1.2.1
  have hl : lv_has ls 2 [(0, .ref a0)] := hl
  refine lv_iconst (v := iI 0) hx hb dX12_wears_0 (by decide +kernel) ?_
  refine lv_istore_n (lv' := [(1, .int (iI 0)), (0, .ref a0)]) hx hb dX12_wears_1 rfl hl (by decide) rfl (fun ls hl => ?_)
  have loop1 : ∀ (k1 : Nat) (ff1 : Int → Int) (z2 : Int) (H : Heap) (locs : List Loc) (ls : Array Slot), nowI ff1 → 0 ≤ z2 → z2 ≤ 9 → kp 53 f0 ff1 → ((9 - z2) : Int).toNat < k1 → WD D A s.heap [(a0, .inr (11, [.int r0, .ref a1, .int (iI x0), .int (iI x1), .int (iI x2), .int (iI x3), .int (iI x4), .int (iI x5), .int r1, .int (iI x6), .int (iI x7), .int (iI x8), .long y0, .int (iI x9), .ref a2, .ref a3, .ref a4, .ref a5, .ref a6, .ref a7, .ref a8, .ref a9, .ref a10, .ref a11, .int (iI x10), .ref a12, .ref a13, .ref a14, .ref a15, .int (iI x11), .int r2, .int r3, .ref a16, .int (iI x12), .int (iI x13), .ref a17, .ref a18, .int (iI x14), .ref a19, .int (iI x15), .int r4, .ref a20, .ref a21, .int (iI x16), .int r5, .ref a22, .int (iI x17), .int (iI x18), .int (iI x19), .int (iI x20)])), (a2, .inl (T 0, 329, .inl (cI ff1)))] H locs → lv_has ls 2 [(1, .int (iI z2)), (0, .ref a0)] → W p l e (Rm 1 0 0) s m args below meth c H locs 0 0 Q (F0 m 2 ls []) := by
    intro k1
    induction k1 with
    | zero => intro ff1 z2 H locs ls ff1_h z2_a z2_b lq1_hd hm; exact absurd hm (Nat.not_lt_zero _)
    | succ k1 ih1 =>
      intro ff1 z2 H locs ls ff1_h z2_a z2_b lq1_hd hm1 w hl
      refine lv_iload_n hx hb dX12_wears_2 rfl (lv_at hl 0 rfl) ?_
      refine lv_aload_n hx hb dX12_wears_3 rfl (lv_at hl 1 rfl) ?_
      refine r_get (v := .ref a2) M w 0 14 clX12 rfl (by decide) G1477 rfl rfl dX12_wears_4 ?_
      refine lv_iconst (v := iI 0) hx hb dX12_wears_7 (by decide +kernel) ?_
      refine r_iald (v := iI (ff1 0)) M w 1 rfl (iI_in (by decide) (by decide) (by decide)) (cI_at (by omega) (by omega)) dX12_wears_8 ?_
      have hh3 : (-2147483648) ≤ (ff1 0) ∧ (ff1 0) ≤ 2147483647 := ff1_h.1 0
      have hh4 : 0 ≤ (ff1 0) ∧ (ff1 0) ≤ 9 := (ff1_h.2.1 0).1 (by omega)
      refine lv_icmp_ge (tgt := 77) hx hb dX12_wears_9 (by decide) (fun c_5 => ?_) (fun c_5 => ?_)
      · replace c_5 := (iI_le (by omega) (by omega) (Int.le_trans (by decide) z2_a) (Int.le_trans z2_b (by decide))).mp c_5
        exact ret ff1 _ _ _ _ _ [0, 1] dX12_wears_77 ⟨ff1_h, (show kp 53 f0 ff1 from lq1_hd)⟩ w (by decide) rfl
      · replace c_5 : z2 < (ff1 0) := Int.not_le.mp (fun h => c_5 ((iI_le (by omega) (by omega) (Int.le_trans (by decide) z2_a) (Int.le_trans z2_b (by decide))).mpr h))
        refine lv_aload_n hx hb dX12_wears_12 rfl (lv_at hl 1 rfl) ?_
        refine lv_iload_n hx hb dX12_wears_13 rfl (lv_at hl 0 rfl) ?_
        refine k_I (ce := 0) (sl := 0) (rest := []) (wr := []) (r_V (f := 0) [0, 1] M w V_HookedCityModel_261 G1772 G75 (c71_X12_isBare l D T _ a0 z2 r0 a1 x0 x1 x2 x3 x4 x5 r1 x6 x7 x8 y0 x9 a2 a3 a4 a5 a6 a7 a8 a9 a10 a11 x10 a12 a13 a14 a15 x11 r2 r3 a16 x12 x13 a17 a18 x14 a19 x15 r4 a20 a21 x16 r5 a22 x17 x18 x19 x20 ff1 (by omega) (by omega) x0_a x0_b x1_a x1_b x2_a x2_b x3_a x3_b x4_a x4_b x5_a x5_b x6_a x6_b x7_a x7_b x8_a x8_b x9_a x9_b x10_a x10_b x11_a x11_b x12_a x12_b x13_a x13_b x14_a x14_b x15_a x15_b x16_a x16_b x17_a x17_b x18_a x18_b x19_a x19_b x20_a x20_b ff1_h) 0 clX12 rfl rfl (by decide) rfl hl.1 rfl (Nat.le_of_ble_eq_true rfl) dX12_wears_14 (by decide) (by decide) (by decide) (by decide)) w [0, 1] [] rfl rfl (by decide) (by decide) rfl rfl (fun v z6 H locs hp w => ?_)
        have hv : iI z6 = v := hp.1
        subst hv
        have z6_a : 0 ≤ z6 := hp.2.1
        have z6_b : z6 ≤ 1 := hp.2.2.1
        have pq7 : z6 = 1 → ff1 (66 + z2) = -1 := hp.2.2.2.1
        have pq8 : z6 = 0 → 0 ≤ ff1 (66 + z2) := hp.2.2.2.2
        have w : WD D A s.heap [(a0, .inr (11, [.int r0, .ref a1, .int (iI x0), .int (iI x1), .int (iI x2), .int (iI x3), .int (iI x4), .int (iI x5), .int r1, .int (iI x6), .int (iI x7), .int (iI x8), .long y0, .int (iI x9), .ref a2, .ref a3, .ref a4, .ref a5, .ref a6, .ref a7, .ref a8, .ref a9, .ref a10, .ref a11, .int (iI x10), .ref a12, .ref a13, .ref a14, .ref a15, .int (iI x11), .int r2, .int r3, .ref a16, .int (iI x12), .int (iI x13), .ref a17, .ref a18, .int (iI x14), .ref a19, .int (iI x15), .int r4, .ref a20, .ref a21, .int (iI x16), .int r5, .ref a22, .int (iI x17), .int (iI x18), .int (iI x19), .int (iI x20)])), (a2, .inl (T 0, 329, .inl (cI ff1)))] H locs := w
        refine lv_if_eq (tgt := 23) hx hb dX12_wears_17 (by decide) (fun c_9 => ?_) (fun c_9 => ?_)
        · replace c_9 := (iz_eq (Int.le_trans (by decide) z6_a) (Int.le_trans z6_b (by decide))).mp c_9
          refine lv_aload_n hx hb dX12_wears_23 rfl (lv_at hl 1 rfl) ?_
          refine r_get (v := .ref a2) M w 0 14 clX12 rfl (by decide) G1477 rfl rfl dX12_wears_24 ?_
          refine lv_bipush (v := iI 75) hx hb dX12_wears_27 (by decide +kernel) ?_
          refine lv_iload_n hx hb dX12_wears_29 rfl (lv_at hl 0 rfl) ?_
          refine r_iadd (v := iI (75 + z2)) M (iI_add _ _) dX12_wears_30 ?_
          refine lv_dup2_11 hx hb dX12_wears_31 rfl rfl ?_
          refine r_iald (v := iI (ff1 (75 + z2))) M w 1 rfl (iI_in (by omega) (by omega) (by decide)) (cI_at (by omega) (by omega)) dX12_wears_32 ?_
          have hh10 : (-2147483648) ≤ (ff1 (75 + z2)) ∧ (ff1 (75 + z2)) ≤ 2147483647 := ff1_h.1 (75 + z2)
          refine lv_iconst (v := iI 1) hx hb dX12_wears_33 (by decide +kernel) ?_
          refine r_isub (v := _) M rfl dX12_wears_34 ?_
          refine b_any (fun z11 z11_a z11_b => ?_)
          refine r_iast (ws' := [(a0, .inr (11, [.int r0, .ref a1, .int (iI x0), .int (iI x1), .int (iI x2), .int (iI x3), .int (iI x4), .int (iI x5), .int r1, .int (iI x6), .int (iI x7), .int (iI x8), .long y0, .int (iI x9), .ref a2, .ref a3, .ref a4, .ref a5, .ref a6, .ref a7, .ref a8, .ref a9, .ref a10, .ref a11, .int (iI x10), .ref a12, .ref a13, .ref a14, .ref a15, .int (iI x11), .int r2, .int r3, .ref a16, .int (iI x12), .int (iI x13), .ref a17, .ref a18, .int (iI x14), .ref a19, .int (iI x15), .int r4, .ref a20, .ref a21, .int (iI x16), .int r5, .ref a22, .int (iI x17), .int (iI x18), .int (iI x19), .int (iI x20)])), (a2, .inl (T 0, 329, .inl (cI (upz ff1 (75 + z2) z11))))]) M w 1 rfl (iI_in (by omega) (by omega) (by decide)) (by rw [cI_up (by omega) (by omega)]; rfl) dX12_wears_35 (fun H locs w => ?_)
          refine lv_aload_n hx hb dX12_wears_36 rfl (lv_at hl 1 rfl) ?_
          refine lv_iload_n hx hb dX12_wears_37 rfl (lv_at hl 0 rfl) ?_
          refine k_I (ce := 0) (sl := 0) (rest := []) (wr := []) (r_V (f := 0) [0, 1] M w V_HookedCityModel_264 G1776 G76 (c72_X12_isTorn l D T _ a0 z2 r0 a1 x0 x1 x2 x3 x4 x5 r1 x6 x7 x8 y0 x9 a2 a3 a4 a5 a6 a7 a8 a9 a10 a11 x10 a12 a13 a14 a15 x11 r2 r3 a16 x12 x13 a17 a18 x14 a19 x15 r4 a20 a21 x16 r5 a22 x17 x18 x19 x20 (upz ff1 (75 + z2) z11) (by omega) (by omega) x0_a x0_b x1_a x1_b x2_a x2_b x3_a x3_b x4_a x4_b x5_a x5_b x6_a x6_b x7_a x7_b x8_a x8_b x9_a x9_b x10_a x10_b x11_a x11_b x12_a x12_b x13_a x13_b x14_a x14_b x15_a x15_b x16_a x16_b x17_a x17_b x18_a x18_b x19_a x19_b x20_a x20_b (now_up ff1_h (by omega) (by omega) (by unfold nr; omega) (by omega) (by omega))) 0 clX12 rfl rfl (by decide) rfl hl.1 rfl (Nat.le_of_ble_eq_true rfl) dX12_wears_38 (by decide) (by decide) (by decide) (by decide)) w [0, 1] [] rfl rfl (by decide) (by decide) rfl rfl (fun v z12 H locs hp w => ?_)
          have hv : iI z12 = v := hp.1
          subst hv
          have z12_a : 0 ≤ z12 := hp.2.1
          have z12_b : z12 ≤ 1 := hp.2.2
          have w : WD D A s.heap [(a0, .inr (11, [.int r0, .ref a1, .int (iI x0), .int (iI x1), .int (iI x2), .int (iI x3), .int (iI x4), .int (iI x5), .int r1, .int (iI x6), .int (iI x7), .int (iI x8), .long y0, .int (iI x9), .ref a2, .ref a3, .ref a4, .ref a5, .ref a6, .ref a7, .ref a8, .ref a9, .ref a10, .ref a11, .int (iI x10), .ref a12, .ref a13, .ref a14, .ref a15, .int (iI x11), .int r2, .int r3, .ref a16, .int (iI x12), .int (iI x13), .ref a17, .ref a18, .int (iI x14), .ref a19, .int (iI x15), .int r4, .ref a20, .ref a21, .int (iI x16), .int r5, .ref a22, .int (iI x17), .int (iI x18), .int (iI x19), .int (iI x20)])), (a2, .inl (T 0, 329, .inl (cI (upz ff1 (75 + z2) z11))))] H locs := w
          refine lv_if_ne (tgt := 47) hx hb dX12_wears_41 (by decide) (fun c_13 => ?_) (fun c_13 => ?_)
          · replace c_13 : ¬ z12 = 0 := fun h => c_13 ((iz_eq (Int.le_trans (by decide) z12_a) (Int.le_trans z12_b (by decide))).mpr h)
            refine lv_aload_n hx hb dX12_wears_47 rfl (lv_at hl 1 rfl) ?_
            refine lv_aload_n hx hb dX12_wears_48 rfl (lv_at hl 1 rfl) ?_
            refine r_get (v := .ref a2) M w 0 14 clX12 rfl (by decide) G1477 rfl rfl dX12_wears_49 ?_
            refine lv_bipush (v := iI 66) hx hb dX12_wears_52 (by decide +kernel) ?_
            refine lv_iload_n hx hb dX12_wears_54 rfl (lv_at hl 0 rfl) ?_
            refine r_iadd (v := iI (66 + z2)) M (iI_add _ _) dX12_wears_55 ?_
            refine r_iald (v := iI (ff1 (66 + z2))) M w 1 rfl (iI_in (by omega) (by omega) (by decide)) ((cI_at (by omega) (by omega)).trans (congrArg iI (by rw [upz_n (by omega)]))) dX12_wears_56 ?_
            have hh14 : (-2147483648) ≤ (ff1 (66 + z2)) ∧ (ff1 (66 + z2)) ≤ 2147483647 := ff1_h.1 (66 + z2)
            have hh15 : (-1) ≤ (ff1 (66 + z2)) ∧ (ff1 (66 + z2)) ≤ 8 := (ff1_h.2.1 (66 + z2)).2.2.2.1 (by omega) (by omega)
            refine k_V (ce := 0) (sl := 0) (rest := []) (wr := []) (r_V (f := 0) [0, 1] M w V_HookedCityModel_277 G1812 G84 (c79_X12_out l D T _ a0 (ff1 (66 + z2)) r0 a1 x0 x1 x2 x3 x4 x5 r1 x6 x7 x8 y0 x9 a2 a3 a4 a5 a6 a7 a8 a9 a10 a11 x10 a12 a13 a14 a15 x11 r2 r3 a16 x12 x13 a17 a18 x14 a19 x15 r4 a20 a21 x16 r5 a22 x17 x18 x19 x20 (upz ff1 (75 + z2) z11) (by omega) (by omega) x0_a x0_b x1_a x1_b x2_a x2_b x3_a x3_b x4_a x4_b x5_a x5_b x6_a x6_b x7_a x7_b x8_a x8_b x9_a x9_b x10_a x10_b x11_a x11_b x12_a x12_b x13_a x13_b x14_a x14_b x15_a x15_b x16_a x16_b x17_a x17_b x18_a x18_b x19_a x19_b x20_a x20_b (now_up ff1_h (by omega) (by omega) (by unfold nr; omega) (by omega) (by omega))) 0 clX12 rfl rfl (by decide) rfl hl.1 rfl (Nat.le_of_ble_eq_true rfl) dX12_wears_57 (by decide) (by decide) (by decide) (by decide)) w [0, 1] [] rfl rfl (by decide) (by decide) rfl rfl (fun ff16 H locs hp w => ?_)
            have ff16_h : nowI ff16 := hp.1
            have pq17 : kp 53 (upz ff1 (75 + z2) z11) ff16 := hp.2
            have w : WD D A s.heap [(a0, .inr (11, [.int r0, .ref a1, .int (iI x0), .int (iI x1), .int (iI x2), .int (iI x3), .int (iI x4), .int (iI x5), .int r1, .int (iI x6), .int (iI x7), .int (iI x8), .long y0, .int (iI x9), .ref a2, .ref a3, .ref a4, .ref a5, .ref a6, .ref a7, .ref a8, .ref a9, .ref a10, .ref a11, .int (iI x10), .ref a12, .ref a13, .ref a14, .ref a15, .int (iI x11), .int r2, .int r3, .ref a16, .int (iI x12), .int (iI x13), .ref a17, .ref a18, .int (iI x14), .ref a19, .int (iI x15), .int r4, .ref a20, .ref a21, .int (iI x16), .int r5, .ref a22, .int (iI x17), .int (iI x18), .int (iI x19), .int (iI x20)])), (a2, .inl (T 0, 329, .inl (cI ff16)))] H locs := w
            refine lv_aload_n hx hb dX12_wears_60 rfl (lv_at hl 1 rfl) ?_
            refine r_get (v := .ref a2) M w 0 14 clX12 rfl (by decide) G1477 rfl rfl dX12_wears_61 ?_
            refine lv_bipush (v := iI 56) hx hb dX12_wears_64 (by decide +kernel) ?_
            refine lv_dup2_11 hx hb dX12_wears_66 rfl rfl ?_
            refine r_iald (v := iI (ff16 56)) M w 1 rfl (iI_in (by decide) (by decide) (by decide)) (cI_at (by omega) (by omega)) dX12_wears_67 ?_
            have hh18 : (-2147483648) ≤ (ff16 56) ∧ (ff16 56) ≤ 2147483647 := ff16_h.1 56
            refine lv_iconst (v := iI 1) hx hb dX12_wears_68 (by decide +kernel) ?_
            refine r_iadd (v := _) M rfl dX12_wears_69 ?_
            refine b_any (fun z19 z19_a z19_b => ?_)
            refine r_iast (ws' := [(a0, .inr (11, [.int r0, .ref a1, .int (iI x0), .int (iI x1), .int (iI x2), .int (iI x3), .int (iI x4), .int (iI x5), .int r1, .int (iI x6), .int (iI x7), .int (iI x8), .long y0, .int (iI x9), .ref a2, .ref a3, .ref a4, .ref a5, .ref a6, .ref a7, .ref a8, .ref a9, .ref a10, .ref a11, .int (iI x10), .ref a12, .ref a13, .ref a14, .ref a15, .int (iI x11), .int r2, .int r3, .ref a16, .int (iI x12), .int (iI x13), .ref a17, .ref a18, .int (iI x14), .ref a19, .int (iI x15), .int r4, .ref a20, .ref a21, .int (iI x16), .int r5, .ref a22, .int (iI x17), .int (iI x18), .int (iI x19), .int (iI x20)])), (a2, .inl (T 0, 329, .inl (cI (upz ff16 56 z19))))]) M w 1 rfl (iI_in (by decide) (by decide) (by decide)) (by rw [cI_up (by omega) (by omega)]; rfl) dX12_wears_70 (fun H locs w => ?_)
            refine lv_iinc (v := iI (z2 + 1)) (lv' := [(1, .int (iI (z2 + 1))), (0, .ref a0)]) hx hb dX12_wears_71 hl (k := 0) rfl (ii_inc (by decide +kernel)) (by decide) rfl (fun ls hl => ?_)
            refine lv_goto (tgt := 2) hx hb dX12_wears_74 (by decide) ?_
            exact ih1 (upz ff16 56 z19) (z2 + 1) _ _ _ (now_up ff16_h (by omega) (by omega) (by unfold nr; omega) (by omega) (by omega)) (by omega) (by omega) (kp_up (kp_tr (kp_up (kp_tr kp_rfl lq1_hd) (by omega)) pq17) (by omega)) (by omega) w (lv_sub hl [0, 1] rfl)
          · replace c_13 := (iz_eq (Int.le_trans (by decide) z12_a) (Int.le_trans z12_b (by decide))).mp c_13
            refine lv_goto (tgt := 71) hx hb dX12_wears_44 (by decide) ?_
            refine lv_iinc (v := iI (z2 + 1)) (lv' := [(1, .int (iI (z2 + 1))), (0, .ref a0)]) hx hb dX12_wears_71 hl (k := 0) rfl (ii_inc (by decide +kernel)) (by decide) rfl (fun ls hl => ?_)
            refine lv_goto (tgt := 2) hx hb dX12_wears_74 (by decide) ?_
            exact ih1 (upz ff1 (75 + z2) z11) (z2 + 1) _ _ _ (now_up ff1_h (by omega) (by omega) (by unfold nr; omega) (by omega) (by omega)) (by omega) (by omega) (kp_up (kp_tr kp_rfl lq1_hd) (by omega)) (by omega) w (lv_sub hl [0, 1] rfl)
        · replace c_9 : ¬ z6 = 0 := fun h => c_9 ((iz_eq (Int.le_trans (by decide) z6_a) (Int.le_trans z6_b (by decide))).mpr h)
          refine lv_goto (tgt := 71) hx hb dX12_wears_20 (by decide) ?_
          refine lv_iinc (v := iI (z2 + 1)) (lv' := [(1, .int (iI (z2 + 1))), (0, .ref a0)]) hx hb dX12_wears_71 hl (k := 0) rfl (ii_inc (by decide +kernel)) (by decide) rfl (fun ls hl => ?_)
          refine lv_goto (tgt := 2) hx hb dX12_wears_74 (by decide) ?_
          exact ih1 ff1 (z2 + 1) _ _ _ ff1_h (by omega) (by omega) lq1_hd (by omega) w (lv_sub hl [0, 1] rfl)
  exact loop1 ((9 : Int).toNat + 1) f0 0 _ _ _ f0_h (by decide) (by decide) kp_rfl (Nat.lt_succ_self _) w (lv_sub hl [0, 1] rfl)
set_option maxRecDepth 100000 in
set_option maxHeartbeats 4000000 in
theorem c94_X12_oneDay (l : Launch) (D : va_G) (T : Nat → ClassId) (sz : Nat) (a0 : Nat) (r0 : Int32) (a1 : Nat) (x0 : Int) (x1 : Int) (x2 : Int) (x3 : Int) (x4 : Int) (x5 : Int) (r1 : Int32) (x6 : Int) (x7 : Int) (x8 : Int) (y0 : Int64) (x9 : Int) (a2 : Nat) (a3 : Nat) (a4 : Nat) (a5 : Nat) (a6 : Nat) (a7 : Nat) (a8 : Nat) (a9 : Nat) (a10 : Nat) (a11 : Nat) (x10 : Int) (a12 : Nat) (a13 : Nat) (a14 : Nat) (a15 : Nat) (x11 : Int) (r2 : Int32) (r3 : Int32) (a16 : Nat) (x12 : Int) (x13 : Int) (a17 : Nat) (a18 : Nat) (x14 : Int) (a19 : Nat) (x15 : Int) (r4 : Int32) (a20 : Nat) (a21 : Nat) (x16 : Int) (r5 : Int32) (a22 : Nat) (x17 : Int) (x18 : Int) (x19 : Int) (x20 : Int) (f0 : Int → Int) (x0_a : 0 ≤ x0) (x0_b : x0 ≤ 940) (x1_a : 0 ≤ x1) (x1_b : x1 ≤ 940) (x2_a : 0 ≤ x2) (x2_b : x2 ≤ 940) (x3_a : 0 ≤ x3) (x3_b : x3 ≤ 940) (x4_a : 0 ≤ x4) (x4_b : x4 ≤ 940) (x5_a : 0 ≤ x5) (x5_b : x5 ≤ 4) (x6_a : (-2147483648) ≤ x6) (x6_b : x6 ≤ 2147483647) (x7_a : (-2147483648) ≤ x7) (x7_b : x7 ≤ 2147483647) (x8_a : 0 ≤ x8) (x8_b : x8 ≤ 940) (x9_a : (-2147483648) ≤ x9) (x9_b : x9 ≤ 2147483647) (x10_a : 0 ≤ x10) (x10_b : x10 ≤ 8) (x11_a : 0 ≤ x11) (x11_b : x11 ≤ 9) (x12_a : (-1) ≤ x12) (x12_b : x12 ≤ 9) (x13_a : (-1) ≤ x13) (x13_b : x13 ≤ 8) (x14_a : 0 ≤ x14) (x14_b : x14 ≤ 9) (x15_a : 0 ≤ x15) (x15_b : x15 ≤ 64) (x16_a : 0 ≤ x16) (x16_b : x16 ≤ 40) (x17_a : 0 ≤ x17) (x17_b : x17 ≤ 40) (x18_a : 0 ≤ x18) (x18_b : x18 ≤ 20) (x19_a : 0 ≤ x19) (x19_b : x19 ≤ 8) (x20_a : 0 ≤ x20) (x20_b : x20 ≤ 39) (f0_h : nowI f0) : Met l yX12_oneDay (Cond.code yX12_oneDay cX12_oneDay 2 none :: GW) (Rm 2 0 0) (cPre [.ref a0] D T [(a0, .inr (11, [.int r0, .ref a1, .int (iI x0), .int (iI x1), .int (iI x2), .int (iI x3), .int (iI x4), .int (iI x5), .int r1, .int (iI x6), .int (iI x7), .int (iI x8), .long y0, .int (iI x9), .ref a2, .ref a3, .ref a4, .ref a5, .ref a6, .ref a7, .ref a8, .ref a9, .ref a10, .ref a11, .int (iI x10), .ref a12, .ref a13, .ref a14, .ref a15, .int (iI x11), .int r2, .int r3, .ref a16, .int (iI x12), .int (iI x13), .ref a17, .ref a18, .int (iI x14), .ref a19, .int (iI x15), .int r4, .ref a20, .ref a21, .int (iI x16), .int r5, .ref a22, .int (iI x17), .int (iI x18), .int (iI x19), .int (iI x20)])), (a2, .inl (T 0, 329, .inl (cI f0)))] sz) (qV D [(a0, .inr (11, [.int r0, .ref a1, .int (iI x0), .int (iI x1), .int (iI x2), .int (iI x3), .int (iI x4), .int (iI x5), .int r1, .int (iI x6), .int (iI x7), .int (iI x8), .long y0, .int (iI x9), .ref a2, .ref a3, .ref a4, .ref a5, .ref a6, .ref a7, .ref a8, .ref a9, .ref a10, .ref a11, .int (iI x10), .ref a12, .ref a13, .ref a14, .ref a15, .int (iI x11), .int r2, .int r3, .ref a16, .int (iI x12), .int (iI x13), .ref a17, .ref a18, .int (iI x14), .ref a19, .int (iI x15), .int r4, .ref a20, .ref a21, .int (iI x16), .int r5, .ref a22, .int (iI x17), .int (iI x18), .int (iI x19), .int (iI x20)])), (a2, .inl (T 0, 329, .inl (cI f0)))] sz (fun (u : (Int → Int)) => nowI u ∧ (kp 53 f0 u)) (fun u => [(a0, .inr (11, [.int r0, .ref a1, .int (iI x0), .int (iI x1), .int (iI x2), .int (iI x3), .int (iI x4), .int (iI x5), .int r1, .int (iI x6), .int (iI x7), .int (iI x8), .long y0, .int (iI x9), .ref a2, .ref a3, .ref a4, .ref a5, .ref a6, .ref a7, .ref a8, .ref a9, .ref a10, .ref a11, .int (iI x10), .ref a12, .ref a13, .ref a14, .ref a15, .int (iI x11), .int r2, .int r3, .ref a16, .int (iI x12), .int (iI x13), .ref a17, .ref a18, .int (iI x14), .ref a19, .int (iI x15), .int r4, .ref a20, .ref a21, .int (iI x16), .int r5, .ref a22, .int (iI x17), .int (iI x18), .int (iI x19), .int (iI x20)])), (a2, .inl (T 0, 329, .inl (cI u)))])) 0 0 (va_A [(a0, .inr (11, [.int r0, .ref a1, .int (iI x0), .int (iI x1), .int (iI x2), .int (iI x3), .int (iI x4), .int (iI x5), .int r1, .int (iI x6), .int (iI x7), .int (iI x8), .long y0, .int (iI x9), .ref a2, .ref a3, .ref a4, .ref a5, .ref a6, .ref a7, .ref a8, .ref a9, .ref a10, .ref a11, .int (iI x10), .ref a12, .ref a13, .ref a14, .ref a15, .int (iI x11), .int r2, .int r3, .ref a16, .int (iI x12), .int (iI x13), .ref a17, .ref a18, .int (iI x14), .ref a19, .int (iI x15), .int r4, .ref a20, .ref a21, .int (iI x16), .int r5, .ref a22, .int (iI x17), .int (iI x18), .int (iI x19), .int (iI x20)])), (a2, .inl (T 0, 329, .inl (cI f0)))] sz) := by
  refine e_V (by decide) (Nat.le_of_ble_eq_true rfl) ?_
  intro p e s m args below meth c A Q ls M hin w ret hl
  have hx := M.1.1
  have hb := M.1.2.1
  have hl : lv_has ls 2 [(0, .ref a0)] := hl
  refine lv_aload_n hx hb dX12_oneDay_0 rfl (lv_at hl 0 rfl) ?_
  refine k_I (ce := 0) (sl := 0) (rest := []) (wr := []) (r_V (f := 0) [0, 1] M w V_HookedCityModel_267 G1780 G77 (c75_X12_isJuly l D T _ a0 r0 a1 x0 x1 x2 x3 x4 x5 r1 x6 x7 x8 y0 x9 a2 a3 a4 a5 a6 a7 a8 a9 a10 a11 x10 a12 a13 a14 a15 x11 r2 r3 a16 x12 x13 a17 a18 x14 a19 x15 r4 a20 a21 x16 r5 a22 x17 x18 x19 x20 f0 x0_a x0_b x1_a x1_b x2_a x2_b x3_a x3_b x4_a x4_b x5_a x5_b x6_a x6_b x7_a x7_b x8_a x8_b x9_a x9_b x10_a x10_b x11_a x11_b x12_a x12_b x13_a x13_b x14_a x14_b x15_a x15_b x16_a x16_b x17_a x17_b x18_a x18_b x19_a x19_b x20_a x20_b f0_h) 0 clX12 rfl rfl (by decide) rfl hl.1 rfl (Nat.le_of_ble_eq_true rfl) dX12_oneDay_1 (by decide) (by decide) (by decide) (by decide)) w [0, 1] [] rfl rfl (by decide) (by decide) rfl rfl (fun v z1 H locs hp w => ?_)
  have hv : iI z1 = v := hp.1
  subst hv
  have z1_a : 0 ≤ z1 := hp.2.1
  have z1_b : z1 ≤ 1 := hp.2.2
  have w : WD D A s.heap [(a0, .inr (11, [.int r0, .ref a1, .int (iI x0), .int (iI x1), .int (iI x2), .int (iI x3), .int (iI x4), .int (iI x5), .int r1, .int (iI x6), .int (iI x7), .int (iI x8), .long y0, .int (iI x9), .ref a2, .ref a3, .ref a4, .ref a5, .ref a6, .ref a7, .ref a8, .ref a9, .ref a10, .ref a11, .int (iI x10), .ref a12, .ref a13, .ref a14, .ref a15, .int (iI x11), .int r2, .int r3, .ref a16, .int (iI x12), .int (iI x13), .ref a17, .ref a18, .int (iI x14), .ref a19, .int (iI x15), .int r4, .ref a20, .ref a21, .int (iI x16), .int r5, .ref a22, .int (iI x17), .int (iI x18), .int (iI x19), .int (iI x20)])), (a2, .inl (T 0, 329, .inl (cI f0)))] H locs := w
  refine lv_if_eq (tgt := 11) hx hb dX12_oneDay_4 (by decide) (fun c_2 => ?_) (fun c_2 => ?_)
  · replace c_2 := (iz_eq (Int.le_trans (by decide) z1_a) (Int.le_trans z1_b (by decide))).mp c_2
    refine lv_iconst (v := iI 0) hx hb dX12_oneDay_11 (by decide +kernel) ?_
    refine lv_istore_n (lv' := [(1, .int (iI 0)), (0, .ref a0)]) hx hb dX12_oneDay_12 rfl hl (by decide) rfl (fun ls hl => ?_)
    have loop1 : ∀ (k1 : Nat) (ff3 : Int → Int) (z4 : Int) (H : Heap) (locs : List Loc) (ls : Array Slot), nowI ff3 → 0 ≤ z4 → z4 ≤ 3 → kp 53 f0 ff3 → ((3 - z4) : Int).toNat < k1 → WD D A s.heap [(a0, .inr (11, [.int r0, .ref a1, .int (iI x0), .int (iI x1), .int (iI x2), .int (iI x3), .int (iI x4), .int (iI x5), .int r1, .int (iI x6), .int (iI x7), .int (iI x8), .long y0, .int (iI x9), .ref a2, .ref a3, .ref a4, .ref a5, .ref a6, .ref a7, .ref a8, .ref a9, .ref a10, .ref a11, .int (iI x10), .ref a12, .ref a13, .ref a14, .ref a15, .int (iI x11), .int r2, .int r3, .ref a16, .int (iI x12), .int (iI x13), .ref a17, .ref a18, .int (iI x14), .ref a19, .int (iI x15), .int r4, .ref a20, .ref a21, .int (iI x16), .int r5, .ref a22, .int (iI x17), .int (iI x18), .int (iI x19), .int (iI x20)])), (a2, .inl (T 0, 329, .inl (cI ff3)))] H locs → lv_has ls 2 [(1, .int (iI z4)), (0, .ref a0)] → W p l e (Rm 2 0 0) s m args below meth c H locs 0 0 Q (F0 m 13 ls []) := by
      intro k1
      induction k1 with
      | zero => intro ff3 z4 H locs ls ff3_h z4_a z4_b lq1_hd hm; exact absurd hm (Nat.not_lt_zero _)
      | succ k1 ih1 =>
        intro ff3 z4 H locs ls ff3_h z4_a z4_b lq1_hd hm1 w hl
        refine lv_iload_n hx hb dX12_oneDay_13 rfl (lv_at hl 0 rfl) ?_
        refine lv_iconst (v := iI 3) hx hb dX12_oneDay_14 (by decide +kernel) ?_
        refine lv_icmp_ge (tgt := 34) hx hb dX12_oneDay_15 (by decide) (fun c_5 => ?_) (fun c_5 => ?_)
        · replace c_5 := (iI_le (by decide) (by decide) (Int.le_trans (by decide) z4_a) (Int.le_trans z4_b (by decide))).mp c_5
          refine lv_aload_n hx hb dX12_oneDay_34 rfl (lv_at hl 1 rfl) ?_
          refine r_get (v := .ref a2) M w 0 14 clX12 rfl (by decide) G1477 rfl rfl dX12_oneDay_35 ?_
          refine lv_bipush (v := iI 53) hx hb dX12_oneDay_38 (by decide +kernel) ?_
          refine lv_dup2_11 hx hb dX12_oneDay_40 rfl rfl ?_
          refine r_iald (v := iI (ff3 53)) M w 1 rfl (iI_in (by decide) (by decide) (by decide)) (cI_at (by omega) (by omega)) dX12_oneDay_41 ?_
          have hh6 : (-2147483648) ≤ (ff3 53) ∧ (ff3 53) ≤ 2147483647 := ff3_h.1 53
          refine lv_iconst (v := iI 1) hx hb dX12_oneDay_42 (by decide +kernel) ?_
          refine r_iadd (v := _) M rfl dX12_oneDay_43 ?_
          refine b_any (fun z7 z7_a z7_b => ?_)
          refine r_iast (ws' := [(a0, .inr (11, [.int r0, .ref a1, .int (iI x0), .int (iI x1), .int (iI x2), .int (iI x3), .int (iI x4), .int (iI x5), .int r1, .int (iI x6), .int (iI x7), .int (iI x8), .long y0, .int (iI x9), .ref a2, .ref a3, .ref a4, .ref a5, .ref a6, .ref a7, .ref a8, .ref a9, .ref a10, .ref a11, .int (iI x10), .ref a12, .ref a13, .ref a14, .ref a15, .int (iI x11), .int r2, .int r3, .ref a16, .int (iI x12), .int (iI x13), .ref a17, .ref a18, .int (iI x14), .ref a19, .int (iI x15), .int r4, .ref a20, .ref a21, .int (iI x16), .int r5, .ref a22, .int (iI x17), .int (iI x18), .int (iI x19), .int (iI x20)])), (a2, .inl (T 0, 329, .inl (cI (upz ff3 53 z7))))]) M w 1 rfl (iI_in (by decide) (by decide) (by decide)) (by rw [cI_up (by omega) (by omega)]; rfl) dX12_oneDay_44 (fun H locs w => ?_)
          exact ret (upz ff3 53 z7) _ _ _ _ _ [0, 1] dX12_oneDay_45 ⟨(now_up ff3_h (by omega) (by omega) (by unfold nr; omega) (by omega) (by omega)), (show kp 53 f0 (upz ff3 53 z7) from (kp_up (kp_tr kp_rfl lq1_hd) (by omega)))⟩ w (by decide) rfl
        · replace c_5 : z4 < 3 := Int.not_le.mp (fun h => c_5 ((iI_le (by decide) (by decide) (Int.le_trans (by decide) z4_a) (Int.le_trans z4_b (by decide))).mpr h))
          refine lv_aload_n hx hb dX12_oneDay_18 rfl (lv_at hl 1 rfl) ?_
          refine r_get (v := .ref a2) M w 0 14 clX12 rfl (by decide) G1477 rfl rfl dX12_oneDay_19 ?_
          refine lv_bipush (v := iI 84) hx hb dX12_oneDay_22 (by decide +kernel) ?_
          refine lv_iload_n hx hb dX12_oneDay_24 rfl (lv_at hl 0 rfl) ?_
          refine r_iadd (v := iI (84 + z4)) M (iI_add _ _) dX12_oneDay_25 ?_
          refine lv_iconst (v := iI 0) hx hb dX12_oneDay_26 (by decide +kernel) ?_
          refine r_iast (ws' := [(a0, .inr (11, [.int r0, .ref a1, .int (iI x0), .int (iI x1), .int (iI x2), .int (iI x3), .int (iI x4), .int (iI x5), .int r1, .int (iI x6), .int (iI x7), .int (iI x8), .long y0, .int (iI x9), .ref a2, .ref a3, .ref a4, .ref a5, .ref a6, .ref a7, .ref a8, .ref a9, .ref a10, .ref a11, .int (iI x10), .ref a12, .ref a13, .ref a14, .ref a15, .int (iI x11), .int r2, .int r3, .ref a16, .int (iI x12), .int (iI x13), .ref a17, .ref a18, .int (iI x14), .ref a19, .int (iI x15), .int r4, .ref a20, .ref a21, .int (iI x16), .int r5, .ref a22, .int (iI x17), .int (iI x18), .int (iI x19), .int (iI x20)])), (a2, .inl (T 0, 329, .inl (cI (upz ff3 (84 + z4) 0))))]) M w 1 rfl (iI_in (by omega) (by omega) (by decide)) (by rw [cI_up (by omega) (by omega)]; rfl) dX12_oneDay_27 (fun H locs w => ?_)
          refine lv_iinc (v := iI (z4 + 1)) (lv' := [(1, .int (iI (z4 + 1))), (0, .ref a0)]) hx hb dX12_oneDay_28 hl (k := 0) rfl (ii_inc (by decide +kernel)) (by decide) rfl (fun ls hl => ?_)
          refine lv_goto (tgt := 13) hx hb dX12_oneDay_31 (by decide) ?_
          exact ih1 (upz ff3 (84 + z4) 0) (z4 + 1) _ _ _ (now_up ff3_h (by omega) (by omega) (by unfold nr; omega) (by omega) (by omega)) (by omega) (by omega) (kp_up (kp_tr kp_rfl lq1_hd) (by omega)) (by omega) w (lv_sub hl [0, 1] rfl)
    exact loop1 ((3 : Int).toNat + 1) f0 0 _ _ _ f0_h (by decide) (by decide) kp_rfl (Nat.lt_succ_self _) w (lv_sub hl [0, 1] rfl)
  · replace c_2 : ¬ z1 = 0 := fun h => c_2 ((iz_eq (Int.le_trans (by decide) z1_a) (Int.le_trans z1_b (by decide))).mpr h)
    refine lv_aload_n hx hb dX12_oneDay_7 rfl (lv_at hl 0 rfl) ?_
    refine k_V (ce := 0) (sl := 0) (rest := []) (wr := []) (r_V (f := 1) [0, 1] M w V_HookedCityModel_295 G1843 G87 (c93_X12_wears l D T _ a0 r0 a1 x0 x1 x2 x3 x4 x5 r1 x6 x7 x8 y0 x9 a2 a3 a4 a5 a6 a7 a8 a9 a10 a11 x10 a12 a13 a14 a15 x11 r2 r3 a16 x12 x13 a17 a18 x14 a19 x15 r4 a20 a21 x16 r5 a22 x17 x18 x19 x20 f0 x0_a x0_b x1_a x1_b x2_a x2_b x3_a x3_b x4_a x4_b x5_a x5_b x6_a x6_b x7_a x7_b x8_a x8_b x9_a x9_b x10_a x10_b x11_a x11_b x12_a x12_b x13_a x13_b x14_a x14_b x15_a x15_b x16_a x16_b x17_a x17_b x18_a x18_b x19_a x19_b x20_a x20_b f0_h) 0 clX12 rfl rfl (by decide) rfl hl.1 rfl (Nat.le_of_ble_eq_true rfl) dX12_oneDay_8 (by decide) (by decide) (by decide) (by decide)) w [0, 1] [] rfl rfl (by decide) (by decide) rfl rfl (fun ff8 H locs hp w => ?_)
    have ff8_h : nowI ff8 := hp.1
    have pq9 : kp 53 f0 ff8 := hp.2
    have w : WD D A s.heap [(a0, .inr (11, [.int r0, .ref a1, .int (iI x0), .int (iI x1), .int (iI x2), .int (iI x3), .int (iI x4), .int (iI x5), .int r1, .int (iI x6), .int (iI x7), .int (iI x8), .long y0, .int (iI x9), .ref a2, .ref a3, .ref a4, .ref a5, .ref a6, .ref a7, .ref a8, .ref a9, .ref a10, .ref a11, .int (iI x10), .ref a12, .ref a13, .ref a14, .ref a15, .int (iI x11), .int r2, .int r3, .ref a16, .int (iI x12), .int (iI x13), .ref a17, .ref a18, .int (iI x14), .ref a19, .int (iI x15), .int r4, .ref a20, .ref a21, .int (iI x16), .int r5, .ref a22, .int (iI x17), .int (iI x18), .int (iI x19), .int (iI x20)])), (a2, .inl (T 0, 329, .inl (cI ff8)))] H locs := w
    refine lv_iconst (v := iI 0) hx hb dX12_oneDay_11 (by decide +kernel) ?_
    refine lv_istore_n (lv' := [(1, .int (iI 0)), (0, .ref a0)]) hx hb dX12_oneDay_12 rfl hl (by decide) rfl (fun ls hl => ?_)
    have loop1 : ∀ (k1 : Nat) (ff10 : Int → Int) (z11 : Int) (H : Heap) (locs : List Loc) (ls : Array Slot), nowI ff10 → 0 ≤ z11 → z11 ≤ 3 → kp 53 f0 ff10 → ((3 - z11) : Int).toNat < k1 → WD D A s.heap [(a0, .inr (11, [.int r0, .ref a1, .int (iI x0), .int (iI x1), .int (iI x2), .int (iI x3), .int (iI x4), .int (iI x5), .int r1, .int (iI x6), .int (iI x7), .int (iI x8), .long y0, .int (iI x9), .ref a2, .ref a3, .ref a4, .ref a5, .ref a6, .ref a7, .ref a8, .ref a9, .ref a10, .ref a11, .int (iI x10), .ref a12, .ref a13, .ref a14, .ref a15, .int (iI x11), .int r2, .int r3, .ref a16, .int (iI x12), .int (iI x13), .ref a17, .ref a18, .int (iI x14), .ref a19, .int (iI x15), .int r4, .ref a20, .ref a21, .int (iI x16), .int r5, .ref a22, .int (iI x17), .int (iI x18), .int (iI x19), .int (iI x20)])), (a2, .inl (T 0, 329, .inl (cI ff10)))] H locs → lv_has ls 2 [(1, .int (iI z11)), (0, .ref a0)] → W p l e (Rm 2 0 0) s m args below meth c H locs 0 0 Q (F0 m 13 ls []) := by
      intro k1
      induction k1 with
      | zero => intro ff10 z11 H locs ls ff10_h z11_a z11_b lq1_hd hm; exact absurd hm (Nat.not_lt_zero _)
      | succ k1 ih1 =>
        intro ff10 z11 H locs ls ff10_h z11_a z11_b lq1_hd hm1 w hl
        refine lv_iload_n hx hb dX12_oneDay_13 rfl (lv_at hl 0 rfl) ?_
        refine lv_iconst (v := iI 3) hx hb dX12_oneDay_14 (by decide +kernel) ?_
        refine lv_icmp_ge (tgt := 34) hx hb dX12_oneDay_15 (by decide) (fun c_12 => ?_) (fun c_12 => ?_)
        · replace c_12 := (iI_le (by decide) (by decide) (Int.le_trans (by decide) z11_a) (Int.le_trans z11_b (by decide))).mp c_12
          refine lv_aload_n hx hb dX12_oneDay_34 rfl (lv_at hl 1 rfl) ?_
          refine r_get (v := .ref a2) M w 0 14 clX12 rfl (by decide) G1477 rfl rfl dX12_oneDay_35 ?_
          refine lv_bipush (v := iI 53) hx hb dX12_oneDay_38 (by decide +kernel) ?_
          refine lv_dup2_11 hx hb dX12_oneDay_40 rfl rfl ?_
          refine r_iald (v := iI (ff10 53)) M w 1 rfl (iI_in (by decide) (by decide) (by decide)) (cI_at (by omega) (by omega)) dX12_oneDay_41 ?_
          have hh13 : (-2147483648) ≤ (ff10 53) ∧ (ff10 53) ≤ 2147483647 := ff10_h.1 53
          refine lv_iconst (v := iI 1) hx hb dX12_oneDay_42 (by decide +kernel) ?_
          refine r_iadd (v := _) M rfl dX12_oneDay_43 ?_
          refine b_any (fun z14 z14_a z14_b => ?_)
          refine r_iast (ws' := [(a0, .inr (11, [.int r0, .ref a1, .int (iI x0), .int (iI x1), .int (iI x2), .int (iI x3), .int (iI x4), .int (iI x5), .int r1, .int (iI x6), .int (iI x7), .int (iI x8), .long y0, .int (iI x9), .ref a2, .ref a3, .ref a4, .ref a5, .ref a6, .ref a7, .ref a8, .ref a9, .ref a10, .ref a11, .int (iI x10), .ref a12, .ref a13, .ref a14, .ref a15, .int (iI x11), .int r2, .int r3, .ref a16, .int (iI x12), .int (iI x13), .ref a17, .ref a18, .int (iI x14), .ref a19, .int (iI x15), .int r4, .ref a20, .ref a21, .int (iI x16), .int r5, .ref a22, .int (iI x17), .int (iI x18), .int (iI x19), .int (iI x20)])), (a2, .inl (T 0, 329, .inl (cI (upz ff10 53 z14))))]) M w 1 rfl (iI_in (by decide) (by decide) (by decide)) (by rw [cI_up (by omega) (by omega)]; rfl) dX12_oneDay_44 (fun H locs w => ?_)
          exact ret (upz ff10 53 z14) _ _ _ _ _ [0, 1] dX12_oneDay_45 ⟨(now_up ff10_h (by omega) (by omega) (by unfold nr; omega) (by omega) (by omega)), (show kp 53 f0 (upz ff10 53 z14) from (kp_up (kp_tr kp_rfl lq1_hd) (by omega)))⟩ w (by decide) rfl
        · replace c_12 : z11 < 3 := Int.not_le.mp (fun h => c_12 ((iI_le (by decide) (by decide) (Int.le_trans (by decide) z11_a) (Int.le_trans z11_b (by decide))).mpr h))
          refine lv_aload_n hx hb dX12_oneDay_18 rfl (lv_at hl 1 rfl) ?_
          refine r_get (v := .ref a2) M w 0 14 clX12 rfl (by decide) G1477 rfl rfl dX12_oneDay_19 ?_
          refine lv_bipush (v := iI 84) hx hb dX12_oneDay_22 (by decide +kernel) ?_
          refine lv_iload_n hx hb dX12_oneDay_24 rfl (lv_at hl 0 rfl) ?_
          refine r_iadd (v := iI (84 + z11)) M (iI_add _ _) dX12_oneDay_25 ?_
          refine lv_iconst (v := iI 0) hx hb dX12_oneDay_26 (by decide +kernel) ?_
          refine r_iast (ws' := [(a0, .inr (11, [.int r0, .ref a1, .int (iI x0), .int (iI x1), .int (iI x2), .int (iI x3), .int (iI x4), .int (iI x5), .int r1, .int (iI x6), .int (iI x7), .int (iI x8), .long y0, .int (iI x9), .ref a2, .ref a3, .ref a4, .ref a5, .ref a6, .ref a7, .ref a8, .ref a9, .ref a10, .ref a11, .int (iI x10), .ref a12, .ref a13, .ref a14, .ref a15, .int (iI x11), .int r2, .int r3, .ref a16, .int (iI x12), .int (iI x13), .ref a17, .ref a18, .int (iI x14), .ref a19, .int (iI x15), .int r4, .ref a20, .ref a21, .int (iI x16), .int r5, .ref a22, .int (iI x17), .int (iI x18), .int (iI x19), .int (iI x20)])), (a2, .inl (T 0, 329, .inl (cI (upz ff10 (84 + z11) 0))))]) M w 1 rfl (iI_in (by omega) (by omega) (by decide)) (by rw [cI_up (by omega) (by omega)]; rfl) dX12_oneDay_27 (fun H locs w => ?_)
          refine lv_iinc (v := iI (z11 + 1)) (lv' := [(1, .int (iI (z11 + 1))), (0, .ref a0)]) hx hb dX12_oneDay_28 hl (k := 0) rfl (ii_inc (by decide +kernel)) (by decide) rfl (fun ls hl => ?_)
          refine lv_goto (tgt := 13) hx hb dX12_oneDay_31 (by decide) ?_
          exact ih1 (upz ff10 (84 + z11) 0) (z11 + 1) _ _ _ (now_up ff10_h (by omega) (by omega) (by unfold nr; omega) (by omega) (by omega)) (by omega) (by omega) (kp_up (kp_tr kp_rfl lq1_hd) (by omega)) (by omega) w (lv_sub hl [0, 1] rfl)
    exact loop1 ((3 : Int).toNat + 1) ff8 0 _ _ _ ff8_h (by decide) (by decide) pq9 (Nat.lt_succ_self _) w (lv_sub hl [0, 1] rfl)
set_option maxRecDepth 100000 in
set_option maxHeartbeats 4000000 in
theorem c95_X12_passDays (l : Launch) (D : va_G) (T : Nat → ClassId) (sz : Nat) (a0 : Nat) (x0 : Int) (r0 : Int32) (a1 : Nat) (x1 : Int) (x2 : Int) (x3 : Int) (x4 : Int) (x5 : Int) (x6 : Int) (r1 : Int32) (x7 : Int) (x8 : Int) (x9 : Int) (y0 : Int64) (x10 : Int) (a2 : Nat) (a3 : Nat) (a4 : Nat) (a5 : Nat) (a6 : Nat) (a7 : Nat) (a8 : Nat) (a9 : Nat) (a10 : Nat) (a11 : Nat) (x11 : Int) (a12 : Nat) (a13 : Nat) (a14 : Nat) (a15 : Nat) (x12 : Int) (r2 : Int32) (r3 : Int32) (a16 : Nat) (x13 : Int) (x14 : Int) (a17 : Nat) (a18 : Nat) (x15 : Int) (a19 : Nat) (x16 : Int) (r4 : Int32) (a20 : Nat) (a21 : Nat) (x17 : Int) (r5 : Int32) (a22 : Nat) (x18 : Int) (x19 : Int) (x20 : Int) (x21 : Int) (f0 : Int → Int) (x0_a : (-2147483648) ≤ x0) (x0_b : x0 ≤ 2147483647) (x1_a : 0 ≤ x1) (x1_b : x1 ≤ 940) (x2_a : 0 ≤ x2) (x2_b : x2 ≤ 940) (x3_a : 0 ≤ x3) (x3_b : x3 ≤ 940) (x4_a : 0 ≤ x4) (x4_b : x4 ≤ 940) (x5_a : 0 ≤ x5) (x5_b : x5 ≤ 940) (x6_a : 0 ≤ x6) (x6_b : x6 ≤ 4) (x7_a : (-2147483648) ≤ x7) (x7_b : x7 ≤ 2147483647) (x8_a : (-2147483648) ≤ x8) (x8_b : x8 ≤ 2147483647) (x9_a : 0 ≤ x9) (x9_b : x9 ≤ 940) (x10_a : (-2147483648) ≤ x10) (x10_b : x10 ≤ 2147483647) (x11_a : 0 ≤ x11) (x11_b : x11 ≤ 8) (x12_a : 0 ≤ x12) (x12_b : x12 ≤ 9) (x13_a : (-1) ≤ x13) (x13_b : x13 ≤ 9) (x14_a : (-1) ≤ x14) (x14_b : x14 ≤ 8) (x15_a : 0 ≤ x15) (x15_b : x15 ≤ 9) (x16_a : 0 ≤ x16) (x16_b : x16 ≤ 64) (x17_a : 0 ≤ x17) (x17_b : x17 ≤ 40) (x18_a : 0 ≤ x18) (x18_b : x18 ≤ 40) (x19_a : 0 ≤ x19) (x19_b : x19 ≤ 20) (x20_a : 0 ≤ x20) (x20_b : x20 ≤ 8) (x21_a : 0 ≤ x21) (x21_b : x21 ≤ 39) (f0_h : nowI f0) : Met l yX12_passDays (Cond.code yX12_passDays cX12_passDays 4 (some .int) :: GW) (Rm 3 0 0) (cPre [.ref a0, .int (iI x0)] D T [(a0, .inr (11, [.int r0, .ref a1, .int (iI x1), .int (iI x2), .int (iI x3), .int (iI x4), .int (iI x5), .int (iI x6), .int r1, .int (iI x7), .int (iI x8), .int (iI x9), .long y0, .int (iI x10), .ref a2, .ref a3, .ref a4, .ref a5, .ref a6, .ref a7, .ref a8, .ref a9, .ref a10, .ref a11, .int (iI x11), .ref a12, .ref a13, .ref a14, .ref a15, .int (iI x12), .int r2, .int r3, .ref a16, .int (iI x13), .int (iI x14), .ref a17, .ref a18, .int (iI x15), .ref a19, .int (iI x16), .int r4, .ref a20, .ref a21, .int (iI x17), .int r5, .ref a22, .int (iI x18), .int (iI x19), .int (iI x20), .int (iI x21)])), (a2, .inl (T 0, 329, .inl (cI f0)))] sz) (qI D [(a0, .inr (11, [.int r0, .ref a1, .int (iI x1), .int (iI x2), .int (iI x3), .int (iI x4), .int (iI x5), .int (iI x6), .int r1, .int (iI x7), .int (iI x8), .int (iI x9), .long y0, .int (iI x10), .ref a2, .ref a3, .ref a4, .ref a5, .ref a6, .ref a7, .ref a8, .ref a9, .ref a10, .ref a11, .int (iI x11), .ref a12, .ref a13, .ref a14, .ref a15, .int (iI x12), .int r2, .int r3, .ref a16, .int (iI x13), .int (iI x14), .ref a17, .ref a18, .int (iI x15), .ref a19, .int (iI x16), .int r4, .ref a20, .ref a21, .int (iI x17), .int r5, .ref a22, .int (iI x18), .int (iI x19), .int (iI x20), .int (iI x21)])), (a2, .inl (T 0, 329, .inl (cI f0)))] sz (fun (v : Int32) (u : Int × (Int → Int)) => iI u.1 = v ∧ (-2147483648) ≤ u.1 ∧ u.1 ≤ 2147483647 ∧ nowI u.2 ∧ (kp 53 f0 u.2)) (fun u => [(a0, .inr (11, [.int r0, .ref a1, .int (iI x1), .int (iI x2), .int (iI x3), .int (iI x4), .int (iI x5), .int (iI x6), .int r1, .int (iI x7), .int (iI x8), .int (iI x9), .long y0, .int (iI x10), .ref a2, .ref a3, .ref a4, .ref a5, .ref a6, .ref a7, .ref a8, .ref a9, .ref a10, .ref a11, .int (iI x11), .ref a12, .ref a13, .ref a14, .ref a15, .int (iI x12), .int r2, .int r3, .ref a16, .int (iI x13), .int (iI x14), .ref a17, .ref a18, .int (iI x15), .ref a19, .int (iI x16), .int r4, .ref a20, .ref a21, .int (iI x17), .int r5, .ref a22, .int (iI x18), .int (iI x19), .int (iI x20), .int (iI x21)])), (a2, .inl (T 0, 329, .inl (cI u.2)))])) 0 0 (va_A [(a0, .inr (11, [.int r0, .ref a1, .int (iI x1), .int (iI x2), .int (iI x3), .int (iI x4), .int (iI x5), .int (iI x6), .int r1, .int (iI x7), .int (iI x8), .int (iI x9), .long y0, .int (iI x10), .ref a2, .ref a3, .ref a4, .ref a5, .ref a6, .ref a7, .ref a8, .ref a9, .ref a10, .ref a11, .int (iI x11), .ref a12, .ref a13, .ref a14, .ref a15, .int (iI x12), .int r2, .int r3, .ref a16, .int (iI x13), .int (iI x14), .ref a17, .ref a18, .int (iI x15), .ref a19, .int (iI x16), .int r4, .ref a20, .ref a21, .int (iI x17), .int r5, .ref a22, .int (iI x18), .int (iI x19), .int (iI x20), .int (iI x21)])), (a2, .inl (T 0, 329, .inl (cI f0)))] sz) := by
  refine e_I (by decide) (Nat.le_of_ble_eq_true rfl) ?_
  intro p e s m args below meth c A Q ls M hin w ret hl
  have hx := M.1.1
  have hb := M.1.2.1
  have hl : lv_has ls 4 [(0, .ref a0), (1, .int (iI x0))] := hl
  refine lv_iload_n hx hb dX12_passDays_0 rfl (lv_at hl 1 rfl) ?_
  refine lv_sipush (v := iI 400) hx hb dX12_passDays_1 (by decide +kernel) ?_
  refine lv_aload_n hx hb dX12_passDays_4 rfl (lv_at hl 0 rfl) ?_
  refine r_get (v := .ref a2) M w 0 14 clX12 rfl (by decide) G1477 rfl rfl dX12_passDays_5 ?_
  refine lv_bipush (v := iI 53) hx hb dX12_passDays_8 (by decide +kernel) ?_
  refine r_iald (v := iI (f0 53)) M w 1 rfl (iI_in (by decide) (by decide) (by decide)) (cI_at (by omega) (by omega)) dX12_passDays_10 ?_
  have hh1 : (-2147483648) ≤ (f0 53) ∧ (f0 53) ≤ 2147483647 := f0_h.1 53
  refine r_isub (v := _) M rfl dX12_passDays_11 ?_
  refine b_any (fun z2 z2_a z2_b => ?_)
  refine k_I (ce := 0) (sl := 0) (rest := []) (wr := [(a0, .inr (11, [.int r0, .ref a1, .int (iI x1), .int (iI x2), .int (iI x3), .int (iI x4), .int (iI x5), .int (iI x6), .int r1, .int (iI x7), .int (iI x8), .int (iI x9), .long y0, .int (iI x10), .ref a2, .ref a3, .ref a4, .ref a5, .ref a6, .ref a7, .ref a8, .ref a9, .ref a10, .ref a11, .int (iI x11), .ref a12, .ref a13, .ref a14, .ref a15, .int (iI x12), .int r2, .int r3, .ref a16, .int (iI x13), .int (iI x14), .ref a17, .ref a18, .int (iI x15), .ref a19, .int (iI x16), .int r4, .ref a20, .ref a21, .int (iI x17), .int r5, .ref a22, .int (iI x18), .int (iI x19), .int (iI x20), .int (iI x21)])), (a2, .inl (T 0, 329, .inl (cI f0)))]) (r_S (f := 0) [] M w V_HookedCityModel_298 G1835 (c8_X12_least l D T _ x0 z2 x0_a x0_b z2_a z2_b) rfl (by decide) rfl hl.1 rfl (Nat.le_of_ble_eq_true rfl) dX12_passDays_12 (by decide) (by decide) (by decide) (by decide)) w [] [0, 1] rfl rfl (by decide) (by decide) rfl rfl (fun v z3 H locs hp w => ?_)
  have hv : iI z3 = v := hp.1
  subst hv
  have z3_a : (-2147483648) ≤ z3 := hp.2.1
  have z3_b : z3 ≤ 2147483647 := hp.2.2.1
  have w : WD D A s.heap [(a0, .inr (11, [.int r0, .ref a1, .int (iI x1), .int (iI x2), .int (iI x3), .int (iI x4), .int (iI x5), .int (iI x6), .int r1, .int (iI x7), .int (iI x8), .int (iI x9), .long y0, .int (iI x10), .ref a2, .ref a3, .ref a4, .ref a5, .ref a6, .ref a7, .ref a8, .ref a9, .ref a10, .ref a11, .int (iI x11), .ref a12, .ref a13, .ref a14, .ref a15, .int (iI x12), .int r2, .int r3, .ref a16, .int (iI x13), .int (iI x14), .ref a17, .ref a18, .int (iI x15), .ref a19, .int (iI x16), .int r4, .ref a20, .ref a21, .int (iI x17), .int r5, .ref a22, .int (iI x18), .int (iI x19), .int (iI x20), .int (iI x21)])), (a2, .inl (T 0, 329, .inl (cI f0)))] H locs := w
  rcases hp.2.2.2 with ⟨c_4, hr⟩ | ⟨c_5, hr⟩
  · subst z3
    refine lv_istore_n (lv' := [(2, .int (iI z2)), (0, .ref a0), (1, .int (iI x0))]) hx hb dX12_passDays_15 rfl hl (by decide) rfl (fun ls hl => ?_)
    refine lv_iconst (v := iI 0) hx hb dX12_passDays_16 (by decide +kernel) ?_
    refine lv_istore_n (lv' := [(3, .int (iI 0)), (2, .int (iI z2)), (0, .ref a0), (1, .int (iI x0))]) hx hb dX12_passDays_17 rfl hl (by decide) rfl (fun ls hl => ?_)
    have loop1 : ∀ (k1 : Nat) (ff6 : Int → Int) (z7 : Int) (H : Heap) (locs : List Loc) (ls : Array Slot), nowI ff6 → 0 ≤ z7 → z7 ≤ 2147483647 → kp 53 f0 ff6 → ((z2 - z7) : Int).toNat < k1 → WD D A s.heap [(a0, .inr (11, [.int r0, .ref a1, .int (iI x1), .int (iI x2), .int (iI x3), .int (iI x4), .int (iI x5), .int (iI x6), .int r1, .int (iI x7), .int (iI x8), .int (iI x9), .long y0, .int (iI x10), .ref a2, .ref a3, .ref a4, .ref a5, .ref a6, .ref a7, .ref a8, .ref a9, .ref a10, .ref a11, .int (iI x11), .ref a12, .ref a13, .ref a14, .ref a15, .int (iI x12), .int r2, .int r3, .ref a16, .int (iI x13), .int (iI x14), .ref a17, .ref a18, .int (iI x15), .ref a19, .int (iI x16), .int r4, .ref a20, .ref a21, .int (iI x17), .int r5, .ref a22, .int (iI x18), .int (iI x19), .int (iI x20), .int (iI x21)])), (a2, .inl (T 0, 329, .inl (cI ff6)))] H locs → lv_has ls 4 [(3, .int (iI z7)), (2, .int (iI z2)), (0, .ref a0), (1, .int (iI x0))] → W p l e (Rm 3 0 0) s m args below meth c H locs 0 0 Q (F0 m 18 ls []) := by
      intro k1
      induction k1 with
      | zero => intro ff6 z7 H locs ls ff6_h z7_a z7_b lq1_hd hm; exact absurd hm (Nat.not_lt_zero _)
      | succ k1 ih1 =>
        intro ff6 z7 H locs ls ff6_h z7_a z7_b lq1_hd hm1 w hl
        refine lv_iload_n hx hb dX12_passDays_18 rfl (lv_at hl 0 rfl) ?_
        refine lv_iload_n hx hb dX12_passDays_19 rfl (lv_at hl 1 rfl) ?_
        refine lv_icmp_ge (tgt := 33) hx hb dX12_passDays_20 (by decide) (fun c_8 => ?_) (fun c_8 => ?_)
        · replace c_8 := (iI_le (Int.le_trans (by decide) z2_a) (Int.le_trans z2_b (by decide)) (Int.le_trans (by decide) z7_a) (Int.le_trans z7_b (by decide))).mp c_8
          refine lv_iload_n hx hb dX12_passDays_33 rfl (lv_at hl 1 rfl) ?_
          exact ret _ (z2, ff6) _ _ _ _ _ [0, 1] dX12_passDays_34 ⟨rfl, z2_a, z2_b, ff6_h, (show kp 53 f0 ff6 from lq1_hd)⟩ w (by decide) rfl
        · replace c_8 : z7 < z2 := Int.not_le.mp (fun h => c_8 ((iI_le (Int.le_trans (by decide) z2_a) (Int.le_trans z2_b (by decide)) (Int.le_trans (by decide) z7_a) (Int.le_trans z7_b (by decide))).mpr h))
          refine lv_aload_n hx hb dX12_passDays_23 rfl (lv_at hl 2 rfl) ?_
          refine k_V (ce := 0) (sl := 0) (rest := []) (wr := []) (r_V (f := 2) [0, 1] M w V_HookedCityModel_301 G1839 G86 (c94_X12_oneDay l D T _ a0 r0 a1 x1 x2 x3 x4 x5 x6 r1 x7 x8 x9 y0 x10 a2 a3 a4 a5 a6 a7 a8 a9 a10 a11 x11 a12 a13 a14 a15 x12 r2 r3 a16 x13 x14 a17 a18 x15 a19 x16 r4 a20 a21 x17 r5 a22 x18 x19 x20 x21 ff6 x1_a x1_b x2_a x2_b x3_a x3_b x4_a x4_b x5_a x5_b x6_a x6_b x7_a x7_b x8_a x8_b x9_a x9_b x10_a x10_b x11_a x11_b x12_a x12_b x13_a x13_b x14_a x14_b x15_a x15_b x16_a x16_b x17_a x17_b x18_a x18_b x19_a x19_b x20_a x20_b x21_a x21_b ff6_h) 0 clX12 rfl rfl (by decide) rfl hl.1 rfl (Nat.le_of_ble_eq_true rfl) dX12_passDays_24 (by decide) (by decide) (by decide) (by decide)) w [0, 1] [] rfl rfl (by decide) (by decide) rfl rfl (fun ff9 H locs hp w => ?_)
          have ff9_h : nowI ff9 := hp.1
          have pq10 : kp 53 ff6 ff9 := hp.2
          have w : WD D A s.heap [(a0, .inr (11, [.int r0, .ref a1, .int (iI x1), .int (iI x2), .int (iI x3), .int (iI x4), .int (iI x5), .int (iI x6), .int r1, .int (iI x7), .int (iI x8), .int (iI x9), .long y0, .int (iI x10), .ref a2, .ref a3, .ref a4, .ref a5, .ref a6, .ref a7, .ref a8, .ref a9, .ref a10, .ref a11, .int (iI x11), .ref a12, .ref a13, .ref a14, .ref a15, .int (iI x12), .int r2, .int r3, .ref a16, .int (iI x13), .int (iI x14), .ref a17, .ref a18, .int (iI x15), .ref a19, .int (iI x16), .int r4, .ref a20, .ref a21, .int (iI x17), .int r5, .ref a22, .int (iI x18), .int (iI x19), .int (iI x20), .int (iI x21)])), (a2, .inl (T 0, 329, .inl (cI ff9)))] H locs := w
          refine lv_iinc (v := iI (z7 + 1)) (lv' := [(3, .int (iI (z7 + 1))), (2, .int (iI z2)), (0, .ref a0), (1, .int (iI x0))]) hx hb dX12_passDays_27 hl (k := 0) rfl (ii_inc (by decide +kernel)) (by decide) rfl (fun ls hl => ?_)
          refine lv_goto (tgt := 18) hx hb dX12_passDays_30 (by decide) ?_
          exact ih1 ff9 (z7 + 1) _ _ _ ff9_h (by omega) (by omega) (kp_tr (kp_tr kp_rfl lq1_hd) pq10) (by omega) w (lv_sub hl [0, 1, 2, 3] rfl)
    exact loop1 (((z2 - 0) : Int).toNat + 1) f0 0 _ _ _ f0_h (by decide) (by decide) kp_rfl (Nat.lt_succ_self _) w (lv_sub hl [0, 1, 2, 3] rfl)
  · subst z3
    refine lv_istore_n (lv' := [(2, .int (iI x0)), (0, .ref a0), (1, .int (iI x0))]) hx hb dX12_passDays_15 rfl hl (by decide) rfl (fun ls hl => ?_)
    refine lv_iconst (v := iI 0) hx hb dX12_passDays_16 (by decide +kernel) ?_
    refine lv_istore_n (lv' := [(3, .int (iI 0)), (2, .int (iI x0)), (0, .ref a0), (1, .int (iI x0))]) hx hb dX12_passDays_17 rfl hl (by decide) rfl (fun ls hl => ?_)
    have loop1 : ∀ (k1 : Nat) (ff11 : Int → Int) (z12 : Int) (H : Heap) (locs : List Loc) (ls : Array Slot), nowI ff11 → 0 ≤ z12 → z12 ≤ 2147483647 → kp 53 f0 ff11 → ((x0 - z12) : Int).toNat < k1 → WD D A s.heap [(a0, .inr (11, [.int r0, .ref a1, .int (iI x1), .int (iI x2), .int (iI x3), .int (iI x4), .int (iI x5), .int (iI x6), .int r1, .int (iI x7), .int (iI x8), .int (iI x9), .long y0, .int (iI x10), .ref a2, .ref a3, .ref a4, .ref a5, .ref a6, .ref a7, .ref a8, .ref a9, .ref a10, .ref a11, .int (iI x11), .ref a12, .ref a13, .ref a14, .ref a15, .int (iI x12), .int r2, .int r3, .ref a16, .int (iI x13), .int (iI x14), .ref a17, .ref a18, .int (iI x15), .ref a19, .int (iI x16), .int r4, .ref a20, .ref a21, .int (iI x17), .int r5, .ref a22, .int (iI x18), .int (iI x19), .int (iI x20), .int (iI x21)])), (a2, .inl (T 0, 329, .inl (cI ff11)))] H locs → lv_has ls 4 [(3, .int (iI z12)), (2, .int (iI x0)), (0, .ref a0), (1, .int (iI x0))] → W p l e (Rm 3 0 0) s m args below meth c H locs 0 0 Q (F0 m 18 ls []) := by
      intro k1
      induction k1 with
      | zero => intro ff11 z12 H locs ls ff11_h z12_a z12_b lq1_hd hm; exact absurd hm (Nat.not_lt_zero _)
      | succ k1 ih1 =>
        intro ff11 z12 H locs ls ff11_h z12_a z12_b lq1_hd hm1 w hl
        refine lv_iload_n hx hb dX12_passDays_18 rfl (lv_at hl 0 rfl) ?_
        refine lv_iload_n hx hb dX12_passDays_19 rfl (lv_at hl 1 rfl) ?_
        refine lv_icmp_ge (tgt := 33) hx hb dX12_passDays_20 (by decide) (fun c_13 => ?_) (fun c_13 => ?_)
        · replace c_13 := (iI_le (Int.le_trans (by decide) x0_a) (Int.le_trans x0_b (by decide)) (Int.le_trans (by decide) z12_a) (Int.le_trans z12_b (by decide))).mp c_13
          refine lv_iload_n hx hb dX12_passDays_33 rfl (lv_at hl 1 rfl) ?_
          exact ret _ (x0, ff11) _ _ _ _ _ [0, 1] dX12_passDays_34 ⟨rfl, x0_a, x0_b, ff11_h, (show kp 53 f0 ff11 from lq1_hd)⟩ w (by decide) rfl
        · replace c_13 : z12 < x0 := Int.not_le.mp (fun h => c_13 ((iI_le (Int.le_trans (by decide) x0_a) (Int.le_trans x0_b (by decide)) (Int.le_trans (by decide) z12_a) (Int.le_trans z12_b (by decide))).mpr h))
          refine lv_aload_n hx hb dX12_passDays_23 rfl (lv_at hl 2 rfl) ?_
          refine k_V (ce := 0) (sl := 0) (rest := []) (wr := []) (r_V (f := 2) [0, 1] M w V_HookedCityModel_301 G1839 G86 (c94_X12_oneDay l D T _ a0 r0 a1 x1 x2 x3 x4 x5 x6 r1 x7 x8 x9 y0 x10 a2 a3 a4 a5 a6 a7 a8 a9 a10 a11 x11 a12 a13 a14 a15 x12 r2 r3 a16 x13 x14 a17 a18 x15 a19 x16 r4 a20 a21 x17 r5 a22 x18 x19 x20 x21 ff11 x1_a x1_b x2_a x2_b x3_a x3_b x4_a x4_b x5_a x5_b x6_a x6_b x7_a x7_b x8_a x8_b x9_a x9_b x10_a x10_b x11_a x11_b x12_a x12_b x13_a x13_b x14_a x14_b x15_a x15_b x16_a x16_b x17_a x17_b x18_a x18_b x19_a x19_b x20_a x20_b x21_a x21_b ff11_h) 0 clX12 rfl rfl (by decide) rfl hl.1 rfl (Nat.le_of_ble_eq_true rfl) dX12_passDays_24 (by decide) (by decide) (by decide) (by decide)) w [0, 1] [] rfl rfl (by decide) (by decide) rfl rfl (fun ff14 H locs hp w => ?_)
          have ff14_h : nowI ff14 := hp.1
          have pq15 : kp 53 ff11 ff14 := hp.2
          have w : WD D A s.heap [(a0, .inr (11, [.int r0, .ref a1, .int (iI x1), .int (iI x2), .int (iI x3), .int (iI x4), .int (iI x5), .int (iI x6), .int r1, .int (iI x7), .int (iI x8), .int (iI x9), .long y0, .int (iI x10), .ref a2, .ref a3, .ref a4, .ref a5, .ref a6, .ref a7, .ref a8, .ref a9, .ref a10, .ref a11, .int (iI x11), .ref a12, .ref a13, .ref a14, .ref a15, .int (iI x12), .int r2, .int r3, .ref a16, .int (iI x13), .int (iI x14), .ref a17, .ref a18, .int (iI x15), .ref a19, .int (iI x16), .int r4, .ref a20, .ref a21, .int (iI x17), .int r5, .ref a22, .int (iI x18), .int (iI x19), .int (iI x20), .int (iI x21)])), (a2, .inl (T 0, 329, .inl (cI ff14)))] H locs := w
          refine lv_iinc (v := iI (z12 + 1)) (lv' := [(3, .int (iI (z12 + 1))), (2, .int (iI x0)), (0, .ref a0), (1, .int (iI x0))]) hx hb dX12_passDays_27 hl (k := 0) rfl (ii_inc (by decide +kernel)) (by decide) rfl (fun ls hl => ?_)
          refine lv_goto (tgt := 18) hx hb dX12_passDays_30 (by decide) ?_
          exact ih1 ff14 (z12 + 1) _ _ _ ff14_h (by omega) (by omega) (kp_tr (kp_tr kp_rfl lq1_hd) pq15) (by omega) w (lv_sub hl [0, 1, 2, 3] rfl)
    exact loop1 (((x0 - 0) : Int).toNat + 1) f0 0 _ _ _ f0_h (by decide) (by decide) kp_rfl (Nat.lt_succ_self _) w (lv_sub hl [0, 1, 2, 3] rfl)
set_option maxRecDepth 100000 in
set_option maxHeartbeats 4000000 in
theorem c96_X12_days (l : Launch) (D : va_G) (T : Nat → ClassId) (sz : Nat) (a0 : Nat) (x0 : Int) (r0 : Int32) (a1 : Nat) (x1 : Int) (x2 : Int) (x3 : Int) (x4 : Int) (x5 : Int) (x6 : Int) (r1 : Int32) (x7 : Int) (x8 : Int) (x9 : Int) (y0 : Int64) (x10 : Int) (a2 : Nat) (a3 : Nat) (a4 : Nat) (a5 : Nat) (a6 : Nat) (a7 : Nat) (a8 : Nat) (a9 : Nat) (a10 : Nat) (a11 : Nat) (x11 : Int) (a12 : Nat) (a13 : Nat) (a14 : Nat) (a15 : Nat) (x12 : Int) (r2 : Int32) (r3 : Int32) (a16 : Nat) (x13 : Int) (x14 : Int) (a17 : Nat) (a18 : Nat) (x15 : Int) (a19 : Nat) (x16 : Int) (r4 : Int32) (a20 : Nat) (a21 : Nat) (x17 : Int) (r5 : Int32) (a22 : Nat) (x18 : Int) (x19 : Int) (x20 : Int) (x21 : Int) (f0 : Int → Int) (f1 : Int → Int) (x0_a : (-2147483648) ≤ x0) (x0_b : x0 ≤ 2147483647) (x1_a : 0 ≤ x1) (x1_b : x1 ≤ 940) (x2_a : 0 ≤ x2) (x2_b : x2 ≤ 940) (x3_a : 0 ≤ x3) (x3_b : x3 ≤ 940) (x4_a : 0 ≤ x4) (x4_b : x4 ≤ 940) (x5_a : 0 ≤ x5) (x5_b : x5 ≤ 940) (x6_a : 0 ≤ x6) (x6_b : x6 ≤ 4) (x7_a : (-2147483648) ≤ x7) (x7_b : x7 ≤ 2147483647) (x8_a : (-2147483648) ≤ x8) (x8_b : x8 ≤ 2147483647) (x9_a : 0 ≤ x9) (x9_b : x9 ≤ 940) (x10_a : (-2147483648) ≤ x10) (x10_b : x10 ≤ 2147483647) (x11_a : 0 ≤ x11) (x11_b : x11 ≤ 8) (x12_a : 0 ≤ x12) (x12_b : x12 ≤ 9) (x13_a : (-1) ≤ x13) (x13_b : x13 ≤ 9) (x14_a : (-1) ≤ x14) (x14_b : x14 ≤ 8) (x15_a : 0 ≤ x15) (x15_b : x15 ≤ 9) (x16_a : 0 ≤ x16) (x16_b : x16 ≤ 64) (x17_a : 0 ≤ x17) (x17_b : x17 ≤ 40) (x18_a : 0 ≤ x18) (x18_b : x18 ≤ 40) (x19_a : 0 ≤ x19) (x19_b : x19 ≤ 20) (x20_a : 0 ≤ x20) (x20_b : x20 ≤ 8) (x21_a : 0 ≤ x21) (x21_b : x21 ≤ 39) (f0_h : nowI f0) (f1_h : FL f1) (pp_s : snI f1 x11) : Met l yX12_days (Cond.code yX12_days cX12_days 2 (some .int) :: GW) (Rm 4 0 0) (cPre [.ref a0, .int (iI x0)] D T [(a0, .inr (11, [.int r0, .ref a1, .int (iI x1), .int (iI x2), .int (iI x3), .int (iI x4), .int (iI x5), .int (iI x6), .int r1, .int (iI x7), .int (iI x8), .int (iI x9), .long y0, .int (iI x10), .ref a2, .ref a3, .ref a4, .ref a5, .ref a6, .ref a7, .ref a8, .ref a9, .ref a10, .ref a11, .int (iI x11), .ref a12, .ref a13, .ref a14, .ref a15, .int (iI x12), .int r2, .int r3, .ref a16, .int (iI x13), .int (iI x14), .ref a17, .ref a18, .int (iI x15), .ref a19, .int (iI x16), .int r4, .ref a20, .ref a21, .int (iI x17), .int r5, .ref a22, .int (iI x18), .int (iI x19), .int (iI x20), .int (iI x21)])), (a2, .inl (T 0, 329, .inl (cI f0))), (a5, .inl (T 0, 272, .inl (cI f1)))] sz) (qI D [(a0, .inr (11, [.int r0, .ref a1, .int (iI x1), .int (iI x2), .int (iI x3), .int (iI x4), .int (iI x5), .int (iI x6), .int r1, .int (iI x7), .int (iI x8), .int (iI x9), .long y0, .int (iI x10), .ref a2, .ref a3, .ref a4, .ref a5, .ref a6, .ref a7, .ref a8, .ref a9, .ref a10, .ref a11, .int (iI x11), .ref a12, .ref a13, .ref a14, .ref a15, .int (iI x12), .int r2, .int r3, .ref a16, .int (iI x13), .int (iI x14), .ref a17, .ref a18, .int (iI x15), .ref a19, .int (iI x16), .int r4, .ref a20, .ref a21, .int (iI x17), .int r5, .ref a22, .int (iI x18), .int (iI x19), .int (iI x20), .int (iI x21)])), (a2, .inl (T 0, 329, .inl (cI f0))), (a5, .inl (T 0, 272, .inl (cI f1)))] sz (fun (v : Int32) (u : Int × Int32 × Int × (Int → Int) × (Int → Int)) => iI u.1 = v ∧ (-2147483648) ≤ u.1 ∧ u.1 ≤ 2147483647 ∧ 0 ≤ u.2.2.1 ∧ u.2.2.1 ≤ 8 ∧ nowI u.2.2.2.1 ∧ FL u.2.2.2.2 ∧ (snI u.2.2.2.2 u.2.2.1) ∧ (kp 53 f0 u.2.2.2.1)) (fun u => [(a0, .inr (11, [.int u.2.1, .ref a1, .int (iI x1), .int (iI x2), .int (iI x3), .int (iI x4), .int (iI x5), .int (iI x6), .int r1, .int (iI x7), .int (iI x8), .int (iI x9), .long y0, .int (iI x10), .ref a2, .ref a3, .ref a4, .ref a5, .ref a6, .ref a7, .ref a8, .ref a9, .ref a10, .ref a11, .int (iI u.2.2.1), .ref a12, .ref a13, .ref a14, .ref a15, .int (iI x12), .int r2, .int r3, .ref a16, .int (iI x13), .int (iI x14), .ref a17, .ref a18, .int (iI x15), .ref a19, .int (iI x16), .int r4, .ref a20, .ref a21, .int (iI x17), .int r5, .ref a22, .int (iI x18), .int (iI x19), .int (iI x20), .int (iI x21)])), (a2, .inl (T 0, 329, .inl (cI u.2.2.2.1))), (a5, .inl (T 0, 272, .inl (cI u.2.2.2.2)))])) 0 0 (va_A [(a0, .inr (11, [.int r0, .ref a1, .int (iI x1), .int (iI x2), .int (iI x3), .int (iI x4), .int (iI x5), .int (iI x6), .int r1, .int (iI x7), .int (iI x8), .int (iI x9), .long y0, .int (iI x10), .ref a2, .ref a3, .ref a4, .ref a5, .ref a6, .ref a7, .ref a8, .ref a9, .ref a10, .ref a11, .int (iI x11), .ref a12, .ref a13, .ref a14, .ref a15, .int (iI x12), .int r2, .int r3, .ref a16, .int (iI x13), .int (iI x14), .ref a17, .ref a18, .int (iI x15), .ref a19, .int (iI x16), .int r4, .ref a20, .ref a21, .int (iI x17), .int r5, .ref a22, .int (iI x18), .int (iI x19), .int (iI x20), .int (iI x21)])), (a2, .inl (T 0, 329, .inl (cI f0))), (a5, .inl (T 0, 272, .inl (cI f1)))] sz) := by
  refine e_I (by decide) (Nat.le_of_ble_eq_true rfl) ?_
  intro p e s m args below meth c A Q ls M hin w ret hl
  have hx := M.1.1
  have hb := M.1.2.1
  have hl : lv_has ls 2 [(0, .ref a0), (1, .int (iI x0))] := hl
  refine lv_aload_n hx hb dX12_days_0 rfl (lv_at hl 0 rfl) ?_
  refine lv_iconst (v := iI 0) hx hb dX12_days_1 (by decide +kernel) ?_
  refine r_put (ws' := [(a0, .inr (11, [.int (iI 0), .ref a1, .int (iI x1), .int (iI x2), .int (iI x3), .int (iI x4), .int (iI x5), .int (iI x6), .int r1, .int (iI x7), .int (iI x8), .int (iI x9), .long y0, .int (iI x10), .ref a2, .ref a3, .ref a4, .ref a5, .ref a6, .ref a7, .ref a8, .ref a9, .ref a10, .ref a11, .int (iI x11), .ref a12, .ref a13, .ref a14, .ref a15, .int (iI x12), .int r2, .int r3, .ref a16, .int (iI x13), .int (iI x14), .ref a17, .ref a18, .int (iI x15), .ref a19, .int (iI x16), .int r4, .ref a20, .ref a21, .int (iI x17), .int r5, .ref a22, .int (iI x18), .int (iI x19), .int (iI x20), .int (iI x21)])), (a2, .inl (T 0, 329, .inl (cI f0))), (a5, .inl (T 0, 272, .inl (cI f1)))]) M w 0 0 clX12 rfl (by decide) G1463 rfl rfl rfl rfl (Nat.le_of_ble_eq_true rfl) rfl dX12_days_2 (fun H locs w => ?_)
  refine lv_iload_n hx hb dX12_days_5 rfl (lv_at hl 1 rfl) ?_
  refine lv_iconst (v := iI 1) hx hb dX12_days_6 (by decide +kernel) ?_
  refine lv_bipush (v := iI 60) hx hb dX12_days_7 (by decide +kernel) ?_
  refine k_I (ce := 0) (sl := 0) (rest := []) (wr := [(a0, .inr (11, [.int (iI 0), .ref a1, .int (iI x1), .int (iI x2), .int (iI x3), .int (iI x4), .int (iI x5), .int (iI x6), .int r1, .int (iI x7), .int (iI x8), .int (iI x9), .long y0, .int (iI x10), .ref a2, .ref a3, .ref a4, .ref a5, .ref a6, .ref a7, .ref a8, .ref a9, .ref a10, .ref a11, .int (iI x11), .ref a12, .ref a13, .ref a14, .ref a15, .int (iI x12), .int r2, .int r3, .ref a16, .int (iI x13), .int (iI x14), .ref a17, .ref a18, .int (iI x15), .ref a19, .int (iI x16), .int r4, .ref a20, .ref a21, .int (iI x17), .int r5, .ref a22, .int (iI x18), .int (iI x19), .int (iI x20), .int (iI x21)])), (a2, .inl (T 0, 329, .inl (cI f0))), (a5, .inl (T 0, 272, .inl (cI f1)))]) (r_S (f := 0) [] M w V_HookedCityModel_75 G1693 (c6_X12_isIn l D T _ x0 1 60 x0_a x0_b (by decide) (by decide) (by decide) (by decide)) rfl (by decide) rfl hl.1 rfl (Nat.le_of_ble_eq_true rfl) dX12_days_9 (by decide) (by decide) (by decide) (by decide)) w [] [0, 1, 2] rfl rfl (by decide) (by decide) rfl rfl (fun v z1 H locs hp w => ?_)
  have hv : iI z1 = v := hp.1
  subst hv
  have z1_a : 0 ≤ z1 := hp.2.1
  have z1_b : z1 ≤ 1 := hp.2.2.1
  have w : WD D A s.heap [(a0, .inr (11, [.int (iI 0), .ref a1, .int (iI x1), .int (iI x2), .int (iI x3), .int (iI x4), .int (iI x5), .int (iI x6), .int r1, .int (iI x7), .int (iI x8), .int (iI x9), .long y0, .int (iI x10), .ref a2, .ref a3, .ref a4, .ref a5, .ref a6, .ref a7, .ref a8, .ref a9, .ref a10, .ref a11, .int (iI x11), .ref a12, .ref a13, .ref a14, .ref a15, .int (iI x12), .int r2, .int r3, .ref a16, .int (iI x13), .int (iI x14), .ref a17, .ref a18, .int (iI x15), .ref a19, .int (iI x16), .int r4, .ref a20, .ref a21, .int (iI x17), .int r5, .ref a22, .int (iI x18), .int (iI x19), .int (iI x20), .int (iI x21)])), (a2, .inl (T 0, 329, .inl (cI f0))), (a5, .inl (T 0, 272, .inl (cI f1)))] H locs := w
  rcases hp.2.2.2 with ⟨c_2, hr⟩ | ⟨c_3, c_4, hr⟩ | ⟨c_5, c_6, hr⟩
  · subst hr
    refine lv_if_ne (tgt := 17) hx hb dX12_days_12 (by decide) (fun c => absurd (by decide +kernel) c) (fun _ => ?_)
    refine lv_iconst (v := iI (-1)) hx hb dX12_days_15 (by decide +kernel) ?_
    exact ret _ ((-1), (iI 0), x11, f0, f1) _ _ _ _ _ [0, 1, 2] dX12_days_16 ⟨rfl, (show (-2147483648) ≤ (-1) from by decide), (show ((-1) : Int) ≤ 2147483647 from by decide), x11_a, x11_b, f0_h, f1_h, (show snI f1 x11 from pp_s), (show kp 53 f0 f0 from kp_rfl)⟩ w (by decide) rfl
  · subst hr
    refine lv_if_ne (tgt := 17) hx hb dX12_days_12 (by decide) (fun c => absurd (by decide +kernel) c) (fun _ => ?_)
    refine lv_iconst (v := iI (-1)) hx hb dX12_days_15 (by decide +kernel) ?_
    exact ret _ ((-1), (iI 0), x11, f0, f1) _ _ _ _ _ [0, 1, 2] dX12_days_16 ⟨rfl, (show (-2147483648) ≤ (-1) from by decide), (show ((-1) : Int) ≤ 2147483647 from by decide), x11_a, x11_b, f0_h, f1_h, (show snI f1 x11 from pp_s), (show kp 53 f0 f0 from kp_rfl)⟩ w (by decide) rfl
  · subst hr
    refine lv_if_ne (tgt := 17) hx hb dX12_days_12 (by decide) (fun _ => ?_) (fun c => absurd c (by decide +kernel))
    refine lv_aload_n hx hb dX12_days_17 rfl (lv_at hl 0 rfl) ?_
    refine r_get (v := .ref a2) M w 0 14 clX12 rfl (by decide) G1477 rfl rfl dX12_days_18 ?_
    refine lv_bipush (v := iI 53) hx hb dX12_days_21 (by decide +kernel) ?_
    refine r_iald (v := iI (f0 53)) M w 1 rfl (iI_in (by decide) (by decide) (by decide)) (cI_at (by omega) (by omega)) dX12_days_23 ?_
    have hh7 : (-2147483648) ≤ (f0 53) ∧ (f0 53) ≤ 2147483647 := f0_h.1 53
    refine lv_sipush (v := iI 400) hx hb dX12_days_24 (by decide +kernel) ?_
    refine lv_icmp_ne (tgt := 32) hx hb dX12_days_27 (by decide) (fun c_8 => ?_) (fun c_8 => ?_)
    · replace c_8 : ¬ (f0 53) = 400 := fun h => c_8 ((iI_eq (by omega) (by omega) (by decide) (by decide)).mpr h)
      refine lv_aload_n hx hb dX12_days_32 rfl (lv_at hl 0 rfl) ?_
      refine k_V (ce := 0) (sl := 0) (rest := []) (wr := []) (r_V (f := 0) [0, 1, 2] M w V_HookedCityModel_284 G1804 G82 (c80_X12_snap l D T _ a0 (iI 0) a1 x1 x2 x3 x4 x5 x6 r1 x7 x8 x9 y0 x10 a2 a3 a4 a5 a6 a7 a8 a9 a10 a11 x11 a12 a13 a14 a15 x12 r2 r3 a16 x13 x14 a17 a18 x15 a19 x16 r4 a20 a21 x17 r5 a22 x18 x19 x20 x21 f0 f1 x1_a x1_b x2_a x2_b x3_a x3_b x4_a x4_b x5_a x5_b x6_a x6_b x7_a x7_b x8_a x8_b x9_a x9_b x10_a x10_b x11_a x11_b x12_a x12_b x13_a x13_b x14_a x14_b x15_a x15_b x16_a x16_b x17_a x17_b x18_a x18_b x19_a x19_b x20_a x20_b x21_a x21_b f0_h f1_h pp_s) 0 clX12 rfl rfl (by decide) rfl hl.1 rfl (Nat.le_of_ble_eq_true rfl) dX12_days_33 (by decide) (by decide) (by decide) (by decide)) w [0, 1, 2] [] rfl rfl (by decide) (by decide) rfl rfl (fun u H locs hp w => ?_)
      obtain ⟨z9, ff10⟩ := u
      have z9_a : 0 ≤ z9 := hp.1
      have z9_b : z9 ≤ 8 := hp.2.1
      have ff10_h : FL ff10 := hp.2.2.1
      have pq11 : snI ff10 z9 := hp.2.2.2
      have w : WD D A s.heap [(a0, .inr (11, [.int (iI 0), .ref a1, .int (iI x1), .int (iI x2), .int (iI x3), .int (iI x4), .int (iI x5), .int (iI x6), .int r1, .int (iI x7), .int (iI x8), .int (iI x9), .long y0, .int (iI x10), .ref a2, .ref a3, .ref a4, .ref a5, .ref a6, .ref a7, .ref a8, .ref a9, .ref a10, .ref a11, .int (iI z9), .ref a12, .ref a13, .ref a14, .ref a15, .int (iI x12), .int r2, .int r3, .ref a16, .int (iI x13), .int (iI x14), .ref a17, .ref a18, .int (iI x15), .ref a19, .int (iI x16), .int r4, .ref a20, .ref a21, .int (iI x17), .int r5, .ref a22, .int (iI x18), .int (iI x19), .int (iI x20), .int (iI x21)])), (a2, .inl (T 0, 329, .inl (cI f0))), (a5, .inl (T 0, 272, .inl (cI ff10)))] H locs := w
      refine lv_aload_n hx hb dX12_days_36 rfl (lv_at hl 0 rfl) ?_
      refine lv_iload_n hx hb dX12_days_37 rfl (lv_at hl 1 rfl) ?_
      refine k_I (ce := 0) (sl := 0) (rest := []) (wr := [(a5, .inl (T 0, 272, .inl (cI ff10)))]) (r_V (f := 3) [0, 1] M w V_HookedCityModel_304 G1832 G85 (c95_X12_passDays l D T _ a0 x0 (iI 0) a1 x1 x2 x3 x4 x5 x6 r1 x7 x8 x9 y0 x10 a2 a3 a4 a5 a6 a7 a8 a9 a10 a11 z9 a12 a13 a14 a15 x12 r2 r3 a16 x13 x14 a17 a18 x15 a19 x16 r4 a20 a21 x17 r5 a22 x18 x19 x20 x21 f0 x0_a x0_b x1_a x1_b x2_a x2_b x3_a x3_b x4_a x4_b x5_a x5_b x6_a x6_b x7_a x7_b x8_a x8_b x9_a x9_b x10_a x10_b z9_a z9_b x12_a x12_b x13_a x13_b x14_a x14_b x15_a x15_b x16_a x16_b x17_a x17_b x18_a x18_b x19_a x19_b x20_a x20_b x21_a x21_b f0_h) 0 clX12 rfl rfl (by decide) rfl hl.1 rfl (Nat.le_of_ble_eq_true rfl) dX12_days_38 (by decide) (by decide) (by decide) (by decide)) w [0, 1] [2] rfl rfl (by decide) (by decide) rfl rfl (fun v u H locs hp w => ?_)
      obtain ⟨z12, ff13⟩ := u
      have hv : iI z12 = v := hp.1
      subst hv
      have z12_a : (-2147483648) ≤ z12 := hp.2.1
      have z12_b : z12 ≤ 2147483647 := hp.2.2.1
      have ff13_h : nowI ff13 := hp.2.2.2.1
      have pq14 : kp 53 f0 ff13 := hp.2.2.2.2
      have w : WD D A s.heap [(a5, .inl (T 0, 272, .inl (cI ff10))), (a0, .inr (11, [.int (iI 0), .ref a1, .int (iI x1), .int (iI x2), .int (iI x3), .int (iI x4), .int (iI x5), .int (iI x6), .int r1, .int (iI x7), .int (iI x8), .int (iI x9), .long y0, .int (iI x10), .ref a2, .ref a3, .ref a4, .ref a5, .ref a6, .ref a7, .ref a8, .ref a9, .ref a10, .ref a11, .int (iI z9), .ref a12, .ref a13, .ref a14, .ref a15, .int (iI x12), .int r2, .int r3, .ref a16, .int (iI x13), .int (iI x14), .ref a17, .ref a18, .int (iI x15), .ref a19, .int (iI x16), .int r4, .ref a20, .ref a21, .int (iI x17), .int r5, .ref a22, .int (iI x18), .int (iI x19), .int (iI x20), .int (iI x21)])), (a2, .inl (T 0, 329, .inl (cI ff13)))] H locs := w
      exact ret _ (z12, (iI 0), z9, ff13, ff10) _ _ _ _ _ [1, 2, 0] dX12_days_41 ⟨rfl, z12_a, z12_b, z9_a, z9_b, ff13_h, ff10_h, (show snI ff10 z9 from pq11), (show kp 53 f0 ff13 from pq14)⟩ w (by decide) rfl
    · replace c_8 := (iI_eq (by omega) (by omega) (by decide) (by decide)).mp c_8
      refine lv_iconst (v := iI 0) hx hb dX12_days_30 (by decide +kernel) ?_
      exact ret _ (0, (iI 0), x11, f0, f1) _ _ _ _ _ [0, 1, 2] dX12_days_31 ⟨rfl, (show (-2147483648) ≤ 0 from by decide), (show (0 : Int) ≤ 2147483647 from by decide), x11_a, x11_b, f0_h, f1_h, (show snI f1 x11 from pp_s), (show kp 53 f0 f0 from kp_rfl)⟩ w (by decide) rfl
set_option maxRecDepth 100000 in
set_option maxHeartbeats 4000000 in
theorem c97_X12_undo (l : Launch) (D : va_G) (T : Nat → ClassId) (sz : Nat) (a0 : Nat) (r0 : Int32) (a1 : Nat) (x0 : Int) (x1 : Int) (x2 : Int) (x3 : Int) (x4 : Int) (x5 : Int) (r1 : Int32) (x6 : Int) (x7 : Int) (x8 : Int) (y0 : Int64) (x9 : Int) (a2 : Nat) (a3 : Nat) (a4 : Nat) (a5 : Nat) (a6 : Nat) (a7 : Nat) (a8 : Nat) (a9 : Nat) (a10 : Nat) (a11 : Nat) (x10 : Int) (a12 : Nat) (a13 : Nat) (a14 : Nat) (a15 : Nat) (x11 : Int) (r2 : Int32) (r3 : Int32) (a16 : Nat) (x12 : Int) (x13 : Int) (a17 : Nat) (a18 : Nat) (x14 : Int) (a19 : Nat) (x15 : Int) (r4 : Int32) (a20 : Nat) (a21 : Nat) (x16 : Int) (r5 : Int32) (a22 : Nat) (x17 : Int) (x18 : Int) (x19 : Int) (x20 : Int) (f0 : Int → Int) (f1 : Int → Int) (x0_a : 0 ≤ x0) (x0_b : x0 ≤ 940) (x1_a : 0 ≤ x1) (x1_b : x1 ≤ 940) (x2_a : 0 ≤ x2) (x2_b : x2 ≤ 940) (x3_a : 0 ≤ x3) (x3_b : x3 ≤ 940) (x4_a : 0 ≤ x4) (x4_b : x4 ≤ 940) (x5_a : 0 ≤ x5) (x5_b : x5 ≤ 4) (x6_a : (-2147483648) ≤ x6) (x6_b : x6 ≤ 2147483647) (x7_a : (-2147483648) ≤ x7) (x7_b : x7 ≤ 2147483647) (x8_a : 0 ≤ x8) (x8_b : x8 ≤ 940) (x9_a : (-2147483648) ≤ x9) (x9_b : x9 ≤ 2147483647) (x10_a : 0 ≤ x10) (x10_b : x10 ≤ 8) (x11_a : 0 ≤ x11) (x11_b : x11 ≤ 9) (x12_a : (-1) ≤ x12) (x12_b : x12 ≤ 9) (x13_a : (-1) ≤ x13) (x13_b : x13 ≤ 8) (x14_a : 0 ≤ x14) (x14_b : x14 ≤ 9) (x15_a : 0 ≤ x15) (x15_b : x15 ≤ 64) (x16_a : 0 ≤ x16) (x16_b : x16 ≤ 40) (x17_a : 0 ≤ x17) (x17_b : x17 ≤ 40) (x18_a : 0 ≤ x18) (x18_b : x18 ≤ 20) (x19_a : 0 ≤ x19) (x19_b : x19 ≤ 8) (x20_a : 0 ≤ x20) (x20_b : x20 ≤ 39) (f0_h : nowI f0) (f1_h : FL f1) (pp_s : snI f1 x10) : Met l yX12_undo (Cond.code yX12_undo cX12_undo 2 (some .int) :: GW) (Rm 0 0 0) (cPre [.ref a0] D T [(a0, .inr (11, [.int r0, .ref a1, .int (iI x0), .int (iI x1), .int (iI x2), .int (iI x3), .int (iI x4), .int (iI x5), .int r1, .int (iI x6), .int (iI x7), .int (iI x8), .long y0, .int (iI x9), .ref a2, .ref a3, .ref a4, .ref a5, .ref a6, .ref a7, .ref a8, .ref a9, .ref a10, .ref a11, .int (iI x10), .ref a12, .ref a13, .ref a14, .ref a15, .int (iI x11), .int r2, .int r3, .ref a16, .int (iI x12), .int (iI x13), .ref a17, .ref a18, .int (iI x14), .ref a19, .int (iI x15), .int r4, .ref a20, .ref a21, .int (iI x16), .int r5, .ref a22, .int (iI x17), .int (iI x18), .int (iI x19), .int (iI x20)])), (a2, .inl (T 0, 329, .inl (cI f0))), (a5, .inl (T 0, 272, .inl (cI f1)))] sz) (qI D [(a0, .inr (11, [.int r0, .ref a1, .int (iI x0), .int (iI x1), .int (iI x2), .int (iI x3), .int (iI x4), .int (iI x5), .int r1, .int (iI x6), .int (iI x7), .int (iI x8), .long y0, .int (iI x9), .ref a2, .ref a3, .ref a4, .ref a5, .ref a6, .ref a7, .ref a8, .ref a9, .ref a10, .ref a11, .int (iI x10), .ref a12, .ref a13, .ref a14, .ref a15, .int (iI x11), .int r2, .int r3, .ref a16, .int (iI x12), .int (iI x13), .ref a17, .ref a18, .int (iI x14), .ref a19, .int (iI x15), .int r4, .ref a20, .ref a21, .int (iI x16), .int r5, .ref a22, .int (iI x17), .int (iI x18), .int (iI x19), .int (iI x20)])), (a2, .inl (T 0, 329, .inl (cI f0))), (a5, .inl (T 0, 272, .inl (cI f1)))] sz (fun (v : Int32) (u : Int × Int32 × Int × (Int → Int)) => iI u.1 = v ∧ (-2147483648) ≤ u.1 ∧ u.1 ≤ 2147483647 ∧ 0 ≤ u.2.2.1 ∧ u.2.2.1 ≤ 8 ∧ nowI u.2.2.2 ∧ (snI f1 u.2.2.1) ∧ (kp 53 f0 u.2.2.2)) (fun u => [(a0, .inr (11, [.int u.2.1, .ref a1, .int (iI x0), .int (iI x1), .int (iI x2), .int (iI x3), .int (iI x4), .int (iI x5), .int r1, .int (iI x6), .int (iI x7), .int (iI x8), .long y0, .int (iI x9), .ref a2, .ref a3, .ref a4, .ref a5, .ref a6, .ref a7, .ref a8, .ref a9, .ref a10, .ref a11, .int (iI u.2.2.1), .ref a12, .ref a13, .ref a14, .ref a15, .int (iI x11), .int r2, .int r3, .ref a16, .int (iI x12), .int (iI x13), .ref a17, .ref a18, .int (iI x14), .ref a19, .int (iI x15), .int r4, .ref a20, .ref a21, .int (iI x16), .int r5, .ref a22, .int (iI x17), .int (iI x18), .int (iI x19), .int (iI x20)])), (a2, .inl (T 0, 329, .inl (cI u.2.2.2))), (a5, .inl (T 0, 272, .inl (cI f1)))])) 0 0 (va_A [(a0, .inr (11, [.int r0, .ref a1, .int (iI x0), .int (iI x1), .int (iI x2), .int (iI x3), .int (iI x4), .int (iI x5), .int r1, .int (iI x6), .int (iI x7), .int (iI x8), .long y0, .int (iI x9), .ref a2, .ref a3, .ref a4, .ref a5, .ref a6, .ref a7, .ref a8, .ref a9, .ref a10, .ref a11, .int (iI x10), .ref a12, .ref a13, .ref a14, .ref a15, .int (iI x11), .int r2, .int r3, .ref a16, .int (iI x12), .int (iI x13), .ref a17, .ref a18, .int (iI x14), .ref a19, .int (iI x15), .int r4, .ref a20, .ref a21, .int (iI x16), .int r5, .ref a22, .int (iI x17), .int (iI x18), .int (iI x19), .int (iI x20)])), (a2, .inl (T 0, 329, .inl (cI f0))), (a5, .inl (T 0, 272, .inl (cI f1)))] sz) := by
  refine e_I (by decide) (Nat.le_of_ble_eq_true rfl) ?_
  intro p e s m args below meth c A Q ls M hin w ret hl
  have hx := M.1.1
  have hb := M.1.2.1
  have hl : lv_has ls 2 [(0, .ref a0)] := hl
  refine lv_aload_n hx hb dX12_undo_0 rfl (lv_at hl 0 rfl) ?_
  refine lv_iconst (v := iI 0) hx hb dX12_undo_1 (by decide +kernel) ?_
  refine r_put (ws' := [(a0, .inr (11, [.int (iI 0), .ref a1, .int (iI x0), .int (iI x1), .int (iI x2), .int (iI x3), .int (iI x4), .int (iI x5), .int r1, .int (iI x6), .int (iI x7), .int (iI x8), .long y0, .int (iI x9), .ref a2, .ref a3, .ref a4, .ref a5, .ref a6, .ref a7, .ref a8, .ref a9, .ref a10, .ref a11, .int (iI x10), .ref a12, .ref a13, .ref a14, .ref a15, .int (iI x11), .int r2, .int r3, .ref a16, .int (iI x12), .int (iI x13), .ref a17, .ref a18, .int (iI x14), .ref a19, .int (iI x15), .int r4, .ref a20, .ref a21, .int (iI x16), .int r5, .ref a22, .int (iI x17), .int (iI x18), .int (iI x19), .int (iI x20)])), (a2, .inl (T 0, 329, .inl (cI f0))), (a5, .inl (T 0, 272, .inl (cI f1)))]) M w 0 0 clX12 rfl (by decide) G1463 rfl rfl rfl rfl (Nat.le_of_ble_eq_true rfl) rfl dX12_undo_2 (fun H locs w => ?_)
  refine lv_aload_n hx hb dX12_undo_5 rfl (lv_at hl 0 rfl) ?_
  refine r_get (v := .int (iI x10)) M w 0 24 clX12 rfl (by decide) G1487 rfl rfl dX12_undo_6 ?_
  refine lv_if_ne (tgt := 14) hx hb dX12_undo_9 (by decide) (fun c_1 => ?_) (fun c_1 => ?_)
  · replace c_1 : ¬ x10 = 0 := fun h => c_1 ((iz_eq (Int.le_trans (by decide) x10_a) (Int.le_trans x10_b (by decide))).mpr h)
    refine lv_aload_n hx hb dX12_undo_14 rfl (lv_at hl 0 rfl) ?_
    refine lv_dup hx hb dX12_undo_15 rfl ?_
    refine r_get (v := .int (iI x10)) M w 0 24 clX12 rfl (by decide) G1487 rfl rfl dX12_undo_16 ?_
    refine lv_iconst (v := iI 1) hx hb dX12_undo_19 (by decide +kernel) ?_
    refine r_isub (v := iI (x10 - 1)) M (iI_sub _ _) dX12_undo_20 ?_
    refine r_put (ws' := [(a0, .inr (11, [.int (iI 0), .ref a1, .int (iI x0), .int (iI x1), .int (iI x2), .int (iI x3), .int (iI x4), .int (iI x5), .int r1, .int (iI x6), .int (iI x7), .int (iI x8), .long y0, .int (iI x9), .ref a2, .ref a3, .ref a4, .ref a5, .ref a6, .ref a7, .ref a8, .ref a9, .ref a10, .ref a11, .int (iI (x10 - 1)), .ref a12, .ref a13, .ref a14, .ref a15, .int (iI x11), .int r2, .int r3, .ref a16, .int (iI x12), .int (iI x13), .ref a17, .ref a18, .int (iI x14), .ref a19, .int (iI x15), .int r4, .ref a20, .ref a21, .int (iI x16), .int r5, .ref a22, .int (iI x17), .int (iI x18), .int (iI x19), .int (iI x20)])), (a2, .inl (T 0, 329, .inl (cI f0))), (a5, .inl (T 0, 272, .inl (cI f1)))]) M w 0 24 clX12 rfl (by decide) G1487 rfl rfl rfl rfl (Nat.le_of_ble_eq_true rfl) rfl dX12_undo_21 (fun H locs w => ?_)
    refine lv_iconst (v := iI 0) hx hb dX12_undo_24 (by decide +kernel) ?_
    refine lv_istore_n (lv' := [(1, .int (iI 0)), (0, .ref a0)]) hx hb dX12_undo_25 rfl hl (by decide) rfl (fun ls hl => ?_)
    have w := WD.eq (ws' := [(a0, .inr (11, [.int (iI 0), .ref a1, .int (iI x0), .int (iI x1), .int (iI x2), .int (iI x3), .int (iI x4), .int (iI x5), .int r1, .int (iI x6), .int (iI x7), .int (iI x8), .long y0, .int (iI x9), .ref a2, .ref a3, .ref a4, .ref a5, .ref a6, .ref a7, .ref a8, .ref a9, .ref a10, .ref a11, .int (iI (x10 - 1)), .ref a12, .ref a13, .ref a14, .ref a15, .int (iI x11), .int r2, .int r3, .ref a16, .int (iI x12), .int (iI x13), .ref a17, .ref a18, .int (iI x14), .ref a19, .int (iI x15), .int r4, .ref a20, .ref a21, .int (iI x16), .int r5, .ref a22, .int (iI x17), .int (iI x18), .int (iI x19), .int (iI x20)])), (a2, .inl (T 0, 329, .inl (cI (cpz f1 f0 (34 * (x10 - 1)) 53 0)))), (a5, .inl (T 0, 272, .inl (cI f1)))]) (by rw [cpz_0 (c := f1) (d := f0) (sp := (34 * (x10 - 1))) (dp := 53) (n := 0) (by decide)]) w
    have loop1 : ∀ (k1 : Nat) (z2 : Int) (H : Heap) (locs : List Loc) (ls : Array Slot), 0 ≤ z2 → z2 ≤ 34 → ((34 - z2) : Int).toNat < k1 → WD D A s.heap [(a0, .inr (11, [.int (iI 0), .ref a1, .int (iI x0), .int (iI x1), .int (iI x2), .int (iI x3), .int (iI x4), .int (iI x5), .int r1, .int (iI x6), .int (iI x7), .int (iI x8), .long y0, .int (iI x9), .ref a2, .ref a3, .ref a4, .ref a5, .ref a6, .ref a7, .ref a8, .ref a9, .ref a10, .ref a11, .int (iI (x10 - 1)), .ref a12, .ref a13, .ref a14, .ref a15, .int (iI x11), .int r2, .int r3, .ref a16, .int (iI x12), .int (iI x13), .ref a17, .ref a18, .int (iI x14), .ref a19, .int (iI x15), .int r4, .ref a20, .ref a21, .int (iI x16), .int r5, .ref a22, .int (iI x17), .int (iI x18), .int (iI x19), .int (iI x20)])), (a2, .inl (T 0, 329, .inl (cI (cpz f1 f0 (34 * (x10 - 1)) 53 z2)))), (a5, .inl (T 0, 272, .inl (cI f1)))] H locs → lv_has ls 2 [(1, .int (iI z2)), (0, .ref a0)] → W p l e (Rm 0 0 0) s m args below meth c H locs 0 0 Q (F0 m 26 ls []) := by
      intro k1
      induction k1 with
      | zero => intro z2 H locs ls z2_a z2_b hm; exact absurd hm (Nat.not_lt_zero _)
      | succ k1 ih1 =>
        intro z2 H locs ls z2_a z2_b hm1 w hl
        refine lv_iload_n hx hb dX12_undo_26 rfl (lv_at hl 0 rfl) ?_
        refine lv_bipush (v := iI 34) hx hb dX12_undo_27 (by decide +kernel) ?_
        refine lv_icmp_ge (tgt := 61) hx hb dX12_undo_29 (by decide) (fun c_3 => ?_) (fun c_3 => ?_)
        · replace c_3 := (iI_le (by decide) (by decide) (Int.le_trans (by decide) z2_a) (Int.le_trans z2_b (by decide))).mp c_3
          obtain rfl : z2 = 34 := by omega
          refine lv_aload_n hx hb dX12_undo_61 rfl (lv_at hl 1 rfl) ?_
          refine r_get (v := .int (iI (x10 - 1))) M w 0 24 clX12 rfl (by decide) G1487 rfl rfl dX12_undo_62 ?_
          exact ret _ ((x10 - 1), (iI 0), (x10 - 1), (cpz f1 f0 (34 * (x10 - 1)) 53 34)) _ _ _ _ _ [0, 1, 2] dX12_undo_65 ⟨rfl, (show (-2147483648) ≤ (x10 - 1) from by omega), (show (x10 - 1) ≤ 2147483647 from by omega), (show 0 ≤ (x10 - 1) from by omega), (show (x10 - 1) ≤ 8 from by omega), (now_cpu (n := 0) f0_h (pp_s _ (by omega) (by omega)) f1_h (by omega)), (show snI f1 (x10 - 1) from (sn_le pp_s (by omega))), (show kp 53 f0 (cpz f1 f0 (34 * (x10 - 1)) 53 34) from (kp_cp kp_rfl (by omega)))⟩ w (by decide) rfl
        · replace c_3 : z2 < 34 := Int.not_le.mp (fun h => c_3 ((iI_le (by decide) (by decide) (Int.le_trans (by decide) z2_a) (Int.le_trans z2_b (by decide))).mpr h))
          refine lv_aload_n hx hb dX12_undo_32 rfl (lv_at hl 1 rfl) ?_
          refine r_get (v := .ref a2) M w 0 14 clX12 rfl (by decide) G1477 rfl rfl dX12_undo_33 ?_
          refine lv_bipush (v := iI 53) hx hb dX12_undo_36 (by decide +kernel) ?_
          refine lv_iload_n hx hb dX12_undo_38 rfl (lv_at hl 0 rfl) ?_
          refine r_iadd (v := iI (53 + z2)) M (iI_add _ _) dX12_undo_39 ?_
          refine lv_aload_n hx hb dX12_undo_40 rfl (lv_at hl 1 rfl) ?_
          refine r_get (v := .ref a5) M w 0 17 clX12 rfl (by decide) G1480 rfl rfl dX12_undo_41 ?_
          refine lv_bipush (v := iI 34) hx hb dX12_undo_44 (by decide +kernel) ?_
          refine lv_aload_n hx hb dX12_undo_46 rfl (lv_at hl 1 rfl) ?_
          refine r_get (v := .int (iI (x10 - 1))) M w 0 24 clX12 rfl (by decide) G1487 rfl rfl dX12_undo_47 ?_
          refine r_imul (v := iI (34 * (x10 - 1))) M (iI_mul _ _) dX12_undo_50 ?_
          refine lv_iload_n hx hb dX12_undo_51 rfl (lv_at hl 0 rfl) ?_
          refine r_iadd (v := iI ((34 * (x10 - 1)) + z2)) M (iI_add _ _) dX12_undo_52 ?_
          refine r_iald (v := iI (f1 ((34 * (x10 - 1)) + z2))) M w 2 rfl (iI_in (by omega) (by omega) (by decide)) (cI_at (by omega) (by omega)) dX12_undo_53 ?_
          have hh4 : (-2147483648) ≤ (f1 ((34 * (x10 - 1)) + z2)) ∧ (f1 ((34 * (x10 - 1)) + z2)) ≤ 2147483647 := f1_h ((34 * (x10 - 1)) + z2)
          refine r_iast (ws' := [(a0, .inr (11, [.int (iI 0), .ref a1, .int (iI x0), .int (iI x1), .int (iI x2), .int (iI x3), .int (iI x4), .int (iI x5), .int r1, .int (iI x6), .int (iI x7), .int (iI x8), .long y0, .int (iI x9), .ref a2, .ref a3, .ref a4, .ref a5, .ref a6, .ref a7, .ref a8, .ref a9, .ref a10, .ref a11, .int (iI (x10 - 1)), .ref a12, .ref a13, .ref a14, .ref a15, .int (iI x11), .int r2, .int r3, .ref a16, .int (iI x12), .int (iI x13), .ref a17, .ref a18, .int (iI x14), .ref a19, .int (iI x15), .int r4, .ref a20, .ref a21, .int (iI x16), .int r5, .ref a22, .int (iI x17), .int (iI x18), .int (iI x19), .int (iI x20)])), (a2, .inl (T 0, 329, .inl (cI (upz (cpz f1 f0 (34 * (x10 - 1)) 53 z2) (53 + z2) (f1 ((34 * (x10 - 1)) + z2)))))), (a5, .inl (T 0, 272, .inl (cI f1)))]) M w 1 rfl (iI_in (by omega) (by omega) (by decide)) (by rw [cI_up (by omega) (by omega)]; rfl) dX12_undo_54 (fun H locs w => ?_)
          refine lv_iinc (v := iI (z2 + 1)) (lv' := [(1, .int (iI (z2 + 1))), (0, .ref a0)]) hx hb dX12_undo_55 hl (k := 0) rfl (ii_inc (by decide +kernel)) (by decide) rfl (fun ls hl => ?_)
          refine lv_goto (tgt := 26) hx hb dX12_undo_58 (by decide) ?_
          have w := WD.eq (ws' := [(a0, .inr (11, [.int (iI 0), .ref a1, .int (iI x0), .int (iI x1), .int (iI x2), .int (iI x3), .int (iI x4), .int (iI x5), .int r1, .int (iI x6), .int (iI x7), .int (iI x8), .long y0, .int (iI x9), .ref a2, .ref a3, .ref a4, .ref a5, .ref a6, .ref a7, .ref a8, .ref a9, .ref a10, .ref a11, .int (iI (x10 - 1)), .ref a12, .ref a13, .ref a14, .ref a15, .int (iI x11), .int r2, .int r3, .ref a16, .int (iI x12), .int (iI x13), .ref a17, .ref a18, .int (iI x14), .ref a19, .int (iI x15), .int r4, .ref a20, .ref a21, .int (iI x16), .int r5, .ref a22, .int (iI x17), .int (iI x18), .int (iI x19), .int (iI x20)])), (a2, .inl (T 0, 329, .inl (cI (cpz f1 f0 (34 * (x10 - 1)) 53 (z2 + 1))))), (a5, .inl (T 0, 272, .inl (cI f1)))]) (by rw [← cpz_t (c := f1) (d := f0) (sp := (34 * (x10 - 1))) (dp := 53) (k := z2) (k' := (z2 + 1)) (i := (53 + z2)) (x := (f1 ((34 * (x10 - 1)) + z2))) (by omega) (by omega) (by omega) (congrArg f1 (by omega))]) w
          exact ih1 (z2 + 1) _ _ _ (by omega) (by omega) (by omega) w (lv_sub hl [0, 1] rfl)
    exact loop1 ((34 : Int).toNat + 1) 0 _ _ _ (by decide) (by decide) (Nat.lt_succ_self _) w (lv_sub hl [0, 1] rfl)
  · replace c_1 := (iz_eq (Int.le_trans (by decide) x10_a) (Int.le_trans x10_b (by decide))).mp c_1
    refine lv_iconst (v := iI (-1)) hx hb dX12_undo_12 (by decide +kernel) ?_
    exact ret _ ((-1), (iI 0), x10, f0) _ _ _ _ _ [0, 1, 2] dX12_undo_13 ⟨rfl, (show (-2147483648) ≤ (-1) from by decide), (show ((-1) : Int) ≤ 2147483647 from by decide), x10_a, x10_b, f0_h, (show snI f1 x10 from pp_s), (show kp 53 f0 f0 from kp_rfl)⟩ w (by decide) rfl
set_option maxRecDepth 100000 in
set_option maxHeartbeats 4000000 in
theorem c98_X12_draw (l : Launch) (D : va_G) (T : Nat → ClassId) (sz : Nat) (a0 : Nat) (x0 : Int) (r0 : Int32) (a1 : Nat) (x1 : Int) (x2 : Int) (x3 : Int) (x4 : Int) (x5 : Int) (x6 : Int) (r1 : Int32) (x7 : Int) (x8 : Int) (x9 : Int) (y0 : Int64) (x10 : Int) (a2 : Nat) (a3 : Nat) (a4 : Nat) (a5 : Nat) (a6 : Nat) (a7 : Nat) (a8 : Nat) (a9 : Nat) (a10 : Nat) (a11 : Nat) (x11 : Int) (a12 : Nat) (a13 : Nat) (a14 : Nat) (a15 : Nat) (x12 : Int) (r2 : Int32) (r3 : Int32) (a16 : Nat) (x13 : Int) (x14 : Int) (a17 : Nat) (a18 : Nat) (x15 : Int) (a19 : Nat) (x16 : Int) (r4 : Int32) (a20 : Nat) (a21 : Nat) (x17 : Int) (r5 : Int32) (a22 : Nat) (x18 : Int) (x19 : Int) (x20 : Int) (x21 : Int) (x0_a : 1 ≤ x0) (x0_b : x0 ≤ 2147483647) (x1_a : 0 ≤ x1) (x1_b : x1 ≤ 940) (x2_a : 0 ≤ x2) (x2_b : x2 ≤ 940) (x3_a : 0 ≤ x3) (x3_b : x3 ≤ 940) (x4_a : 0 ≤ x4) (x4_b : x4 ≤ 940) (x5_a : 0 ≤ x5) (x5_b : x5 ≤ 940) (x6_a : 0 ≤ x6) (x6_b : x6 ≤ 4) (x7_a : (-2147483648) ≤ x7) (x7_b : x7 ≤ 2147483647) (x8_a : (-2147483648) ≤ x8) (x8_b : x8 ≤ 2147483647) (x9_a : 0 ≤ x9) (x9_b : x9 ≤ 940) (x10_a : (-2147483648) ≤ x10) (x10_b : x10 ≤ 2147483647) (x11_a : 0 ≤ x11) (x11_b : x11 ≤ 8) (x12_a : 0 ≤ x12) (x12_b : x12 ≤ 9) (x13_a : (-1) ≤ x13) (x13_b : x13 ≤ 9) (x14_a : (-1) ≤ x14) (x14_b : x14 ≤ 8) (x15_a : 0 ≤ x15) (x15_b : x15 ≤ 9) (x16_a : 0 ≤ x16) (x16_b : x16 ≤ 64) (x17_a : 0 ≤ x17) (x17_b : x17 ≤ 40) (x18_a : 0 ≤ x18) (x18_b : x18 ≤ 40) (x19_a : 0 ≤ x19) (x19_b : x19 ≤ 20) (x20_a : 0 ≤ x20) (x20_b : x20 ≤ 8) (x21_a : 0 ≤ x21) (x21_b : x21 ≤ 39) : Met l yX12_draw (Cond.code yX12_draw cX12_draw 2 (some .int) :: GW) (Rm 0 0 0) (cPre [.ref a0, .int (iI x0)] D T [(a0, .inr (11, [.int r0, .ref a1, .int (iI x1), .int (iI x2), .int (iI x3), .int (iI x4), .int (iI x5), .int (iI x6), .int r1, .int (iI x7), .int (iI x8), .int (iI x9), .long y0, .int (iI x10), .ref a2, .ref a3, .ref a4, .ref a5, .ref a6, .ref a7, .ref a8, .ref a9, .ref a10, .ref a11, .int (iI x11), .ref a12, .ref a13, .ref a14, .ref a15, .int (iI x12), .int r2, .int r3, .ref a16, .int (iI x13), .int (iI x14), .ref a17, .ref a18, .int (iI x15), .ref a19, .int (iI x16), .int r4, .ref a20, .ref a21, .int (iI x17), .int r5, .ref a22, .int (iI x18), .int (iI x19), .int (iI x20), .int (iI x21)]))] sz) (qI D [(a0, .inr (11, [.int r0, .ref a1, .int (iI x1), .int (iI x2), .int (iI x3), .int (iI x4), .int (iI x5), .int (iI x6), .int r1, .int (iI x7), .int (iI x8), .int (iI x9), .long y0, .int (iI x10), .ref a2, .ref a3, .ref a4, .ref a5, .ref a6, .ref a7, .ref a8, .ref a9, .ref a10, .ref a11, .int (iI x11), .ref a12, .ref a13, .ref a14, .ref a15, .int (iI x12), .int r2, .int r3, .ref a16, .int (iI x13), .int (iI x14), .ref a17, .ref a18, .int (iI x15), .ref a19, .int (iI x16), .int r4, .ref a20, .ref a21, .int (iI x17), .int r5, .ref a22, .int (iI x18), .int (iI x19), .int (iI x20), .int (iI x21)]))] sz (fun (v : Int32) (u : Int × Int32) => iI u.1 = v ∧ 0 ≤ u.1 ∧ u.1 ≤ 2147483647 ∧ 0 ≤ ((x0 - u.1) - 1)) (fun u => [(a0, .inr (11, [.int r0, .ref a1, .int (iI x1), .int (iI x2), .int (iI x3), .int (iI x4), .int (iI x5), .int (iI x6), .int r1, .int (iI x7), .int (iI x8), .int (iI x9), .long y0, .int (iI x10), .ref a2, .ref a3, .ref a4, .ref a5, .ref a6, .ref a7, .ref a8, .ref a9, .ref a10, .ref a11, .int (iI x11), .ref a12, .ref a13, .ref a14, .ref a15, .int (iI x12), .int r2, .int r3, .ref a16, .int (iI x13), .int (iI x14), .ref a17, .ref a18, .int (iI x15), .ref a19, .int (iI x16), .int u.2, .ref a20, .ref a21, .int (iI x17), .int r5, .ref a22, .int (iI x18), .int (iI x19), .int (iI x20), .int (iI x21)]))])) 0 0 (va_A [(a0, .inr (11, [.int r0, .ref a1, .int (iI x1), .int (iI x2), .int (iI x3), .int (iI x4), .int (iI x5), .int (iI x6), .int r1, .int (iI x7), .int (iI x8), .int (iI x9), .long y0, .int (iI x10), .ref a2, .ref a3, .ref a4, .ref a5, .ref a6, .ref a7, .ref a8, .ref a9, .ref a10, .ref a11, .int (iI x11), .ref a12, .ref a13, .ref a14, .ref a15, .int (iI x12), .int r2, .int r3, .ref a16, .int (iI x13), .int (iI x14), .ref a17, .ref a18, .int (iI x15), .ref a19, .int (iI x16), .int r4, .ref a20, .ref a21, .int (iI x17), .int r5, .ref a22, .int (iI x18), .int (iI x19), .int (iI x20), .int (iI x21)]))] sz) := by
  refine e_I (by decide) (Nat.le_of_ble_eq_true rfl) ?_
  intro p e s m args below meth c A Q ls M hin w ret hl
  have hx := M.1.1
  have hb := M.1.2.1
  have hl : lv_has ls 2 [(0, .ref a0), (1, .int (iI x0))] := hl
  refine lv_aload_n hx hb dX12_draw_0 rfl (lv_at hl 0 rfl) ?_
  refine lv_aload_n hx hb dX12_draw_1 rfl (lv_at hl 0 rfl) ?_
  refine r_get (v := .int r4) M w 0 40 clX12 rfl (by decide) G1503 rfl rfl dX12_draw_2 ?_
  refine b_any (fun z1 z1_a z1_b => ?_)
  refine lv_ldcw (v := _) hx hb M.1.2.2.2.1 (M.1.2.2.2.2 _ G1966) dX12_draw_5 ?_
  refine b_lit (z := 1103515245) (by decide +kernel) ?_
  refine r_imul (v := _) M rfl dX12_draw_8 ?_
  refine b_any (fun z2 z2_a z2_b => ?_)
  refine lv_sipush (v := iI 12345) hx hb dX12_draw_9 (by decide +kernel) ?_
  refine r_iadd (v := _) M rfl dX12_draw_12 ?_
  refine b_any (fun z3 z3_a z3_b => ?_)
  refine r_put (ws' := [(a0, .inr (11, [.int r0, .ref a1, .int (iI x1), .int (iI x2), .int (iI x3), .int (iI x4), .int (iI x5), .int (iI x6), .int r1, .int (iI x7), .int (iI x8), .int (iI x9), .long y0, .int (iI x10), .ref a2, .ref a3, .ref a4, .ref a5, .ref a6, .ref a7, .ref a8, .ref a9, .ref a10, .ref a11, .int (iI x11), .ref a12, .ref a13, .ref a14, .ref a15, .int (iI x12), .int r2, .int r3, .ref a16, .int (iI x13), .int (iI x14), .ref a17, .ref a18, .int (iI x15), .ref a19, .int (iI x16), .int (iI z3), .ref a20, .ref a21, .int (iI x17), .int r5, .ref a22, .int (iI x18), .int (iI x19), .int (iI x20), .int (iI x21)]))]) M w 0 40 clX12 rfl (by decide) G1503 rfl rfl rfl rfl (Nat.le_of_ble_eq_true rfl) rfl dX12_draw_13 (fun H locs w => ?_)
  refine lv_aload_n hx hb dX12_draw_16 rfl (lv_at hl 0 rfl) ?_
  refine r_get (v := .int (iI z3)) M w 0 40 clX12 rfl (by decide) G1503 rfl rfl dX12_draw_17 ?_
  refine lv_bipush (v := iI 8) hx hb dX12_draw_20 (by decide +kernel) ?_
  refine r_iushr (v := _) M rfl dX12_draw_22 ?_
  refine b_rng (lo := 0) (hi := 16777215) (iushr_8 _) (fun z4 z4_a z4_b => ?_)
  refine lv_iload_n hx hb dX12_draw_23 rfl (lv_at hl 1 rfl) ?_
  refine r_irem (v := _) M rfl (iz_ne (Int.le_trans (by decide) x0_a) (Int.le_trans x0_b (by decide)) (Or.inr (by omega))) dX12_draw_24 ?_
  refine b_rng (lo := 0) (hi := (x0 - 1)) (irem_r (by omega) (by omega) (by omega) (by omega)) (fun z5 z5_a z5_b => ?_)
  exact ret _ (z5, (iI z3)) _ _ _ _ _ [0] dX12_draw_25 ⟨rfl, (show 0 ≤ z5 from by omega), (show z5 ≤ 2147483647 from by omega), (show 0 ≤ ((x0 - z5) - 1) from by omega)⟩ w (by decide) rfl
set_option maxRecDepth 100000 in
set_option maxHeartbeats 4000000 in
theorem c99_X12_drawsFor (l : Launch) (D : va_G) (T : Nat → ClassId) (sz : Nat) (a0 : Nat) (x0 : Int) (r0 : Int32) (a1 : Nat) (x1 : Int) (x2 : Int) (x3 : Int) (x4 : Int) (x5 : Int) (x6 : Int) (r1 : Int32) (x7 : Int) (x8 : Int) (x9 : Int) (y0 : Int64) (x10 : Int) (a2 : Nat) (a3 : Nat) (a4 : Nat) (a5 : Nat) (a6 : Nat) (a7 : Nat) (a8 : Nat) (a9 : Nat) (a10 : Nat) (a11 : Nat) (x11 : Int) (a12 : Nat) (a13 : Nat) (a14 : Nat) (a15 : Nat) (x12 : Int) (r2 : Int32) (r3 : Int32) (a16 : Nat) (x13 : Int) (x14 : Int) (a17 : Nat) (a18 : Nat) (x15 : Int) (a19 : Nat) (x16 : Int) (r4 : Int32) (a20 : Nat) (a21 : Nat) (x17 : Int) (r5 : Int32) (a22 : Nat) (x18 : Int) (x19 : Int) (x20 : Int) (x21 : Int) (f0 : Int → Int) (x0_a : 0 ≤ x0) (x0_b : x0 ≤ 2) (x1_a : 0 ≤ x1) (x1_b : x1 ≤ 940) (x2_a : 0 ≤ x2) (x2_b : x2 ≤ 940) (x3_a : 0 ≤ x3) (x3_b : x3 ≤ 940) (x4_a : 0 ≤ x4) (x4_b : x4 ≤ 940) (x5_a : 0 ≤ x5) (x5_b : x5 ≤ 940) (x6_a : 0 ≤ x6) (x6_b : x6 ≤ 4) (x7_a : (-2147483648) ≤ x7) (x7_b : x7 ≤ 2147483647) (x8_a : (-2147483648) ≤ x8) (x8_b : x8 ≤ 2147483647) (x9_a : 0 ≤ x9) (x9_b : x9 ≤ 940) (x10_a : (-2147483648) ≤ x10) (x10_b : x10 ≤ 2147483647) (x11_a : 0 ≤ x11) (x11_b : x11 ≤ 8) (x12_a : 0 ≤ x12) (x12_b : x12 ≤ 9) (x13_a : (-1) ≤ x13) (x13_b : x13 ≤ 9) (x14_a : (-1) ≤ x14) (x14_b : x14 ≤ 8) (x15_a : 0 ≤ x15) (x15_b : x15 ≤ 9) (x16_a : 0 ≤ x16) (x16_b : x16 ≤ 64) (x17_a : 0 ≤ x17) (x17_b : x17 ≤ 40) (x18_a : 0 ≤ x18) (x18_b : x18 ≤ 40) (x19_a : 0 ≤ x19) (x19_b : x19 ≤ 20) (x20_a : 0 ≤ x20) (x20_b : x20 ≤ 8) (x21_a : 0 ≤ x21) (x21_b : x21 ≤ 39) (f0_h : nowI f0) : Met l yX12_drawsFor (Cond.code yX12_drawsFor cX12_drawsFor 5 none :: GW) (Rm 3 0 0) (cPre [.ref a0, .int (iI x0)] D T [(a0, .inr (11, [.int r0, .ref a1, .int (iI x1), .int (iI x2), .int (iI x3), .int (iI x4), .int (iI x5), .int (iI x6), .int r1, .int (iI x7), .int (iI x8), .int (iI x9), .long y0, .int (iI x10), .ref a2, .ref a3, .ref a4, .ref a5, .ref a6, .ref a7, .ref a8, .ref a9, .ref a10, .ref a11, .int (iI x11), .ref a12, .ref a13, .ref a14, .ref a15, .int (iI x12), .int r2, .int r3, .ref a16, .int (iI x13), .int (iI x14), .ref a17, .ref a18, .int (iI x15), .ref a19, .int (iI x16), .int r4, .ref a20, .ref a21, .int (iI x17), .int r5, .ref a22, .int (iI x18), .int (iI x19), .int (iI x20), .int (iI x21)])), (a2, .inl (T 0, 329, .inl (cI f0)))] sz) (qV D [(a0, .inr (11, [.int r0, .ref a1, .int (iI x1), .int (iI x2), .int (iI x3), .int (iI x4), .int (iI x5), .int (iI x6), .int r1, .int (iI x7), .int (iI x8), .int (iI x9), .long y0, .int (iI x10), .ref a2, .ref a3, .ref a4, .ref a5, .ref a6, .ref a7, .ref a8, .ref a9, .ref a10, .ref a11, .int (iI x11), .ref a12, .ref a13, .ref a14, .ref a15, .int (iI x12), .int r2, .int r3, .ref a16, .int (iI x13), .int (iI x14), .ref a17, .ref a18, .int (iI x15), .ref a19, .int (iI x16), .int r4, .ref a20, .ref a21, .int (iI x17), .int r5, .ref a22, .int (iI x18), .int (iI x19), .int (iI x20), .int (iI x21)])), (a2, .inl (T 0, 329, .inl (cI f0)))] sz (fun (u : Int32 × (Int → Int)) => nowI u.2 ∧ (kp 53 f0 u.2)) (fun u => [(a0, .inr (11, [.int r0, .ref a1, .int (iI x1), .int (iI x2), .int (iI x3), .int (iI x4), .int (iI x5), .int (iI x6), .int r1, .int (iI x7), .int (iI x8), .int (iI x9), .long y0, .int (iI x10), .ref a2, .ref a3, .ref a4, .ref a5, .ref a6, .ref a7, .ref a8, .ref a9, .ref a10, .ref a11, .int (iI x11), .ref a12, .ref a13, .ref a14, .ref a15, .int (iI x12), .int r2, .int r3, .ref a16, .int (iI x13), .int (iI x14), .ref a17, .ref a18, .int (iI x15), .ref a19, .int (iI x16), .int u.1, .ref a20, .ref a21, .int (iI x17), .int r5, .ref a22, .int (iI x18), .int (iI x19), .int (iI x20), .int (iI x21)])), (a2, .inl (T 0, 329, .inl (cI u.2)))])) 0 0 (va_A [(a0, .inr (11, [.int r0, .ref a1, .int (iI x1), .int (iI x2), .int (iI x3), .int (iI x4), .int (iI x5), .int (iI x6), .int r1, .int (iI x7), .int (iI x8), .int (iI x9), .long y0, .int (iI x10), .ref a2, .ref a3, .ref a4, .ref a5, .ref a6, .ref a7, .ref a8, .ref a9, .ref a10, .ref a11, .int (iI x11), .ref a12, .ref a13, .ref a14, .ref a15, .int (iI x12), .int r2, .int r3, .ref a16, .int (iI x13), .int (iI x14), .ref a17, .ref a18, .int (iI x15), .ref a19, .int (iI x16), .int r4, .ref a20, .ref a21, .int (iI x17), .int r5, .ref a22, .int (iI x18), .int (iI x19), .int (iI x20), .int (iI x21)])), (a2, .inl (T 0, 329, .inl (cI f0)))] sz) := by
  refine e_V (by decide) (Nat.le_of_ble_eq_true rfl) ?_
  intro p e s m args below meth c A Q ls M hin w ret hl
  have hx := M.1.1
  have hb := M.1.2.1
  have hl : lv_has ls 5 [(0, .ref a0), (1, .int (iI x0))] := hl
  refine lv_aload_n hx hb dX12_drawsFor_0 rfl (lv_at hl 0 rfl) ?_
  refine lv_iconst (v := iI 4) hx hb dX12_drawsFor_1 (by decide +kernel) ?_
  refine k_I (ce := 0) (sl := 0) (rest := []) (wr := [(a2, .inl (T 0, 329, .inl (cI f0)))]) (r_V (f := 0) [0] M w V_HookedCityModel_355 G1964 G100 (c98_X12_draw l D T _ a0 4 r0 a1 x1 x2 x3 x4 x5 x6 r1 x7 x8 x9 y0 x10 a2 a3 a4 a5 a6 a7 a8 a9 a10 a11 x11 a12 a13 a14 a15 x12 r2 r3 a16 x13 x14 a17 a18 x15 a19 x16 r4 a20 a21 x17 r5 a22 x18 x19 x20 x21 (by decide) (by decide) x1_a x1_b x2_a x2_b x3_a x3_b x4_a x4_b x5_a x5_b x6_a x6_b x7_a x7_b x8_a x8_b x9_a x9_b x10_a x10_b x11_a x11_b x12_a x12_b x13_a x13_b x14_a x14_b x15_a x15_b x16_a x16_b x17_a x17_b x18_a x18_b x19_a x19_b x20_a x20_b x21_a x21_b) 0 clX12 rfl rfl (by decide) rfl hl.1 rfl (Nat.le_of_ble_eq_true rfl) dX12_drawsFor_2 (by decide) (by decide) (by decide) (by decide)) w [0] [1] rfl rfl (by decide) (by decide) rfl rfl (fun v u H locs hp w => ?_)
  obtain ⟨z1, fr2⟩ := u
  have hv : iI z1 = v := hp.1
  subst hv
  have z1_a : 0 ≤ z1 := hp.2.1
  have z1_b : z1 ≤ 2147483647 := hp.2.2.1
  have ee3 : 0 ≤ ((4 - z1) - 1) := hp.2.2.2
  have w : WD D A s.heap [(a2, .inl (T 0, 329, .inl (cI f0))), (a0, .inr (11, [.int r0, .ref a1, .int (iI x1), .int (iI x2), .int (iI x3), .int (iI x4), .int (iI x5), .int (iI x6), .int r1, .int (iI x7), .int (iI x8), .int (iI x9), .long y0, .int (iI x10), .ref a2, .ref a3, .ref a4, .ref a5, .ref a6, .ref a7, .ref a8, .ref a9, .ref a10, .ref a11, .int (iI x11), .ref a12, .ref a13, .ref a14, .ref a15, .int (iI x12), .int r2, .int r3, .ref a16, .int (iI x13), .int (iI x14), .ref a17, .ref a18, .int (iI x15), .ref a19, .int (iI x16), .int fr2, .ref a20, .ref a21, .int (iI x17), .int r5, .ref a22, .int (iI x18), .int (iI x19), .int (iI x20), .int (iI x21)]))] H locs := w
  refine lv_if_ne (tgt := 12) hx hb dX12_drawsFor_5 (by decide) (fun c_4 => ?_) (fun c_4 => ?_)
  · replace c_4 : ¬ z1 = 0 := fun h => c_4 ((iz_eq (Int.le_trans (by decide) z1_a) (Int.le_trans z1_b (by decide))).mpr h)
    refine lv_iconst (v := iI 0) hx hb dX12_drawsFor_12 (by decide +kernel) ?_
    refine lv_istore_n (lv' := [(2, .int (iI 0)), (0, .ref a0), (1, .int (iI x0))]) hx hb dX12_drawsFor_13 rfl hl (by decide) rfl (fun ls hl => ?_)
    refine lv_aload_n hx hb dX12_drawsFor_14 rfl (lv_at hl 1 rfl) ?_
    refine r_get (v := .ref a2) M w 1 14 clX12 rfl (by decide) G1477 rfl rfl dX12_drawsFor_15 ?_
    refine lv_iconst (v := iI 0) hx hb dX12_drawsFor_18 (by decide +kernel) ?_
    refine r_iald (v := iI (f0 0)) M w 0 rfl (iI_in (by decide) (by decide) (by decide)) (cI_at (by omega) (by omega)) dX12_drawsFor_19 ?_
    have hh5 : (-2147483648) ≤ (f0 0) ∧ (f0 0) ≤ 2147483647 := f0_h.1 0
    have hh6 : 0 ≤ (f0 0) ∧ (f0 0) ≤ 9 := (f0_h.2.1 0).1 (by omega)
    refine lv_if_ne (tgt := 24) hx hb dX12_drawsFor_20 (by decide) (fun c_7 => ?_) (fun c_7 => ?_)
    · replace c_7 : ¬ (f0 0) = 0 := fun h => c_7 ((iz_eq (by omega) (by omega)).mpr h)
      refine lv_aload_n hx hb dX12_drawsFor_24 rfl (lv_at hl 1 rfl) ?_
      refine lv_aload_n hx hb dX12_drawsFor_25 rfl (lv_at hl 1 rfl) ?_
      refine r_get (v := .ref a2) M w 1 14 clX12 rfl (by decide) G1477 rfl rfl dX12_drawsFor_26 ?_
      refine lv_iconst (v := iI 0) hx hb dX12_drawsFor_29 (by decide +kernel) ?_
      refine r_iald (v := iI (f0 0)) M w 0 rfl (iI_in (by decide) (by decide) (by decide)) (cI_at (by omega) (by omega)) dX12_drawsFor_30 ?_
      have hh8 : (-2147483648) ≤ (f0 0) ∧ (f0 0) ≤ 2147483647 := f0_h.1 0
      have hh9 : 0 ≤ (f0 0) ∧ (f0 0) ≤ 9 := (f0_h.2.1 0).1 (by omega)
      refine k_I (ce := 0) (sl := 0) (rest := []) (wr := [(a2, .inl (T 0, 329, .inl (cI f0)))]) (r_V (f := 0) [1] M w V_HookedCityModel_355 G1964 G100 (c98_X12_draw l D T _ a0 (f0 0) r0 a1 x1 x2 x3 x4 x5 x6 r1 x7 x8 x9 y0 x10 a2 a3 a4 a5 a6 a7 a8 a9 a10 a11 x11 a12 a13 a14 a15 x12 r2 r3 a16 x13 x14 a17 a18 x15 a19 x16 fr2 a20 a21 x17 r5 a22 x18 x19 x20 x21 (by omega) (by omega) x1_a x1_b x2_a x2_b x3_a x3_b x4_a x4_b x5_a x5_b x6_a x6_b x7_a x7_b x8_a x8_b x9_a x9_b x10_a x10_b x11_a x11_b x12_a x12_b x13_a x13_b x14_a x14_b x15_a x15_b x16_a x16_b x17_a x17_b x18_a x18_b x19_a x19_b x20_a x20_b x21_a x21_b) 1 clX12 rfl rfl (by decide) rfl hl.1 rfl (Nat.le_of_ble_eq_true rfl) dX12_drawsFor_31 (by decide) (by decide) (by decide) (by decide)) w [1] [0] rfl rfl (by decide) (by decide) rfl rfl (fun v u H locs hp w => ?_)
      obtain ⟨z10, fr11⟩ := u
      have hv : iI z10 = v := hp.1
      subst hv
      have z10_a : 0 ≤ z10 := hp.2.1
      have z10_b : z10 ≤ 2147483647 := hp.2.2.1
      have ee12 : 0 ≤ (((f0 0) - z10) - 1) := hp.2.2.2
      have w : WD D A s.heap [(a2, .inl (T 0, 329, .inl (cI f0))), (a0, .inr (11, [.int r0, .ref a1, .int (iI x1), .int (iI x2), .int (iI x3), .int (iI x4), .int (iI x5), .int (iI x6), .int r1, .int (iI x7), .int (iI x8), .int (iI x9), .long y0, .int (iI x10), .ref a2, .ref a3, .ref a4, .ref a5, .ref a6, .ref a7, .ref a8, .ref a9, .ref a10, .ref a11, .int (iI x11), .ref a12, .ref a13, .ref a14, .ref a15, .int (iI x12), .int r2, .int r3, .ref a16, .int (iI x13), .int (iI x14), .ref a17, .ref a18, .int (iI x15), .ref a19, .int (iI x16), .int fr11, .ref a20, .ref a21, .int (iI x17), .int r5, .ref a22, .int (iI x18), .int (iI x19), .int (iI x20), .int (iI x21)]))] H locs := w
      refine lv_istore_n (lv' := [(3, .int (iI z10)), (2, .int (iI 0)), (0, .ref a0), (1, .int (iI x0))]) hx hb dX12_drawsFor_34 rfl hl (by decide) rfl (fun ls hl => ?_)
      refine lv_iload_n hx hb dX12_drawsFor_35 rfl (lv_at hl 1 rfl) ?_
      refine lv_if_ne (tgt := 52) hx hb dX12_drawsFor_36 (by decide) (fun c => absurd (by decide +kernel) c) (fun _ => ?_)
      refine lv_aload_n hx hb dX12_drawsFor_39 rfl (lv_at hl 2 rfl) ?_
      refine lv_aload_n hx hb dX12_drawsFor_40 rfl (lv_at hl 2 rfl) ?_
      refine r_get (v := .ref a2) M w 1 14 clX12 rfl (by decide) G1477 rfl rfl dX12_drawsFor_41 ?_
      refine lv_iconst (v := iI 0) hx hb dX12_drawsFor_44 (by decide +kernel) ?_
      refine r_iald (v := iI (f0 0)) M w 0 rfl (iI_in (by decide) (by decide) (by decide)) (cI_at (by omega) (by omega)) dX12_drawsFor_45 ?_
      have hh13 : (-2147483648) ≤ (f0 0) ∧ (f0 0) ≤ 2147483647 := f0_h.1 0
      have hh14 : 0 ≤ (f0 0) ∧ (f0 0) ≤ 9 := (f0_h.2.1 0).1 (by omega)
      refine k_I (ce := 0) (sl := 0) (rest := []) (wr := [(a2, .inl (T 0, 329, .inl (cI f0)))]) (r_V (f := 0) [1] M w V_HookedCityModel_355 G1964 G100 (c98_X12_draw l D T _ a0 (f0 0) r0 a1 x1 x2 x3 x4 x5 x6 r1 x7 x8 x9 y0 x10 a2 a3 a4 a5 a6 a7 a8 a9 a10 a11 x11 a12 a13 a14 a15 x12 r2 r3 a16 x13 x14 a17 a18 x15 a19 x16 fr11 a20 a21 x17 r5 a22 x18 x19 x20 x21 (by omega) (by omega) x1_a x1_b x2_a x2_b x3_a x3_b x4_a x4_b x5_a x5_b x6_a x6_b x7_a x7_b x8_a x8_b x9_a x9_b x10_a x10_b x11_a x11_b x12_a x12_b x13_a x13_b x14_a x14_b x15_a x15_b x16_a x16_b x17_a x17_b x18_a x18_b x19_a x19_b x20_a x20_b x21_a x21_b) 1 clX12 rfl rfl (by decide) rfl hl.1 rfl (Nat.le_of_ble_eq_true rfl) dX12_drawsFor_46 (by decide) (by decide) (by decide) (by decide)) w [1] [0] rfl rfl (by decide) (by decide) rfl rfl (fun v u H locs hp w => ?_)
      obtain ⟨z15, fr16⟩ := u
      have hv : iI z15 = v := hp.1
      subst hv
      have z15_a : 0 ≤ z15 := hp.2.1
      have z15_b : z15 ≤ 2147483647 := hp.2.2.1
      have ee17 : 0 ≤ (((f0 0) - z15) - 1) := hp.2.2.2
      have w : WD D A s.heap [(a2, .inl (T 0, 329, .inl (cI f0))), (a0, .inr (11, [.int r0, .ref a1, .int (iI x1), .int (iI x2), .int (iI x3), .int (iI x4), .int (iI x5), .int (iI x6), .int r1, .int (iI x7), .int (iI x8), .int (iI x9), .long y0, .int (iI x10), .ref a2, .ref a3, .ref a4, .ref a5, .ref a6, .ref a7, .ref a8, .ref a9, .ref a10, .ref a11, .int (iI x11), .ref a12, .ref a13, .ref a14, .ref a15, .int (iI x12), .int r2, .int r3, .ref a16, .int (iI x13), .int (iI x14), .ref a17, .ref a18, .int (iI x15), .ref a19, .int (iI x16), .int fr16, .ref a20, .ref a21, .int (iI x17), .int r5, .ref a22, .int (iI x18), .int (iI x19), .int (iI x20), .int (iI x21)]))] H locs := w
      refine lv_goto (tgt := 53) hx hb dX12_drawsFor_49 (by decide) ?_
      refine lv_istore (lv' := [(4, .int (iI z15)), (3, .int (iI z10)), (2, .int (iI 0)), (0, .ref a0), (1, .int (iI x0))]) hx hb dX12_drawsFor_53 hl (by decide) rfl (fun ls hl => ?_)
      refine lv_aload_n hx hb dX12_drawsFor_55 rfl (lv_at hl 3 rfl) ?_
      refine lv_iload_n hx hb dX12_drawsFor_56 rfl (lv_at hl 2 rfl) ?_
      refine lv_iload_n hx hb dX12_drawsFor_57 rfl (lv_at hl 4 rfl) ?_
      refine lv_iload_n hx hb dX12_drawsFor_58 rfl (lv_at hl 1 rfl) ?_
      refine lv_iload hx hb dX12_drawsFor_59 (lv_at hl 0 rfl) ?_
      refine k_I (ce := 0) (sl := 0) (rest := []) (wr := []) (r_V (f := 2) [1, 0] M w V_HookedCityModel_280 G1792 G79 (c81_X12_why l D T _ a0 x0 z10 z15 r0 a1 x1 x2 x3 x4 x5 x6 r1 x7 x8 x9 y0 x10 a2 a3 a4 a5 a6 a7 a8 a9 a10 a11 x11 a12 a13 a14 a15 x12 r2 r3 a16 x13 x14 a17 a18 x15 a19 x16 fr16 a20 a21 x17 r5 a22 x18 x19 x20 x21 f0 x0_a x0_b (by omega) (by omega) (by omega) (by omega) x1_a x1_b x2_a x2_b x3_a x3_b x4_a x4_b x5_a x5_b x6_a x6_b x7_a x7_b x8_a x8_b x9_a x9_b x10_a x10_b x11_a x11_b x12_a x12_b x13_a x13_b x14_a x14_b x15_a x15_b x16_a x16_b x17_a x17_b x18_a x18_b x19_a x19_b x20_a x20_b x21_a x21_b f0_h) 1 clX12 rfl rfl (by decide) rfl hl.1 rfl (Nat.le_of_ble_eq_true rfl) dX12_drawsFor_61 (by decide) (by decide) (by decide) (by decide)) w [1, 0] [] rfl rfl (by decide) (by decide) rfl rfl (fun v z18 H locs hp w => ?_)
      have hv : iI z18 = v := hp.1
      subst hv
      have z18_a : 0 ≤ z18 := hp.2.1
      have z18_b : z18 ≤ 7 := hp.2.2.1
      have pq19 : z18 = 0 → f0 (66 + z15) = -1 := hp.2.2.2
      have w : WD D A s.heap [(a0, .inr (11, [.int r0, .ref a1, .int (iI x1), .int (iI x2), .int (iI x3), .int (iI x4), .int (iI x5), .int (iI x6), .int r1, .int (iI x7), .int (iI x8), .int (iI x9), .long y0, .int (iI x10), .ref a2, .ref a3, .ref a4, .ref a5, .ref a6, .ref a7, .ref a8, .ref a9, .ref a10, .ref a11, .int (iI x11), .ref a12, .ref a13, .ref a14, .ref a15, .int (iI x12), .int r2, .int r3, .ref a16, .int (iI x13), .int (iI x14), .ref a17, .ref a18, .int (iI x15), .ref a19, .int (iI x16), .int fr16, .ref a20, .ref a21, .int (iI x17), .int r5, .ref a22, .int (iI x18), .int (iI x19), .int (iI x20), .int (iI x21)])), (a2, .inl (T 0, 329, .inl (cI f0)))] H locs := w
      refine lv_if_ne (tgt := 76) hx hb dX12_drawsFor_64 (by decide) (fun c_20 => ?_) (fun c_20 => ?_)
      · replace c_20 : ¬ z18 = 0 := fun h => c_20 ((iz_eq (Int.le_trans (by decide) z18_a) (Int.le_trans z18_b (by decide))).mpr h)
        exact ret (fr16, f0) _ _ _ _ _ [0, 1] dX12_drawsFor_76 ⟨f0_h, (show kp 53 f0 f0 from kp_rfl)⟩ w (by decide) rfl
      · replace c_20 := (iz_eq (Int.le_trans (by decide) z18_a) (Int.le_trans z18_b (by decide))).mp c_20
        refine lv_aload_n hx hb dX12_drawsFor_67 rfl (lv_at hl 3 rfl) ?_
        refine lv_iload_n hx hb dX12_drawsFor_68 rfl (lv_at hl 2 rfl) ?_
        refine lv_iload_n hx hb dX12_drawsFor_69 rfl (lv_at hl 4 rfl) ?_
        refine lv_iload_n hx hb dX12_drawsFor_70 rfl (lv_at hl 1 rfl) ?_
        refine lv_iload hx hb dX12_drawsFor_71 (lv_at hl 0 rfl) ?_
        refine k_V (ce := 0) (sl := 0) (rest := []) (wr := []) (r_V (f := 0) [0, 1] M w V_HookedCityModel_287 G1808 G83 (c82_X12_live l D T _ a0 x0 z10 z15 r0 a1 x1 x2 x3 x4 x5 x6 r1 x7 x8 x9 y0 x10 a2 a3 a4 a5 a6 a7 a8 a9 a10 a11 x11 a12 a13 a14 a15 x12 r2 r3 a16 x13 x14 a17 a18 x15 a19 x16 fr16 a20 a21 x17 r5 a22 x18 x19 x20 x21 f0 x0_a x0_b (by omega) (by omega) (by omega) (by omega) x1_a x1_b x2_a x2_b x3_a x3_b x4_a x4_b x5_a x5_b x6_a x6_b x7_a x7_b x8_a x8_b x9_a x9_b x10_a x10_b x11_a x11_b x12_a x12_b x13_a x13_b x14_a x14_b x15_a x15_b x16_a x16_b x17_a x17_b x18_a x18_b x19_a x19_b x20_a x20_b x21_a x21_b f0_h (pq19 (by omega))) 0 clX12 rfl rfl (by decide) rfl hl.1 rfl (Nat.le_of_ble_eq_true rfl) dX12_drawsFor_73 (by decide) (by decide) (by decide) (by decide)) w [0, 1] [] rfl rfl (by decide) (by decide) rfl rfl (fun ff21 H locs hp w => ?_)
        have ff21_h : nowI ff21 := hp.1
        have pq22 : kp 53 f0 ff21 := hp.2
        have w : WD D A s.heap [(a0, .inr (11, [.int r0, .ref a1, .int (iI x1), .int (iI x2), .int (iI x3), .int (iI x4), .int (iI x5), .int (iI x6), .int r1, .int (iI x7), .int (iI x8), .int (iI x9), .long y0, .int (iI x10), .ref a2, .ref a3, .ref a4, .ref a5, .ref a6, .ref a7, .ref a8, .ref a9, .ref a10, .ref a11, .int (iI x11), .ref a12, .ref a13, .ref a14, .ref a15, .int (iI x12), .int r2, .int r3, .ref a16, .int (iI x13), .int (iI x14), .ref a17, .ref a18, .int (iI x15), .ref a19, .int (iI x16), .int fr16, .ref a20, .ref a21, .int (iI x17), .int r5, .ref a22, .int (iI x18), .int (iI x19), .int (iI x20), .int (iI x21)])), (a2, .inl (T 0, 329, .inl (cI ff21)))] H locs := w
        exact ret (fr16, ff21) _ _ _ _ _ [0, 1] dX12_drawsFor_76 ⟨ff21_h, (show kp 53 f0 ff21 from pq22)⟩ w (by decide) rfl
    · replace c_7 := (iz_eq (by omega) (by omega)).mp c_7
      exact ret (fr2, f0) _ _ _ _ _ [1, 0] dX12_drawsFor_23 ⟨f0_h, (show kp 53 f0 f0 from kp_rfl)⟩ w (by decide) rfl
  · replace c_4 := (iz_eq (Int.le_trans (by decide) z1_a) (Int.le_trans z1_b (by decide))).mp c_4
    refine lv_iconst (v := iI 1) hx hb dX12_drawsFor_8 (by decide +kernel) ?_
    refine lv_goto (tgt := 13) hx hb dX12_drawsFor_9 (by decide) ?_
    refine lv_istore_n (lv' := [(2, .int (iI 1)), (0, .ref a0), (1, .int (iI x0))]) hx hb dX12_drawsFor_13 rfl hl (by decide) rfl (fun ls hl => ?_)
    refine lv_aload_n hx hb dX12_drawsFor_14 rfl (lv_at hl 1 rfl) ?_
    refine r_get (v := .ref a2) M w 1 14 clX12 rfl (by decide) G1477 rfl rfl dX12_drawsFor_15 ?_
    refine lv_iconst (v := iI 0) hx hb dX12_drawsFor_18 (by decide +kernel) ?_
    refine r_iald (v := iI (f0 0)) M w 0 rfl (iI_in (by decide) (by decide) (by decide)) (cI_at (by omega) (by omega)) dX12_drawsFor_19 ?_
    have hh23 : (-2147483648) ≤ (f0 0) ∧ (f0 0) ≤ 2147483647 := f0_h.1 0
    have hh24 : 0 ≤ (f0 0) ∧ (f0 0) ≤ 9 := (f0_h.2.1 0).1 (by omega)
    refine lv_if_ne (tgt := 24) hx hb dX12_drawsFor_20 (by decide) (fun c_25 => ?_) (fun c_25 => ?_)
    · replace c_25 : ¬ (f0 0) = 0 := fun h => c_25 ((iz_eq (by omega) (by omega)).mpr h)
      refine lv_aload_n hx hb dX12_drawsFor_24 rfl (lv_at hl 1 rfl) ?_
      refine lv_aload_n hx hb dX12_drawsFor_25 rfl (lv_at hl 1 rfl) ?_
      refine r_get (v := .ref a2) M w 1 14 clX12 rfl (by decide) G1477 rfl rfl dX12_drawsFor_26 ?_
      refine lv_iconst (v := iI 0) hx hb dX12_drawsFor_29 (by decide +kernel) ?_
      refine r_iald (v := iI (f0 0)) M w 0 rfl (iI_in (by decide) (by decide) (by decide)) (cI_at (by omega) (by omega)) dX12_drawsFor_30 ?_
      have hh26 : (-2147483648) ≤ (f0 0) ∧ (f0 0) ≤ 2147483647 := f0_h.1 0
      have hh27 : 0 ≤ (f0 0) ∧ (f0 0) ≤ 9 := (f0_h.2.1 0).1 (by omega)
      refine k_I (ce := 0) (sl := 0) (rest := []) (wr := [(a2, .inl (T 0, 329, .inl (cI f0)))]) (r_V (f := 0) [1] M w V_HookedCityModel_355 G1964 G100 (c98_X12_draw l D T _ a0 (f0 0) r0 a1 x1 x2 x3 x4 x5 x6 r1 x7 x8 x9 y0 x10 a2 a3 a4 a5 a6 a7 a8 a9 a10 a11 x11 a12 a13 a14 a15 x12 r2 r3 a16 x13 x14 a17 a18 x15 a19 x16 fr2 a20 a21 x17 r5 a22 x18 x19 x20 x21 (by omega) (by omega) x1_a x1_b x2_a x2_b x3_a x3_b x4_a x4_b x5_a x5_b x6_a x6_b x7_a x7_b x8_a x8_b x9_a x9_b x10_a x10_b x11_a x11_b x12_a x12_b x13_a x13_b x14_a x14_b x15_a x15_b x16_a x16_b x17_a x17_b x18_a x18_b x19_a x19_b x20_a x20_b x21_a x21_b) 1 clX12 rfl rfl (by decide) rfl hl.1 rfl (Nat.le_of_ble_eq_true rfl) dX12_drawsFor_31 (by decide) (by decide) (by decide) (by decide)) w [1] [0] rfl rfl (by decide) (by decide) rfl rfl (fun v u H locs hp w => ?_)
      obtain ⟨z28, fr29⟩ := u
      have hv : iI z28 = v := hp.1
      subst hv
      have z28_a : 0 ≤ z28 := hp.2.1
      have z28_b : z28 ≤ 2147483647 := hp.2.2.1
      have ee30 : 0 ≤ (((f0 0) - z28) - 1) := hp.2.2.2
      have w : WD D A s.heap [(a2, .inl (T 0, 329, .inl (cI f0))), (a0, .inr (11, [.int r0, .ref a1, .int (iI x1), .int (iI x2), .int (iI x3), .int (iI x4), .int (iI x5), .int (iI x6), .int r1, .int (iI x7), .int (iI x8), .int (iI x9), .long y0, .int (iI x10), .ref a2, .ref a3, .ref a4, .ref a5, .ref a6, .ref a7, .ref a8, .ref a9, .ref a10, .ref a11, .int (iI x11), .ref a12, .ref a13, .ref a14, .ref a15, .int (iI x12), .int r2, .int r3, .ref a16, .int (iI x13), .int (iI x14), .ref a17, .ref a18, .int (iI x15), .ref a19, .int (iI x16), .int fr29, .ref a20, .ref a21, .int (iI x17), .int r5, .ref a22, .int (iI x18), .int (iI x19), .int (iI x20), .int (iI x21)]))] H locs := w
      refine lv_istore_n (lv' := [(3, .int (iI z28)), (2, .int (iI 1)), (0, .ref a0), (1, .int (iI x0))]) hx hb dX12_drawsFor_34 rfl hl (by decide) rfl (fun ls hl => ?_)
      refine lv_iload_n hx hb dX12_drawsFor_35 rfl (lv_at hl 1 rfl) ?_
      refine lv_if_ne (tgt := 52) hx hb dX12_drawsFor_36 (by decide) (fun _ => ?_) (fun c => absurd c (by decide +kernel))
      refine lv_iconst (v := iI 0) hx hb dX12_drawsFor_52 (by decide +kernel) ?_
      refine lv_istore (lv' := [(4, .int (iI 0)), (3, .int (iI z28)), (2, .int (iI 1)), (0, .ref a0), (1, .int (iI x0))]) hx hb dX12_drawsFor_53 hl (by decide) rfl (fun ls hl => ?_)
      refine lv_aload_n hx hb dX12_drawsFor_55 rfl (lv_at hl 3 rfl) ?_
      refine lv_iload_n hx hb dX12_drawsFor_56 rfl (lv_at hl 2 rfl) ?_
      refine lv_iload_n hx hb dX12_drawsFor_57 rfl (lv_at hl 4 rfl) ?_
      refine lv_iload_n hx hb dX12_drawsFor_58 rfl (lv_at hl 1 rfl) ?_
      refine lv_iload hx hb dX12_drawsFor_59 (lv_at hl 0 rfl) ?_
      refine k_I (ce := 0) (sl := 0) (rest := []) (wr := []) (r_V (f := 1) [1, 0] M w V_HookedCityModel_280 G1792 G79 (c85_X12_why l D T _ a0 x0 z28 0 r0 a1 x1 x2 x3 x4 x5 x6 r1 x7 x8 x9 y0 x10 a2 a3 a4 a5 a6 a7 a8 a9 a10 a11 x11 a12 a13 a14 a15 x12 r2 r3 a16 x13 x14 a17 a18 x15 a19 x16 fr29 a20 a21 x17 r5 a22 x18 x19 x20 x21 f0 x0_a x0_b (by omega) (by omega) (by decide) (by decide) x1_a x1_b x2_a x2_b x3_a x3_b x4_a x4_b x5_a x5_b x6_a x6_b x7_a x7_b x8_a x8_b x9_a x9_b x10_a x10_b x11_a x11_b x12_a x12_b x13_a x13_b x14_a x14_b x15_a x15_b x16_a x16_b x17_a x17_b x18_a x18_b x19_a x19_b x20_a x20_b x21_a x21_b f0_h) 1 clX12 rfl rfl (by decide) rfl hl.1 rfl (Nat.le_of_ble_eq_true rfl) dX12_drawsFor_61 (by decide) (by decide) (by decide) (by decide)) w [1, 0] [] rfl rfl (by decide) (by decide) rfl rfl (fun v z31 H locs hp w => ?_)
      have hv : iI z31 = v := hp.1
      subst hv
      have z31_a : 0 ≤ z31 := hp.2.1
      have z31_b : z31 ≤ 7 := hp.2.2
      have w : WD D A s.heap [(a0, .inr (11, [.int r0, .ref a1, .int (iI x1), .int (iI x2), .int (iI x3), .int (iI x4), .int (iI x5), .int (iI x6), .int r1, .int (iI x7), .int (iI x8), .int (iI x9), .long y0, .int (iI x10), .ref a2, .ref a3, .ref a4, .ref a5, .ref a6, .ref a7, .ref a8, .ref a9, .ref a10, .ref a11, .int (iI x11), .ref a12, .ref a13, .ref a14, .ref a15, .int (iI x12), .int r2, .int r3, .ref a16, .int (iI x13), .int (iI x14), .ref a17, .ref a18, .int (iI x15), .ref a19, .int (iI x16), .int fr29, .ref a20, .ref a21, .int (iI x17), .int r5, .ref a22, .int (iI x18), .int (iI x19), .int (iI x20), .int (iI x21)])), (a2, .inl (T 0, 329, .inl (cI f0)))] H locs := w
      refine lv_if_ne (tgt := 76) hx hb dX12_drawsFor_64 (by decide) (fun c_32 => ?_) (fun c_32 => ?_)
      · replace c_32 : ¬ z31 = 0 := fun h => c_32 ((iz_eq (Int.le_trans (by decide) z31_a) (Int.le_trans z31_b (by decide))).mpr h)
        exact ret (fr29, f0) _ _ _ _ _ [0, 1] dX12_drawsFor_76 ⟨f0_h, (show kp 53 f0 f0 from kp_rfl)⟩ w (by decide) rfl
      · replace c_32 := (iz_eq (Int.le_trans (by decide) z31_a) (Int.le_trans z31_b (by decide))).mp c_32
        refine lv_aload_n hx hb dX12_drawsFor_67 rfl (lv_at hl 3 rfl) ?_
        refine lv_iload_n hx hb dX12_drawsFor_68 rfl (lv_at hl 2 rfl) ?_
        refine lv_iload_n hx hb dX12_drawsFor_69 rfl (lv_at hl 4 rfl) ?_
        refine lv_iload_n hx hb dX12_drawsFor_70 rfl (lv_at hl 1 rfl) ?_
        refine lv_iload hx hb dX12_drawsFor_71 (lv_at hl 0 rfl) ?_
        refine k_V (ce := 0) (sl := 0) (rest := []) (wr := []) (r_V (f := 1) [0, 1] M w V_HookedCityModel_287 G1808 G83 (c86_X12_live l D T _ a0 x0 z28 0 r0 a1 x1 x2 x3 x4 x5 x6 r1 x7 x8 x9 y0 x10 a2 a3 a4 a5 a6 a7 a8 a9 a10 a11 x11 a12 a13 a14 a15 x12 r2 r3 a16 x13 x14 a17 a18 x15 a19 x16 fr29 a20 a21 x17 r5 a22 x18 x19 x20 x21 f0 x0_a x0_b (by omega) (by omega) (by decide) (by decide) x1_a x1_b x2_a x2_b x3_a x3_b x4_a x4_b x5_a x5_b x6_a x6_b x7_a x7_b x8_a x8_b x9_a x9_b x10_a x10_b x11_a x11_b x12_a x12_b x13_a x13_b x14_a x14_b x15_a x15_b x16_a x16_b x17_a x17_b x18_a x18_b x19_a x19_b x20_a x20_b x21_a x21_b f0_h) 0 clX12 rfl rfl (by decide) rfl hl.1 rfl (Nat.le_of_ble_eq_true rfl) dX12_drawsFor_73 (by decide) (by decide) (by decide) (by decide)) w [0, 1] [] rfl rfl (by decide) (by decide) rfl rfl (fun ff33 H locs hp w => ?_)
        have ff33_h : nowI ff33 := hp.1
        have pq34 : kp 53 f0 ff33 := hp.2
        have w : WD D A s.heap [(a0, .inr (11, [.int r0, .ref a1, .int (iI x1), .int (iI x2), .int (iI x3), .int (iI x4), .int (iI x5), .int (iI x6), .int r1, .int (iI x7), .int (iI x8), .int (iI x9), .long y0, .int (iI x10), .ref a2, .ref a3, .ref a4, .ref a5, .ref a6, .ref a7, .ref a8, .ref a9, .ref a10, .ref a11, .int (iI x11), .ref a12, .ref a13, .ref a14, .ref a15, .int (iI x12), .int r2, .int r3, .ref a16, .int (iI x13), .int (iI x14), .ref a17, .ref a18, .int (iI x15), .ref a19, .int (iI x16), .int fr29, .ref a20, .ref a21, .int (iI x17), .int r5, .ref a22, .int (iI x18), .int (iI x19), .int (iI x20), .int (iI x21)])), (a2, .inl (T 0, 329, .inl (cI ff33)))] H locs := w
        exact ret (fr29, ff33) _ _ _ _ _ [0, 1] dX12_drawsFor_76 ⟨ff33_h, (show kp 53 f0 ff33 from pq34)⟩ w (by decide) rfl
    · replace c_25 := (iz_eq (by omega) (by omega)).mp c_25
      exact ret (fr2, f0) _ _ _ _ _ [1, 0] dX12_drawsFor_23 ⟨f0_h, (show kp 53 f0 f0 from kp_rfl)⟩ w (by decide) rfl
set_option maxRecDepth 100000 in
set_option maxHeartbeats 4000000 in
theorem c100_X12_drawDays (l : Launch) (D : va_G) (T : Nat → ClassId) (sz : Nat) (a0 : Nat) (x0 : Int) (x1 : Int) (r0 : Int32) (a1 : Nat) (x2 : Int) (x3 : Int) (x4 : Int) (x5 : Int) (x6 : Int) (x7 : Int) (r1 : Int32) (x8 : Int) (x9 : Int) (x10 : Int) (y0 : Int64) (x11 : Int) (a2 : Nat) (a3 : Nat) (a4 : Nat) (a5 : Nat) (a6 : Nat) (a7 : Nat) (a8 : Nat) (a9 : Nat) (a10 : Nat) (a11 : Nat) (x12 : Int) (a12 : Nat) (a13 : Nat) (a14 : Nat) (a15 : Nat) (x13 : Int) (r2 : Int32) (r3 : Int32) (a16 : Nat) (x14 : Int) (x15 : Int) (a17 : Nat) (a18 : Nat) (x16 : Int) (a19 : Nat) (x17 : Int) (r4 : Int32) (a20 : Nat) (a21 : Nat) (x18 : Int) (r5 : Int32) (a22 : Nat) (x19 : Int) (x20 : Int) (x21 : Int) (x22 : Int) (f0 : Int → Int) (x0_a : (-2147483648) ≤ x0) (x0_b : x0 ≤ 2147483647) (x1_a : (-2147483648) ≤ x1) (x1_b : x1 ≤ 2147483647) (x2_a : 0 ≤ x2) (x2_b : x2 ≤ 940) (x3_a : 0 ≤ x3) (x3_b : x3 ≤ 940) (x4_a : 0 ≤ x4) (x4_b : x4 ≤ 940) (x5_a : 0 ≤ x5) (x5_b : x5 ≤ 940) (x6_a : 0 ≤ x6) (x6_b : x6 ≤ 940) (x7_a : 0 ≤ x7) (x7_b : x7 ≤ 4) (x8_a : (-2147483648) ≤ x8) (x8_b : x8 ≤ 2147483647) (x9_a : (-2147483648) ≤ x9) (x9_b : x9 ≤ 2147483647) (x10_a : 0 ≤ x10) (x10_b : x10 ≤ 940) (x11_a : (-2147483648) ≤ x11) (x11_b : x11 ≤ 2147483647) (x12_a : 0 ≤ x12) (x12_b : x12 ≤ 8) (x13_a : 0 ≤ x13) (x13_b : x13 ≤ 9) (x14_a : (-1) ≤ x14) (x14_b : x14 ≤ 9) (x15_a : (-1) ≤ x15) (x15_b : x15 ≤ 8) (x16_a : 0 ≤ x16) (x16_b : x16 ≤ 9) (x17_a : 0 ≤ x17) (x17_b : x17 ≤ 64) (x18_a : 0 ≤ x18) (x18_b : x18 ≤ 40) (x19_a : 0 ≤ x19) (x19_b : x19 ≤ 40) (x20_a : 0 ≤ x20) (x20_b : x20 ≤ 20) (x21_a : 0 ≤ x21) (x21_b : x21 ≤ 8) (x22_a : 0 ≤ x22) (x22_b : x22 ≤ 39) (f0_h : nowI f0) : Met l yX12_drawDays (Cond.code yX12_drawDays cX12_drawDays 6 (some .int) :: GW) (Rm 4 0 0) (cPre [.ref a0, .int (iI x0), .int (iI x1)] D T [(a0, .inr (11, [.int r0, .ref a1, .int (iI x2), .int (iI x3), .int (iI x4), .int (iI x5), .int (iI x6), .int (iI x7), .int r1, .int (iI x8), .int (iI x9), .int (iI x10), .long y0, .int (iI x11), .ref a2, .ref a3, .ref a4, .ref a5, .ref a6, .ref a7, .ref a8, .ref a9, .ref a10, .ref a11, .int (iI x12), .ref a12, .ref a13, .ref a14, .ref a15, .int (iI x13), .int r2, .int r3, .ref a16, .int (iI x14), .int (iI x15), .ref a17, .ref a18, .int (iI x16), .ref a19, .int (iI x17), .int r4, .ref a20, .ref a21, .int (iI x18), .int r5, .ref a22, .int (iI x19), .int (iI x20), .int (iI x21), .int (iI x22)])), (a2, .inl (T 0, 329, .inl (cI f0)))] sz) (qI D [(a0, .inr (11, [.int r0, .ref a1, .int (iI x2), .int (iI x3), .int (iI x4), .int (iI x5), .int (iI x6), .int (iI x7), .int r1, .int (iI x8), .int (iI x9), .int (iI x10), .long y0, .int (iI x11), .ref a2, .ref a3, .ref a4, .ref a5, .ref a6, .ref a7, .ref a8, .ref a9, .ref a10, .ref a11, .int (iI x12), .ref a12, .ref a13, .ref a14, .ref a15, .int (iI x13), .int r2, .int r3, .ref a16, .int (iI x14), .int (iI x15), .ref a17, .ref a18, .int (iI x16), .ref a19, .int (iI x17), .int r4, .ref a20, .ref a21, .int (iI x18), .int r5, .ref a22, .int (iI x19), .int (iI x20), .int (iI x21), .int (iI x22)])), (a2, .inl (T 0, 329, .inl (cI f0)))] sz (fun (v : Int32) (u : Int × Int32 × (Int → Int)) => iI u.1 = v ∧ (-2147483648) ≤ u.1 ∧ u.1 ≤ 2147483647 ∧ nowI u.2.2 ∧ (kp 53 f0 u.2.2)) (fun u => [(a0, .inr (11, [.int r0, .ref a1, .int (iI x2), .int (iI x3), .int (iI x4), .int (iI x5), .int (iI x6), .int (iI x7), .int r1, .int (iI x8), .int (iI x9), .int (iI x10), .long y0, .int (iI x11), .ref a2, .ref a3, .ref a4, .ref a5, .ref a6, .ref a7, .ref a8, .ref a9, .ref a10, .ref a11, .int (iI x12), .ref a12, .ref a13, .ref a14, .ref a15, .int (iI x13), .int r2, .int r3, .ref a16, .int (iI x14), .int (iI x15), .ref a17, .ref a18, .int (iI x16), .ref a19, .int (iI x17), .int u.2.1, .ref a20, .ref a21, .int (iI x18), .int r5, .ref a22, .int (iI x19), .int (iI x20), .int (iI x21), .int (iI x22)])), (a2, .inl (T 0, 329, .inl (cI u.2.2)))])) 0 0 (va_A [(a0, .inr (11, [.int r0, .ref a1, .int (iI x2), .int (iI x3), .int (iI x4), .int (iI x5), .int (iI x6), .int (iI x7), .int r1, .int (iI x8), .int (iI x9), .int (iI x10), .long y0, .int (iI x11), .ref a2, .ref a3, .ref a4, .ref a5, .ref a6, .ref a7, .ref a8, .ref a9, .ref a10, .ref a11, .int (iI x12), .ref a12, .ref a13, .ref a14, .ref a15, .int (iI x13), .int r2, .int r3, .ref a16, .int (iI x14), .int (iI x15), .ref a17, .ref a18, .int (iI x16), .ref a19, .int (iI x17), .int r4, .ref a20, .ref a21, .int (iI x18), .int r5, .ref a22, .int (iI x19), .int (iI x20), .int (iI x21), .int (iI x22)])), (a2, .inl (T 0, 329, .inl (cI f0)))] sz) := by
  refine e_I (by decide) (Nat.le_of_ble_eq_true rfl) ?_
  intro p e s m args below meth c A Q ls M hin w ret hl
  have hx := M.1.1
  have hb := M.1.2.1
  have hl : lv_has ls 6 [(0, .ref a0), (1, .int (iI x0)), (2, .int (iI x1))] := hl
  refine lv_aload_n hx hb dX12_drawDays_0 rfl (lv_at hl 0 rfl) ?_
  refine lv_iload_n hx hb dX12_drawDays_1 rfl (lv_at hl 2 rfl) ?_
  refine r_put (ws' := [(a0, .inr (11, [.int r0, .ref a1, .int (iI x2), .int (iI x3), .int (iI x4), .int (iI x5), .int (iI x6), .int (iI x7), .int r1, .int (iI x8), .int (iI x9), .int (iI x10), .long y0, .int (iI x11), .ref a2, .ref a3, .ref a4, .ref a5, .ref a6, .ref a7, .ref a8, .ref a9, .ref a10, .ref a11, .int (iI x12), .ref a12, .ref a13, .ref a14, .ref a15, .int (iI x13), .int r2, .int r3, .ref a16, .int (iI x14), .int (iI x15), .ref a17, .ref a18, .int (iI x16), .ref a19, .int (iI x17), .int (iI x1), .ref a20, .ref a21, .int (iI x18), .int r5, .ref a22, .int (iI x19), .int (iI x20), .int (iI x21), .int (iI x22)])), (a2, .inl (T 0, 329, .inl (cI f0)))]) M w 0 40 clX12 rfl (by decide) G1503 rfl rfl rfl rfl (Nat.le_of_ble_eq_true rfl) rfl dX12_drawDays_2 (fun H locs w => ?_)
  refine lv_iload_n hx hb dX12_drawDays_5 rfl (lv_at hl 1 rfl) ?_
  refine lv_sipush (v := iI 400) hx hb dX12_drawDays_6 (by decide +kernel) ?_
  refine lv_aload_n hx hb dX12_drawDays_9 rfl (lv_at hl 0 rfl) ?_
  refine r_get (v := .ref a2) M w 0 14 clX12 rfl (by decide) G1477 rfl rfl dX12_drawDays_10 ?_
  refine lv_bipush (v := iI 53) hx hb dX12_drawDays_13 (by decide +kernel) ?_
  refine r_iald (v := iI (f0 53)) M w 1 rfl (iI_in (by decide) (by decide) (by decide)) (cI_at (by omega) (by omega)) dX12_drawDays_15 ?_
  have hh1 : (-2147483648) ≤ (f0 53) ∧ (f0 53) ≤ 2147483647 := f0_h.1 53
  refine r_isub (v := _) M rfl dX12_drawDays_16 ?_
  refine b_any (fun z2 z2_a z2_b => ?_)
  refine k_I (ce := 0) (sl := 0) (rest := []) (wr := [(a0, .inr (11, [.int r0, .ref a1, .int (iI x2), .int (iI x3), .int (iI x4), .int (iI x5), .int (iI x6), .int (iI x7), .int r1, .int (iI x8), .int (iI x9), .int (iI x10), .long y0, .int (iI x11), .ref a2, .ref a3, .ref a4, .ref a5, .ref a6, .ref a7, .ref a8, .ref a9, .ref a10, .ref a11, .int (iI x12), .ref a12, .ref a13, .ref a14, .ref a15, .int (iI x13), .int r2, .int r3, .ref a16, .int (iI x14), .int (iI x15), .ref a17, .ref a18, .int (iI x16), .ref a19, .int (iI x17), .int (iI x1), .ref a20, .ref a21, .int (iI x18), .int r5, .ref a22, .int (iI x19), .int (iI x20), .int (iI x21), .int (iI x22)])), (a2, .inl (T 0, 329, .inl (cI f0)))]) (r_S (f := 0) [] M w V_HookedCityModel_298 G1835 (c8_X12_least l D T _ x0 z2 x0_a x0_b z2_a z2_b) rfl (by decide) rfl hl.1 rfl (Nat.le_of_ble_eq_true rfl) dX12_drawDays_17 (by decide) (by decide) (by decide) (by decide)) w [] [0, 1] rfl rfl (by decide) (by decide) rfl rfl (fun v z3 H locs hp w => ?_)
  have hv : iI z3 = v := hp.1
  subst hv
  have z3_a : (-2147483648) ≤ z3 := hp.2.1
  have z3_b : z3 ≤ 2147483647 := hp.2.2.1
  have w : WD D A s.heap [(a0, .inr (11, [.int r0, .ref a1, .int (iI x2), .int (iI x3), .int (iI x4), .int (iI x5), .int (iI x6), .int (iI x7), .int r1, .int (iI x8), .int (iI x9), .int (iI x10), .long y0, .int (iI x11), .ref a2, .ref a3, .ref a4, .ref a5, .ref a6, .ref a7, .ref a8, .ref a9, .ref a10, .ref a11, .int (iI x12), .ref a12, .ref a13, .ref a14, .ref a15, .int (iI x13), .int r2, .int r3, .ref a16, .int (iI x14), .int (iI x15), .ref a17, .ref a18, .int (iI x16), .ref a19, .int (iI x17), .int (iI x1), .ref a20, .ref a21, .int (iI x18), .int r5, .ref a22, .int (iI x19), .int (iI x20), .int (iI x21), .int (iI x22)])), (a2, .inl (T 0, 329, .inl (cI f0)))] H locs := w
  rcases hp.2.2.2 with ⟨c_4, hr⟩ | ⟨c_5, hr⟩
  · subst z3
    refine lv_istore_n (lv' := [(3, .int (iI z2)), (0, .ref a0), (1, .int (iI x0)), (2, .int (iI x1))]) hx hb dX12_drawDays_20 rfl hl (by decide) rfl (fun ls hl => ?_)
    refine lv_iconst (v := iI 0) hx hb dX12_drawDays_21 (by decide +kernel) ?_
    refine lv_istore (lv' := [(4, .int (iI 0)), (3, .int (iI z2)), (0, .ref a0), (1, .int (iI x0)), (2, .int (iI x1))]) hx hb dX12_drawDays_22 hl (by decide) rfl (fun ls hl => ?_)
    have loop1 : ∀ (k1 : Nat) (fr6 : Int32) (ff7 : Int → Int) (z8 : Int) (H : Heap) (locs : List Loc) (ls : Array Slot), nowI ff7 → 0 ≤ z8 → z8 ≤ 2147483647 → kp 53 f0 ff7 → ((z2 - z8) : Int).toNat < k1 → WD D A s.heap [(a0, .inr (11, [.int r0, .ref a1, .int (iI x2), .int (iI x3), .int (iI x4), .int (iI x5), .int (iI x6), .int (iI x7), .int r1, .int (iI x8), .int (iI x9), .int (iI x10), .long y0, .int (iI x11), .ref a2, .ref a3, .ref a4, .ref a5, .ref a6, .ref a7, .ref a8, .ref a9, .ref a10, .ref a11, .int (iI x12), .ref a12, .ref a13, .ref a14, .ref a15, .int (iI x13), .int r2, .int r3, .ref a16, .int (iI x14), .int (iI x15), .ref a17, .ref a18, .int (iI x16), .ref a19, .int (iI x17), .int fr6, .ref a20, .ref a21, .int (iI x18), .int r5, .ref a22, .int (iI x19), .int (iI x20), .int (iI x21), .int (iI x22)])), (a2, .inl (T 0, 329, .inl (cI ff7)))] H locs → lv_has ls 6 [(4, .int (iI z8)), (3, .int (iI z2)), (0, .ref a0), (1, .int (iI x0)), (2, .int (iI x1))] → W p l e (Rm 4 0 0) s m args below meth c H locs 0 0 Q (F0 m 24 ls []) := by
      intro k1
      induction k1 with
      | zero => intro fr6 ff7 z8 H locs ls ff7_h z8_a z8_b lq1_hd hm; exact absurd hm (Nat.not_lt_zero _)
      | succ k1 ih1 =>
        intro fr6 ff7 z8 H locs ls ff7_h z8_a z8_b lq1_hd hm1 w hl
        refine lv_iload hx hb dX12_drawDays_24 (lv_at hl 0 rfl) ?_
        refine lv_iload_n hx hb dX12_drawDays_26 rfl (lv_at hl 1 rfl) ?_
        refine lv_icmp_ge (tgt := 66) hx hb dX12_drawDays_27 (by decide) (fun c_9 => ?_) (fun c_9 => ?_)
        · replace c_9 := (iI_le (Int.le_trans (by decide) z2_a) (Int.le_trans z2_b (by decide)) (Int.le_trans (by decide) z8_a) (Int.le_trans z8_b (by decide))).mp c_9
          refine lv_iload_n hx hb dX12_drawDays_66 rfl (lv_at hl 1 rfl) ?_
          exact ret _ (z2, fr6, ff7) _ _ _ _ _ [0, 1] dX12_drawDays_67 ⟨rfl, z2_a, z2_b, ff7_h, (show kp 53 f0 ff7 from lq1_hd)⟩ w (by decide) rfl
        · replace c_9 : z8 < z2 := Int.not_le.mp (fun h => c_9 ((iI_le (Int.le_trans (by decide) z2_a) (Int.le_trans z2_b (by decide)) (Int.le_trans (by decide) z8_a) (Int.le_trans z8_b (by decide))).mpr h))
          refine lv_iconst (v := iI 0) hx hb dX12_drawDays_30 (by decide +kernel) ?_
          refine lv_istore (lv' := [(5, .int (iI 0)), (4, .int (iI z8)), (3, .int (iI z2)), (0, .ref a0), (1, .int (iI x0)), (2, .int (iI x1))]) hx hb dX12_drawDays_31 hl (by decide) rfl (fun ls hl => ?_)
          have loop2 : ∀ (k2 : Nat) (fr10 : Int32) (ff11 : Int → Int) (z12 : Int) (H : Heap) (locs : List Loc) (ls : Array Slot), nowI ff11 → 0 ≤ z12 → z12 ≤ 3 → kp 53 f0 ff11 → ((3 - z12) : Int).toNat < k2 → WD D A s.heap [(a0, .inr (11, [.int r0, .ref a1, .int (iI x2), .int (iI x3), .int (iI x4), .int (iI x5), .int (iI x6), .int (iI x7), .int r1, .int (iI x8), .int (iI x9), .int (iI x10), .long y0, .int (iI x11), .ref a2, .ref a3, .ref a4, .ref a5, .ref a6, .ref a7, .ref a8, .ref a9, .ref a10, .ref a11, .int (iI x12), .ref a12, .ref a13, .ref a14, .ref a15, .int (iI x13), .int r2, .int r3, .ref a16, .int (iI x14), .int (iI x15), .ref a17, .ref a18, .int (iI x16), .ref a19, .int (iI x17), .int fr10, .ref a20, .ref a21, .int (iI x18), .int r5, .ref a22, .int (iI x19), .int (iI x20), .int (iI x21), .int (iI x22)])), (a2, .inl (T 0, 329, .inl (cI ff11)))] H locs → lv_has ls 6 [(5, .int (iI z12)), (4, .int (iI z8)), (3, .int (iI z2)), (0, .ref a0), (1, .int (iI x0)), (2, .int (iI x1))] → W p l e (Rm 4 0 0) s m args below meth c H locs 0 0 Q (F0 m 33 ls []) := by
            intro k2
            induction k2 with
            | zero => intro fr10 ff11 z12 H locs ls ff11_h z12_a z12_b lq2_hd hm; exact absurd hm (Nat.not_lt_zero _)
            | succ k2 ih2 =>
              intro fr10 ff11 z12 H locs ls ff11_h z12_a z12_b lq2_hd hm2 w hl
              refine lv_iload hx hb dX12_drawDays_33 (lv_at hl 0 rfl) ?_
              refine lv_aload_n hx hb dX12_drawDays_35 rfl (lv_at hl 3 rfl) ?_
              refine r_get (v := .ref a2) M w 0 14 clX12 rfl (by decide) G1477 rfl rfl dX12_drawDays_36 ?_
              refine lv_iconst (v := iI 1) hx hb dX12_drawDays_39 (by decide +kernel) ?_
              refine r_iald (v := iI (ff11 1)) M w 1 rfl (iI_in (by decide) (by decide) (by decide)) (cI_at (by omega) (by omega)) dX12_drawDays_40 ?_
              have hh13 : (-2147483648) ≤ (ff11 1) ∧ (ff11 1) ≤ 2147483647 := ff11_h.1 1
              have hh14 : 0 ≤ (ff11 1) ∧ (ff11 1) ≤ 3 := (ff11_h.2.1 1).2.1 (by omega)
              refine lv_icmp_ge (tgt := 56) hx hb dX12_drawDays_41 (by decide) (fun c_15 => ?_) (fun c_15 => ?_)
              · replace c_15 := (iI_le (by omega) (by omega) (Int.le_trans (by decide) z12_a) (Int.le_trans z12_b (by decide))).mp c_15
                refine lv_aload_n hx hb dX12_drawDays_56 rfl (lv_at hl 3 rfl) ?_
                refine k_V (ce := 0) (sl := 0) (rest := []) (wr := []) (r_V (f := 2) [0, 1] M w V_HookedCityModel_301 G1839 G86 (c94_X12_oneDay l D T _ a0 r0 a1 x2 x3 x4 x5 x6 x7 r1 x8 x9 x10 y0 x11 a2 a3 a4 a5 a6 a7 a8 a9 a10 a11 x12 a12 a13 a14 a15 x13 r2 r3 a16 x14 x15 a17 a18 x16 a19 x17 fr10 a20 a21 x18 r5 a22 x19 x20 x21 x22 ff11 x2_a x2_b x3_a x3_b x4_a x4_b x5_a x5_b x6_a x6_b x7_a x7_b x8_a x8_b x9_a x9_b x10_a x10_b x11_a x11_b x12_a x12_b x13_a x13_b x14_a x14_b x15_a x15_b x16_a x16_b x17_a x17_b x18_a x18_b x19_a x19_b x20_a x20_b x21_a x21_b x22_a x22_b ff11_h) 0 clX12 rfl rfl (by decide) rfl hl.1 rfl (Nat.le_of_ble_eq_true rfl) dX12_drawDays_57 (by decide) (by decide) (by decide) (by decide)) w [0, 1] [] rfl rfl (by decide) (by decide) rfl rfl (fun ff16 H locs hp w => ?_)
                have ff16_h : nowI ff16 := hp.1
                have pq17 : kp 53 ff11 ff16 := hp.2
                have w : WD D A s.heap [(a0, .inr (11, [.int r0, .ref a1, .int (iI x2), .int (iI x3), .int (iI x4), .int (iI x5), .int (iI x6), .int (iI x7), .int r1, .int (iI x8), .int (iI x9), .int (iI x10), .long y0, .int (iI x11), .ref a2, .ref a3, .ref a4, .ref a5, .ref a6, .ref a7, .ref a8, .ref a9, .ref a10, .ref a11, .int (iI x12), .ref a12, .ref a13, .ref a14, .ref a15, .int (iI x13), .int r2, .int r3, .ref a16, .int (iI x14), .int (iI x15), .ref a17, .ref a18, .int (iI x16), .ref a19, .int (iI x17), .int fr10, .ref a20, .ref a21, .int (iI x18), .int r5, .ref a22, .int (iI x19), .int (iI x20), .int (iI x21), .int (iI x22)])), (a2, .inl (T 0, 329, .inl (cI ff16)))] H locs := w
                refine lv_iinc (v := iI (z8 + 1)) (lv' := [(4, .int (iI (z8 + 1))), (5, .int (iI z12)), (3, .int (iI z2)), (0, .ref a0), (1, .int (iI x0)), (2, .int (iI x1))]) hx hb dX12_drawDays_60 hl (k := 1) rfl (ii_inc (by decide +kernel)) (by decide) rfl (fun ls hl => ?_)
                refine lv_goto (tgt := 24) hx hb dX12_drawDays_63 (by decide) ?_
                exact ih1 fr10 ff16 (z8 + 1) _ _ _ ff16_h (by omega) (by omega) (kp_tr (kp_tr kp_rfl lq2_hd) pq17) (by omega) w (lv_sub hl [0, 2, 3, 4, 5] rfl)
              · replace c_15 : z12 < (ff11 1) := Int.not_le.mp (fun h => c_15 ((iI_le (by omega) (by omega) (Int.le_trans (by decide) z12_a) (Int.le_trans z12_b (by decide))).mpr h))
                refine lv_aload_n hx hb dX12_drawDays_44 rfl (lv_at hl 3 rfl) ?_
                refine lv_iload hx hb dX12_drawDays_45 (lv_at hl 0 rfl) ?_
                refine k_V (ce := 0) (sl := 0) (rest := []) (wr := []) (r_V (f := 3) [0, 1] M w V_HookedCityModel_358 G1960 G99 (c99_X12_drawsFor l D T _ a0 z12 r0 a1 x2 x3 x4 x5 x6 x7 r1 x8 x9 x10 y0 x11 a2 a3 a4 a5 a6 a7 a8 a9 a10 a11 x12 a12 a13 a14 a15 x13 r2 r3 a16 x14 x15 a17 a18 x16 a19 x17 fr10 a20 a21 x18 r5 a22 x19 x20 x21 x22 ff11 (by omega) (by omega) x2_a x2_b x3_a x3_b x4_a x4_b x5_a x5_b x6_a x6_b x7_a x7_b x8_a x8_b x9_a x9_b x10_a x10_b x11_a x11_b x12_a x12_b x13_a x13_b x14_a x14_b x15_a x15_b x16_a x16_b x17_a x17_b x18_a x18_b x19_a x19_b x20_a x20_b x21_a x21_b x22_a x22_b ff11_h) 0 clX12 rfl rfl (by decide) rfl hl.1 rfl (Nat.le_of_ble_eq_true rfl) dX12_drawDays_47 (by decide) (by decide) (by decide) (by decide)) w [0, 1] [] rfl rfl (by decide) (by decide) rfl rfl (fun u H locs hp w => ?_)
                obtain ⟨fr18, ff19⟩ := u
                have ff19_h : nowI ff19 := hp.1
                have pq20 : kp 53 ff11 ff19 := hp.2
                have w : WD D A s.heap [(a0, .inr (11, [.int r0, .ref a1, .int (iI x2), .int (iI x3), .int (iI x4), .int (iI x5), .int (iI x6), .int (iI x7), .int r1, .int (iI x8), .int (iI x9), .int (iI x10), .long y0, .int (iI x11), .ref a2, .ref a3, .ref a4, .ref a5, .ref a6, .ref a7, .ref a8, .ref a9, .ref a10, .ref a11, .int (iI x12), .ref a12, .ref a13, .ref a14, .ref a15, .int (iI x13), .int r2, .int r3, .ref a16, .int (iI x14), .int (iI x15), .ref a17, .ref a18, .int (iI x16), .ref a19, .int (iI x17), .int fr18, .ref a20, .ref a21, .int (iI x18), .int r5, .ref a22, .int (iI x19), .int (iI x20), .int (iI x21), .int (iI x22)])), (a2, .inl (T 0, 329, .inl (cI ff19)))] H locs := w
                refine lv_iinc (v := iI (z12 + 1)) (lv' := [(5, .int (iI (z12 + 1))), (4, .int (iI z8)), (3, .int (iI z2)), (0, .ref a0), (1, .int (iI x0)), (2, .int (iI x1))]) hx hb dX12_drawDays_50 hl (k := 0) rfl (ii_inc (by decide +kernel)) (by decide) rfl (fun ls hl => ?_)
                refine lv_goto (tgt := 33) hx hb dX12_drawDays_53 (by decide) ?_
                exact ih2 fr18 ff19 (z12 + 1) _ _ _ ff19_h (by omega) (by omega) (kp_tr (kp_tr kp_rfl lq2_hd) pq20) (by omega) w (lv_sub hl [0, 1, 2, 3, 4, 5] rfl)
          exact loop2 ((3 : Int).toNat + 1) fr6 ff7 0 _ _ _ ff7_h (by decide) (by decide) lq1_hd (Nat.lt_succ_self _) w (lv_sub hl [0, 1, 2, 3, 4, 5] rfl)
    exact loop1 (((z2 - 0) : Int).toNat + 1) (iI x1) f0 0 _ _ _ f0_h (by decide) (by decide) kp_rfl (Nat.lt_succ_self _) w (lv_sub hl [0, 1, 2, 3, 4] rfl)
  · subst z3
    refine lv_istore_n (lv' := [(3, .int (iI x0)), (0, .ref a0), (1, .int (iI x0)), (2, .int (iI x1))]) hx hb dX12_drawDays_20 rfl hl (by decide) rfl (fun ls hl => ?_)
    refine lv_iconst (v := iI 0) hx hb dX12_drawDays_21 (by decide +kernel) ?_
    refine lv_istore (lv' := [(4, .int (iI 0)), (3, .int (iI x0)), (0, .ref a0), (1, .int (iI x0)), (2, .int (iI x1))]) hx hb dX12_drawDays_22 hl (by decide) rfl (fun ls hl => ?_)
    have loop1 : ∀ (k1 : Nat) (fr21 : Int32) (ff22 : Int → Int) (z23 : Int) (H : Heap) (locs : List Loc) (ls : Array Slot), nowI ff22 → 0 ≤ z23 → z23 ≤ 2147483647 → kp 53 f0 ff22 → ((x0 - z23) : Int).toNat < k1 → WD D A s.heap [(a0, .inr (11, [.int r0, .ref a1, .int (iI x2), .int (iI x3), .int (iI x4), .int (iI x5), .int (iI x6), .int (iI x7), .int r1, .int (iI x8), .int (iI x9), .int (iI x10), .long y0, .int (iI x11), .ref a2, .ref a3, .ref a4, .ref a5, .ref a6, .ref a7, .ref a8, .ref a9, .ref a10, .ref a11, .int (iI x12), .ref a12, .ref a13, .ref a14, .ref a15, .int (iI x13), .int r2, .int r3, .ref a16, .int (iI x14), .int (iI x15), .ref a17, .ref a18, .int (iI x16), .ref a19, .int (iI x17), .int fr21, .ref a20, .ref a21, .int (iI x18), .int r5, .ref a22, .int (iI x19), .int (iI x20), .int (iI x21), .int (iI x22)])), (a2, .inl (T 0, 329, .inl (cI ff22)))] H locs → lv_has ls 6 [(4, .int (iI z23)), (3, .int (iI x0)), (0, .ref a0), (1, .int (iI x0)), (2, .int (iI x1))] → W p l e (Rm 4 0 0) s m args below meth c H locs 0 0 Q (F0 m 24 ls []) := by
      intro k1
      induction k1 with
      | zero => intro fr21 ff22 z23 H locs ls ff22_h z23_a z23_b lq1_hd hm; exact absurd hm (Nat.not_lt_zero _)
      | succ k1 ih1 =>
        intro fr21 ff22 z23 H locs ls ff22_h z23_a z23_b lq1_hd hm1 w hl
        refine lv_iload hx hb dX12_drawDays_24 (lv_at hl 0 rfl) ?_
        refine lv_iload_n hx hb dX12_drawDays_26 rfl (lv_at hl 1 rfl) ?_
        refine lv_icmp_ge (tgt := 66) hx hb dX12_drawDays_27 (by decide) (fun c_24 => ?_) (fun c_24 => ?_)
        · replace c_24 := (iI_le (Int.le_trans (by decide) x0_a) (Int.le_trans x0_b (by decide)) (Int.le_trans (by decide) z23_a) (Int.le_trans z23_b (by decide))).mp c_24
          refine lv_iload_n hx hb dX12_drawDays_66 rfl (lv_at hl 1 rfl) ?_
          exact ret _ (x0, fr21, ff22) _ _ _ _ _ [0, 1] dX12_drawDays_67 ⟨rfl, x0_a, x0_b, ff22_h, (show kp 53 f0 ff22 from lq1_hd)⟩ w (by decide) rfl
        · replace c_24 : z23 < x0 := Int.not_le.mp (fun h => c_24 ((iI_le (Int.le_trans (by decide) x0_a) (Int.le_trans x0_b (by decide)) (Int.le_trans (by decide) z23_a) (Int.le_trans z23_b (by decide))).mpr h))
          refine lv_iconst (v := iI 0) hx hb dX12_drawDays_30 (by decide +kernel) ?_
          refine lv_istore (lv' := [(5, .int (iI 0)), (4, .int (iI z23)), (3, .int (iI x0)), (0, .ref a0), (1, .int (iI x0)), (2, .int (iI x1))]) hx hb dX12_drawDays_31 hl (by decide) rfl (fun ls hl => ?_)
          have loop2 : ∀ (k2 : Nat) (fr25 : Int32) (ff26 : Int → Int) (z27 : Int) (H : Heap) (locs : List Loc) (ls : Array Slot), nowI ff26 → 0 ≤ z27 → z27 ≤ 3 → kp 53 f0 ff26 → ((3 - z27) : Int).toNat < k2 → WD D A s.heap [(a0, .inr (11, [.int r0, .ref a1, .int (iI x2), .int (iI x3), .int (iI x4), .int (iI x5), .int (iI x6), .int (iI x7), .int r1, .int (iI x8), .int (iI x9), .int (iI x10), .long y0, .int (iI x11), .ref a2, .ref a3, .ref a4, .ref a5, .ref a6, .ref a7, .ref a8, .ref a9, .ref a10, .ref a11, .int (iI x12), .ref a12, .ref a13, .ref a14, .ref a15, .int (iI x13), .int r2, .int r3, .ref a16, .int (iI x14), .int (iI x15), .ref a17, .ref a18, .int (iI x16), .ref a19, .int (iI x17), .int fr25, .ref a20, .ref a21, .int (iI x18), .int r5, .ref a22, .int (iI x19), .int (iI x20), .int (iI x21), .int (iI x22)])), (a2, .inl (T 0, 329, .inl (cI ff26)))] H locs → lv_has ls 6 [(5, .int (iI z27)), (4, .int (iI z23)), (3, .int (iI x0)), (0, .ref a0), (1, .int (iI x0)), (2, .int (iI x1))] → W p l e (Rm 4 0 0) s m args below meth c H locs 0 0 Q (F0 m 33 ls []) := by
            intro k2
            induction k2 with
            | zero => intro fr25 ff26 z27 H locs ls ff26_h z27_a z27_b lq2_hd hm; exact absurd hm (Nat.not_lt_zero _)
            | succ k2 ih2 =>
              intro fr25 ff26 z27 H locs ls ff26_h z27_a z27_b lq2_hd hm2 w hl
              refine lv_iload hx hb dX12_drawDays_33 (lv_at hl 0 rfl) ?_
              refine lv_aload_n hx hb dX12_drawDays_35 rfl (lv_at hl 3 rfl) ?_
              refine r_get (v := .ref a2) M w 0 14 clX12 rfl (by decide) G1477 rfl rfl dX12_drawDays_36 ?_
              refine lv_iconst (v := iI 1) hx hb dX12_drawDays_39 (by decide +kernel) ?_
              refine r_iald (v := iI (ff26 1)) M w 1 rfl (iI_in (by decide) (by decide) (by decide)) (cI_at (by omega) (by omega)) dX12_drawDays_40 ?_
              have hh28 : (-2147483648) ≤ (ff26 1) ∧ (ff26 1) ≤ 2147483647 := ff26_h.1 1
              have hh29 : 0 ≤ (ff26 1) ∧ (ff26 1) ≤ 3 := (ff26_h.2.1 1).2.1 (by omega)
              refine lv_icmp_ge (tgt := 56) hx hb dX12_drawDays_41 (by decide) (fun c_30 => ?_) (fun c_30 => ?_)
              · replace c_30 := (iI_le (by omega) (by omega) (Int.le_trans (by decide) z27_a) (Int.le_trans z27_b (by decide))).mp c_30
                refine lv_aload_n hx hb dX12_drawDays_56 rfl (lv_at hl 3 rfl) ?_
                refine k_V (ce := 0) (sl := 0) (rest := []) (wr := []) (r_V (f := 2) [0, 1] M w V_HookedCityModel_301 G1839 G86 (c94_X12_oneDay l D T _ a0 r0 a1 x2 x3 x4 x5 x6 x7 r1 x8 x9 x10 y0 x11 a2 a3 a4 a5 a6 a7 a8 a9 a10 a11 x12 a12 a13 a14 a15 x13 r2 r3 a16 x14 x15 a17 a18 x16 a19 x17 fr25 a20 a21 x18 r5 a22 x19 x20 x21 x22 ff26 x2_a x2_b x3_a x3_b x4_a x4_b x5_a x5_b x6_a x6_b x7_a x7_b x8_a x8_b x9_a x9_b x10_a x10_b x11_a x11_b x12_a x12_b x13_a x13_b x14_a x14_b x15_a x15_b x16_a x16_b x17_a x17_b x18_a x18_b x19_a x19_b x20_a x20_b x21_a x21_b x22_a x22_b ff26_h) 0 clX12 rfl rfl (by decide) rfl hl.1 rfl (Nat.le_of_ble_eq_true rfl) dX12_drawDays_57 (by decide) (by decide) (by decide) (by decide)) w [0, 1] [] rfl rfl (by decide) (by decide) rfl rfl (fun ff31 H locs hp w => ?_)
                have ff31_h : nowI ff31 := hp.1
                have pq32 : kp 53 ff26 ff31 := hp.2
                have w : WD D A s.heap [(a0, .inr (11, [.int r0, .ref a1, .int (iI x2), .int (iI x3), .int (iI x4), .int (iI x5), .int (iI x6), .int (iI x7), .int r1, .int (iI x8), .int (iI x9), .int (iI x10), .long y0, .int (iI x11), .ref a2, .ref a3, .ref a4, .ref a5, .ref a6, .ref a7, .ref a8, .ref a9, .ref a10, .ref a11, .int (iI x12), .ref a12, .ref a13, .ref a14, .ref a15, .int (iI x13), .int r2, .int r3, .ref a16, .int (iI x14), .int (iI x15), .ref a17, .ref a18, .int (iI x16), .ref a19, .int (iI x17), .int fr25, .ref a20, .ref a21, .int (iI x18), .int r5, .ref a22, .int (iI x19), .int (iI x20), .int (iI x21), .int (iI x22)])), (a2, .inl (T 0, 329, .inl (cI ff31)))] H locs := w
                refine lv_iinc (v := iI (z23 + 1)) (lv' := [(4, .int (iI (z23 + 1))), (5, .int (iI z27)), (3, .int (iI x0)), (0, .ref a0), (1, .int (iI x0)), (2, .int (iI x1))]) hx hb dX12_drawDays_60 hl (k := 1) rfl (ii_inc (by decide +kernel)) (by decide) rfl (fun ls hl => ?_)
                refine lv_goto (tgt := 24) hx hb dX12_drawDays_63 (by decide) ?_
                exact ih1 fr25 ff31 (z23 + 1) _ _ _ ff31_h (by omega) (by omega) (kp_tr (kp_tr kp_rfl lq2_hd) pq32) (by omega) w (lv_sub hl [0, 2, 3, 4, 5] rfl)
              · replace c_30 : z27 < (ff26 1) := Int.not_le.mp (fun h => c_30 ((iI_le (by omega) (by omega) (Int.le_trans (by decide) z27_a) (Int.le_trans z27_b (by decide))).mpr h))
                refine lv_aload_n hx hb dX12_drawDays_44 rfl (lv_at hl 3 rfl) ?_
                refine lv_iload hx hb dX12_drawDays_45 (lv_at hl 0 rfl) ?_
                refine k_V (ce := 0) (sl := 0) (rest := []) (wr := []) (r_V (f := 3) [0, 1] M w V_HookedCityModel_358 G1960 G99 (c99_X12_drawsFor l D T _ a0 z27 r0 a1 x2 x3 x4 x5 x6 x7 r1 x8 x9 x10 y0 x11 a2 a3 a4 a5 a6 a7 a8 a9 a10 a11 x12 a12 a13 a14 a15 x13 r2 r3 a16 x14 x15 a17 a18 x16 a19 x17 fr25 a20 a21 x18 r5 a22 x19 x20 x21 x22 ff26 (by omega) (by omega) x2_a x2_b x3_a x3_b x4_a x4_b x5_a x5_b x6_a x6_b x7_a x7_b x8_a x8_b x9_a x9_b x10_a x10_b x11_a x11_b x12_a x12_b x13_a x13_b x14_a x14_b x15_a x15_b x16_a x16_b x17_a x17_b x18_a x18_b x19_a x19_b x20_a x20_b x21_a x21_b x22_a x22_b ff26_h) 0 clX12 rfl rfl (by decide) rfl hl.1 rfl (Nat.le_of_ble_eq_true rfl) dX12_drawDays_47 (by decide) (by decide) (by decide) (by decide)) w [0, 1] [] rfl rfl (by decide) (by decide) rfl rfl (fun u H locs hp w => ?_)
                obtain ⟨fr33, ff34⟩ := u
                have ff34_h : nowI ff34 := hp.1
                have pq35 : kp 53 ff26 ff34 := hp.2
                have w : WD D A s.heap [(a0, .inr (11, [.int r0, .ref a1, .int (iI x2), .int (iI x3), .int (iI x4), .int (iI x5), .int (iI x6), .int (iI x7), .int r1, .int (iI x8), .int (iI x9), .int (iI x10), .long y0, .int (iI x11), .ref a2, .ref a3, .ref a4, .ref a5, .ref a6, .ref a7, .ref a8, .ref a9, .ref a10, .ref a11, .int (iI x12), .ref a12, .ref a13, .ref a14, .ref a15, .int (iI x13), .int r2, .int r3, .ref a16, .int (iI x14), .int (iI x15), .ref a17, .ref a18, .int (iI x16), .ref a19, .int (iI x17), .int fr33, .ref a20, .ref a21, .int (iI x18), .int r5, .ref a22, .int (iI x19), .int (iI x20), .int (iI x21), .int (iI x22)])), (a2, .inl (T 0, 329, .inl (cI ff34)))] H locs := w
                refine lv_iinc (v := iI (z27 + 1)) (lv' := [(5, .int (iI (z27 + 1))), (4, .int (iI z23)), (3, .int (iI x0)), (0, .ref a0), (1, .int (iI x0)), (2, .int (iI x1))]) hx hb dX12_drawDays_50 hl (k := 0) rfl (ii_inc (by decide +kernel)) (by decide) rfl (fun ls hl => ?_)
                refine lv_goto (tgt := 33) hx hb dX12_drawDays_53 (by decide) ?_
                exact ih2 fr33 ff34 (z27 + 1) _ _ _ ff34_h (by omega) (by omega) (kp_tr (kp_tr kp_rfl lq2_hd) pq35) (by omega) w (lv_sub hl [0, 1, 2, 3, 4, 5] rfl)
          exact loop2 ((3 : Int).toNat + 1) fr21 ff22 0 _ _ _ ff22_h (by decide) (by decide) lq1_hd (Nat.lt_succ_self _) w (lv_sub hl [0, 1, 2, 3, 4, 5] rfl)
    exact loop1 (((x0 - 0) : Int).toNat + 1) (iI x1) f0 0 _ _ _ f0_h (by decide) (by decide) kp_rfl (Nat.lt_succ_self _) w (lv_sub hl [0, 1, 2, 3, 4] rfl)
set_option maxRecDepth 100000 in
set_option maxHeartbeats 4000000 in
theorem c101_X12_drawn (l : Launch) (D : va_G) (T : Nat → ClassId) (sz : Nat) (a0 : Nat) (x0 : Int) (x1 : Int) (r0 : Int32) (a1 : Nat) (x2 : Int) (x3 : Int) (x4 : Int) (x5 : Int) (x6 : Int) (x7 : Int) (r1 : Int32) (x8 : Int) (x9 : Int) (x10 : Int) (y0 : Int64) (x11 : Int) (a2 : Nat) (a3 : Nat) (a4 : Nat) (a5 : Nat) (a6 : Nat) (a7 : Nat) (a8 : Nat) (a9 : Nat) (a10 : Nat) (a11 : Nat) (x12 : Int) (a12 : Nat) (a13 : Nat) (a14 : Nat) (a15 : Nat) (x13 : Int) (r2 : Int32) (r3 : Int32) (a16 : Nat) (x14 : Int) (x15 : Int) (a17 : Nat) (a18 : Nat) (x16 : Int) (a19 : Nat) (x17 : Int) (r4 : Int32) (a20 : Nat) (a21 : Nat) (x18 : Int) (r5 : Int32) (a22 : Nat) (x19 : Int) (x20 : Int) (x21 : Int) (x22 : Int) (f0 : Int → Int) (f1 : Int → Int) (x0_a : (-2147483648) ≤ x0) (x0_b : x0 ≤ 2147483647) (x1_a : (-2147483648) ≤ x1) (x1_b : x1 ≤ 2147483647) (x2_a : 0 ≤ x2) (x2_b : x2 ≤ 940) (x3_a : 0 ≤ x3) (x3_b : x3 ≤ 940) (x4_a : 0 ≤ x4) (x4_b : x4 ≤ 940) (x5_a : 0 ≤ x5) (x5_b : x5 ≤ 940) (x6_a : 0 ≤ x6) (x6_b : x6 ≤ 940) (x7_a : 0 ≤ x7) (x7_b : x7 ≤ 4) (x8_a : (-2147483648) ≤ x8) (x8_b : x8 ≤ 2147483647) (x9_a : (-2147483648) ≤ x9) (x9_b : x9 ≤ 2147483647) (x10_a : 0 ≤ x10) (x10_b : x10 ≤ 940) (x11_a : (-2147483648) ≤ x11) (x11_b : x11 ≤ 2147483647) (x12_a : 0 ≤ x12) (x12_b : x12 ≤ 8) (x13_a : 0 ≤ x13) (x13_b : x13 ≤ 9) (x14_a : (-1) ≤ x14) (x14_b : x14 ≤ 9) (x15_a : (-1) ≤ x15) (x15_b : x15 ≤ 8) (x16_a : 0 ≤ x16) (x16_b : x16 ≤ 9) (x17_a : 0 ≤ x17) (x17_b : x17 ≤ 64) (x18_a : 0 ≤ x18) (x18_b : x18 ≤ 40) (x19_a : 0 ≤ x19) (x19_b : x19 ≤ 40) (x20_a : 0 ≤ x20) (x20_b : x20 ≤ 20) (x21_a : 0 ≤ x21) (x21_b : x21 ≤ 8) (x22_a : 0 ≤ x22) (x22_b : x22 ≤ 39) (f0_h : nowI f0) (f1_h : FL f1) (pp_s : snI f1 x12) : Met l yX12_drawn (Cond.code yX12_drawn cX12_drawn 3 (some .int) :: GW) (Rm 5 0 0) (cPre [.ref a0, .int (iI x0), .int (iI x1)] D T [(a0, .inr (11, [.int r0, .ref a1, .int (iI x2), .int (iI x3), .int (iI x4), .int (iI x5), .int (iI x6), .int (iI x7), .int r1, .int (iI x8), .int (iI x9), .int (iI x10), .long y0, .int (iI x11), .ref a2, .ref a3, .ref a4, .ref a5, .ref a6, .ref a7, .ref a8, .ref a9, .ref a10, .ref a11, .int (iI x12), .ref a12, .ref a13, .ref a14, .ref a15, .int (iI x13), .int r2, .int r3, .ref a16, .int (iI x14), .int (iI x15), .ref a17, .ref a18, .int (iI x16), .ref a19, .int (iI x17), .int r4, .ref a20, .ref a21, .int (iI x18), .int r5, .ref a22, .int (iI x19), .int (iI x20), .int (iI x21), .int (iI x22)])), (a2, .inl (T 0, 329, .inl (cI f0))), (a5, .inl (T 0, 272, .inl (cI f1)))] sz) (qI D [(a0, .inr (11, [.int r0, .ref a1, .int (iI x2), .int (iI x3), .int (iI x4), .int (iI x5), .int (iI x6), .int (iI x7), .int r1, .int (iI x8), .int (iI x9), .int (iI x10), .long y0, .int (iI x11), .ref a2, .ref a3, .ref a4, .ref a5, .ref a6, .ref a7, .ref a8, .ref a9, .ref a10, .ref a11, .int (iI x12), .ref a12, .ref a13, .ref a14, .ref a15, .int (iI x13), .int r2, .int r3, .ref a16, .int (iI x14), .int (iI x15), .ref a17, .ref a18, .int (iI x16), .ref a19, .int (iI x17), .int r4, .ref a20, .ref a21, .int (iI x18), .int r5, .ref a22, .int (iI x19), .int (iI x20), .int (iI x21), .int (iI x22)])), (a2, .inl (T 0, 329, .inl (cI f0))), (a5, .inl (T 0, 272, .inl (cI f1)))] sz (fun (v : Int32) (u : Int × Int32 × Int × Int32 × (Int → Int) × (Int → Int)) => iI u.1 = v ∧ (-2147483648) ≤ u.1 ∧ u.1 ≤ 2147483647 ∧ 0 ≤ u.2.2.1 ∧ u.2.2.1 ≤ 8 ∧ nowI u.2.2.2.2.1 ∧ FL u.2.2.2.2.2 ∧ (snI u.2.2.2.2.2 u.2.2.1) ∧ (kp 53 f0 u.2.2.2.2.1)) (fun u => [(a0, .inr (11, [.int u.2.1, .ref a1, .int (iI x2), .int (iI x3), .int (iI x4), .int (iI x5), .int (iI x6), .int (iI x7), .int r1, .int (iI x8), .int (iI x9), .int (iI x10), .long y0, .int (iI x11), .ref a2, .ref a3, .ref a4, .ref a5, .ref a6, .ref a7, .ref a8, .ref a9, .ref a10, .ref a11, .int (iI u.2.2.1), .ref a12, .ref a13, .ref a14, .ref a15, .int (iI x13), .int r2, .int r3, .ref a16, .int (iI x14), .int (iI x15), .ref a17, .ref a18, .int (iI x16), .ref a19, .int (iI x17), .int u.2.2.2.1, .ref a20, .ref a21, .int (iI x18), .int r5, .ref a22, .int (iI x19), .int (iI x20), .int (iI x21), .int (iI x22)])), (a2, .inl (T 0, 329, .inl (cI u.2.2.2.2.1))), (a5, .inl (T 0, 272, .inl (cI u.2.2.2.2.2)))])) 0 0 (va_A [(a0, .inr (11, [.int r0, .ref a1, .int (iI x2), .int (iI x3), .int (iI x4), .int (iI x5), .int (iI x6), .int (iI x7), .int r1, .int (iI x8), .int (iI x9), .int (iI x10), .long y0, .int (iI x11), .ref a2, .ref a3, .ref a4, .ref a5, .ref a6, .ref a7, .ref a8, .ref a9, .ref a10, .ref a11, .int (iI x12), .ref a12, .ref a13, .ref a14, .ref a15, .int (iI x13), .int r2, .int r3, .ref a16, .int (iI x14), .int (iI x15), .ref a17, .ref a18, .int (iI x16), .ref a19, .int (iI x17), .int r4, .ref a20, .ref a21, .int (iI x18), .int r5, .ref a22, .int (iI x19), .int (iI x20), .int (iI x21), .int (iI x22)])), (a2, .inl (T 0, 329, .inl (cI f0))), (a5, .inl (T 0, 272, .inl (cI f1)))] sz) := by
  refine e_I (by decide) (Nat.le_of_ble_eq_true rfl) ?_
  intro p e s m args below meth c A Q ls M hin w ret hl
  have hx := M.1.1
  have hb := M.1.2.1
  have hl : lv_has ls 3 [(0, .ref a0), (1, .int (iI x0)), (2, .int (iI x1))] := hl
  refine lv_aload_n hx hb dX12_drawn_0 rfl (lv_at hl 0 rfl) ?_
  refine lv_iconst (v := iI 0) hx hb dX12_drawn_1 (by decide +kernel) ?_
  refine r_put (ws' := [(a0, .inr (11, [.int (iI 0), .ref a1, .int (iI x2), .int (iI x3), .int (iI x4), .int (iI x5), .int (iI x6), .int (iI x7), .int r1, .int (iI x8), .int (iI x9), .int (iI x10), .long y0, .int (iI x11), .ref a2, .ref a3, .ref a4, .ref a5, .ref a6, .ref a7, .ref a8, .ref a9, .ref a10, .ref a11, .int (iI x12), .ref a12, .ref a13, .ref a14, .ref a15, .int (iI x13), .int r2, .int r3, .ref a16, .int (iI x14), .int (iI x15), .ref a17, .ref a18, .int (iI x16), .ref a19, .int (iI x17), .int r4, .ref a20, .ref a21, .int (iI x18), .int r5, .ref a22, .int (iI x19), .int (iI x20), .int (iI x21), .int (iI x22)])), (a2, .inl (T 0, 329, .inl (cI f0))), (a5, .inl (T 0, 272, .inl (cI f1)))]) M w 0 0 clX12 rfl (by decide) G1463 rfl rfl rfl rfl (Nat.le_of_ble_eq_true rfl) rfl dX12_drawn_2 (fun H locs w => ?_)
  refine lv_iload_n hx hb dX12_drawn_5 rfl (lv_at hl 1 rfl) ?_
  refine lv_iconst (v := iI 1) hx hb dX12_drawn_6 (by decide +kernel) ?_
  refine lv_bipush (v := iI 60) hx hb dX12_drawn_7 (by decide +kernel) ?_
  refine k_I (ce := 0) (sl := 0) (rest := []) (wr := [(a0, .inr (11, [.int (iI 0), .ref a1, .int (iI x2), .int (iI x3), .int (iI x4), .int (iI x5), .int (iI x6), .int (iI x7), .int r1, .int (iI x8), .int (iI x9), .int (iI x10), .long y0, .int (iI x11), .ref a2, .ref a3, .ref a4, .ref a5, .ref a6, .ref a7, .ref a8, .ref a9, .ref a10, .ref a11, .int (iI x12), .ref a12, .ref a13, .ref a14, .ref a15, .int (iI x13), .int r2, .int r3, .ref a16, .int (iI x14), .int (iI x15), .ref a17, .ref a18, .int (iI x16), .ref a19, .int (iI x17), .int r4, .ref a20, .ref a21, .int (iI x18), .int r5, .ref a22, .int (iI x19), .int (iI x20), .int (iI x21), .int (iI x22)])), (a2, .inl (T 0, 329, .inl (cI f0))), (a5, .inl (T 0, 272, .inl (cI f1)))]) (r_S (f := 0) [] M w V_HookedCityModel_75 G1693 (c6_X12_isIn l D T _ x0 1 60 x0_a x0_b (by decide) (by decide) (by decide) (by decide)) rfl (by decide) rfl hl.1 rfl (Nat.le_of_ble_eq_true rfl) dX12_drawn_9 (by decide) (by decide) (by decide) (by decide)) w [] [0, 1, 2] rfl rfl (by decide) (by decide) rfl rfl (fun v z1 H locs hp w => ?_)
  have hv : iI z1 = v := hp.1
  subst hv
  have z1_a : 0 ≤ z1 := hp.2.1
  have z1_b : z1 ≤ 1 := hp.2.2.1
  have w : WD D A s.heap [(a0, .inr (11, [.int (iI 0), .ref a1, .int (iI x2), .int (iI x3), .int (iI x4), .int (iI x5), .int (iI x6), .int (iI x7), .int r1, .int (iI x8), .int (iI x9), .int (iI x10), .long y0, .int (iI x11), .ref a2, .ref a3, .ref a4, .ref a5, .ref a6, .ref a7, .ref a8, .ref a9, .ref a10, .ref a11, .int (iI x12), .ref a12, .ref a13, .ref a14, .ref a15, .int (iI x13), .int r2, .int r3, .ref a16, .int (iI x14), .int (iI x15), .ref a17, .ref a18, .int (iI x16), .ref a19, .int (iI x17), .int r4, .ref a20, .ref a21, .int (iI x18), .int r5, .ref a22, .int (iI x19), .int (iI x20), .int (iI x21), .int (iI x22)])), (a2, .inl (T 0, 329, .inl (cI f0))), (a5, .inl (T 0, 272, .inl (cI f1)))] H locs := w
  rcases hp.2.2.2 with ⟨c_2, hr⟩ | ⟨c_3, c_4, hr⟩ | ⟨c_5, c_6, hr⟩
  · subst hr
    refine lv_if_eq (tgt := 24) hx hb dX12_drawn_12 (by decide) (fun _ => ?_) (fun c => absurd (by decide +kernel) c)
    refine lv_iconst (v := iI (-1)) hx hb dX12_drawn_24 (by decide +kernel) ?_
    exact ret _ ((-1), (iI 0), x12, r4, f0, f1) _ _ _ _ _ [0, 1, 2] dX12_drawn_25 ⟨rfl, (show (-2147483648) ≤ (-1) from by decide), (show ((-1) : Int) ≤ 2147483647 from by decide), x12_a, x12_b, f0_h, f1_h, (show snI f1 x12 from pp_s), (show kp 53 f0 f0 from kp_rfl)⟩ w (by decide) rfl
  · subst hr
    refine lv_if_eq (tgt := 24) hx hb dX12_drawn_12 (by decide) (fun _ => ?_) (fun c => absurd (by decide +kernel) c)
    refine lv_iconst (v := iI (-1)) hx hb dX12_drawn_24 (by decide +kernel) ?_
    exact ret _ ((-1), (iI 0), x12, r4, f0, f1) _ _ _ _ _ [0, 1, 2] dX12_drawn_25 ⟨rfl, (show (-2147483648) ≤ (-1) from by decide), (show ((-1) : Int) ≤ 2147483647 from by decide), x12_a, x12_b, f0_h, f1_h, (show snI f1 x12 from pp_s), (show kp 53 f0 f0 from kp_rfl)⟩ w (by decide) rfl
  · subst hr
    refine lv_if_eq (tgt := 24) hx hb dX12_drawn_12 (by decide) (fun c => absurd c (by decide +kernel)) (fun _ => ?_)
    refine lv_aload_n hx hb dX12_drawn_15 rfl (lv_at hl 0 rfl) ?_
    refine r_get (v := .ref a2) M w 0 14 clX12 rfl (by decide) G1477 rfl rfl dX12_drawn_16 ?_
    refine lv_iconst (v := iI 1) hx hb dX12_drawn_19 (by decide +kernel) ?_
    refine r_iald (v := iI (f0 1)) M w 1 rfl (iI_in (by decide) (by decide) (by decide)) (cI_at (by omega) (by omega)) dX12_drawn_20 ?_
    have hh7 : (-2147483648) ≤ (f0 1) ∧ (f0 1) ≤ 2147483647 := f0_h.1 1
    have hh8 : 0 ≤ (f0 1) ∧ (f0 1) ≤ 3 := (f0_h.2.1 1).2.1 (by omega)
    refine lv_if_ne (tgt := 26) hx hb dX12_drawn_21 (by decide) (fun c_9 => ?_) (fun c_9 => ?_)
    · replace c_9 : ¬ (f0 1) = 0 := fun h => c_9 ((iz_eq (by omega) (by omega)).mpr h)
      refine lv_aload_n hx hb dX12_drawn_26 rfl (lv_at hl 0 rfl) ?_
      refine r_get (v := .ref a2) M w 0 14 clX12 rfl (by decide) G1477 rfl rfl dX12_drawn_27 ?_
      refine lv_bipush (v := iI 53) hx hb dX12_drawn_30 (by decide +kernel) ?_
      refine r_iald (v := iI (f0 53)) M w 1 rfl (iI_in (by decide) (by decide) (by decide)) (cI_at (by omega) (by omega)) dX12_drawn_32 ?_
      have hh10 : (-2147483648) ≤ (f0 53) ∧ (f0 53) ≤ 2147483647 := f0_h.1 53
      refine lv_sipush (v := iI 400) hx hb dX12_drawn_33 (by decide +kernel) ?_
      refine lv_icmp_ne (tgt := 41) hx hb dX12_drawn_36 (by decide) (fun c_11 => ?_) (fun c_11 => ?_)
      · replace c_11 : ¬ (f0 53) = 400 := fun h => c_11 ((iI_eq (by omega) (by omega) (by decide) (by decide)).mpr h)
        refine lv_aload_n hx hb dX12_drawn_41 rfl (lv_at hl 0 rfl) ?_
        refine k_V (ce := 0) (sl := 0) (rest := []) (wr := []) (r_V (f := 0) [0, 1, 2] M w V_HookedCityModel_284 G1804 G82 (c80_X12_snap l D T _ a0 (iI 0) a1 x2 x3 x4 x5 x6 x7 r1 x8 x9 x10 y0 x11 a2 a3 a4 a5 a6 a7 a8 a9 a10 a11 x12 a12 a13 a14 a15 x13 r2 r3 a16 x14 x15 a17 a18 x16 a19 x17 r4 a20 a21 x18 r5 a22 x19 x20 x21 x22 f0 f1 x2_a x2_b x3_a x3_b x4_a x4_b x5_a x5_b x6_a x6_b x7_a x7_b x8_a x8_b x9_a x9_b x10_a x10_b x11_a x11_b x12_a x12_b x13_a x13_b x14_a x14_b x15_a x15_b x16_a x16_b x17_a x17_b x18_a x18_b x19_a x19_b x20_a x20_b x21_a x21_b x22_a x22_b f0_h f1_h pp_s) 0 clX12 rfl rfl (by decide) rfl hl.1 rfl (Nat.le_of_ble_eq_true rfl) dX12_drawn_42 (by decide) (by decide) (by decide) (by decide)) w [0, 1, 2] [] rfl rfl (by decide) (by decide) rfl rfl (fun u H locs hp w => ?_)
        obtain ⟨z12, ff13⟩ := u
        have z12_a : 0 ≤ z12 := hp.1
        have z12_b : z12 ≤ 8 := hp.2.1
        have ff13_h : FL ff13 := hp.2.2.1
        have pq14 : snI ff13 z12 := hp.2.2.2
        have w : WD D A s.heap [(a0, .inr (11, [.int (iI 0), .ref a1, .int (iI x2), .int (iI x3), .int (iI x4), .int (iI x5), .int (iI x6), .int (iI x7), .int r1, .int (iI x8), .int (iI x9), .int (iI x10), .long y0, .int (iI x11), .ref a2, .ref a3, .ref a4, .ref a5, .ref a6, .ref a7, .ref a8, .ref a9, .ref a10, .ref a11, .int (iI z12), .ref a12, .ref a13, .ref a14, .ref a15, .int (iI x13), .int r2, .int r3, .ref a16, .int (iI x14), .int (iI x15), .ref a17, .ref a18, .int (iI x16), .ref a19, .int (iI x17), .int r4, .ref a20, .ref a21, .int (iI x18), .int r5, .ref a22, .int (iI x19), .int (iI x20), .int (iI x21), .int (iI x22)])), (a2, .inl (T 0, 329, .inl (cI f0))), (a5, .inl (T 0, 272, .inl (cI ff13)))] H locs := w
        refine lv_aload_n hx hb dX12_drawn_45 rfl (lv_at hl 0 rfl) ?_
        refine lv_iload_n hx hb dX12_drawn_46 rfl (lv_at hl 1 rfl) ?_
        refine lv_iload_n hx hb dX12_drawn_47 rfl (lv_at hl 2 rfl) ?_
        refine k_I (ce := 0) (sl := 0) (rest := []) (wr := [(a5, .inl (T 0, 272, .inl (cI ff13)))]) (r_V (f := 4) [0, 1] M w V_HookedCityModel_361 G1956 G98 (c100_X12_drawDays l D T _ a0 x0 x1 (iI 0) a1 x2 x3 x4 x5 x6 x7 r1 x8 x9 x10 y0 x11 a2 a3 a4 a5 a6 a7 a8 a9 a10 a11 z12 a12 a13 a14 a15 x13 r2 r3 a16 x14 x15 a17 a18 x16 a19 x17 r4 a20 a21 x18 r5 a22 x19 x20 x21 x22 f0 x0_a x0_b x1_a x1_b x2_a x2_b x3_a x3_b x4_a x4_b x5_a x5_b x6_a x6_b x7_a x7_b x8_a x8_b x9_a x9_b x10_a x10_b x11_a x11_b z12_a z12_b x13_a x13_b x14_a x14_b x15_a x15_b x16_a x16_b x17_a x17_b x18_a x18_b x19_a x19_b x20_a x20_b x21_a x21_b x22_a x22_b f0_h) 0 clX12 rfl rfl (by decide) rfl hl.1 rfl (Nat.le_of_ble_eq_true rfl) dX12_drawn_48 (by decide) (by decide) (by decide) (by decide)) w [0, 1] [2] rfl rfl (by decide) (by decide) rfl rfl (fun v u H locs hp w => ?_)
        obtain ⟨z15, fr16, ff17⟩ := u
        have hv : iI z15 = v := hp.1
        subst hv
        have z15_a : (-2147483648) ≤ z15 := hp.2.1
        have z15_b : z15 ≤ 2147483647 := hp.2.2.1
        have ff17_h : nowI ff17 := hp.2.2.2.1
        have pq18 : kp 53 f0 ff17 := hp.2.2.2.2
        have w : WD D A s.heap [(a5, .inl (T 0, 272, .inl (cI ff13))), (a0, .inr (11, [.int (iI 0), .ref a1, .int (iI x2), .int (iI x3), .int (iI x4), .int (iI x5), .int (iI x6), .int (iI x7), .int r1, .int (iI x8), .int (iI x9), .int (iI x10), .long y0, .int (iI x11), .ref a2, .ref a3, .ref a4, .ref a5, .ref a6, .ref a7, .ref a8, .ref a9, .ref a10, .ref a11, .int (iI z12), .ref a12, .ref a13, .ref a14, .ref a15, .int (iI x13), .int r2, .int r3, .ref a16, .int (iI x14), .int (iI x15), .ref a17, .ref a18, .int (iI x16), .ref a19, .int (iI x17), .int fr16, .ref a20, .ref a21, .int (iI x18), .int r5, .ref a22, .int (iI x19), .int (iI x20), .int (iI x21), .int (iI x22)])), (a2, .inl (T 0, 329, .inl (cI ff17)))] H locs := w
        exact ret _ (z15, (iI 0), z12, fr16, ff17, ff13) _ _ _ _ _ [1, 2, 0] dX12_drawn_51 ⟨rfl, z15_a, z15_b, z12_a, z12_b, ff17_h, ff13_h, (show snI ff13 z12 from pq14), (show kp 53 f0 ff17 from pq18)⟩ w (by decide) rfl
      · replace c_11 := (iI_eq (by omega) (by omega) (by decide) (by decide)).mp c_11
        refine lv_iconst (v := iI 0) hx hb dX12_drawn_39 (by decide +kernel) ?_
        exact ret _ (0, (iI 0), x12, r4, f0, f1) _ _ _ _ _ [0, 1, 2] dX12_drawn_40 ⟨rfl, (show (-2147483648) ≤ 0 from by decide), (show (0 : Int) ≤ 2147483647 from by decide), x12_a, x12_b, f0_h, f1_h, (show snI f1 x12 from pp_s), (show kp 53 f0 f0 from kp_rfl)⟩ w (by decide) rfl
    · replace c_9 := (iz_eq (by omega) (by omega)).mp c_9
      refine lv_iconst (v := iI (-1)) hx hb dX12_drawn_24 (by decide +kernel) ?_
      exact ret _ ((-1), (iI 0), x12, r4, f0, f1) _ _ _ _ _ [0, 1, 2] dX12_drawn_25 ⟨rfl, (show (-2147483648) ≤ (-1) from by decide), (show ((-1) : Int) ≤ 2147483647 from by decide), x12_a, x12_b, f0_h, f1_h, (show snI f1 x12 from pp_s), (show kp 53 f0 f0 from kp_rfl)⟩ w (by decide) rfl
