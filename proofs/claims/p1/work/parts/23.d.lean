theorem dX0_read_0 : decode cX0_read 0 = .ok (.aload_n 1, 1) := by decide +kernel
theorem dX0_read_1 : decode cX0_read 1 = .ok (.sipush 400, 3) := by decide +kernel
theorem dX0_read_4 : decode cX0_read 4 = .ok (.invokevirtual 34, 3) := by decide +kernel
theorem G1167 : Cond.methodLink "HookedCity$Book" 34 ⟨"HookedCity$Tape", "open", "(I)V"⟩ ∈ GW := gw_i 1167 (by decide +kernel) rfl
theorem V_HookedCity_Book_34 : VL "HookedCity$Book" 34 yX8_open cX8_open 2 none 1 := ⟨G585, G1167, G120, by decide +kernel, by decide +kernel, by decide +kernel⟩
theorem dX0_read_7 : decode cX0_read 7 = .ok (.aload_n 0, 1) := by decide +kernel
theorem dX0_read_8 : decode cX0_read 8 = .ok (.iconst 0, 1) := by decide +kernel
theorem dX0_read_9 : decode cX0_read 9 = .ok (.putfield 30, 3) := by decide +kernel
theorem dX0_read_12 : decode cX0_read 12 = .ok (.aload_n 0, 1) := by decide +kernel
theorem dX0_read_13 : decode cX0_read 13 = .ok (.getfield 30, 3) := by decide +kernel
theorem dX0_read_16 : decode cX0_read 16 = .ok (.bipush 40, 2) := by decide +kernel
theorem dX0_read_18 : decode cX0_read 18 = .ok (.if_icmp .gt 43, 3) := by decide +kernel
theorem dX0_read_21 : decode cX0_read 21 = .ok (.aload_n 1, 1) := by decide +kernel
theorem dX0_read_22 : decode cX0_read 22 = .ok (.invokevirtual 40, 3) := by decide +kernel
theorem G1168 : Cond.methodLink "HookedCity$Book" 40 ⟨"HookedCity$Tape", "atEnd", "()Z"⟩ ∈ GW := gw_i 1168 (by decide +kernel) rfl
theorem V_HookedCity_Book_40 : VL "HookedCity$Book" 40 yX8_atEnd cX8_atEnd 1 (some .boolean) 0 := ⟨G698, G1168, G120, by decide +kernel, by decide +kernel, by decide +kernel⟩
theorem dX0_read_25 : decode cX0_read 25 = .ok (.ifCond .ne 36, 3) := by decide +kernel
theorem dX0_read_61 : decode cX0_read 61 = .ok (.iconst 1, 1) := by decide +kernel
theorem dX0_read_62 : decode cX0_read 62 = .ok (.ireturn, 1) := by decide +kernel
def cn93 : Nat → Int32 := (va_cpy (fun _ => 0) (fun _ => 0) (Int32.toNatClampNeg (0 : Int32)) (Int32.toNatClampNeg (0 : Int32)) (Int32.toNatClampNeg (3 : Int32)))
theorem dX7_copy_0 : decode cX7_copy 0 = .ok (.aload_n 1, 1) := by decide +kernel
theorem dX7_copy_1 : decode cX7_copy 1 = .ok (.getfield 9, 3) := by decide +kernel
theorem dX7_copy_4 : decode cX7_copy 4 = .ok (.iconst 0, 1) := by decide +kernel
theorem dX7_copy_5 : decode cX7_copy 5 = .ok (.aload_n 0, 1) := by decide +kernel
theorem dX7_copy_6 : decode cX7_copy 6 = .ok (.getfield 9, 3) := by decide +kernel
theorem dX7_copy_9 : decode cX7_copy 9 = .ok (.iconst 0, 1) := by decide +kernel
theorem dX7_copy_10 : decode cX7_copy 10 = .ok (.bipush 9, 2) := by decide +kernel
theorem dX7_copy_12 : decode cX7_copy 12 = .ok (.invokestatic 42, 3) := by decide +kernel
theorem dX7_copy_15 : decode cX7_copy 15 = .ok (.aload_n 1, 1) := by decide +kernel
theorem dX7_copy_16 : decode cX7_copy 16 = .ok (.getfield 15, 3) := by decide +kernel
theorem dX7_copy_19 : decode cX7_copy 19 = .ok (.iconst 0, 1) := by decide +kernel
theorem dX7_copy_20 : decode cX7_copy 20 = .ok (.aload_n 0, 1) := by decide +kernel
theorem dX7_copy_21 : decode cX7_copy 21 = .ok (.getfield 15, 3) := by decide +kernel
theorem dX7_copy_24 : decode cX7_copy 24 = .ok (.iconst 0, 1) := by decide +kernel
theorem dX7_copy_25 : decode cX7_copy 25 = .ok (.bipush 9, 2) := by decide +kernel
theorem dX7_copy_27 : decode cX7_copy 27 = .ok (.invokestatic 42, 3) := by decide +kernel
theorem dX7_copy_30 : decode cX7_copy 30 = .ok (.aload_n 1, 1) := by decide +kernel
theorem dX7_copy_31 : decode cX7_copy 31 = .ok (.getfield 18, 3) := by decide +kernel
theorem dX7_copy_34 : decode cX7_copy 34 = .ok (.iconst 0, 1) := by decide +kernel
theorem dX7_copy_35 : decode cX7_copy 35 = .ok (.aload_n 0, 1) := by decide +kernel
theorem dX7_copy_36 : decode cX7_copy 36 = .ok (.getfield 18, 3) := by decide +kernel
theorem dX7_copy_39 : decode cX7_copy 39 = .ok (.iconst 0, 1) := by decide +kernel
theorem dX7_copy_40 : decode cX7_copy 40 = .ok (.bipush 9, 2) := by decide +kernel
theorem dX7_copy_42 : decode cX7_copy 42 = .ok (.invokestatic 42, 3) := by decide +kernel
theorem dX7_copy_45 : decode cX7_copy 45 = .ok (.aload_n 1, 1) := by decide +kernel
theorem dX7_copy_46 : decode cX7_copy 46 = .ok (.getfield 21, 3) := by decide +kernel
theorem dX7_copy_49 : decode cX7_copy 49 = .ok (.iconst 0, 1) := by decide +kernel
theorem dX7_copy_50 : decode cX7_copy 50 = .ok (.aload_n 0, 1) := by decide +kernel
theorem dX7_copy_51 : decode cX7_copy 51 = .ok (.getfield 21, 3) := by decide +kernel
theorem dX7_copy_54 : decode cX7_copy 54 = .ok (.iconst 0, 1) := by decide +kernel
theorem dX7_copy_55 : decode cX7_copy 55 = .ok (.iconst 3, 1) := by decide +kernel
theorem dX7_copy_56 : decode cX7_copy 56 = .ok (.invokestatic 42, 3) := by decide +kernel
theorem dX7_copy_59 : decode cX7_copy 59 = .ok (.aload_n 0, 1) := by decide +kernel
theorem dX7_copy_60 : decode cX7_copy 60 = .ok (.aload_n 1, 1) := by decide +kernel
theorem dX7_copy_61 : decode cX7_copy 61 = .ok (.getfield 24, 3) := by decide +kernel
theorem dX7_copy_64 : decode cX7_copy 64 = .ok (.putfield 24, 3) := by decide +kernel
theorem dX7_copy_67 : decode cX7_copy 67 = .ok (.aload_n 0, 1) := by decide +kernel
theorem dX7_copy_68 : decode cX7_copy 68 = .ok (.aload_n 1, 1) := by decide +kernel
theorem dX7_copy_69 : decode cX7_copy 69 = .ok (.getfield 28, 3) := by decide +kernel
theorem dX7_copy_72 : decode cX7_copy 72 = .ok (.putfield 28, 3) := by decide +kernel
theorem dX7_copy_75 : decode cX7_copy 75 = .ok (.aload_n 0, 1) := by decide +kernel
theorem dX7_copy_76 : decode cX7_copy 76 = .ok (.aload_n 1, 1) := by decide +kernel
theorem dX7_copy_77 : decode cX7_copy 77 = .ok (.getfield 31, 3) := by decide +kernel
theorem dX7_copy_80 : decode cX7_copy 80 = .ok (.putfield 31, 3) := by decide +kernel
theorem dX7_copy_83 : decode cX7_copy 83 = .ok (.aload_n 0, 1) := by decide +kernel
theorem dX7_copy_84 : decode cX7_copy 84 = .ok (.aload_n 1, 1) := by decide +kernel
theorem dX7_copy_85 : decode cX7_copy 85 = .ok (.getfield 34, 3) := by decide +kernel
theorem dX7_copy_88 : decode cX7_copy 88 = .ok (.putfield 34, 3) := by decide +kernel
theorem dX7_copy_91 : decode cX7_copy 91 = .ok (.return_, 1) := by decide +kernel
def cn94 : Nat → Int32 := (upd cn4 (Int32.toNatClampNeg (0 : Int32)) (0 : Int32))
def cn95 : Nat → Int32 := (upd cn94 (Int32.toNatClampNeg (1 : Int32)) (0 : Int32))
def cn96 : Nat → Int32 := (upd cn95 (Int32.toNatClampNeg (2 : Int32)) (0 : Int32))
def cn97 : Nat → Int32 := (upd cn96 (Int32.toNatClampNeg (3 : Int32)) (0 : Int32))
theorem dX0_live_0 : decode cX0_live 0 = .ok (.iconst 0, 1) := by decide +kernel
theorem dX0_live_1 : decode cX0_live 1 = .ok (.istore_n 3, 1) := by decide +kernel
theorem dX0_live_2 : decode cX0_live 2 = .ok (.iconst 0, 1) := by decide +kernel
theorem dX0_live_3 : decode cX0_live 3 = .ok (.istore 4, 2) := by decide +kernel
theorem dX0_live_5 : decode cX0_live 5 = .ok (.iload 4, 2) := by decide +kernel
theorem dX0_live_7 : decode cX0_live 7 = .ok (.aload_n 0, 1) := by decide +kernel
theorem dX0_live_8 : decode cX0_live 8 = .ok (.getfield 30, 3) := by decide +kernel
theorem dX0_live_11 : decode cX0_live 11 = .ok (.if_icmp .ge 25, 3) := by decide +kernel
theorem dX0_live_36 : decode cX0_live 36 = .ok (.aload_n 0, 1) := by decide +kernel
theorem dX0_live_37 : decode cX0_live 37 = .ok (.getfield 27, 3) := by decide +kernel
theorem dX0_live_40 : decode cX0_live 40 = .ok (.iconst 0, 1) := by decide +kernel
theorem dX0_live_41 : decode cX0_live 41 = .ok (.iload_n 3, 1) := by decide +kernel
theorem dX0_live_42 : decode cX0_live 42 = .ok (.iastore, 1) := by decide +kernel
theorem dX0_live_43 : decode cX0_live 43 = .ok (.aload_n 0, 1) := by decide +kernel
theorem dX0_live_44 : decode cX0_live 44 = .ok (.getfield 27, 3) := by decide +kernel
theorem dX0_live_47 : decode cX0_live 47 = .ok (.iconst 1, 1) := by decide +kernel
theorem dX0_live_48 : decode cX0_live 48 = .ok (.iload 4, 2) := by decide +kernel
theorem dX0_live_50 : decode cX0_live 50 = .ok (.iastore, 1) := by decide +kernel
theorem dX0_live_51 : decode cX0_live 51 = .ok (.aload_n 0, 1) := by decide +kernel
theorem dX0_live_52 : decode cX0_live 52 = .ok (.getfield 27, 3) := by decide +kernel
theorem dX0_live_55 : decode cX0_live 55 = .ok (.iconst 2, 1) := by decide +kernel
theorem dX0_live_56 : decode cX0_live 56 = .ok (.aload_n 2, 1) := by decide +kernel
theorem dX0_live_57 : decode cX0_live 57 = .ok (.getfield 102, 3) := by decide +kernel
theorem N230 : Cond.fieldLinkNest "HookedCity$Book" 102 "HookedCity$State" "day" "I" "HookedCity" ∈ lw_tbl := List.mem_of_getElem? (i := 230) (by decide +kernel)
theorem dX0_live_60 : decode cX0_live 60 = .ok (.iastore, 1) := by decide +kernel
theorem dX0_live_61 : decode cX0_live 61 = .ok (.aload_n 0, 1) := by decide +kernel
theorem dX0_live_62 : decode cX0_live 62 = .ok (.getfield 27, 3) := by decide +kernel
theorem dX0_live_65 : decode cX0_live 65 = .ok (.iconst 3, 1) := by decide +kernel
theorem dX0_live_66 : decode cX0_live 66 = .ok (.aload_n 2, 1) := by decide +kernel
theorem dX0_live_67 : decode cX0_live 67 = .ok (.aload_n 1, 1) := by decide +kernel
theorem dX0_live_68 : decode cX0_live 68 = .ok (.invokevirtual 107, 3) := by decide +kernel
theorem G1221 : Cond.methodLink "HookedCity$Book" 107 ⟨"HookedCity$State", "openOnes", "(LHookedCity$Town;)I"⟩ ∈ GW := gw_i 1221 (by decide +kernel) rfl
theorem V_HookedCity_Book_107 : VL "HookedCity$Book" 107 yX7_openOnes cX7_openOnes 4 (some .int) 1 := ⟨G822, G1221, G121, by decide +kernel, by decide +kernel, by decide +kernel⟩
theorem dX0_live_71 : decode cX0_live 71 = .ok (.iastore, 1) := by decide +kernel
theorem dX0_live_72 : decode cX0_live 72 = .ok (.iload_n 3, 1) := by decide +kernel
theorem dX0_live_73 : decode cX0_live 73 = .ok (.ifCond .ne 7, 3) := by decide +kernel
theorem dX0_live_76 : decode cX0_live 76 = .ok (.iconst (-1), 1) := by decide +kernel
theorem dX0_live_77 : decode cX0_live 77 = .ok (.goto 5, 3) := by decide +kernel
theorem dX0_live_82 : decode cX0_live 82 = .ok (.ireturn, 1) := by decide +kernel
theorem dX11_keepAct_0 : decode cX11_keepAct 0 = .ok (.aload_n 0, 1) := by decide +kernel
theorem dX11_keepAct_1 : decode cX11_keepAct 1 = .ok (.getfield 61, 3) := by decide +kernel
theorem dX11_keepAct_4 : decode cX11_keepAct 4 = .ok (.aload_n 0, 1) := by decide +kernel
theorem dX11_keepAct_5 : decode cX11_keepAct 5 = .ok (.getfield 95, 3) := by decide +kernel
theorem dX11_keepAct_8 : decode cX11_keepAct 8 = .ok (.aaload, 1) := by decide +kernel
theorem dX11_keepAct_9 : decode cX11_keepAct 9 = .ok (.aload_n 0, 1) := by decide +kernel
theorem dX11_keepAct_10 : decode cX11_keepAct 10 = .ok (.getfield 19, 3) := by decide +kernel
theorem dX11_keepAct_13 : decode cX11_keepAct 13 = .ok (.invokevirtual 230, 3) := by decide +kernel
theorem G866 : Cond.code ⟨"HookedCity$State", "copy", "(LHookedCity$State;)V"⟩ prog_9_method_3_code 2 none ∈ GW := gw_i 866 (by decide +kernel) rfl
theorem G863 : Cond.methodLink "HookedCity" 230 ⟨"HookedCity$State", "copy", "(LHookedCity$State;)V"⟩ ∈ GW := gw_i 863 (by decide +kernel) rfl
theorem V_HookedCity_230 : VL "HookedCity" 230 yX7_copy cX7_copy 2 none 1 := ⟨G866, G863, G121, by decide +kernel, by decide +kernel, by decide +kernel⟩
theorem G864 : Cond.instanceMethod ⟨"HookedCity$State", "copy", "(LHookedCity$State;)V"⟩ ∈ GW := gw_i 864 (by decide +kernel) rfl
theorem G865 : Cond.selects "HookedCity$State" ⟨"HookedCity$State", "copy", "(LHookedCity$State;)V"⟩ ⟨"HookedCity$State", "copy", "(LHookedCity$State;)V"⟩ ∈ GW := gw_i 865 (by decide +kernel) rfl
theorem dX11_keepAct_16 : decode cX11_keepAct 16 = .ok (.aload_n 0, 1) := by decide +kernel
theorem dX11_keepAct_17 : decode cX11_keepAct 17 = .ok (.aload_n 0, 1) := by decide +kernel
theorem dX11_keepAct_18 : decode cX11_keepAct 18 = .ok (.getfield 95, 3) := by decide +kernel
theorem dX11_keepAct_21 : decode cX11_keepAct 21 = .ok (.iconst 1, 1) := by decide +kernel
theorem dX11_keepAct_22 : decode cX11_keepAct 22 = .ok (.iadd, 1) := by decide +kernel
theorem dX11_keepAct_23 : decode cX11_keepAct 23 = .ok (.bipush 8, 2) := by decide +kernel
theorem dX11_keepAct_25 : decode cX11_keepAct 25 = .ok (.if_icmp .ge 12, 3) := by decide +kernel
theorem dX11_keepAct_28 : decode cX11_keepAct 28 = .ok (.aload_n 0, 1) := by decide +kernel
theorem dX11_keepAct_29 : decode cX11_keepAct 29 = .ok (.getfield 95, 3) := by decide +kernel
theorem dX11_keepAct_32 : decode cX11_keepAct 32 = .ok (.iconst 1, 1) := by decide +kernel
theorem dX11_keepAct_33 : decode cX11_keepAct 33 = .ok (.iadd, 1) := by decide +kernel
theorem dX11_keepAct_34 : decode cX11_keepAct 34 = .ok (.goto 4, 3) := by decide +kernel
theorem dX11_keepAct_38 : decode cX11_keepAct 38 = .ok (.putfield 95, 3) := by decide +kernel
theorem dX11_keepAct_41 : decode cX11_keepAct 41 = .ok (.aload_n 0, 1) := by decide +kernel
theorem dX11_keepAct_42 : decode cX11_keepAct 42 = .ok (.aload_n 0, 1) := by decide +kernel
theorem dX11_keepAct_43 : decode cX11_keepAct 43 = .ok (.getfield 91, 3) := by decide +kernel
theorem dX11_keepAct_46 : decode cX11_keepAct 46 = .ok (.iconst 1, 1) := by decide +kernel
theorem dX11_keepAct_47 : decode cX11_keepAct 47 = .ok (.iadd, 1) := by decide +kernel
theorem dX11_keepAct_48 : decode cX11_keepAct 48 = .ok (.bipush 8, 2) := by decide +kernel
theorem dX11_keepAct_50 : decode cX11_keepAct 50 = .ok (.invokestatic 347, 3) := by decide +kernel
theorem G867 : Cond.methodLink "HookedCity" 347 ⟨"java/lang/Math", "min", "(II)I"⟩ ∈ GW := gw_i 867 (by decide +kernel) rfl
theorem G641 : Cond.static ⟨"java/lang/Math", "min", "(II)I"⟩ ∈ GW := gw_i 641 (by decide +kernel) rfl
theorem G136 : Cond.initialized "java/lang/Math" ∈ GW := gw_i 136 (by decide +kernel) rfl
theorem G642 : Cond.code ⟨"java/lang/Math", "min", "(II)I"⟩ prog_22_method_69_code 2 (some .int) ∈ GW := gw_i 642 (by decide +kernel) rfl
theorem dX11_keepAct_53 : decode cX11_keepAct 53 = .ok (.putfield 91, 3) := by decide +kernel
theorem dX11_keepAct_56 : decode cX11_keepAct 56 = .ok (.return_, 1) := by decide +kernel
def cn98 : Nat → Int32 := (va_cpy cn47 (fun _ => 0) (Int32.toNatClampNeg (0 : Int32)) (Int32.toNatClampNeg (0 : Int32)) (Int32.toNatClampNeg (9 : Int32)))
def cn99 : Nat → Int32 := (va_cpy cn93 (fun _ => 0) (Int32.toNatClampNeg (0 : Int32)) (Int32.toNatClampNeg (0 : Int32)) (Int32.toNatClampNeg (3 : Int32)))
theorem dX11_book_0 : decode cX11_book 0 = .ok (.iload_n 1, 1) := by decide +kernel
theorem dX11_book_1 : decode cX11_book 1 = .ok (.ifCond .eq 12, 3) := by decide +kernel
theorem dX11_book_13 : decode cX11_book 13 = .ok (.aload_n 0, 1) := by decide +kernel
theorem dX11_book_14 : decode cX11_book 14 = .ok (.getfield 29, 3) := by decide +kernel
theorem dX11_book_17 : decode cX11_book 17 = .ok (.aload_n 0, 1) := by decide +kernel
theorem dX11_book_18 : decode cX11_book 18 = .ok (.getfield 10, 3) := by decide +kernel
theorem dX11_book_21 : decode cX11_book 21 = .ok (.aload_n 0, 1) := by decide +kernel
theorem dX11_book_22 : decode cX11_book 22 = .ok (.getfield 74, 3) := by decide +kernel
theorem dX11_book_25 : decode cX11_book 25 = .ok (.invokevirtual 301, 3) := by decide +kernel
theorem G1166 : Cond.code ⟨"HookedCity$Book", "read", "(LHookedCity$Tape;LHookedCity$Town;)Z"⟩ prog_2_method_2_code 3 (some .boolean) ∈ GW := gw_i 1166 (by decide +kernel) rfl
theorem G1163 : Cond.methodLink "HookedCity" 301 ⟨"HookedCity$Book", "read", "(LHookedCity$Tape;LHookedCity$Town;)Z"⟩ ∈ GW := gw_i 1163 (by decide +kernel) rfl
theorem V_HookedCity_301 : VL "HookedCity" 301 yX0_read cX0_read 3 (some .boolean) 2 := ⟨G1166, G1163, G122, by decide +kernel, by decide +kernel, by decide +kernel⟩
theorem G1164 : Cond.instanceMethod ⟨"HookedCity$Book", "read", "(LHookedCity$Tape;LHookedCity$Town;)Z"⟩ ∈ GW := gw_i 1164 (by decide +kernel) rfl
theorem G1165 : Cond.selects "HookedCity$Book" ⟨"HookedCity$Book", "read", "(LHookedCity$Tape;LHookedCity$Town;)Z"⟩ ⟨"HookedCity$Book", "read", "(LHookedCity$Tape;LHookedCity$Town;)Z"⟩ ∈ GW := gw_i 1165 (by decide +kernel) rfl
theorem dX11_book_28 : decode cX11_book 28 = .ok (.istore_n 2, 1) := by decide +kernel
theorem dX11_book_29 : decode cX11_book 29 = .ok (.aload_n 0, 1) := by decide +kernel
theorem dX11_book_30 : decode cX11_book 30 = .ok (.getfield 10, 3) := by decide +kernel
theorem dX11_book_33 : decode cX11_book 33 = .ok (.invokevirtual 115, 3) := by decide +kernel
theorem dX11_book_36 : decode cX11_book 36 = .ok (.iload_n 2, 1) := by decide +kernel
theorem dX11_book_37 : decode cX11_book 37 = .ok (.ifCond .ne 14, 3) := by decide +kernel
theorem dX11_book_51 : decode cX11_book 51 = .ok (.aload_n 0, 1) := by decide +kernel
theorem dX11_book_52 : decode cX11_book 52 = .ok (.getfield 23, 3) := by decide +kernel
theorem dX11_book_55 : decode cX11_book 55 = .ok (.aload_n 0, 1) := by decide +kernel
theorem dX11_book_56 : decode cX11_book 56 = .ok (.getfield 19, 3) := by decide +kernel
theorem dX11_book_59 : decode cX11_book 59 = .ok (.invokevirtual 230, 3) := by decide +kernel
theorem dX11_book_62 : decode cX11_book 62 = .ok (.aload_n 0, 1) := by decide +kernel
theorem dX11_book_63 : decode cX11_book 63 = .ok (.getfield 29, 3) := by decide +kernel
theorem dX11_book_66 : decode cX11_book 66 = .ok (.aload_n 0, 1) := by decide +kernel
theorem dX11_book_67 : decode cX11_book 67 = .ok (.getfield 74, 3) := by decide +kernel
theorem dX11_book_70 : decode cX11_book 70 = .ok (.aload_n 0, 1) := by decide +kernel
theorem dX11_book_71 : decode cX11_book 71 = .ok (.getfield 23, 3) := by decide +kernel
theorem dX11_book_74 : decode cX11_book 74 = .ok (.invokevirtual 304, 3) := by decide +kernel
theorem G1205 : Cond.code ⟨"HookedCity$Book", "live", "(LHookedCity$Town;LHookedCity$State;)I"⟩ prog_2_method_7_code 5 (some .int) ∈ GW := gw_i 1205 (by decide +kernel) rfl
theorem G1202 : Cond.methodLink "HookedCity" 304 ⟨"HookedCity$Book", "live", "(LHookedCity$Town;LHookedCity$State;)I"⟩ ∈ GW := gw_i 1202 (by decide +kernel) rfl
theorem V_HookedCity_304 : VL "HookedCity" 304 yX0_live cX0_live 5 (some .int) 2 := ⟨G1205, G1202, G122, by decide +kernel, by decide +kernel, by decide +kernel⟩
theorem G1203 : Cond.instanceMethod ⟨"HookedCity$Book", "live", "(LHookedCity$Town;LHookedCity$State;)I"⟩ ∈ GW := gw_i 1203 (by decide +kernel) rfl
theorem G1204 : Cond.selects "HookedCity$Book" ⟨"HookedCity$Book", "live", "(LHookedCity$Town;LHookedCity$State;)I"⟩ ⟨"HookedCity$Book", "live", "(LHookedCity$Town;LHookedCity$State;)I"⟩ ∈ GW := gw_i 1204 (by decide +kernel) rfl
theorem dX11_book_77 : decode cX11_book 77 = .ok (.istore_n 3, 1) := by decide +kernel
theorem dX11_book_78 : decode cX11_book 78 = .ok (.iload_n 1, 1) := by decide +kernel
theorem dX11_book_79 : decode cX11_book 79 = .ok (.iconst 1, 1) := by decide +kernel
theorem dX11_book_80 : decode cX11_book 80 = .ok (.if_icmp .ne 18, 3) := by decide +kernel
theorem dX11_book_98 : decode cX11_book 98 = .ok (.iload_n 3, 1) := by decide +kernel
theorem dX11_book_99 : decode cX11_book 99 = .ok (.ireturn, 1) := by decide +kernel
theorem dX11_book_4 : decode cX11_book 4 = .ok (.iload_n 1, 1) := by decide +kernel
theorem dX11_book_5 : decode cX11_book 5 = .ok (.iconst 1, 1) := by decide +kernel
theorem dX11_book_6 : decode cX11_book 6 = .ok (.if_icmp .eq 7, 3) := by decide +kernel
theorem dX11_book_83 : decode cX11_book 83 = .ok (.aload_n 0, 1) := by decide +kernel
theorem dX11_book_84 : decode cX11_book 84 = .ok (.invokevirtual 204, 3) := by decide +kernel
theorem G862 : Cond.code ⟨"HookedCity", "keepAct", "()V"⟩ prog_1_method_41_code 1 none ∈ GW := gw_i 862 (by decide +kernel) rfl
theorem G859 : Cond.methodLink "HookedCity" 204 ⟨"HookedCity", "keepAct", "()V"⟩ ∈ GW := gw_i 859 (by decide +kernel) rfl
theorem V_HookedCity_204 : VL "HookedCity" 204 yX11_keepAct cX11_keepAct 1 none 0 := ⟨G862, G859, G119, by decide +kernel, by decide +kernel, by decide +kernel⟩
theorem G861 : Cond.instanceMethod ⟨"HookedCity", "keepAct", "()V"⟩ ∈ GW := gw_i 861 (by decide +kernel) rfl
theorem G18 : Cond.selects "HookedCity" ⟨"HookedCity", "keepAct", "()V"⟩ ⟨"HookedCity", "keepAct", "()V"⟩ ∈ GW := gw_i 18 (by decide +kernel) rfl
theorem dX11_book_87 : decode cX11_book 87 = .ok (.aload_n 0, 1) := by decide +kernel
theorem dX11_book_88 : decode cX11_book 88 = .ok (.getfield 19, 3) := by decide +kernel
theorem dX11_book_91 : decode cX11_book 91 = .ok (.aload_n 0, 1) := by decide +kernel
theorem dX11_book_92 : decode cX11_book 92 = .ok (.getfield 23, 3) := by decide +kernel
theorem dX11_book_95 : decode cX11_book 95 = .ok (.invokevirtual 230, 3) := by decide +kernel
theorem dX11_book_9 : decode cX11_book 9 = .ok (.sipush (-1000), 3) := by decide +kernel
theorem dX11_book_12 : decode cX11_book 12 = .ok (.ireturn, 1) := by decide +kernel
def cn100 : Nat → Int32 := (shc 0 0 0 53 cn45 (fun _ => 0))
def cn101 : Nat → Int32 := (shc 0 34 0 53 cn45 (fun _ => 0))
theorem dX12_layAside_0 : decode cX12_layAside 0 = .ok (.iconst 0, 1) := by decide +kernel
theorem dX12_layAside_1 : decode cX12_layAside 1 = .ok (.istore_n 1, 1) := by decide +kernel
theorem dX12_layAside_2 : decode cX12_layAside 2 = .ok (.iload_n 1, 1) := by decide +kernel
theorem dX12_layAside_3 : decode cX12_layAside 3 = .ok (.bipush 34, 2) := by decide +kernel
theorem dX12_layAside_5 : decode cX12_layAside 5 = .ok (.if_icmp .ge 24, 3) := by decide +kernel
theorem dX12_layAside_29 : decode cX12_layAside 29 = .ok (.return_, 1) := by decide +kernel
theorem dX12_layAside_8 : decode cX12_layAside 8 = .ok (.aload_n 0, 1) := by decide +kernel
theorem dX12_layAside_9 : decode cX12_layAside 9 = .ok (.getfield 110, 3) := by decide +kernel
theorem dX12_layAside_12 : decode cX12_layAside 12 = .ok (.iload_n 1, 1) := by decide +kernel
theorem dX12_layAside_13 : decode cX12_layAside 13 = .ok (.aload_n 0, 1) := by decide +kernel
theorem dX12_layAside_14 : decode cX12_layAside 14 = .ok (.getfield 98, 3) := by decide +kernel
theorem dX12_layAside_17 : decode cX12_layAside 17 = .ok (.bipush 53, 2) := by decide +kernel
theorem dX12_layAside_19 : decode cX12_layAside 19 = .ok (.iload_n 1, 1) := by decide +kernel
theorem dX12_layAside_20 : decode cX12_layAside 20 = .ok (.iadd, 1) := by decide +kernel
theorem dX12_layAside_21 : decode cX12_layAside 21 = .ok (.iaload, 1) := by decide +kernel
theorem dX12_layAside_22 : decode cX12_layAside 22 = .ok (.iastore, 1) := by decide +kernel
theorem dX12_layAside_23 : decode cX12_layAside 23 = .ok (.iinc 1 1, 3) := by decide +kernel
theorem dX12_layAside_26 : decode cX12_layAside 26 = .ok (.goto (-24), 3) := by decide +kernel
def cn102 : Nat → Int32 := (upd (fun _ => 0) (Int32.toNatClampNeg (0 : Int32)) (0 : Int32))
def cn103 : Nat → Int32 := (upd cn102 (Int32.toNatClampNeg (1 : Int32)) (0 : Int32))
def cn104 : Nat → Int32 := (upd cn103 (Int32.toNatClampNeg (2 : Int32)) (0 : Int32))
def cn105 : Nat → Int32 := (upd cn104 (Int32.toNatClampNeg (3 : Int32)) (0 : Int32))
theorem dX12_stay_0 : decode cX12_stay 0 = .ok (.iconst 0, 1) := by decide +kernel
theorem dX12_stay_1 : decode cX12_stay 1 = .ok (.istore_n 2, 1) := by decide +kernel
theorem dX12_stay_2 : decode cX12_stay 2 = .ok (.iload_n 2, 1) := by decide +kernel
theorem dX12_stay_3 : decode cX12_stay 3 = .ok (.bipush 34, 2) := by decide +kernel
theorem dX12_stay_5 : decode cX12_stay 5 = .ok (.if_icmp .ge 41, 3) := by decide +kernel
theorem dX12_stay_46 : decode cX12_stay 46 = .ok (.iload_n 1, 1) := by decide +kernel
theorem dX12_stay_47 : decode cX12_stay 47 = .ok (.ifCond .ne 4, 3) := by decide +kernel
theorem dX12_stay_50 : decode cX12_stay 50 = .ok (.return_, 1) := by decide +kernel
theorem dX12_stay_8 : decode cX12_stay 8 = .ok (.aload_n 0, 1) := by decide +kernel
theorem dX12_stay_9 : decode cX12_stay 9 = .ok (.getfield 98, 3) := by decide +kernel
theorem dX12_stay_12 : decode cX12_stay 12 = .ok (.bipush 53, 2) := by decide +kernel
theorem dX12_stay_14 : decode cX12_stay 14 = .ok (.iload_n 2, 1) := by decide +kernel
theorem dX12_stay_15 : decode cX12_stay 15 = .ok (.iadd, 1) := by decide +kernel
theorem dX12_stay_16 : decode cX12_stay 16 = .ok (.iaload, 1) := by decide +kernel
theorem dX12_stay_17 : decode cX12_stay 17 = .ok (.istore_n 3, 1) := by decide +kernel
theorem dX12_stay_18 : decode cX12_stay 18 = .ok (.aload_n 0, 1) := by decide +kernel
theorem dX12_stay_19 : decode cX12_stay 19 = .ok (.getfield 98, 3) := by decide +kernel
theorem dX12_stay_22 : decode cX12_stay 22 = .ok (.bipush 53, 2) := by decide +kernel
theorem dX12_stay_24 : decode cX12_stay 24 = .ok (.iload_n 2, 1) := by decide +kernel
theorem dX12_stay_25 : decode cX12_stay 25 = .ok (.iadd, 1) := by decide +kernel
theorem dX12_stay_26 : decode cX12_stay 26 = .ok (.aload_n 0, 1) := by decide +kernel
theorem dX12_stay_27 : decode cX12_stay 27 = .ok (.getfield 110, 3) := by decide +kernel
theorem dX12_stay_30 : decode cX12_stay 30 = .ok (.iload_n 2, 1) := by decide +kernel
theorem dX12_stay_31 : decode cX12_stay 31 = .ok (.iaload, 1) := by decide +kernel
theorem dX12_stay_32 : decode cX12_stay 32 = .ok (.iastore, 1) := by decide +kernel
theorem dX12_stay_33 : decode cX12_stay 33 = .ok (.aload_n 0, 1) := by decide +kernel
theorem dX12_stay_34 : decode cX12_stay 34 = .ok (.getfield 110, 3) := by decide +kernel
theorem dX12_stay_37 : decode cX12_stay 37 = .ok (.iload_n 2, 1) := by decide +kernel
theorem dX12_stay_38 : decode cX12_stay 38 = .ok (.iload_n 3, 1) := by decide +kernel
theorem dX12_stay_39 : decode cX12_stay 39 = .ok (.iastore, 1) := by decide +kernel
theorem dX12_stay_40 : decode cX12_stay 40 = .ok (.iinc 2 1, 3) := by decide +kernel
theorem dX12_stay_43 : decode cX12_stay 43 = .ok (.goto (-41), 3) := by decide +kernel
theorem dX12_book_0 : decode cX12_book 0 = .ok (.aload_n 0, 1) := by decide +kernel
theorem dX12_book_1 : decode cX12_book 1 = .ok (.iconst 0, 1) := by decide +kernel
theorem dX12_book_2 : decode cX12_book 2 = .ok (.putfield 1, 3) := by decide +kernel
theorem dX12_book_5 : decode cX12_book 5 = .ok (.iload_n 1, 1) := by decide +kernel
theorem dX12_book_6 : decode cX12_book 6 = .ok (.iconst 0, 1) := by decide +kernel
theorem dX12_book_7 : decode cX12_book 7 = .ok (.iconst 1, 1) := by decide +kernel
theorem dX12_book_8 : decode cX12_book 8 = .ok (.invokestatic 75, 3) := by decide +kernel
theorem dX12_book_11 : decode cX12_book 11 = .ok (.ifCond .ne 7, 3) := by decide +kernel
theorem dX12_book_14 : decode cX12_book 14 = .ok (.sipush (-1000), 3) := by decide +kernel
theorem dX12_book_17 : decode cX12_book 17 = .ok (.ireturn, 1) := by decide +kernel
theorem dX12_book_18 : decode cX12_book 18 = .ok (.aload_n 0, 1) := by decide +kernel
theorem dX12_book_19 : decode cX12_book 19 = .ok (.sipush 400, 3) := by decide +kernel
theorem dX12_book_22 : decode cX12_book 22 = .ok (.invokevirtual 224, 3) := by decide +kernel
theorem dX12_book_25 : decode cX12_book 25 = .ok (.aload_n 0, 1) := by decide +kernel
theorem dX12_book_26 : decode cX12_book 26 = .ok (.iconst 0, 1) := by decide +kernel
theorem dX12_book_27 : decode cX12_book 27 = .ok (.putfield 376, 3) := by decide +kernel
theorem G1510 : Cond.fieldLink "HookedCityModel" 376 "HookedCityModel" "lineMany" "I" ∈ GW := gw_i 1510 (by decide +kernel) rfl
theorem dX12_book_30 : decode cX12_book 30 = .ok (.aload_n 0, 1) := by decide +kernel
theorem dX12_book_31 : decode cX12_book 31 = .ok (.getfield 30, 3) := by decide +kernel
theorem dX12_book_34 : decode cX12_book 34 = .ok (.ifCond .eq 31, 3) := by decide +kernel
theorem dX12_book_65 : decode cX12_book 65 = .ok (.aload_n 0, 1) := by decide +kernel
theorem dX12_book_66 : decode cX12_book 66 = .ok (.invokevirtual 364, 3) := by decide +kernel
theorem G1978 : Cond.code ⟨"HookedCityModel", "layAside", "()V"⟩ prog_14_method_100_code 2 none ∈ GW := gw_i 1978 (by decide +kernel) rfl
theorem G1975 : Cond.methodLink "HookedCityModel" 364 ⟨"HookedCityModel", "layAside", "()V"⟩ ∈ GW := gw_i 1975 (by decide +kernel) rfl
theorem V_HookedCityModel_364 : VL "HookedCityModel" 364 yX12_layAside cX12_layAside 2 none 0 := ⟨G1978, G1975, G131, by decide +kernel, by decide +kernel, by decide +kernel⟩
theorem G1977 : Cond.instanceMethod ⟨"HookedCityModel", "layAside", "()V"⟩ ∈ GW := gw_i 1977 (by decide +kernel) rfl
theorem G101 : Cond.selects "HookedCityModel" ⟨"HookedCityModel", "layAside", "()V"⟩ ⟨"HookedCityModel", "layAside", "()V"⟩ ∈ GW := gw_i 101 (by decide +kernel) rfl
theorem dX12_book_69 : decode cX12_book 69 = .ok (.iconst 0, 1) := by decide +kernel
theorem dX12_book_70 : decode cX12_book 70 = .ok (.istore_n 2, 1) := by decide +kernel
theorem dX12_book_71 : decode cX12_book 71 = .ok (.iconst 0, 1) := by decide +kernel
theorem dX12_book_72 : decode cX12_book 72 = .ok (.istore_n 3, 1) := by decide +kernel
theorem dX12_book_73 : decode cX12_book 73 = .ok (.iload_n 2, 1) := by decide +kernel
theorem dX12_book_74 : decode cX12_book 74 = .ok (.aload_n 0, 1) := by decide +kernel
theorem dX12_book_75 : decode cX12_book 75 = .ok (.getfield 376, 3) := by decide +kernel
theorem dX12_book_78 : decode cX12_book 78 = .ok (.if_icmp .ge 25, 3) := by decide +kernel
theorem dX12_book_103 : decode cX12_book 103 = .ok (.aload_n 0, 1) := by decide +kernel
theorem dX12_book_104 : decode cX12_book 104 = .ok (.getfield 163, 3) := by decide +kernel
theorem dX12_book_107 : decode cX12_book 107 = .ok (.iconst 0, 1) := by decide +kernel
theorem dX12_book_108 : decode cX12_book 108 = .ok (.iload_n 3, 1) := by decide +kernel
theorem dX12_book_109 : decode cX12_book 109 = .ok (.iastore, 1) := by decide +kernel
theorem dX12_book_110 : decode cX12_book 110 = .ok (.aload_n 0, 1) := by decide +kernel
theorem dX12_book_111 : decode cX12_book 111 = .ok (.getfield 163, 3) := by decide +kernel
theorem dX12_book_114 : decode cX12_book 114 = .ok (.iconst 1, 1) := by decide +kernel
theorem dX12_book_115 : decode cX12_book 115 = .ok (.iload_n 2, 1) := by decide +kernel
theorem dX12_book_116 : decode cX12_book 116 = .ok (.iastore, 1) := by decide +kernel
theorem dX12_book_117 : decode cX12_book 117 = .ok (.aload_n 0, 1) := by decide +kernel
theorem dX12_book_118 : decode cX12_book 118 = .ok (.getfield 163, 3) := by decide +kernel
theorem dX12_book_121 : decode cX12_book 121 = .ok (.iconst 2, 1) := by decide +kernel
theorem dX12_book_122 : decode cX12_book 122 = .ok (.aload_n 0, 1) := by decide +kernel
theorem dX12_book_123 : decode cX12_book 123 = .ok (.getfield 98, 3) := by decide +kernel
theorem dX12_book_126 : decode cX12_book 126 = .ok (.bipush 53, 2) := by decide +kernel
theorem dX12_book_128 : decode cX12_book 128 = .ok (.iaload, 1) := by decide +kernel
theorem dX12_book_129 : decode cX12_book 129 = .ok (.iastore, 1) := by decide +kernel
theorem dX12_book_130 : decode cX12_book 130 = .ok (.aload_n 0, 1) := by decide +kernel
theorem dX12_book_131 : decode cX12_book 131 = .ok (.getfield 163, 3) := by decide +kernel
theorem dX12_book_134 : decode cX12_book 134 = .ok (.iconst 3, 1) := by decide +kernel
theorem dX12_book_135 : decode cX12_book 135 = .ok (.aload_n 0, 1) := by decide +kernel
theorem dX12_book_136 : decode cX12_book 136 = .ok (.invokevirtual 258, 3) := by decide +kernel
theorem dX12_book_139 : decode cX12_book 139 = .ok (.iastore, 1) := by decide +kernel
theorem dX12_book_140 : decode cX12_book 140 = .ok (.aload_n 0, 1) := by decide +kernel
theorem dX12_book_141 : decode cX12_book 141 = .ok (.iconst 1, 1) := by decide +kernel
theorem dX12_book_142 : decode cX12_book 142 = .ok (.putfield 388, 3) := by decide +kernel
theorem G1511 : Cond.fieldLink "HookedCityModel" 388 "HookedCityModel" "hasWritten" "Z" ∈ GW := gw_i 1511 (by decide +kernel) rfl
theorem dX12_book_145 : decode cX12_book 145 = .ok (.aload_n 0, 1) := by decide +kernel
theorem dX12_book_146 : decode cX12_book 146 = .ok (.iload_n 1, 1) := by decide +kernel
theorem dX12_book_147 : decode cX12_book 147 = .ok (.iconst 1, 1) := by decide +kernel
theorem dX12_book_148 : decode cX12_book 148 = .ok (.if_icmp .ne 11, 3) := by decide +kernel
theorem dX12_book_159 : decode cX12_book 159 = .ok (.iconst 0, 1) := by decide +kernel
theorem dX12_book_160 : decode cX12_book 160 = .ok (.invokevirtual 391, 3) := by decide +kernel
theorem G2010 : Cond.code ⟨"HookedCityModel", "stay", "(Z)V"⟩ prog_14_method_109_code 4 none ∈ GW := gw_i 2010 (by decide +kernel) rfl
theorem G2007 : Cond.methodLink "HookedCityModel" 391 ⟨"HookedCityModel", "stay", "(Z)V"⟩ ∈ GW := gw_i 2007 (by decide +kernel) rfl
theorem V_HookedCityModel_391 : VL "HookedCityModel" 391 yX12_stay cX12_stay 4 none 1 := ⟨G2010, G2007, G131, by decide +kernel, by decide +kernel, by decide +kernel⟩
theorem G2009 : Cond.instanceMethod ⟨"HookedCityModel", "stay", "(Z)V"⟩ ∈ GW := gw_i 2009 (by decide +kernel) rfl
theorem G108 : Cond.selects "HookedCityModel" ⟨"HookedCityModel", "stay", "(Z)V"⟩ ⟨"HookedCityModel", "stay", "(Z)V"⟩ ∈ GW := gw_i 108 (by decide +kernel) rfl
theorem dX12_book_163 : decode cX12_book 163 = .ok (.iload_n 3, 1) := by decide +kernel
theorem dX12_book_164 : decode cX12_book 164 = .ok (.ifCond .ne 7, 3) := by decide +kernel
theorem dX12_book_167 : decode cX12_book 167 = .ok (.iconst (-1), 1) := by decide +kernel
theorem dX12_book_168 : decode cX12_book 168 = .ok (.goto 4, 3) := by decide +kernel
theorem dX12_book_172 : decode cX12_book 172 = .ok (.ireturn, 1) := by decide +kernel
theorem dX12_book_151 : decode cX12_book 151 = .ok (.iload_n 2, 1) := by decide +kernel
theorem dX12_book_152 : decode cX12_book 152 = .ok (.ifCond .le 7, 3) := by decide +kernel
theorem dX11_told_0 : decode cX11_told 0 = .ok (.iload_n 1, 1) := by decide +kernel
theorem dX11_told_1 : decode cX11_told 1 = .ok (.ifCond .lt 20, 3) := by decide +kernel
theorem dX11_told_21 : decode cX11_told 21 = .ok (.iconst (-1), 1) := by decide +kernel
theorem dX11_told_22 : decode cX11_told 22 = .ok (.ireturn, 1) := by decide +kernel
theorem dX11_told_4 : decode cX11_told 4 = .ok (.iload_n 1, 1) := by decide +kernel
theorem dX11_told_5 : decode cX11_told 5 = .ok (.iconst 4, 1) := by decide +kernel
theorem dX11_told_6 : decode cX11_told 6 = .ok (.if_icmp .ge 15, 3) := by decide +kernel
theorem dX11_told_9 : decode cX11_told 9 = .ok (.aload_n 0, 1) := by decide +kernel
theorem dX11_told_10 : decode cX11_told 10 = .ok (.getfield 29, 3) := by decide +kernel
theorem dX11_told_13 : decode cX11_told 13 = .ok (.getfield 307, 3) := by decide +kernel
theorem N268 : Cond.fieldLinkNest "HookedCity" 307 "HookedCity$Book" "tells" "[I" "HookedCity" ∈ lw_tbl := List.mem_of_getElem? (i := 268) (by decide +kernel)
theorem dX11_told_16 : decode cX11_told 16 = .ok (.iload_n 1, 1) := by decide +kernel
theorem dX11_told_17 : decode cX11_told 17 = .ok (.iaload, 1) := by decide +kernel
theorem dX11_told_18 : decode cX11_told 18 = .ok (.goto 4, 3) := by decide +kernel
theorem dX12_told_0 : decode cX12_told 0 = .ok (.aload_n 0, 1) := by decide +kernel
theorem dX12_told_1 : decode cX12_told 1 = .ok (.iconst 0, 1) := by decide +kernel
theorem dX12_told_2 : decode cX12_told 2 = .ok (.putfield 1, 3) := by decide +kernel
theorem dX12_told_5 : decode cX12_told 5 = .ok (.aload_n 0, 1) := by decide +kernel
theorem dX12_told_6 : decode cX12_told 6 = .ok (.getfield 388, 3) := by decide +kernel
theorem dX12_told_9 : decode cX12_told 9 = .ok (.ifCond .eq 21, 3) := by decide +kernel
theorem dX12_told_30 : decode cX12_told 30 = .ok (.iconst (-1), 1) := by decide +kernel
theorem dX12_told_31 : decode cX12_told 31 = .ok (.ireturn, 1) := by decide +kernel
theorem dX8_atMark_0 : decode cX8_atMark 0 = .ok (.aload_n 0, 1) := by decide +kernel
theorem dX8_atMark_1 : decode cX8_atMark 1 = .ok (.getfield 28, 3) := by decide +kernel
theorem dX8_atMark_4 : decode cX8_atMark 4 = .ok (.iconst 5, 1) := by decide +kernel
theorem dX8_atMark_5 : decode cX8_atMark 5 = .ok (.if_icmp .ne 15, 3) := by decide +kernel
theorem dX8_atMark_20 : decode cX8_atMark 20 = .ok (.iconst 0, 1) := by decide +kernel
theorem dX8_atMark_21 : decode cX8_atMark 21 = .ok (.ireturn, 1) := by decide +kernel
theorem dX5_isMeasure_0 : decode cX5_isMeasure 0 = .ok (.aload_n 0, 1) := by decide +kernel
theorem dX5_isMeasure_1 : decode cX5_isMeasure 1 = .ok (.getstatic 121, 3) := by decide +kernel
theorem G1269 : Cond.fieldLink "HookedCity$Sentence" 121 "HookedCity$Word" "LOOP" "LHookedCity$Word;" ∈ GW := gw_i 1269 (by decide +kernel) rfl
theorem dX5_isMeasure_4 : decode cX5_isMeasure 4 = .ok (.if_acmp .eq 17, 3) := by decide +kernel
theorem dX5_isMeasure_7 : decode cX5_isMeasure 7 = .ok (.aload_n 0, 1) := by decide +kernel
theorem dX5_isMeasure_8 : decode cX5_isMeasure 8 = .ok (.getstatic 124, 3) := by decide +kernel
theorem G1271 : Cond.fieldLink "HookedCity$Sentence" 124 "HookedCity$Word" "CHAIN" "LHookedCity$Word;" ∈ GW := gw_i 1271 (by decide +kernel) rfl
theorem dX5_isMeasure_11 : decode cX5_isMeasure 11 = .ok (.if_acmp .eq 10, 3) := by decide +kernel
theorem dX5_isMeasure_14 : decode cX5_isMeasure 14 = .ok (.aload_n 0, 1) := by decide +kernel
theorem dX5_isMeasure_15 : decode cX5_isMeasure 15 = .ok (.getstatic 127, 3) := by decide +kernel
theorem G1273 : Cond.fieldLink "HookedCity$Sentence" 127 "HookedCity$Word" "NUMBER" "LHookedCity$Word;" ∈ GW := gw_i 1273 (by decide +kernel) rfl
theorem dX5_isMeasure_18 : decode cX5_isMeasure 18 = .ok (.if_acmp .ne 7, 3) := by decide +kernel
theorem dX5_isMeasure_25 : decode cX5_isMeasure 25 = .ok (.iconst 0, 1) := by decide +kernel
theorem dX5_isMeasure_26 : decode cX5_isMeasure 26 = .ok (.ireturn, 1) := by decide +kernel
theorem dX5_startsOne_0 : decode cX5_startsOne 0 = .ok (.aload_n 0, 1) := by decide +kernel
theorem dX5_startsOne_1 : decode cX5_startsOne 1 = .ok (.getstatic 89, 3) := by decide +kernel
theorem G1252 : Cond.fieldLink "HookedCity$Sentence" 89 "HookedCity$Word" "NOT" "LHookedCity$Word;" ∈ GW := gw_i 1252 (by decide +kernel) rfl
theorem dX5_startsOne_4 : decode cX5_startsOne 4 = .ok (.if_acmp .eq 52, 3) := by decide +kernel
theorem dX5_startsOne_7 : decode cX5_startsOne 7 = .ok (.aload_n 0, 1) := by decide +kernel
theorem dX5_startsOne_8 : decode cX5_startsOne 8 = .ok (.getstatic 109, 3) := by decide +kernel
theorem G1254 : Cond.fieldLink "HookedCity$Sentence" 109 "HookedCity$Word" "OPEN" "LHookedCity$Word;" ∈ GW := gw_i 1254 (by decide +kernel) rfl
theorem dX5_startsOne_11 : decode cX5_startsOne 11 = .ok (.if_acmp .eq 45, 3) := by decide +kernel
theorem dX5_startsOne_14 : decode cX5_startsOne 14 = .ok (.aload_n 0, 1) := by decide +kernel
theorem dX5_startsOne_15 : decode cX5_startsOne 15 = .ok (.getstatic 112, 3) := by decide +kernel
theorem G1256 : Cond.fieldLink "HookedCity$Sentence" 112 "HookedCity$Word" "BARE" "LHookedCity$Word;" ∈ GW := gw_i 1256 (by decide +kernel) rfl
theorem dX5_startsOne_18 : decode cX5_startsOne 18 = .ok (.if_acmp .eq 38, 3) := by decide +kernel
theorem dX5_startsOne_21 : decode cX5_startsOne 21 = .ok (.aload_n 0, 1) := by decide +kernel
theorem dX5_startsOne_22 : decode cX5_startsOne 22 = .ok (.getstatic 115, 3) := by decide +kernel
theorem G1258 : Cond.fieldLink "HookedCity$Sentence" 115 "HookedCity$Word" "TORN" "LHookedCity$Word;" ∈ GW := gw_i 1258 (by decide +kernel) rfl
theorem dX5_startsOne_25 : decode cX5_startsOne 25 = .ok (.if_acmp .eq 31, 3) := by decide +kernel
theorem dX5_startsOne_28 : decode cX5_startsOne 28 = .ok (.aload_n 0, 1) := by decide +kernel
theorem dX5_startsOne_29 : decode cX5_startsOne 29 = .ok (.getstatic 118, 3) := by decide +kernel
theorem G1260 : Cond.fieldLink "HookedCity$Sentence" 118 "HookedCity$Word" "RING" "LHookedCity$Word;" ∈ GW := gw_i 1260 (by decide +kernel) rfl
theorem dX5_startsOne_32 : decode cX5_startsOne 32 = .ok (.if_acmp .eq 24, 3) := by decide +kernel
theorem dX5_startsOne_35 : decode cX5_startsOne 35 = .ok (.aload_n 0, 1) := by decide +kernel
theorem dX5_startsOne_36 : decode cX5_startsOne 36 = .ok (.getstatic 92, 3) := by decide +kernel
theorem G1262 : Cond.fieldLink "HookedCity$Sentence" 92 "HookedCity$Word" "WITH" "LHookedCity$Word;" ∈ GW := gw_i 1262 (by decide +kernel) rfl
theorem dX5_startsOne_39 : decode cX5_startsOne 39 = .ok (.if_acmp .eq 17, 3) := by decide +kernel
theorem dX5_startsOne_42 : decode cX5_startsOne 42 = .ok (.aload_n 0, 1) := by decide +kernel
theorem dX5_startsOne_43 : decode cX5_startsOne 43 = .ok (.getstatic 95, 3) := by decide +kernel
theorem G1264 : Cond.fieldLink "HookedCity$Sentence" 95 "HookedCity$Word" "NEAR" "LHookedCity$Word;" ∈ GW := gw_i 1264 (by decide +kernel) rfl
theorem dX5_startsOne_46 : decode cX5_startsOne 46 = .ok (.if_acmp .eq 10, 3) := by decide +kernel
theorem dX5_startsOne_49 : decode cX5_startsOne 49 = .ok (.aload_n 0, 1) := by decide +kernel
theorem dX5_startsOne_50 : decode cX5_startsOne 50 = .ok (.invokestatic 102, 3) := by decide +kernel
theorem G1268 : Cond.code ⟨"HookedCity$Sentence", "isMeasure", "(LHookedCity$Word;)Z"⟩ prog_7_method_10_code 1 (some .boolean) ∈ GW := gw_i 1268 (by decide +kernel) rfl
theorem G1266 : Cond.methodLink "HookedCity$Sentence" 102 ⟨"HookedCity$Sentence", "isMeasure", "(LHookedCity$Word;)Z"⟩ ∈ GW := gw_i 1266 (by decide +kernel) rfl
theorem V_HookedCity_Sentence_102 : VL "HookedCity$Sentence" 102 yX5_isMeasure cX5_isMeasure 1 (some .boolean) 1 := ⟨G1268, G1266, G129, by decide +kernel, by decide +kernel, by decide +kernel⟩
theorem G1267 : Cond.static ⟨"HookedCity$Sentence", "isMeasure", "(LHookedCity$Word;)Z"⟩ ∈ GW := gw_i 1267 (by decide +kernel) rfl
theorem dX5_startsOne_53 : decode cX5_startsOne 53 = .ok (.ifCond .eq 7, 3) := by decide +kernel
theorem dX5_startsOne_60 : decode cX5_startsOne 60 = .ok (.iconst 0, 1) := by decide +kernel
theorem dX5_startsOne_61 : decode cX5_startsOne 61 = .ok (.ireturn, 1) := by decide +kernel
theorem dX8_fail_0 : decode cX8_fail 0 = .ok (.aload_n 0, 1) := by decide +kernel
theorem dX8_fail_1 : decode cX8_fail 1 = .ok (.iload_n 1, 1) := by decide +kernel
theorem dX8_fail_2 : decode cX8_fail 2 = .ok (.putfield 45, 3) := by decide +kernel
theorem dX8_fail_5 : decode cX8_fail 5 = .ok (.aload_n 0, 1) := by decide +kernel
theorem dX8_fail_6 : decode cX8_fail 6 = .ok (.aload_n 0, 1) := by decide +kernel
theorem dX8_fail_7 : decode cX8_fail 7 = .ok (.getfield 25, 3) := by decide +kernel
theorem dX8_fail_10 : decode cX8_fail 10 = .ok (.putfield 48, 3) := by decide +kernel
theorem dX8_fail_13 : decode cX8_fail 13 = .ok (.iconst 0, 1) := by decide +kernel
theorem dX8_fail_14 : decode cX8_fail 14 = .ok (.ireturn, 1) := by decide +kernel
theorem dX5_readOne_0 : decode cX5_readOne 0 = .ok (.aload_n 1, 1) := by decide +kernel
theorem dX5_readOne_1 : decode cX5_readOne 1 = .ok (.getfield 58, 3) := by decide +kernel
theorem N173 : Cond.fieldLinkNest "HookedCity$Sentence" 58 "HookedCity$Tape" "word" "LHookedCity$Word;" "HookedCity" ∈ lw_tbl := List.mem_of_getElem? (i := 173) (by decide +kernel)
theorem dX5_readOne_4 : decode cX5_readOne 4 = .ok (.astore 4, 2) := by decide +kernel
theorem dX5_readOne_6 : decode cX5_readOne 6 = .ok (.aload_n 1, 1) := by decide +kernel
theorem dX5_readOne_7 : decode cX5_readOne 7 = .ok (.bipush 40, 2) := by decide +kernel
theorem dX5_readOne_9 : decode cX5_readOne 9 = .ok (.invokevirtual 78, 3) := by decide +kernel
theorem G785 : Cond.code ⟨"HookedCity$Tape", "atMark", "(C)Z"⟩ prog_10_method_14_code 2 (some .boolean) ∈ GW := gw_i 785 (by decide +kernel) rfl
theorem G1248 : Cond.methodLink "HookedCity$Sentence" 78 ⟨"HookedCity$Tape", "atMark", "(C)Z"⟩ ∈ GW := gw_i 1248 (by decide +kernel) rfl
theorem V_HookedCity_Sentence_78 : VL "HookedCity$Sentence" 78 yX8_atMark cX8_atMark 2 (some .boolean) 1 := ⟨G785, G1248, G120, by decide +kernel, by decide +kernel, by decide +kernel⟩
theorem G783 : Cond.instanceMethod ⟨"HookedCity$Tape", "atMark", "(C)Z"⟩ ∈ GW := gw_i 783 (by decide +kernel) rfl
theorem G784 : Cond.selects "HookedCity$Tape" ⟨"HookedCity$Tape", "atMark", "(C)Z"⟩ ⟨"HookedCity$Tape", "atMark", "(C)Z"⟩ ∈ GW := gw_i 784 (by decide +kernel) rfl
theorem dX5_readOne_12 : decode cX5_readOne 12 = .ok (.istore 5, 2) := by decide +kernel
theorem dX5_readOne_14 : decode cX5_readOne 14 = .ok (.iload 5, 2) := by decide +kernel
theorem dX5_readOne_16 : decode cX5_readOne 16 = .ok (.ifCond .ne 17, 3) := by decide +kernel
theorem dX5_readOne_19 : decode cX5_readOne 19 = .ok (.aload 4, 2) := by decide +kernel
theorem dX5_readOne_21 : decode cX5_readOne 21 = .ok (.invokestatic 82, 3) := by decide +kernel
theorem G1251 : Cond.code ⟨"HookedCity$Sentence", "startsOne", "(LHookedCity$Word;)Z"⟩ prog_7_method_9_code 1 (some .boolean) ∈ GW := gw_i 1251 (by decide +kernel) rfl
theorem G1249 : Cond.methodLink "HookedCity$Sentence" 82 ⟨"HookedCity$Sentence", "startsOne", "(LHookedCity$Word;)Z"⟩ ∈ GW := gw_i 1249 (by decide +kernel) rfl
theorem V_HookedCity_Sentence_82 : VL "HookedCity$Sentence" 82 yX5_startsOne cX5_startsOne 1 (some .boolean) 1 := ⟨G1251, G1249, G129, by decide +kernel, by decide +kernel, by decide +kernel⟩
theorem G1250 : Cond.static ⟨"HookedCity$Sentence", "startsOne", "(LHookedCity$Word;)Z"⟩ ∈ GW := gw_i 1250 (by decide +kernel) rfl
theorem dX5_readOne_24 : decode cX5_readOne 24 = .ok (.ifCond .ne 9, 3) := by decide +kernel
theorem dX5_readOne_27 : decode cX5_readOne 27 = .ok (.aload_n 1, 1) := by decide +kernel
theorem dX5_readOne_28 : decode cX5_readOne 28 = .ok (.iconst 1, 1) := by decide +kernel
theorem dX5_readOne_29 : decode cX5_readOne 29 = .ok (.invokevirtual 51, 3) := by decide +kernel
theorem G712 : Cond.code ⟨"HookedCity$Tape", "fail", "(I)Z"⟩ prog_10_method_15_code 2 (some .boolean) ∈ GW := gw_i 712 (by decide +kernel) rfl
theorem G1275 : Cond.methodLink "HookedCity$Sentence" 51 ⟨"HookedCity$Tape", "fail", "(I)Z"⟩ ∈ GW := gw_i 1275 (by decide +kernel) rfl
theorem V_HookedCity_Sentence_51 : VL "HookedCity$Sentence" 51 yX8_fail cX8_fail 2 (some .boolean) 1 := ⟨G712, G1275, G120, by decide +kernel, by decide +kernel, by decide +kernel⟩
theorem G710 : Cond.instanceMethod ⟨"HookedCity$Tape", "fail", "(I)Z"⟩ ∈ GW := gw_i 710 (by decide +kernel) rfl
theorem G711 : Cond.selects "HookedCity$Tape" ⟨"HookedCity$Tape", "fail", "(I)Z"⟩ ⟨"HookedCity$Tape", "fail", "(I)Z"⟩ ∈ GW := gw_i 711 (by decide +kernel) rfl
theorem dX5_readOne_32 : decode cX5_readOne 32 = .ok (.ireturn, 1) := by decide +kernel
theorem dX5_readAll_0 : decode cX5_readAll 0 = .ok (.aload_n 0, 1) := by decide +kernel
theorem dX5_readAll_1 : decode cX5_readAll 1 = .ok (.aload_n 1, 1) := by decide +kernel
theorem dX5_readAll_2 : decode cX5_readAll 2 = .ok (.aload_n 2, 1) := by decide +kernel
theorem dX5_readAll_3 : decode cX5_readAll 3 = .ok (.iload_n 3, 1) := by decide +kernel
theorem dX5_readAll_4 : decode cX5_readAll 4 = .ok (.invokevirtual 72, 3) := by decide +kernel
theorem G1247 : Cond.code ⟨"HookedCity$Sentence", "readOne", "(LHookedCity$Tape;LHookedCity$Town;I)Z"⟩ prog_7_method_8_code 6 (some .boolean) ∈ GW := gw_i 1247 (by decide +kernel) rfl
theorem G1244 : Cond.methodLink "HookedCity$Sentence" 72 ⟨"HookedCity$Sentence", "readOne", "(LHookedCity$Tape;LHookedCity$Town;I)Z"⟩ ∈ GW := gw_i 1244 (by decide +kernel) rfl
theorem V_HookedCity_Sentence_72 : VL "HookedCity$Sentence" 72 yX5_readOne cX5_readOne 6 (some .boolean) 3 := ⟨G1247, G1244, G129, by decide +kernel, by decide +kernel, by decide +kernel⟩
theorem G1246 : Cond.instanceMethod ⟨"HookedCity$Sentence", "readOne", "(LHookedCity$Tape;LHookedCity$Town;I)Z"⟩ ∈ GW := gw_i 1246 (by decide +kernel) rfl
theorem G38 : Cond.selects "HookedCity$Sentence" ⟨"HookedCity$Sentence", "readOne", "(LHookedCity$Tape;LHookedCity$Town;I)Z"⟩ ⟨"HookedCity$Sentence", "readOne", "(LHookedCity$Tape;LHookedCity$Town;I)Z"⟩ ∈ GW := gw_i 38 (by decide +kernel) rfl
theorem dX5_readAll_7 : decode cX5_readAll 7 = .ok (.ifCond .ne 5, 3) := by decide +kernel
theorem dX5_readAll_10 : decode cX5_readAll 10 = .ok (.iconst 0, 1) := by decide +kernel
theorem dX5_readAll_11 : decode cX5_readAll 11 = .ok (.ireturn, 1) := by decide +kernel
theorem dX5_readCond_0 : decode cX5_readCond 0 = .ok (.aload_n 0, 1) := by decide +kernel
theorem dX5_readCond_1 : decode cX5_readCond 1 = .ok (.aload_n 1, 1) := by decide +kernel
theorem dX5_readCond_2 : decode cX5_readCond 2 = .ok (.aload_n 2, 1) := by decide +kernel
theorem dX5_readCond_3 : decode cX5_readCond 3 = .ok (.iload_n 3, 1) := by decide +kernel
theorem dX5_readCond_4 : decode cX5_readCond 4 = .ok (.invokevirtual 55, 3) := by decide +kernel
theorem G1243 : Cond.code ⟨"HookedCity$Sentence", "readAll", "(LHookedCity$Tape;LHookedCity$Town;I)Z"⟩ prog_7_method_7_code 5 (some .boolean) ∈ GW := gw_i 1243 (by decide +kernel) rfl
theorem G1240 : Cond.methodLink "HookedCity$Sentence" 55 ⟨"HookedCity$Sentence", "readAll", "(LHookedCity$Tape;LHookedCity$Town;I)Z"⟩ ∈ GW := gw_i 1240 (by decide +kernel) rfl
theorem V_HookedCity_Sentence_55 : VL "HookedCity$Sentence" 55 yX5_readAll cX5_readAll 5 (some .boolean) 3 := ⟨G1243, G1240, G129, by decide +kernel, by decide +kernel, by decide +kernel⟩
theorem G1242 : Cond.instanceMethod ⟨"HookedCity$Sentence", "readAll", "(LHookedCity$Tape;LHookedCity$Town;I)Z"⟩ ∈ GW := gw_i 1242 (by decide +kernel) rfl
theorem G37 : Cond.selects "HookedCity$Sentence" ⟨"HookedCity$Sentence", "readAll", "(LHookedCity$Tape;LHookedCity$Town;I)Z"⟩ ⟨"HookedCity$Sentence", "readAll", "(LHookedCity$Tape;LHookedCity$Town;I)Z"⟩ ∈ GW := gw_i 37 (by decide +kernel) rfl
theorem dX5_readCond_7 : decode cX5_readCond 7 = .ok (.ifCond .ne 5, 3) := by decide +kernel
theorem dX5_readCond_10 : decode cX5_readCond 10 = .ok (.iconst 0, 1) := by decide +kernel
theorem dX5_readCond_11 : decode cX5_readCond 11 = .ok (.ireturn, 1) := by decide +kernel
theorem dX5_read_0 : decode cX5_read 0 = .ok (.aload_n 0, 1) := by decide +kernel
theorem dX5_read_1 : decode cX5_read 1 = .ok (.invokevirtual 34, 3) := by decide +kernel
theorem G1234 : Cond.methodLink "HookedCity$Sentence" 34 ⟨"HookedCity$Sentence", "clear", "()V"⟩ ∈ GW := gw_i 1234 (by decide +kernel) rfl
theorem V_HookedCity_Sentence_34 : VL "HookedCity$Sentence" 34 yX5_clear cX5_clear 1 none 0 := ⟨G801, G1234, G129, by decide +kernel, by decide +kernel, by decide +kernel⟩
theorem dX5_read_4 : decode cX5_read 4 = .ok (.aload_n 1, 1) := by decide +kernel
theorem dX5_read_5 : decode cX5_read 5 = .ok (.sipush 200, 3) := by decide +kernel
theorem dX5_read_8 : decode cX5_read 8 = .ok (.invokevirtual 37, 3) := by decide +kernel
theorem G1235 : Cond.methodLink "HookedCity$Sentence" 37 ⟨"HookedCity$Tape", "open", "(I)V"⟩ ∈ GW := gw_i 1235 (by decide +kernel) rfl
theorem V_HookedCity_Sentence_37 : VL "HookedCity$Sentence" 37 yX8_open cX8_open 2 none 1 := ⟨G585, G1235, G120, by decide +kernel, by decide +kernel, by decide +kernel⟩
theorem dX5_read_11 : decode cX5_read 11 = .ok (.aload_n 0, 1) := by decide +kernel
theorem dX5_read_12 : decode cX5_read 12 = .ok (.aload_n 1, 1) := by decide +kernel
theorem dX5_read_13 : decode cX5_read 13 = .ok (.aload_n 2, 1) := by decide +kernel
theorem dX5_read_14 : decode cX5_read 14 = .ok (.iconst 1, 1) := by decide +kernel
theorem dX5_read_15 : decode cX5_read 15 = .ok (.invokevirtual 43, 3) := by decide +kernel
theorem G1239 : Cond.code ⟨"HookedCity$Sentence", "readCond", "(LHookedCity$Tape;LHookedCity$Town;I)Z"⟩ prog_7_method_6_code 5 (some .boolean) ∈ GW := gw_i 1239 (by decide +kernel) rfl
theorem G1236 : Cond.methodLink "HookedCity$Sentence" 43 ⟨"HookedCity$Sentence", "readCond", "(LHookedCity$Tape;LHookedCity$Town;I)Z"⟩ ∈ GW := gw_i 1236 (by decide +kernel) rfl
theorem V_HookedCity_Sentence_43 : VL "HookedCity$Sentence" 43 yX5_readCond cX5_readCond 5 (some .boolean) 3 := ⟨G1239, G1236, G129, by decide +kernel, by decide +kernel, by decide +kernel⟩
theorem G1238 : Cond.instanceMethod ⟨"HookedCity$Sentence", "readCond", "(LHookedCity$Tape;LHookedCity$Town;I)Z"⟩ ∈ GW := gw_i 1238 (by decide +kernel) rfl
theorem G36 : Cond.selects "HookedCity$Sentence" ⟨"HookedCity$Sentence", "readCond", "(LHookedCity$Tape;LHookedCity$Town;I)Z"⟩ ⟨"HookedCity$Sentence", "readCond", "(LHookedCity$Tape;LHookedCity$Town;I)Z"⟩ ∈ GW := gw_i 36 (by decide +kernel) rfl
theorem dX5_read_18 : decode cX5_read 18 = .ok (.ifCond .ne 5, 3) := by decide +kernel
theorem dX5_read_21 : decode cX5_read 21 = .ok (.iconst 0, 1) := by decide +kernel
theorem dX5_read_22 : decode cX5_read 22 = .ok (.ireturn, 1) := by decide +kernel
theorem dX11_sentence_0 : decode cX11_sentence 0 = .ok (.aload_n 0, 1) := by decide +kernel
theorem dX11_sentence_1 : decode cX11_sentence 1 = .ok (.getfield 88, 3) := by decide +kernel
theorem dX11_sentence_4 : decode cX11_sentence 4 = .ok (.aload_n 0, 1) := by decide +kernel
theorem dX11_sentence_5 : decode cX11_sentence 5 = .ok (.getfield 10, 3) := by decide +kernel
theorem dX11_sentence_8 : decode cX11_sentence 8 = .ok (.aload_n 0, 1) := by decide +kernel
theorem dX11_sentence_9 : decode cX11_sentence 9 = .ok (.getfield 74, 3) := by decide +kernel
theorem dX11_sentence_12 : decode cX11_sentence 12 = .ok (.invokevirtual 310, 3) := by decide +kernel
theorem G1233 : Cond.code ⟨"HookedCity$Sentence", "read", "(LHookedCity$Tape;LHookedCity$Town;)Z"⟩ prog_7_method_5_code 3 (some .boolean) ∈ GW := gw_i 1233 (by decide +kernel) rfl
theorem G1230 : Cond.methodLink "HookedCity" 310 ⟨"HookedCity$Sentence", "read", "(LHookedCity$Tape;LHookedCity$Town;)Z"⟩ ∈ GW := gw_i 1230 (by decide +kernel) rfl
theorem V_HookedCity_310 : VL "HookedCity" 310 yX5_read cX5_read 3 (some .boolean) 2 := ⟨G1233, G1230, G129, by decide +kernel, by decide +kernel, by decide +kernel⟩
theorem G1231 : Cond.instanceMethod ⟨"HookedCity$Sentence", "read", "(LHookedCity$Tape;LHookedCity$Town;)Z"⟩ ∈ GW := gw_i 1231 (by decide +kernel) rfl
theorem G1232 : Cond.selects "HookedCity$Sentence" ⟨"HookedCity$Sentence", "read", "(LHookedCity$Tape;LHookedCity$Town;)Z"⟩ ⟨"HookedCity$Sentence", "read", "(LHookedCity$Tape;LHookedCity$Town;)Z"⟩ ∈ GW := gw_i 1232 (by decide +kernel) rfl
theorem dX11_sentence_15 : decode cX11_sentence 15 = .ok (.istore_n 1, 1) := by decide +kernel
theorem dX11_sentence_16 : decode cX11_sentence 16 = .ok (.aload_n 0, 1) := by decide +kernel
theorem dX11_sentence_17 : decode cX11_sentence 17 = .ok (.getfield 10, 3) := by decide +kernel
theorem dX11_sentence_20 : decode cX11_sentence 20 = .ok (.invokevirtual 115, 3) := by decide +kernel
theorem dX11_sentence_23 : decode cX11_sentence 23 = .ok (.iload_n 1, 1) := by decide +kernel
theorem dX11_sentence_24 : decode cX11_sentence 24 = .ok (.ifCond .ne 13, 3) := by decide +kernel
theorem dX11_sentence_27 : decode cX11_sentence 27 = .ok (.iconst (-1), 1) := by decide +kernel
theorem dX11_sentence_28 : decode cX11_sentence 28 = .ok (.aload_n 0, 1) := by decide +kernel
theorem dX11_sentence_29 : decode cX11_sentence 29 = .ok (.getfield 10, 3) := by decide +kernel
theorem dX11_sentence_32 : decode cX11_sentence 32 = .ok (.getfield 118, 3) := by decide +kernel
theorem N182 : Cond.fieldLinkNest "HookedCity" 118 "HookedCity$Tape" "faultPlace" "I" "HookedCity" ∈ lw_tbl := List.mem_of_getElem? (i := 182) (by decide +kernel)
theorem dX11_sentence_35 : decode cX11_sentence 35 = .ok (.isub, 1) := by decide +kernel
theorem dX11_sentence_36 : decode cX11_sentence 36 = .ok (.ireturn, 1) := by decide +kernel
theorem dX12_isSign_0 : decode cX12_isSign 0 = .ok (.aload_n 0, 1) := by decide +kernel
theorem dX12_isSign_1 : decode cX12_isSign 1 = .ok (.getfield 30, 3) := by decide +kernel
theorem dX12_isSign_4 : decode cX12_isSign 4 = .ok (.iconst 4, 1) := by decide +kernel
theorem dX12_isSign_5 : decode cX12_isSign 5 = .ok (.if_icmp .ne 15, 3) := by decide +kernel
theorem dX12_isSign_20 : decode cX12_isSign 20 = .ok (.iconst 0, 1) := by decide +kernel
theorem dX12_isSign_21 : decode cX12_isSign 21 = .ok (.ireturn, 1) := by decide +kernel
theorem dX12_isWord_0 : decode cX12_isWord 0 = .ok (.aload_n 0, 1) := by decide +kernel
theorem dX12_isWord_1 : decode cX12_isWord 1 = .ok (.getfield 30, 3) := by decide +kernel
theorem dX12_isWord_4 : decode cX12_isWord 4 = .ok (.iconst 2, 1) := by decide +kernel
theorem dX12_isWord_5 : decode cX12_isWord 5 = .ok (.if_icmp .ne 19, 3) := by decide +kernel
theorem dX12_isWord_24 : decode cX12_isWord 24 = .ok (.iconst 0, 1) := by decide +kernel
theorem dX12_isWord_25 : decode cX12_isWord 25 = .ok (.ireturn, 1) := by decide +kernel
theorem dX12_bad_0 : decode cX12_bad 0 = .ok (.aload_n 0, 1) := by decide +kernel
theorem dX12_bad_1 : decode cX12_bad 1 = .ok (.aload_n 0, 1) := by decide +kernel
theorem dX12_bad_2 : decode cX12_bad 2 = .ok (.getfield 30, 3) := by decide +kernel
theorem dX12_bad_5 : decode cX12_bad 5 = .ok (.iconst 1, 1) := by decide +kernel
theorem dX12_bad_6 : decode cX12_bad 6 = .ok (.if_icmp .ne 7, 3) := by decide +kernel
theorem dX12_bad_13 : decode cX12_bad 13 = .ok (.iload_n 1, 1) := by decide +kernel
theorem dX12_bad_14 : decode cX12_bad 14 = .ok (.putfield 66, 3) := by decide +kernel
theorem dX12_bad_17 : decode cX12_bad 17 = .ok (.aload_n 0, 1) := by decide +kernel
theorem dX12_bad_18 : decode cX12_bad 18 = .ok (.aload_n 0, 1) := by decide +kernel
theorem dX12_bad_19 : decode cX12_bad 19 = .ok (.getfield 24, 3) := by decide +kernel
theorem dX12_bad_22 : decode cX12_bad 22 = .ok (.putfield 69, 3) := by decide +kernel
theorem G1478 : Cond.fieldLink "HookedCityModel" 69 "HookedCityModel" "place" "I" ∈ GW := gw_i 1478 (by decide +kernel) rfl
theorem dX12_bad_25 : decode cX12_bad 25 = .ok (.iconst 0, 1) := by decide +kernel
theorem dX12_bad_26 : decode cX12_bad 26 = .ok (.ireturn, 1) := by decide +kernel
theorem dX12_readSaid_0 : decode cX12_readSaid 0 = .ok (.aload_n 0, 1) := by decide +kernel
theorem dX12_readSaid_1 : decode cX12_readSaid 1 = .ok (.bipush 40, 2) := by decide +kernel
theorem dX12_readSaid_3 : decode cX12_readSaid 3 = .ok (.invokevirtual 86, 3) := by decide +kernel
theorem G1729 : Cond.code ⟨"HookedCityModel", "isSign", "(I)Z"⟩ prog_14_method_20_code 2 (some .boolean) ∈ GW := gw_i 1729 (by decide +kernel) rfl
theorem G1726 : Cond.methodLink "HookedCityModel" 86 ⟨"HookedCityModel", "isSign", "(I)Z"⟩ ∈ GW := gw_i 1726 (by decide +kernel) rfl
theorem V_HookedCityModel_86 : VL "HookedCityModel" 86 yX12_isSign cX12_isSign 2 (some .boolean) 1 := ⟨G1729, G1726, G131, by decide +kernel, by decide +kernel, by decide +kernel⟩
theorem G1728 : Cond.instanceMethod ⟨"HookedCityModel", "isSign", "(I)Z"⟩ ∈ GW := gw_i 1728 (by decide +kernel) rfl
theorem G67 : Cond.selects "HookedCityModel" ⟨"HookedCityModel", "isSign", "(I)Z"⟩ ⟨"HookedCityModel", "isSign", "(I)Z"⟩ ∈ GW := gw_i 67 (by decide +kernel) rfl
theorem dX12_readSaid_6 : decode cX12_readSaid 6 = .ok (.istore_n 1, 1) := by decide +kernel
theorem dX12_readSaid_7 : decode cX12_readSaid 7 = .ok (.bipush 17, 2) := by decide +kernel
theorem dX12_readSaid_9 : decode cX12_readSaid 9 = .ok (.istore_n 2, 1) := by decide +kernel
theorem dX12_readSaid_10 : decode cX12_readSaid 10 = .ok (.iload_n 2, 1) := by decide +kernel
theorem dX12_readSaid_11 : decode cX12_readSaid 11 = .ok (.bipush 26, 2) := by decide +kernel
theorem dX12_readSaid_13 : decode cX12_readSaid 13 = .ok (.if_icmp .gt 17, 3) := by decide +kernel
theorem dX12_readSaid_16 : decode cX12_readSaid 16 = .ok (.aload_n 0, 1) := by decide +kernel
theorem dX12_readSaid_17 : decode cX12_readSaid 17 = .ok (.iload_n 2, 1) := by decide +kernel
theorem dX12_readSaid_18 : decode cX12_readSaid 18 = .ok (.invokevirtual 183, 3) := by decide +kernel
theorem G1654 : Cond.code ⟨"HookedCityModel", "isWord", "(I)Z"⟩ prog_14_method_19_code 2 (some .boolean) ∈ GW := gw_i 1654 (by decide +kernel) rfl
theorem G1651 : Cond.methodLink "HookedCityModel" 183 ⟨"HookedCityModel", "isWord", "(I)Z"⟩ ∈ GW := gw_i 1651 (by decide +kernel) rfl
theorem V_HookedCityModel_183 : VL "HookedCityModel" 183 yX12_isWord cX12_isWord 2 (some .boolean) 1 := ⟨G1654, G1651, G131, by decide +kernel, by decide +kernel, by decide +kernel⟩
theorem G1653 : Cond.instanceMethod ⟨"HookedCityModel", "isWord", "(I)Z"⟩ ∈ GW := gw_i 1653 (by decide +kernel) rfl
theorem G52 : Cond.selects "HookedCityModel" ⟨"HookedCityModel", "isWord", "(I)Z"⟩ ⟨"HookedCityModel", "isWord", "(I)Z"⟩ ∈ GW := gw_i 52 (by decide +kernel) rfl
theorem dX12_readSaid_21 : decode cX12_readSaid 21 = .ok (.ifCond .ne 9, 3) := by decide +kernel
theorem dX12_readSaid_24 : decode cX12_readSaid 24 = .ok (.iinc 2 1, 3) := by decide +kernel
theorem dX12_readSaid_27 : decode cX12_readSaid 27 = .ok (.goto (-17), 3) := by decide +kernel
theorem dX12_readSaid_30 : decode cX12_readSaid 30 = .ok (.iload_n 1, 1) := by decide +kernel
theorem dX12_readSaid_31 : decode cX12_readSaid 31 = .ok (.ifCond .ne 15, 3) := by decide +kernel
theorem dX12_readSaid_34 : decode cX12_readSaid 34 = .ok (.iload_n 2, 1) := by decide +kernel
theorem dX12_readSaid_35 : decode cX12_readSaid 35 = .ok (.bipush 26, 2) := by decide +kernel
theorem dX12_readSaid_37 : decode cX12_readSaid 37 = .ok (.if_icmp .le 9, 3) := by decide +kernel
theorem dX12_readSaid_40 : decode cX12_readSaid 40 = .ok (.aload_n 0, 1) := by decide +kernel
theorem dX12_readSaid_41 : decode cX12_readSaid 41 = .ok (.iconst 1, 1) := by decide +kernel
theorem dX12_readSaid_42 : decode cX12_readSaid 42 = .ok (.invokevirtual 72, 3) := by decide +kernel
theorem G1672 : Cond.code ⟨"HookedCityModel", "bad", "(I)Z"⟩ prog_14_method_22_code 2 (some .boolean) ∈ GW := gw_i 1672 (by decide +kernel) rfl
theorem G1669 : Cond.methodLink "HookedCityModel" 72 ⟨"HookedCityModel", "bad", "(I)Z"⟩ ∈ GW := gw_i 1669 (by decide +kernel) rfl
theorem V_HookedCityModel_72 : VL "HookedCityModel" 72 yX12_bad cX12_bad 2 (some .boolean) 1 := ⟨G1672, G1669, G131, by decide +kernel, by decide +kernel, by decide +kernel⟩
theorem G1671 : Cond.instanceMethod ⟨"HookedCityModel", "bad", "(I)Z"⟩ ∈ GW := gw_i 1671 (by decide +kernel) rfl
theorem G55 : Cond.selects "HookedCityModel" ⟨"HookedCityModel", "bad", "(I)Z"⟩ ⟨"HookedCityModel", "bad", "(I)Z"⟩ ∈ GW := gw_i 55 (by decide +kernel) rfl
theorem dX12_readSaid_45 : decode cX12_readSaid 45 = .ok (.ireturn, 1) := by decide +kernel
theorem dX12_readAnd_0 : decode cX12_readAnd 0 = .ok (.aload_n 0, 1) := by decide +kernel
theorem dX12_readAnd_1 : decode cX12_readAnd 1 = .ok (.invokevirtual 407, 3) := by decide +kernel
theorem G2030 : Cond.code ⟨"HookedCityModel", "readSaid", "()Z"⟩ prog_14_method_114_code 4 (some .boolean) ∈ GW := gw_i 2030 (by decide +kernel) rfl
theorem G2027 : Cond.methodLink "HookedCityModel" 407 ⟨"HookedCityModel", "readSaid", "()Z"⟩ ∈ GW := gw_i 2027 (by decide +kernel) rfl
theorem V_HookedCityModel_407 : VL "HookedCityModel" 407 yX12_readSaid cX12_readSaid 4 (some .boolean) 0 := ⟨G2030, G2027, G131, by decide +kernel, by decide +kernel, by decide +kernel⟩
theorem G2029 : Cond.instanceMethod ⟨"HookedCityModel", "readSaid", "()Z"⟩ ∈ GW := gw_i 2029 (by decide +kernel) rfl
theorem G111 : Cond.selects "HookedCityModel" ⟨"HookedCityModel", "readSaid", "()Z"⟩ ⟨"HookedCityModel", "readSaid", "()Z"⟩ ∈ GW := gw_i 111 (by decide +kernel) rfl
theorem dX12_readAnd_4 : decode cX12_readAnd 4 = .ok (.ifCond .ne 5, 3) := by decide +kernel
theorem dX12_readAnd_7 : decode cX12_readAnd 7 = .ok (.iconst 0, 1) := by decide +kernel
theorem dX12_readAnd_8 : decode cX12_readAnd 8 = .ok (.ireturn, 1) := by decide +kernel
theorem dX12_readOr_0 : decode cX12_readOr 0 = .ok (.aload_n 0, 1) := by decide +kernel
theorem dX12_readOr_1 : decode cX12_readOr 1 = .ok (.invokevirtual 398, 3) := by decide +kernel
theorem G2026 : Cond.code ⟨"HookedCityModel", "readAnd", "()Z"⟩ prog_14_method_113_code 2 (some .boolean) ∈ GW := gw_i 2026 (by decide +kernel) rfl
theorem G2023 : Cond.methodLink "HookedCityModel" 398 ⟨"HookedCityModel", "readAnd", "()Z"⟩ ∈ GW := gw_i 2023 (by decide +kernel) rfl
theorem V_HookedCityModel_398 : VL "HookedCityModel" 398 yX12_readAnd cX12_readAnd 2 (some .boolean) 0 := ⟨G2026, G2023, G131, by decide +kernel, by decide +kernel, by decide +kernel⟩
theorem G2025 : Cond.instanceMethod ⟨"HookedCityModel", "readAnd", "()Z"⟩ ∈ GW := gw_i 2025 (by decide +kernel) rfl
theorem G110 : Cond.selects "HookedCityModel" ⟨"HookedCityModel", "readAnd", "()Z"⟩ ⟨"HookedCityModel", "readAnd", "()Z"⟩ ∈ GW := gw_i 110 (by decide +kernel) rfl
theorem dX12_readOr_4 : decode cX12_readOr 4 = .ok (.ifCond .ne 5, 3) := by decide +kernel
theorem dX12_readOr_7 : decode cX12_readOr 7 = .ok (.iconst 0, 1) := by decide +kernel
theorem dX12_readOr_8 : decode cX12_readOr 8 = .ok (.ireturn, 1) := by decide +kernel
theorem dX12_sentence_0 : decode cX12_sentence 0 = .ok (.aload_n 0, 1) := by decide +kernel
theorem dX12_sentence_1 : decode cX12_sentence 1 = .ok (.sipush 200, 3) := by decide +kernel
theorem dX12_sentence_4 : decode cX12_sentence 4 = .ok (.invokevirtual 224, 3) := by decide +kernel
theorem dX12_sentence_7 : decode cX12_sentence 7 = .ok (.aload_n 0, 1) := by decide +kernel
theorem dX12_sentence_8 : decode cX12_sentence 8 = .ok (.iconst 0, 1) := by decide +kernel
theorem dX12_sentence_9 : decode cX12_sentence 9 = .ok (.putfield 395, 3) := by decide +kernel
theorem G1513 : Cond.fieldLink "HookedCityModel" 395 "HookedCityModel" "nodes" "I" ∈ GW := gw_i 1513 (by decide +kernel) rfl
theorem dX12_sentence_12 : decode cX12_sentence 12 = .ok (.aload_n 0, 1) := by decide +kernel
theorem dX12_sentence_13 : decode cX12_sentence 13 = .ok (.iconst 0, 1) := by decide +kernel
theorem dX12_sentence_14 : decode cX12_sentence 14 = .ok (.putfield 410, 3) := by decide +kernel
theorem G1514 : Cond.fieldLink "HookedCityModel" 410 "HookedCityModel" "onesMany" "I" ∈ GW := gw_i 1514 (by decide +kernel) rfl
theorem dX12_sentence_17 : decode cX12_sentence 17 = .ok (.aload_n 0, 1) := by decide +kernel
theorem dX12_sentence_18 : decode cX12_sentence 18 = .ok (.iconst 0, 1) := by decide +kernel
theorem dX12_sentence_19 : decode cX12_sentence 19 = .ok (.putfield 413, 3) := by decide +kernel
theorem G1515 : Cond.fieldLink "HookedCityModel" 413 "HookedCityModel" "within" "I" ∈ GW := gw_i 1515 (by decide +kernel) rfl
theorem dX12_sentence_22 : decode cX12_sentence 22 = .ok (.aload_n 0, 1) := by decide +kernel
theorem dX12_sentence_23 : decode cX12_sentence 23 = .ok (.invokevirtual 428, 3) := by decide +kernel
theorem G2022 : Cond.code ⟨"HookedCityModel", "readOr", "()Z"⟩ prog_14_method_112_code 2 (some .boolean) ∈ GW := gw_i 2022 (by decide +kernel) rfl
theorem G2019 : Cond.methodLink "HookedCityModel" 428 ⟨"HookedCityModel", "readOr", "()Z"⟩ ∈ GW := gw_i 2019 (by decide +kernel) rfl
theorem V_HookedCityModel_428 : VL "HookedCityModel" 428 yX12_readOr cX12_readOr 2 (some .boolean) 0 := ⟨G2022, G2019, G131, by decide +kernel, by decide +kernel, by decide +kernel⟩
theorem G2021 : Cond.instanceMethod ⟨"HookedCityModel", "readOr", "()Z"⟩ ∈ GW := gw_i 2021 (by decide +kernel) rfl
theorem G109 : Cond.selects "HookedCityModel" ⟨"HookedCityModel", "readOr", "()Z"⟩ ⟨"HookedCityModel", "readOr", "()Z"⟩ ∈ GW := gw_i 109 (by decide +kernel) rfl
theorem dX12_sentence_26 : decode cX12_sentence 26 = .ok (.ifCond .ne 10, 3) := by decide +kernel
theorem dX12_sentence_29 : decode cX12_sentence 29 = .ok (.iconst (-1), 1) := by decide +kernel
theorem dX12_sentence_30 : decode cX12_sentence 30 = .ok (.aload_n 0, 1) := by decide +kernel
theorem dX12_sentence_31 : decode cX12_sentence 31 = .ok (.getfield 69, 3) := by decide +kernel
theorem dX12_sentence_34 : decode cX12_sentence 34 = .ok (.isub, 1) := by decide +kernel
theorem dX12_sentence_35 : decode cX12_sentence 35 = .ok (.ireturn, 1) := by decide +kernel
theorem dX5_isEmpty_0 : decode cX5_isEmpty 0 = .ok (.aload_n 0, 1) := by decide +kernel
theorem dX5_isEmpty_1 : decode cX5_isEmpty 1 = .ok (.getfield 27, 3) := by decide +kernel
theorem dX5_isEmpty_4 : decode cX5_isEmpty 4 = .ok (.ifCond .ne 7, 3) := by decide +kernel
theorem dX5_isEmpty_7 : decode cX5_isEmpty 7 = .ok (.iconst 1, 1) := by decide +kernel
theorem dX5_isEmpty_8 : decode cX5_isEmpty 8 = .ok (.goto 4, 3) := by decide +kernel
theorem dX5_isEmpty_12 : decode cX5_isEmpty 12 = .ok (.ireturn, 1) := by decide +kernel
theorem dX11_said_0 : decode cX11_said 0 = .ok (.aload_n 0, 1) := by decide +kernel
theorem dX11_said_1 : decode cX11_said 1 = .ok (.getfield 84, 3) := by decide +kernel
theorem dX11_said_4 : decode cX11_said 4 = .ok (.invokevirtual 314, 3) := by decide +kernel
theorem G1304 : Cond.code ⟨"HookedCity$Sentence", "isEmpty", "()Z"⟩ prog_7_method_3_code 1 (some .boolean) ∈ GW := gw_i 1304 (by decide +kernel) rfl
theorem G1301 : Cond.methodLink "HookedCity" 314 ⟨"HookedCity$Sentence", "isEmpty", "()Z"⟩ ∈ GW := gw_i 1301 (by decide +kernel) rfl
theorem V_HookedCity_314 : VL "HookedCity" 314 yX5_isEmpty cX5_isEmpty 1 (some .boolean) 0 := ⟨G1304, G1301, G129, by decide +kernel, by decide +kernel, by decide +kernel⟩
theorem G1302 : Cond.instanceMethod ⟨"HookedCity$Sentence", "isEmpty", "()Z"⟩ ∈ GW := gw_i 1302 (by decide +kernel) rfl
theorem G1303 : Cond.selects "HookedCity$Sentence" ⟨"HookedCity$Sentence", "isEmpty", "()Z"⟩ ⟨"HookedCity$Sentence", "isEmpty", "()Z"⟩ ∈ GW := gw_i 1303 (by decide +kernel) rfl
theorem dX11_said_7 : decode cX11_said 7 = .ok (.ifCond .ne 8, 3) := by decide +kernel
theorem dX11_said_15 : decode cX11_said 15 = .ok (.iconst (-1), 1) := by decide +kernel
theorem dX11_said_16 : decode cX11_said 16 = .ok (.ireturn, 1) := by decide +kernel
theorem dX12_said_0 : decode cX12_said 0 = .ok (.aload_n 0, 1) := by decide +kernel
theorem dX12_said_1 : decode cX12_said 1 = .ok (.iconst 0, 1) := by decide +kernel
theorem dX12_said_2 : decode cX12_said 2 = .ok (.putfield 1, 3) := by decide +kernel
theorem dX12_said_5 : decode cX12_said 5 = .ok (.aload_n 0, 1) := by decide +kernel
theorem dX12_said_6 : decode cX12_said 6 = .ok (.getfield 98, 3) := by decide +kernel
theorem dX12_said_9 : decode cX12_said 9 = .ok (.bipush 87, 2) := by decide +kernel
theorem dX12_said_11 : decode cX12_said 11 = .ok (.iaload, 1) := by decide +kernel
theorem dX12_said_12 : decode cX12_said 12 = .ok (.ifCond .ne 5, 3) := by decide +kernel
theorem dX12_said_15 : decode cX12_said 15 = .ok (.iconst (-1), 1) := by decide +kernel
theorem dX12_said_16 : decode cX12_said 16 = .ok (.ireturn, 1) := by decide +kernel
set_option maxRecDepth 100000 in
set_option maxHeartbeats 4000000 in
theorem c125_X8_step (l : Launch) (D : va_G) (T : Nat → ClassId) (sz : Nat) (a0 a1 : Nat) : Met l yX8_step (Cond.code yX8_step cX8_step 1 none :: GW) (Rm 0 0 0) (cPre [.ref a0] D T [(a0, .inr (8, [.ref a1, .int 0, .int 400, .int 0, .int 0, .int 0, .null, .long 0, .int 0, .int 0, .int 0, .int 0]))] sz) (qV D [(a0, .inr (8, [.ref a1, .int 0, .int 400, .int 0, .int 0, .int 0, .null, .long 0, .int 0, .int 0, .int 0, .int 0]))] sz (fun (u : Unit) => True) (fun u => [(a0, .inr (8, [.ref a1, .int 0, .int 400, .int 0, .int 0, .int 0, .null, .long 0, .int 0, .int 0, .int 0, .int 0]))])) 0 0 (va_A [(a0, .inr (8, [.ref a1, .int 0, .int 400, .int 0, .int 0, .int 0, .null, .long 0, .int 0, .int 0, .int 0, .int 0]))] sz) := by
  refine e_V (by decide) (Nat.le_of_ble_eq_true rfl) ?_
  intro p e s m args below meth c A Q ls M hin w ret hl
  have hx := M.1.1
  have hb := M.1.2.1
  have hl : lv_has ls 1 [(0, .ref a0)] := hl
  refine lv_aload_n hx hb dX8_step_0 rfl (lv_at hl 0 rfl) ?_
  refine r_get (v := .int 0) M w 0 3 clX8 rfl (by decide) G166 rfl rfl dX8_step_1 ?_
  refine lv_aload_n hx hb dX8_step_4 rfl (lv_at hl 0 rfl) ?_
  refine r_get (v := .int 0) M w 0 1 clX8 rfl (by decide) G162 rfl rfl dX8_step_5 ?_
  refine lv_icmp_ge (tgt := 52) hx hb dX8_step_8 (by decide) (fun _ => ?_) (fun c => absurd (by decide +kernel) c)
  refine lv_aload_n hx hb dX8_step_52 rfl (lv_at hl 0 rfl) ?_
  refine lv_aload_n hx hb dX8_step_53 rfl (lv_at hl 0 rfl) ?_
  refine r_get (v := .int 0) M w 0 3 clX8 rfl (by decide) G166 rfl rfl dX8_step_54 ?_
  refine r_put (ws' := [(a0, .inr (8, [.ref a1, .int 0, .int 400, .int 0, .int 0, .int 0, .null, .long 0, .int 0, .int 0, .int 0, .int 0]))]) M w 0 4 clX8 rfl (by decide) G167 rfl rfl rfl rfl (Nat.le_of_ble_eq_true rfl) rfl dX8_step_57 (fun H locs w => ?_)
  refine lv_aload_n hx hb dX8_step_60 rfl (lv_at hl 0 rfl) ?_
  refine lv_null hx hb dX8_step_61 ?_
  refine r_put (ws' := [(a0, .inr (8, [.ref a1, .int 0, .int 400, .int 0, .int 0, .int 0, .null, .long 0, .int 0, .int 0, .int 0, .int 0]))]) M w 0 6 clX8 rfl (by decide) G170 rfl rfl rfl rfl (Nat.le_of_ble_eq_true rfl) rfl dX8_step_62 (fun H locs w => ?_)
  refine lv_aload_n hx hb dX8_step_65 rfl (lv_at hl 0 rfl) ?_
  refine r_get (v := .int 0) M w 0 1 clX8 rfl (by decide) G162 rfl rfl dX8_step_66 ?_
  refine lv_aload_n hx hb dX8_step_69 rfl (lv_at hl 0 rfl) ?_
  refine r_get (v := .int 400) M w 0 2 clX8 rfl (by decide) G165 rfl rfl dX8_step_70 ?_
  refine lv_icmp_le (tgt := 103) hx hb dX8_step_73 (by decide) (fun _ => ?_) (fun c => absurd (by decide +kernel) c)
  refine lv_aload_n hx hb dX8_step_103 rfl (lv_at hl 0 rfl) ?_
  refine r_get (v := .int 0) M w 0 3 clX8 rfl (by decide) G166 rfl rfl dX8_step_104 ?_
  refine lv_aload_n hx hb dX8_step_107 rfl (lv_at hl 0 rfl) ?_
  refine r_get (v := .int 0) M w 0 1 clX8 rfl (by decide) G162 rfl rfl dX8_step_108 ?_
  refine lv_icmp_lt (tgt := 122) hx hb dX8_step_111 (by decide) (fun c => absurd c (by decide +kernel)) (fun _ => ?_)
  refine lv_aload_n hx hb dX8_step_114 rfl (lv_at hl 0 rfl) ?_
  refine lv_iconst (v := 0) hx hb dX8_step_115 (by decide) ?_
  refine r_put (ws' := [(a0, .inr (8, [.ref a1, .int 0, .int 400, .int 0, .int 0, .int 0, .null, .long 0, .int 0, .int 0, .int 0, .int 0]))]) M w 0 5 clX8 rfl (by decide) G168 rfl rfl rfl rfl (Nat.le_of_ble_eq_true rfl) rfl dX8_step_116 (fun H locs w => ?_)
  refine lv_goto (tgt := 204) hx hb dX8_step_119 (by decide) ?_
  exact ret () _ _ _ _ _ [0] dX8_step_204 trivial w (by decide) rfl
set_option maxRecDepth 100000 in
set_option maxHeartbeats 4000000 in
theorem c126_X8_open (l : Launch) (D : va_G) (T : Nat → ClassId) (sz : Nat) (a0 a1 : Nat) : Met l yX8_open (Cond.code yX8_open cX8_open 2 none :: GW) (Rm 1 0 0) (cPre [.ref a0, .int 400] D T [(a0, .inr (8, [.ref a1, .int 0, .int 0, .int 0, .int 0, .int 0, .null, .long 0, .int 0, .int 0, .int 0, .int 0]))] sz) (qV D [(a0, .inr (8, [.ref a1, .int 0, .int 0, .int 0, .int 0, .int 0, .null, .long 0, .int 0, .int 0, .int 0, .int 0]))] sz (fun (u : Unit) => True) (fun u => [(a0, .inr (8, [.ref a1, .int 0, .int 400, .int 0, .int 0, .int 0, .null, .long 0, .int 0, .int 0, .int 0, .int 0]))])) 0 0 (va_A [(a0, .inr (8, [.ref a1, .int 0, .int 0, .int 0, .int 0, .int 0, .null, .long 0, .int 0, .int 0, .int 0, .int 0]))] sz) := by
  refine e_V (by decide) (Nat.le_of_ble_eq_true rfl) ?_
  intro p e s m args below meth c A Q ls M hin w ret hl
  have hx := M.1.1
  have hb := M.1.2.1
  have hl : lv_has ls 2 [(0, .ref a0), (1, .int 400)] := hl
  refine lv_aload_n hx hb dX8_open_0 rfl (lv_at hl 0 rfl) ?_
  refine lv_iload_n hx hb dX8_open_1 rfl (lv_at hl 1 rfl) ?_
  refine r_put (ws' := [(a0, .inr (8, [.ref a1, .int 0, .int 400, .int 0, .int 0, .int 0, .null, .long 0, .int 0, .int 0, .int 0, .int 0]))]) M w 0 2 clX8 rfl (by decide) G165 rfl rfl rfl rfl (Nat.le_of_ble_eq_true rfl) rfl dX8_open_2 (fun H locs w => ?_)
  refine lv_aload_n hx hb dX8_open_5 rfl (lv_at hl 0 rfl) ?_
  refine lv_iconst (v := 0) hx hb dX8_open_6 (by decide) ?_
  refine r_put (ws' := [(a0, .inr (8, [.ref a1, .int 0, .int 400, .int 0, .int 0, .int 0, .null, .long 0, .int 0, .int 0, .int 0, .int 0]))]) M w 0 3 clX8 rfl (by decide) G166 rfl rfl rfl rfl (Nat.le_of_ble_eq_true rfl) rfl dX8_open_7 (fun H locs w => ?_)
  refine lv_aload_n hx hb dX8_open_10 rfl (lv_at hl 0 rfl) ?_
  refine lv_iconst (v := 0) hx hb dX8_open_11 (by decide) ?_
  refine r_put (ws' := [(a0, .inr (8, [.ref a1, .int 0, .int 400, .int 0, .int 0, .int 0, .null, .long 0, .int 0, .int 0, .int 0, .int 0]))]) M w 0 10 clX8 rfl (by decide) G179 rfl rfl rfl rfl (Nat.le_of_ble_eq_true rfl) rfl dX8_open_12 (fun H locs w => ?_)
  refine lv_aload_n hx hb dX8_open_15 rfl (lv_at hl 0 rfl) ?_
  refine lv_iconst (v := 0) hx hb dX8_open_16 (by decide) ?_
  refine r_put (ws' := [(a0, .inr (8, [.ref a1, .int 0, .int 400, .int 0, .int 0, .int 0, .null, .long 0, .int 0, .int 0, .int 0, .int 0]))]) M w 0 11 clX8 rfl (by decide) G181 rfl rfl rfl rfl (Nat.le_of_ble_eq_true rfl) rfl dX8_open_17 (fun H locs w => ?_)
  refine lv_aload_n hx hb dX8_open_20 rfl (lv_at hl 0 rfl) ?_
  refine k_V (ce := 0) (sl := 0) (rest := []) (wr := []) (r_V (f := 0) [0] M w V_HookedCity_Tape_55 G587 G588 (c125_X8_step l D T _ a0 a1) 0 clX8 rfl rfl (by decide) rfl hl.1 rfl (Nat.le_of_ble_eq_true rfl) dX8_open_21 (by decide) (by decide) (by decide) (by decide)) w [0] [] rfl rfl (by decide) (by decide) rfl rfl (fun _ H locs hp w => ?_)
  have w : WD D A s.heap [(a0, .inr (8, [.ref a1, .int 0, .int 400, .int 0, .int 0, .int 0, .null, .long 0, .int 0, .int 0, .int 0, .int 0]))] H locs := w
  exact ret () _ _ _ _ _ [0] dX8_open_24 trivial w (by decide) rfl
set_option maxRecDepth 100000 in
set_option maxHeartbeats 4000000 in
theorem c127_X8_atEnd (l : Launch) (D : va_G) (T : Nat → ClassId) (sz : Nat) (a0 a1 : Nat) : Met l yX8_atEnd (Cond.code yX8_atEnd cX8_atEnd 1 (some .boolean) :: GW) (Rm 0 0 0) (cPre [.ref a0] D T [(a0, .inr (8, [.ref a1, .int 0, .int 400, .int 0, .int 0, .int 0, .null, .long 0, .int 0, .int 0, .int 0, .int 0]))] sz) (qI D [(a0, .inr (8, [.ref a1, .int 0, .int 400, .int 0, .int 0, .int 0, .null, .long 0, .int 0, .int 0, .int 0, .int 0]))] sz (fun (v : Int32) (u : Unit) => (1 : Int32) = v) (fun u => [(a0, .inr (8, [.ref a1, .int 0, .int 400, .int 0, .int 0, .int 0, .null, .long 0, .int 0, .int 0, .int 0, .int 0]))])) 0 0 (va_A [(a0, .inr (8, [.ref a1, .int 0, .int 400, .int 0, .int 0, .int 0, .null, .long 0, .int 0, .int 0, .int 0, .int 0]))] sz) := by
  refine e_Z (by decide) (Nat.le_of_ble_eq_true rfl) ?_
  intro p e s m args below meth c A Q ls M hin w ret hl
  have hx := M.1.1
  have hb := M.1.2.1
  have hl : lv_has ls 1 [(0, .ref a0)] := hl
  refine lv_aload_n hx hb dX8_atEnd_0 rfl (lv_at hl 0 rfl) ?_
  refine r_get (v := .int 0) M w 0 5 clX8 rfl (by decide) G168 rfl rfl dX8_atEnd_1 ?_
  refine lv_if_ne (tgt := 11) hx hb dX8_atEnd_4 (by decide) (fun c => absurd (by decide +kernel) c) (fun _ => ?_)
  refine lv_iconst (v := 1) hx hb dX8_atEnd_7 (by decide) ?_
  refine lv_goto (tgt := 12) hx hb dX8_atEnd_8 (by decide) ?_
  exact ret _ () _ _ _ _ _ [0] dX8_atEnd_12 (by decide +kernel) rfl w (by decide) rfl
set_option maxRecDepth 100000 in
set_option maxHeartbeats 4000000 in
theorem c128_X0_read (l : Launch) (D : va_G) (T : Nat → ClassId) (sz : Nat) (a0 a1 a2 a3 a4 a5 a6 a7 a8 : Nat) : Met l yX0_read (Cond.code yX0_read cX0_read 3 (some .boolean) :: GW) (Rm 2 0 0) (cPre [.ref a0, .ref a1, .ref a2] D T [(a0, .inr (0, [.ref a3, .ref a4, .ref a5, .ref a6, .ref a7, .int 0])), (a1, .inr (8, [.ref a8, .int 0, .int 0, .int 0, .int 0, .int 0, .null, .long 0, .int 0, .int 0, .int 0, .int 0]))] sz) (qI D [(a0, .inr (0, [.ref a3, .ref a4, .ref a5, .ref a6, .ref a7, .int 0])), (a1, .inr (8, [.ref a8, .int 0, .int 0, .int 0, .int 0, .int 0, .null, .long 0, .int 0, .int 0, .int 0, .int 0]))] sz (fun (v : Int32) (u : Unit) => (1 : Int32) = v) (fun u => [(a0, .inr (0, [.ref a3, .ref a4, .ref a5, .ref a6, .ref a7, .int 0])), (a1, .inr (8, [.ref a8, .int 0, .int 400, .int 0, .int 0, .int 0, .null, .long 0, .int 0, .int 0, .int 0, .int 0]))])) 0 0 (va_A [(a0, .inr (0, [.ref a3, .ref a4, .ref a5, .ref a6, .ref a7, .int 0])), (a1, .inr (8, [.ref a8, .int 0, .int 0, .int 0, .int 0, .int 0, .null, .long 0, .int 0, .int 0, .int 0, .int 0]))] sz) := by
  refine e_Z (by decide) (Nat.le_of_ble_eq_true rfl) ?_
  intro p e s m args below meth c A Q ls M hin w ret hl
  have hx := M.1.1
  have hb := M.1.2.1
  have hl : lv_has ls 3 [(0, .ref a0), (1, .ref a1), (2, .ref a2)] := hl
  refine lv_aload_n hx hb dX0_read_0 rfl (lv_at hl 1 rfl) ?_
  refine lv_sipush (v := 400) hx hb dX0_read_1 (by decide) ?_
  refine k_V (ce := 0) (sl := 0) (rest := []) (wr := [(a0, .inr (0, [.ref a3, .ref a4, .ref a5, .ref a6, .ref a7, .int 0]))]) (r_V (f := 1) [1] M w V_HookedCity_Book_34 G583 G584 (c126_X8_open l D T _ a1 a8) 1 clX8 rfl rfl (by decide) rfl hl.1 rfl (Nat.le_of_ble_eq_true rfl) dX0_read_4 (by decide) (by decide) (by decide) (by decide)) w [1] [0] rfl rfl (by decide) (by decide) rfl rfl (fun _ H locs hp w => ?_)
  have w : WD D A s.heap [(a0, .inr (0, [.ref a3, .ref a4, .ref a5, .ref a6, .ref a7, .int 0])), (a1, .inr (8, [.ref a8, .int 0, .int 400, .int 0, .int 0, .int 0, .null, .long 0, .int 0, .int 0, .int 0, .int 0]))] H locs := w
  refine lv_aload_n hx hb dX0_read_7 rfl (lv_at hl 0 rfl) ?_
  refine lv_iconst (v := 0) hx hb dX0_read_8 (by decide) ?_
  refine r_put (ws' := [(a0, .inr (0, [.ref a3, .ref a4, .ref a5, .ref a6, .ref a7, .int 0])), (a1, .inr (8, [.ref a8, .int 0, .int 400, .int 0, .int 0, .int 0, .null, .long 0, .int 0, .int 0, .int 0, .int 0]))]) M w 0 5 clX0 rfl (by decide) G269 rfl rfl rfl rfl (Nat.le_of_ble_eq_true rfl) rfl dX0_read_9 (fun H locs w => ?_)
  refine lv_aload_n hx hb dX0_read_12 rfl (lv_at hl 0 rfl) ?_
  refine r_get (v := .int 0) M w 0 5 clX0 rfl (by decide) G269 rfl rfl dX0_read_13 ?_
  refine lv_bipush (v := 40) hx hb dX0_read_16 (by decide) ?_
  refine lv_icmp_gt (tgt := 61) hx hb dX0_read_18 (by decide) (fun c => absurd c (by decide +kernel)) (fun _ => ?_)
  refine lv_aload_n hx hb dX0_read_21 rfl (lv_at hl 1 rfl) ?_
  refine k_I (ce := 0) (sl := 0) (rest := []) (wr := [(a0, .inr (0, [.ref a3, .ref a4, .ref a5, .ref a6, .ref a7, .int 0]))]) (r_V (f := 0) [1] M w V_HookedCity_Book_40 G696 G697 (c127_X8_atEnd l D T _ a1 a8) 1 clX8 rfl rfl (by decide) rfl hl.1 rfl (Nat.le_of_ble_eq_true rfl) dX0_read_22 (by decide) (by decide) (by decide) (by decide)) w [1] [0] rfl rfl (by decide) (by decide) rfl rfl (fun v _ H locs hp w => ?_)
  have hp : (1 : Int32) = v := hp
  subst hp
  have w : WD D A s.heap [(a0, .inr (0, [.ref a3, .ref a4, .ref a5, .ref a6, .ref a7, .int 0])), (a1, .inr (8, [.ref a8, .int 0, .int 400, .int 0, .int 0, .int 0, .null, .long 0, .int 0, .int 0, .int 0, .int 0]))] H locs := w
  refine lv_if_ne (tgt := 61) hx hb dX0_read_25 (by decide) (fun _ => ?_) (fun c => absurd c (by decide +kernel))
  refine lv_iconst (v := 1) hx hb dX0_read_61 (by decide) ?_
  exact ret _ () _ _ _ _ _ [0, 1] dX0_read_62 (by decide +kernel) rfl w (by decide) rfl
set_option maxRecDepth 100000 in
set_option maxHeartbeats 4000000 in
theorem c129_X8_empty (l : Launch) (D : va_G) (T : Nat → ClassId) (sz : Nat) (a0 a1 : Nat) : Met l yX8_empty (Cond.code yX8_empty cX8_empty 1 none :: GW) (Rm 0 0 0) (cPre [.ref a0] D T [(a0, .inr (8, [.ref a1, .int 0, .int 400, .int 0, .int 0, .int 0, .null, .long 0, .int 0, .int 0, .int 0, .int 0]))] sz) (qV D [(a0, .inr (8, [.ref a1, .int 0, .int 400, .int 0, .int 0, .int 0, .null, .long 0, .int 0, .int 0, .int 0, .int 0]))] sz (fun (u : Unit) => True) (fun u => [(a0, .inr (8, [.ref a1, .int 0, .int 400, .int 0, .int 0, .int 0, .null, .long 0, .int 0, .int 0, .int 0, .int 0]))])) 0 0 (va_A [(a0, .inr (8, [.ref a1, .int 0, .int 400, .int 0, .int 0, .int 0, .null, .long 0, .int 0, .int 0, .int 0, .int 0]))] sz) := by
  refine e_V (by decide) (Nat.le_of_ble_eq_true rfl) ?_
  intro p e s m args below meth c A Q ls M hin w ret hl
  have hx := M.1.1
  have hb := M.1.2.1
  have hl : lv_has ls 1 [(0, .ref a0)] := hl
  refine lv_aload_n hx hb dX8_empty_0 rfl (lv_at hl 0 rfl) ?_
  refine lv_iconst (v := 0) hx hb dX8_empty_1 (by decide) ?_
  refine r_put (ws' := [(a0, .inr (8, [.ref a1, .int 0, .int 400, .int 0, .int 0, .int 0, .null, .long 0, .int 0, .int 0, .int 0, .int 0]))]) M w 0 1 clX8 rfl (by decide) G162 rfl rfl rfl rfl (Nat.le_of_ble_eq_true rfl) rfl dX8_empty_2 (fun H locs w => ?_)
  exact ret () _ _ _ _ _ [0] dX8_empty_5 trivial w (by decide) rfl
set_option maxRecDepth 100000 in
set_option maxHeartbeats 4000000 in
theorem c130_X7_copy (l : Launch) (D : va_G) (T : Nat → ClassId) (sz : Nat) (a0 a1 a2 a3 a4 a5 a6 a7 a8 a9 : Nat) : Met l yX7_copy (Cond.code yX7_copy cX7_copy 2 none :: GW) (Rm 1 0 0) (cPre [.ref a0, .ref a1] D T [(a0, .inr (7, [.ref a2, .ref a3, .ref a4, .ref a5, .int 0, .int 0, .int 0, .int 0])), (a1, .inr (7, [.ref a6, .ref a7, .ref a8, .ref a9, .int 0, .int 0, .int 0, .int 0])), (a2, .inl (T 0, 9, .inl (fun _ => 0))), (a3, .inl (T 0, 9, .inl (fun _ => 0))), (a4, .inl (T 0, 9, .inl (fun _ => 0))), (a5, .inl (T 0, 3, .inl (fun _ => 0))), (a6, .inl (T 0, 9, .inl (fun _ => 0))), (a7, .inl (T 0, 9, .inl (fun _ => 0))), (a8, .inl (T 0, 9, .inl (fun _ => 0))), (a9, .inl (T 0, 3, .inl (fun _ => 0)))] sz) (qV D [(a0, .inr (7, [.ref a2, .ref a3, .ref a4, .ref a5, .int 0, .int 0, .int 0, .int 0])), (a1, .inr (7, [.ref a6, .ref a7, .ref a8, .ref a9, .int 0, .int 0, .int 0, .int 0])), (a2, .inl (T 0, 9, .inl (fun _ => 0))), (a3, .inl (T 0, 9, .inl (fun _ => 0))), (a4, .inl (T 0, 9, .inl (fun _ => 0))), (a5, .inl (T 0, 3, .inl (fun _ => 0))), (a6, .inl (T 0, 9, .inl (fun _ => 0))), (a7, .inl (T 0, 9, .inl (fun _ => 0))), (a8, .inl (T 0, 9, .inl (fun _ => 0))), (a9, .inl (T 0, 3, .inl (fun _ => 0)))] sz (fun (u : Unit) => True) (fun u => [(a0, .inr (7, [.ref a2, .ref a3, .ref a4, .ref a5, .int 0, .int 0, .int 0, .int 0])), (a1, .inr (7, [.ref a6, .ref a7, .ref a8, .ref a9, .int 0, .int 0, .int 0, .int 0])), (a2, .inl (T 0, 9, .inl cn47)), (a3, .inl (T 0, 9, .inl cn47)), (a4, .inl (T 0, 9, .inl cn47)), (a5, .inl (T 0, 3, .inl cn93)), (a6, .inl (T 0, 9, .inl (fun _ => 0))), (a7, .inl (T 0, 9, .inl (fun _ => 0))), (a8, .inl (T 0, 9, .inl (fun _ => 0))), (a9, .inl (T 0, 3, .inl (fun _ => 0)))])) 0 0 (va_A [(a0, .inr (7, [.ref a2, .ref a3, .ref a4, .ref a5, .int 0, .int 0, .int 0, .int 0])), (a1, .inr (7, [.ref a6, .ref a7, .ref a8, .ref a9, .int 0, .int 0, .int 0, .int 0])), (a2, .inl (T 0, 9, .inl (fun _ => 0))), (a3, .inl (T 0, 9, .inl (fun _ => 0))), (a4, .inl (T 0, 9, .inl (fun _ => 0))), (a5, .inl (T 0, 3, .inl (fun _ => 0))), (a6, .inl (T 0, 9, .inl (fun _ => 0))), (a7, .inl (T 0, 9, .inl (fun _ => 0))), (a8, .inl (T 0, 9, .inl (fun _ => 0))), (a9, .inl (T 0, 3, .inl (fun _ => 0)))] sz) := by
  refine e_V (by decide) (Nat.le_of_ble_eq_true rfl) ?_
  intro p e s m args below meth c A Q ls M hin w ret hl
  have hx := M.1.1
  have hb := M.1.2.1
  have hl : lv_has ls 2 [(0, .ref a0), (1, .ref a1)] := hl
  refine lv_aload_n hx hb dX7_copy_0 rfl (lv_at hl 1 rfl) ?_
  refine r_get (v := .ref a6) M w 1 0 clX7 rfl (by decide) G215 rfl rfl dX7_copy_1 ?_
  refine lv_iconst (v := 0) hx hb dX7_copy_4 (by decide) ?_
  refine lv_aload_n hx hb dX7_copy_5 rfl (lv_at hl 0 rfl) ?_
  refine r_get (v := .ref a2) M w 0 0 clX7 rfl (by decide) G215 rfl rfl dX7_copy_6 ?_
  refine lv_iconst (v := 0) hx hb dX7_copy_9 (by decide) ?_
  refine lv_bipush (v := 9) hx hb dX7_copy_10 (by decide) ?_
  refine r_copyi (ws' := [(a0, .inr (7, [.ref a2, .ref a3, .ref a4, .ref a5, .int 0, .int 0, .int 0, .int 0])), (a1, .inr (7, [.ref a6, .ref a7, .ref a8, .ref a9, .int 0, .int 0, .int 0, .int 0])), (a2, .inl (T 0, 9, .inl cn47)), (a3, .inl (T 0, 9, .inl (fun _ => 0))), (a4, .inl (T 0, 9, .inl (fun _ => 0))), (a5, .inl (T 0, 3, .inl (fun _ => 0))), (a6, .inl (T 0, 9, .inl (fun _ => 0))), (a7, .inl (T 0, 9, .inl (fun _ => 0))), (a8, .inl (T 0, 9, .inl (fun _ => 0))), (a9, .inl (T 0, 3, .inl (fun _ => 0)))]) M w 6 2 G794 G796 G795 G140 hl.1 rfl rfl (by decide) (by decide) (by decide) (by decide +kernel) (by decide +kernel) (by decide) (Nat.le_of_ble_eq_true rfl) rfl dX7_copy_12 (fun H locs w => ?_)
  refine lv_aload_n hx hb dX7_copy_15 rfl (lv_at hl 1 rfl) ?_
  refine r_get (v := .ref a7) M w 1 1 clX7 rfl (by decide) G220 rfl rfl dX7_copy_16 ?_
  refine lv_iconst (v := 0) hx hb dX7_copy_19 (by decide) ?_
  refine lv_aload_n hx hb dX7_copy_20 rfl (lv_at hl 0 rfl) ?_
  refine r_get (v := .ref a3) M w 0 1 clX7 rfl (by decide) G220 rfl rfl dX7_copy_21 ?_
  refine lv_iconst (v := 0) hx hb dX7_copy_24 (by decide) ?_
  refine lv_bipush (v := 9) hx hb dX7_copy_25 (by decide) ?_
  refine r_copyi (ws' := [(a0, .inr (7, [.ref a2, .ref a3, .ref a4, .ref a5, .int 0, .int 0, .int 0, .int 0])), (a1, .inr (7, [.ref a6, .ref a7, .ref a8, .ref a9, .int 0, .int 0, .int 0, .int 0])), (a2, .inl (T 0, 9, .inl cn47)), (a3, .inl (T 0, 9, .inl cn47)), (a4, .inl (T 0, 9, .inl (fun _ => 0))), (a5, .inl (T 0, 3, .inl (fun _ => 0))), (a6, .inl (T 0, 9, .inl (fun _ => 0))), (a7, .inl (T 0, 9, .inl (fun _ => 0))), (a8, .inl (T 0, 9, .inl (fun _ => 0))), (a9, .inl (T 0, 3, .inl (fun _ => 0)))]) M w 7 3 G794 G796 G795 G140 hl.1 rfl rfl (by decide) (by decide) (by decide) (by decide +kernel) (by decide +kernel) (by decide) (Nat.le_of_ble_eq_true rfl) rfl dX7_copy_27 (fun H locs w => ?_)
  refine lv_aload_n hx hb dX7_copy_30 rfl (lv_at hl 1 rfl) ?_
  refine r_get (v := .ref a8) M w 1 2 clX7 rfl (by decide) G224 rfl rfl dX7_copy_31 ?_
  refine lv_iconst (v := 0) hx hb dX7_copy_34 (by decide) ?_
  refine lv_aload_n hx hb dX7_copy_35 rfl (lv_at hl 0 rfl) ?_
  refine r_get (v := .ref a4) M w 0 2 clX7 rfl (by decide) G224 rfl rfl dX7_copy_36 ?_
  refine lv_iconst (v := 0) hx hb dX7_copy_39 (by decide) ?_
  refine lv_bipush (v := 9) hx hb dX7_copy_40 (by decide) ?_
  refine r_copyi (ws' := [(a0, .inr (7, [.ref a2, .ref a3, .ref a4, .ref a5, .int 0, .int 0, .int 0, .int 0])), (a1, .inr (7, [.ref a6, .ref a7, .ref a8, .ref a9, .int 0, .int 0, .int 0, .int 0])), (a2, .inl (T 0, 9, .inl cn47)), (a3, .inl (T 0, 9, .inl cn47)), (a4, .inl (T 0, 9, .inl cn47)), (a5, .inl (T 0, 3, .inl (fun _ => 0))), (a6, .inl (T 0, 9, .inl (fun _ => 0))), (a7, .inl (T 0, 9, .inl (fun _ => 0))), (a8, .inl (T 0, 9, .inl (fun _ => 0))), (a9, .inl (T 0, 3, .inl (fun _ => 0)))]) M w 8 4 G794 G796 G795 G140 hl.1 rfl rfl (by decide) (by decide) (by decide) (by decide +kernel) (by decide +kernel) (by decide) (Nat.le_of_ble_eq_true rfl) rfl dX7_copy_42 (fun H locs w => ?_)
  refine lv_aload_n hx hb dX7_copy_45 rfl (lv_at hl 1 rfl) ?_
  refine r_get (v := .ref a9) M w 1 3 clX7 rfl (by decide) G227 rfl rfl dX7_copy_46 ?_
  refine lv_iconst (v := 0) hx hb dX7_copy_49 (by decide) ?_
  refine lv_aload_n hx hb dX7_copy_50 rfl (lv_at hl 0 rfl) ?_
  refine r_get (v := .ref a5) M w 0 3 clX7 rfl (by decide) G227 rfl rfl dX7_copy_51 ?_
  refine lv_iconst (v := 0) hx hb dX7_copy_54 (by decide) ?_
  refine lv_iconst (v := 3) hx hb dX7_copy_55 (by decide) ?_
  refine r_copyi (ws' := [(a0, .inr (7, [.ref a2, .ref a3, .ref a4, .ref a5, .int 0, .int 0, .int 0, .int 0])), (a1, .inr (7, [.ref a6, .ref a7, .ref a8, .ref a9, .int 0, .int 0, .int 0, .int 0])), (a2, .inl (T 0, 9, .inl cn47)), (a3, .inl (T 0, 9, .inl cn47)), (a4, .inl (T 0, 9, .inl cn47)), (a5, .inl (T 0, 3, .inl cn93)), (a6, .inl (T 0, 9, .inl (fun _ => 0))), (a7, .inl (T 0, 9, .inl (fun _ => 0))), (a8, .inl (T 0, 9, .inl (fun _ => 0))), (a9, .inl (T 0, 3, .inl (fun _ => 0)))]) M w 9 5 G794 G796 G795 G140 hl.1 rfl rfl (by decide) (by decide) (by decide) (by decide +kernel) (by decide +kernel) (by decide) (Nat.le_of_ble_eq_true rfl) rfl dX7_copy_56 (fun H locs w => ?_)
  refine lv_aload_n hx hb dX7_copy_59 rfl (lv_at hl 0 rfl) ?_
  refine lv_aload_n hx hb dX7_copy_60 rfl (lv_at hl 1 rfl) ?_
  refine r_get (v := .int 0) M w 1 4 clX7 rfl (by decide) G229 rfl rfl dX7_copy_61 ?_
  refine r_put (ws' := [(a0, .inr (7, [.ref a2, .ref a3, .ref a4, .ref a5, .int 0, .int 0, .int 0, .int 0])), (a1, .inr (7, [.ref a6, .ref a7, .ref a8, .ref a9, .int 0, .int 0, .int 0, .int 0])), (a2, .inl (T 0, 9, .inl cn47)), (a3, .inl (T 0, 9, .inl cn47)), (a4, .inl (T 0, 9, .inl cn47)), (a5, .inl (T 0, 3, .inl cn93)), (a6, .inl (T 0, 9, .inl (fun _ => 0))), (a7, .inl (T 0, 9, .inl (fun _ => 0))), (a8, .inl (T 0, 9, .inl (fun _ => 0))), (a9, .inl (T 0, 3, .inl (fun _ => 0)))]) M w 0 4 clX7 rfl (by decide) G229 rfl rfl rfl rfl (Nat.le_of_ble_eq_true rfl) rfl dX7_copy_64 (fun H locs w => ?_)
  refine lv_aload_n hx hb dX7_copy_67 rfl (lv_at hl 0 rfl) ?_
  refine lv_aload_n hx hb dX7_copy_68 rfl (lv_at hl 1 rfl) ?_
  refine r_get (v := .int 0) M w 1 5 clX7 rfl (by decide) G232 rfl rfl dX7_copy_69 ?_
  refine r_put (ws' := [(a0, .inr (7, [.ref a2, .ref a3, .ref a4, .ref a5, .int 0, .int 0, .int 0, .int 0])), (a1, .inr (7, [.ref a6, .ref a7, .ref a8, .ref a9, .int 0, .int 0, .int 0, .int 0])), (a2, .inl (T 0, 9, .inl cn47)), (a3, .inl (T 0, 9, .inl cn47)), (a4, .inl (T 0, 9, .inl cn47)), (a5, .inl (T 0, 3, .inl cn93)), (a6, .inl (T 0, 9, .inl (fun _ => 0))), (a7, .inl (T 0, 9, .inl (fun _ => 0))), (a8, .inl (T 0, 9, .inl (fun _ => 0))), (a9, .inl (T 0, 3, .inl (fun _ => 0)))]) M w 0 5 clX7 rfl (by decide) G232 rfl rfl rfl rfl (Nat.le_of_ble_eq_true rfl) rfl dX7_copy_72 (fun H locs w => ?_)
  refine lv_aload_n hx hb dX7_copy_75 rfl (lv_at hl 0 rfl) ?_
  refine lv_aload_n hx hb dX7_copy_76 rfl (lv_at hl 1 rfl) ?_
  refine r_get (v := .int 0) M w 1 6 clX7 rfl (by decide) G234 rfl rfl dX7_copy_77 ?_
  refine r_put (ws' := [(a0, .inr (7, [.ref a2, .ref a3, .ref a4, .ref a5, .int 0, .int 0, .int 0, .int 0])), (a1, .inr (7, [.ref a6, .ref a7, .ref a8, .ref a9, .int 0, .int 0, .int 0, .int 0])), (a2, .inl (T 0, 9, .inl cn47)), (a3, .inl (T 0, 9, .inl cn47)), (a4, .inl (T 0, 9, .inl cn47)), (a5, .inl (T 0, 3, .inl cn93)), (a6, .inl (T 0, 9, .inl (fun _ => 0))), (a7, .inl (T 0, 9, .inl (fun _ => 0))), (a8, .inl (T 0, 9, .inl (fun _ => 0))), (a9, .inl (T 0, 3, .inl (fun _ => 0)))]) M w 0 6 clX7 rfl (by decide) G234 rfl rfl rfl rfl (Nat.le_of_ble_eq_true rfl) rfl dX7_copy_80 (fun H locs w => ?_)
  refine lv_aload_n hx hb dX7_copy_83 rfl (lv_at hl 0 rfl) ?_
  refine lv_aload_n hx hb dX7_copy_84 rfl (lv_at hl 1 rfl) ?_
  refine r_get (v := .int 0) M w 1 7 clX7 rfl (by decide) G236 rfl rfl dX7_copy_85 ?_
  refine r_put (ws' := [(a0, .inr (7, [.ref a2, .ref a3, .ref a4, .ref a5, .int 0, .int 0, .int 0, .int 0])), (a1, .inr (7, [.ref a6, .ref a7, .ref a8, .ref a9, .int 0, .int 0, .int 0, .int 0])), (a2, .inl (T 0, 9, .inl cn47)), (a3, .inl (T 0, 9, .inl cn47)), (a4, .inl (T 0, 9, .inl cn47)), (a5, .inl (T 0, 3, .inl cn93)), (a6, .inl (T 0, 9, .inl (fun _ => 0))), (a7, .inl (T 0, 9, .inl (fun _ => 0))), (a8, .inl (T 0, 9, .inl (fun _ => 0))), (a9, .inl (T 0, 3, .inl (fun _ => 0)))]) M w 0 7 clX7 rfl (by decide) G236 rfl rfl rfl rfl (Nat.le_of_ble_eq_true rfl) rfl dX7_copy_88 (fun H locs w => ?_)
  exact ret () _ _ _ _ _ [0, 1, 2, 3, 4, 5, 6, 7, 8, 9] dX7_copy_91 trivial w (by decide) rfl
set_option maxRecDepth 100000 in
set_option maxHeartbeats 4000000 in
theorem c131_X0_live (l : Launch) (D : va_G) (T : Nat → ClassId) (sz : Nat) (a0 a1 a2 a3 a4 a5 a6 a7 a8 a9 a10 a11 a12 a13 a14 a15 a16 a17 a18 a19 a20 : Nat) : Met l yX0_live (Cond.code yX0_live cX0_live 5 (some .int) :: GW) (Rm 1 0 0) (cPre [.ref a0, .ref a1, .ref a2] D T [(a0, .inr (0, [.ref a3, .ref a4, .ref a5, .ref a6, .ref a7, .int 0])), (a1, .inr (9, [.ref a8, .ref a9, .ref a10, .ref a11, .ref a12, .ref a13, .ref a14, .ref a15, .ref a16, .int 0, .int 0, .int 0, .int 0, .int 12, .int 1, .int 0, .int 0, .int 0])), (a2, .inr (7, [.ref a17, .ref a18, .ref a19, .ref a20, .int 0, .int 0, .int 0, .int 0])), (a7, .inl (T 0, 4, .inl cn4))] sz) (qI D [(a0, .inr (0, [.ref a3, .ref a4, .ref a5, .ref a6, .ref a7, .int 0])), (a1, .inr (9, [.ref a8, .ref a9, .ref a10, .ref a11, .ref a12, .ref a13, .ref a14, .ref a15, .ref a16, .int 0, .int 0, .int 0, .int 0, .int 12, .int 1, .int 0, .int 0, .int 0])), (a2, .inr (7, [.ref a17, .ref a18, .ref a19, .ref a20, .int 0, .int 0, .int 0, .int 0])), (a7, .inl (T 0, 4, .inl cn4))] sz (fun (v : Int32) (u : Unit) => (-1 : Int32) = v) (fun u => [(a0, .inr (0, [.ref a3, .ref a4, .ref a5, .ref a6, .ref a7, .int 0])), (a1, .inr (9, [.ref a8, .ref a9, .ref a10, .ref a11, .ref a12, .ref a13, .ref a14, .ref a15, .ref a16, .int 0, .int 0, .int 0, .int 0, .int 12, .int 1, .int 0, .int 0, .int 0])), (a2, .inr (7, [.ref a17, .ref a18, .ref a19, .ref a20, .int 0, .int 0, .int 0, .int 0])), (a7, .inl (T 0, 4, .inl cn97))])) 0 0 (va_A [(a0, .inr (0, [.ref a3, .ref a4, .ref a5, .ref a6, .ref a7, .int 0])), (a1, .inr (9, [.ref a8, .ref a9, .ref a10, .ref a11, .ref a12, .ref a13, .ref a14, .ref a15, .ref a16, .int 0, .int 0, .int 0, .int 0, .int 12, .int 1, .int 0, .int 0, .int 0])), (a2, .inr (7, [.ref a17, .ref a18, .ref a19, .ref a20, .int 0, .int 0, .int 0, .int 0])), (a7, .inl (T 0, 4, .inl cn4))] sz) := by
  refine e_I (by decide) (Nat.le_of_ble_eq_true rfl) ?_
  intro p e s m args below meth c A Q ls M hin w ret hl
  have hx := M.1.1
  have hb := M.1.2.1
  have hl : lv_has ls 5 [(0, .ref a0), (1, .ref a1), (2, .ref a2)] := hl
  refine lv_iconst (v := 0) hx hb dX0_live_0 (by decide) ?_
  refine lv_istore_n (lv' := [(3, .int 0), (0, .ref a0), (1, .ref a1), (2, .ref a2)]) hx hb dX0_live_1 rfl hl (by decide) rfl (fun ls hl => ?_)
  refine lv_iconst (v := 0) hx hb dX0_live_2 (by decide) ?_
  refine lv_istore (lv' := [(4, .int 0), (3, .int 0), (0, .ref a0), (1, .ref a1), (2, .ref a2)]) hx hb dX0_live_3 hl (by decide) rfl (fun ls hl => ?_)
  refine lv_iload hx hb dX0_live_5 (lv_at hl 0 rfl) ?_
  refine lv_aload_n hx hb dX0_live_7 rfl (lv_at hl 2 rfl) ?_
  refine r_get (v := .int 0) M w 0 5 clX0 rfl (by decide) G269 rfl rfl dX0_live_8 ?_
  refine lv_icmp_ge (tgt := 36) hx hb dX0_live_11 (by decide) (fun _ => ?_) (fun c => absurd (by decide +kernel) c)
  refine lv_aload_n hx hb dX0_live_36 rfl (lv_at hl 2 rfl) ?_
  refine r_get (v := .ref a7) M w 0 4 clX0 rfl (by decide) G267 rfl rfl dX0_live_37 ?_
  refine lv_iconst (v := 0) hx hb dX0_live_40 (by decide) ?_
  refine lv_iload_n hx hb dX0_live_41 rfl (lv_at hl 1 rfl) ?_
  refine r_iast (ws' := [(a0, .inr (0, [.ref a3, .ref a4, .ref a5, .ref a6, .ref a7, .int 0])), (a1, .inr (9, [.ref a8, .ref a9, .ref a10, .ref a11, .ref a12, .ref a13, .ref a14, .ref a15, .ref a16, .int 0, .int 0, .int 0, .int 0, .int 12, .int 1, .int 0, .int 0, .int 0])), (a2, .inr (7, [.ref a17, .ref a18, .ref a19, .ref a20, .int 0, .int 0, .int 0, .int 0])), (a7, .inl (T 0, 4, .inl cn94))]) M w 3 rfl (vin (by decide +kernel)) rfl dX0_live_42 (fun H locs w => ?_)
  refine lv_aload_n hx hb dX0_live_43 rfl (lv_at hl 2 rfl) ?_
  refine r_get (v := .ref a7) M w 0 4 clX0 rfl (by decide) G267 rfl rfl dX0_live_44 ?_
  refine lv_iconst (v := 1) hx hb dX0_live_47 (by decide) ?_
  refine lv_iload hx hb dX0_live_48 (lv_at hl 0 rfl) ?_
  refine r_iast (ws' := [(a0, .inr (0, [.ref a3, .ref a4, .ref a5, .ref a6, .ref a7, .int 0])), (a1, .inr (9, [.ref a8, .ref a9, .ref a10, .ref a11, .ref a12, .ref a13, .ref a14, .ref a15, .ref a16, .int 0, .int 0, .int 0, .int 0, .int 12, .int 1, .int 0, .int 0, .int 0])), (a2, .inr (7, [.ref a17, .ref a18, .ref a19, .ref a20, .int 0, .int 0, .int 0, .int 0])), (a7, .inl (T 0, 4, .inl cn95))]) M w 3 rfl (vin (by decide +kernel)) rfl dX0_live_50 (fun H locs w => ?_)
  refine lv_aload_n hx hb dX0_live_51 rfl (lv_at hl 2 rfl) ?_
  refine r_get (v := .ref a7) M w 0 4 clX0 rfl (by decide) G267 rfl rfl dX0_live_52 ?_
  refine lv_iconst (v := 2) hx hb dX0_live_55 (by decide) ?_
  refine lv_aload_n hx hb dX0_live_56 rfl (lv_at hl 4 rfl) ?_
  refine r_getN (v := .int 0) M w 2 4 clX7 rfl (by decide) N230 rfl rfl dX0_live_57 ?_
  refine r_iast (ws' := [(a0, .inr (0, [.ref a3, .ref a4, .ref a5, .ref a6, .ref a7, .int 0])), (a1, .inr (9, [.ref a8, .ref a9, .ref a10, .ref a11, .ref a12, .ref a13, .ref a14, .ref a15, .ref a16, .int 0, .int 0, .int 0, .int 0, .int 12, .int 1, .int 0, .int 0, .int 0])), (a2, .inr (7, [.ref a17, .ref a18, .ref a19, .ref a20, .int 0, .int 0, .int 0, .int 0])), (a7, .inl (T 0, 4, .inl cn96))]) M w 3 rfl (vin (by decide +kernel)) rfl dX0_live_60 (fun H locs w => ?_)
  refine lv_aload_n hx hb dX0_live_61 rfl (lv_at hl 2 rfl) ?_
  refine r_get (v := .ref a7) M w 0 4 clX0 rfl (by decide) G267 rfl rfl dX0_live_62 ?_
  refine lv_iconst (v := 3) hx hb dX0_live_65 (by decide) ?_
  refine lv_aload_n hx hb dX0_live_66 rfl (lv_at hl 4 rfl) ?_
  refine lv_aload_n hx hb dX0_live_67 rfl (lv_at hl 3 rfl) ?_
  refine k_I (ce := 0) (sl := 0) (rest := [.int 3, .ref a7]) (wr := [(a0, .inr (0, [.ref a3, .ref a4, .ref a5, .ref a6, .ref a7, .int 0])), (a2, .inr (7, [.ref a17, .ref a18, .ref a19, .ref a20, .int 0, .int 0, .int 0, .int 0])), (a7, .inl (T 0, 4, .inl cn96))]) (r_V (f := 0) [1] M w V_HookedCity_Book_107 G820 G821 (c56_X7_openOnes l D T _ a2 a1 a8 a9 a10 a11 a12 a13 a14 a15 a16) 2 clX7 rfl rfl (by decide) rfl hl.1 rfl (Nat.le_of_ble_eq_true rfl) dX0_live_68 (by decide) (by decide) (by decide) (by decide)) w [1] [0, 2, 3] rfl rfl (by decide) (by decide) rfl rfl (fun v _ H locs hp w => ?_)
  have hp : (0 : Int32) = v := hp
  subst hp
  have w : WD D A s.heap [(a0, .inr (0, [.ref a3, .ref a4, .ref a5, .ref a6, .ref a7, .int 0])), (a2, .inr (7, [.ref a17, .ref a18, .ref a19, .ref a20, .int 0, .int 0, .int 0, .int 0])), (a7, .inl (T 0, 4, .inl cn96)), (a1, .inr (9, [.ref a8, .ref a9, .ref a10, .ref a11, .ref a12, .ref a13, .ref a14, .ref a15, .ref a16, .int 0, .int 0, .int 0, .int 0, .int 12, .int 1, .int 0, .int 0, .int 0]))] H locs := w
  refine r_iast (ws' := [(a0, .inr (0, [.ref a3, .ref a4, .ref a5, .ref a6, .ref a7, .int 0])), (a2, .inr (7, [.ref a17, .ref a18, .ref a19, .ref a20, .int 0, .int 0, .int 0, .int 0])), (a7, .inl (T 0, 4, .inl cn97)), (a1, .inr (9, [.ref a8, .ref a9, .ref a10, .ref a11, .ref a12, .ref a13, .ref a14, .ref a15, .ref a16, .int 0, .int 0, .int 0, .int 0, .int 12, .int 1, .int 0, .int 0, .int 0]))]) M w 2 rfl (vin (by decide +kernel)) rfl dX0_live_71 (fun H locs w => ?_)
  refine lv_iload_n hx hb dX0_live_72 rfl (lv_at hl 1 rfl) ?_
  refine lv_if_ne (tgt := 80) hx hb dX0_live_73 (by decide) (fun c => absurd (by decide +kernel) c) (fun _ => ?_)
  refine lv_iconst (v := (-1)) hx hb dX0_live_76 (by decide) ?_
  refine lv_goto (tgt := 82) hx hb dX0_live_77 (by decide) ?_
  exact ret _ () _ _ _ _ _ [0, 3, 1, 2] dX0_live_82 rfl w (by decide) rfl
set_option maxRecDepth 100000 in
set_option maxHeartbeats 4000000 in
theorem c132_X11_keepAct (l : Launch) (D : va_G) (T : Nat → ClassId) (sz : Nat) (a0 a1 a2 a3 a4 a5 a6 a7 a8 a9 a10 a11 a12 a13 a14 a15 a16 a17 a18 a26 a25 a24 a23 a22 a21 a20 a19 a27 a28 a29 a30 : Nat) : Met l yX11_keepAct (Cond.code yX11_keepAct cX11_keepAct 1 none :: GW) (Rm 2 0 0) (cPre [.ref a0] D T [(a0, .inr (10, [.ref a1, .ref a2, .ref a3, .ref a4, .ref a5, .ref a6, .ref a7, .ref a8, .ref a9, .ref a10, .ref a11, .ref a12, .ref a13, .ref a14, .int 0, .int 0, .int 0])), (a2, .inr (7, [.ref a15, .ref a16, .ref a17, .ref a18, .int 0, .int 0, .int 0, .int 0])), (a9, .inl (T 3, 8, .inr (.inr (.inr (.inr (va_up (va_up (va_up (va_up (va_up (va_up (va_up (va_up (fun _ => none) (Int32.toNatClampNeg (0 : Int32)) (some a19)) (Int32.toNatClampNeg (1 : Int32)) (some a20)) (Int32.toNatClampNeg (2 : Int32)) (some a21)) (Int32.toNatClampNeg (3 : Int32)) (some a22)) (Int32.toNatClampNeg (4 : Int32)) (some a23)) (Int32.toNatClampNeg (5 : Int32)) (some a24)) (Int32.toNatClampNeg (6 : Int32)) (some a25)) (Int32.toNatClampNeg (7 : Int32)) (some a26))))))), (a15, .inl (T 0, 9, .inl (fun _ => 0))), (a16, .inl (T 0, 9, .inl (fun _ => 0))), (a17, .inl (T 0, 9, .inl (fun _ => 0))), (a18, .inl (T 0, 3, .inl (fun _ => 0))), (a19, .inr (7, [.ref a27, .ref a28, .ref a29, .ref a30, .int 0, .int 0, .int 0, .int 0])), (a27, .inl (T 0, 9, .inl (fun _ => 0))), (a28, .inl (T 0, 9, .inl (fun _ => 0))), (a29, .inl (T 0, 9, .inl (fun _ => 0))), (a30, .inl (T 0, 3, .inl (fun _ => 0)))] sz) (qV D [(a0, .inr (10, [.ref a1, .ref a2, .ref a3, .ref a4, .ref a5, .ref a6, .ref a7, .ref a8, .ref a9, .ref a10, .ref a11, .ref a12, .ref a13, .ref a14, .int 0, .int 0, .int 0])), (a2, .inr (7, [.ref a15, .ref a16, .ref a17, .ref a18, .int 0, .int 0, .int 0, .int 0])), (a9, .inl (T 3, 8, .inr (.inr (.inr (.inr (va_up (va_up (va_up (va_up (va_up (va_up (va_up (va_up (fun _ => none) (Int32.toNatClampNeg (0 : Int32)) (some a19)) (Int32.toNatClampNeg (1 : Int32)) (some a20)) (Int32.toNatClampNeg (2 : Int32)) (some a21)) (Int32.toNatClampNeg (3 : Int32)) (some a22)) (Int32.toNatClampNeg (4 : Int32)) (some a23)) (Int32.toNatClampNeg (5 : Int32)) (some a24)) (Int32.toNatClampNeg (6 : Int32)) (some a25)) (Int32.toNatClampNeg (7 : Int32)) (some a26))))))), (a15, .inl (T 0, 9, .inl (fun _ => 0))), (a16, .inl (T 0, 9, .inl (fun _ => 0))), (a17, .inl (T 0, 9, .inl (fun _ => 0))), (a18, .inl (T 0, 3, .inl (fun _ => 0))), (a19, .inr (7, [.ref a27, .ref a28, .ref a29, .ref a30, .int 0, .int 0, .int 0, .int 0])), (a27, .inl (T 0, 9, .inl (fun _ => 0))), (a28, .inl (T 0, 9, .inl (fun _ => 0))), (a29, .inl (T 0, 9, .inl (fun _ => 0))), (a30, .inl (T 0, 3, .inl (fun _ => 0)))] sz (fun (u : Unit) => True) (fun u => [(a0, .inr (10, [.ref a1, .ref a2, .ref a3, .ref a4, .ref a5, .ref a6, .ref a7, .ref a8, .ref a9, .ref a10, .ref a11, .ref a12, .ref a13, .ref a14, .int 1, .int 1, .int 0])), (a2, .inr (7, [.ref a15, .ref a16, .ref a17, .ref a18, .int 0, .int 0, .int 0, .int 0])), (a9, .inl (T 3, 8, .inr (.inr (.inr (.inr (va_up (va_up (va_up (va_up (va_up (va_up (va_up (va_up (fun _ => none) (Int32.toNatClampNeg (0 : Int32)) (some a19)) (Int32.toNatClampNeg (1 : Int32)) (some a20)) (Int32.toNatClampNeg (2 : Int32)) (some a21)) (Int32.toNatClampNeg (3 : Int32)) (some a22)) (Int32.toNatClampNeg (4 : Int32)) (some a23)) (Int32.toNatClampNeg (5 : Int32)) (some a24)) (Int32.toNatClampNeg (6 : Int32)) (some a25)) (Int32.toNatClampNeg (7 : Int32)) (some a26))))))), (a15, .inl (T 0, 9, .inl (fun _ => 0))), (a16, .inl (T 0, 9, .inl (fun _ => 0))), (a17, .inl (T 0, 9, .inl (fun _ => 0))), (a18, .inl (T 0, 3, .inl (fun _ => 0))), (a19, .inr (7, [.ref a27, .ref a28, .ref a29, .ref a30, .int 0, .int 0, .int 0, .int 0])), (a27, .inl (T 0, 9, .inl cn47)), (a28, .inl (T 0, 9, .inl cn47)), (a29, .inl (T 0, 9, .inl cn47)), (a30, .inl (T 0, 3, .inl cn93))])) 0 0 (va_A [(a0, .inr (10, [.ref a1, .ref a2, .ref a3, .ref a4, .ref a5, .ref a6, .ref a7, .ref a8, .ref a9, .ref a10, .ref a11, .ref a12, .ref a13, .ref a14, .int 0, .int 0, .int 0])), (a2, .inr (7, [.ref a15, .ref a16, .ref a17, .ref a18, .int 0, .int 0, .int 0, .int 0])), (a9, .inl (T 3, 8, .inr (.inr (.inr (.inr (va_up (va_up (va_up (va_up (va_up (va_up (va_up (va_up (fun _ => none) (Int32.toNatClampNeg (0 : Int32)) (some a19)) (Int32.toNatClampNeg (1 : Int32)) (some a20)) (Int32.toNatClampNeg (2 : Int32)) (some a21)) (Int32.toNatClampNeg (3 : Int32)) (some a22)) (Int32.toNatClampNeg (4 : Int32)) (some a23)) (Int32.toNatClampNeg (5 : Int32)) (some a24)) (Int32.toNatClampNeg (6 : Int32)) (some a25)) (Int32.toNatClampNeg (7 : Int32)) (some a26))))))), (a15, .inl (T 0, 9, .inl (fun _ => 0))), (a16, .inl (T 0, 9, .inl (fun _ => 0))), (a17, .inl (T 0, 9, .inl (fun _ => 0))), (a18, .inl (T 0, 3, .inl (fun _ => 0))), (a19, .inr (7, [.ref a27, .ref a28, .ref a29, .ref a30, .int 0, .int 0, .int 0, .int 0])), (a27, .inl (T 0, 9, .inl (fun _ => 0))), (a28, .inl (T 0, 9, .inl (fun _ => 0))), (a29, .inl (T 0, 9, .inl (fun _ => 0))), (a30, .inl (T 0, 3, .inl (fun _ => 0)))] sz) := by
  refine e_V (by decide) (Nat.le_of_ble_eq_true rfl) ?_
  intro p e s m args below meth c A Q ls M hin w ret hl
  have hx := M.1.1
  have hb := M.1.2.1
  have hl : lv_has ls 1 [(0, .ref a0)] := hl
  refine lv_aload_n hx hb dX11_keepAct_0 rfl (lv_at hl 0 rfl) ?_
  refine r_get (v := .ref a9) M w 0 8 clX11 rfl (by decide) G505 rfl rfl dX11_keepAct_1 ?_
  refine lv_aload_n hx hb dX11_keepAct_4 rfl (lv_at hl 0 rfl) ?_
  refine r_get (v := .int 0) M w 0 15 clX11 rfl (by decide) G512 rfl rfl dX11_keepAct_5 ?_
  refine r_aald (v := .ref a19) (C := "HookedCity$State") M w 2 3 rfl rfl (vin (by decide +kernel)) rfl dX11_keepAct_8 ?_
  refine lv_aload_n hx hb dX11_keepAct_9 rfl (lv_at hl 0 rfl) ?_
  refine r_get (v := .ref a2) M w 0 1 clX11 rfl (by decide) G498 rfl rfl dX11_keepAct_10 ?_
  refine k_V (ce := 0) (sl := 0) (rest := []) (wr := [(a0, .inr (10, [.ref a1, .ref a2, .ref a3, .ref a4, .ref a5, .ref a6, .ref a7, .ref a8, .ref a9, .ref a10, .ref a11, .ref a12, .ref a13, .ref a14, .int 0, .int 0, .int 0])), (a9, .inl (T 3, 8, .inr (.inr (.inr (.inr (va_up (va_up (va_up (va_up (va_up (va_up (va_up (va_up (fun _ => none) (Int32.toNatClampNeg (0 : Int32)) (some a19)) (Int32.toNatClampNeg (1 : Int32)) (some a20)) (Int32.toNatClampNeg (2 : Int32)) (some a21)) (Int32.toNatClampNeg (3 : Int32)) (some a22)) (Int32.toNatClampNeg (4 : Int32)) (some a23)) (Int32.toNatClampNeg (5 : Int32)) (some a24)) (Int32.toNatClampNeg (6 : Int32)) (some a25)) (Int32.toNatClampNeg (7 : Int32)) (some a26)))))))]) (r_V (f := 1) [7, 1, 8, 9, 10, 11, 3, 4, 5, 6] M w V_HookedCity_230 G864 G865 (c130_X7_copy l D T _ a19 a2 a27 a28 a29 a30 a15 a16 a17 a18) 7 clX7 rfl rfl (by decide) rfl hl.1 rfl (Nat.le_of_ble_eq_true rfl) dX11_keepAct_13 (by decide) (by decide) (by decide) (by decide)) w [7, 1, 8, 9, 10, 11, 3, 4, 5, 6] [0, 2] rfl rfl (by decide) (by decide) rfl rfl (fun _ H locs hp w => ?_)
  have w : WD D A s.heap [(a0, .inr (10, [.ref a1, .ref a2, .ref a3, .ref a4, .ref a5, .ref a6, .ref a7, .ref a8, .ref a9, .ref a10, .ref a11, .ref a12, .ref a13, .ref a14, .int 0, .int 0, .int 0])), (a9, .inl (T 3, 8, .inr (.inr (.inr (.inr (va_up (va_up (va_up (va_up (va_up (va_up (va_up (va_up (fun _ => none) (Int32.toNatClampNeg (0 : Int32)) (some a19)) (Int32.toNatClampNeg (1 : Int32)) (some a20)) (Int32.toNatClampNeg (2 : Int32)) (some a21)) (Int32.toNatClampNeg (3 : Int32)) (some a22)) (Int32.toNatClampNeg (4 : Int32)) (some a23)) (Int32.toNatClampNeg (5 : Int32)) (some a24)) (Int32.toNatClampNeg (6 : Int32)) (some a25)) (Int32.toNatClampNeg (7 : Int32)) (some a26))))))), (a19, .inr (7, [.ref a27, .ref a28, .ref a29, .ref a30, .int 0, .int 0, .int 0, .int 0])), (a2, .inr (7, [.ref a15, .ref a16, .ref a17, .ref a18, .int 0, .int 0, .int 0, .int 0])), (a27, .inl (T 0, 9, .inl cn47)), (a28, .inl (T 0, 9, .inl cn47)), (a29, .inl (T 0, 9, .inl cn47)), (a30, .inl (T 0, 3, .inl cn93)), (a15, .inl (T 0, 9, .inl (fun _ => 0))), (a16, .inl (T 0, 9, .inl (fun _ => 0))), (a17, .inl (T 0, 9, .inl (fun _ => 0))), (a18, .inl (T 0, 3, .inl (fun _ => 0)))] H locs := w
  refine lv_aload_n hx hb dX11_keepAct_16 rfl (lv_at hl 0 rfl) ?_
  refine lv_aload_n hx hb dX11_keepAct_17 rfl (lv_at hl 0 rfl) ?_
  refine r_get (v := .int 0) M w 0 15 clX11 rfl (by decide) G512 rfl rfl dX11_keepAct_18 ?_
  refine lv_iconst (v := 1) hx hb dX11_keepAct_21 (by decide) ?_
  refine r_iadd (v := (1 : Int32)) M (by decide +kernel) dX11_keepAct_22 ?_
  refine lv_bipush (v := 8) hx hb dX11_keepAct_23 (by decide) ?_
  refine lv_icmp_ge (tgt := 37) hx hb dX11_keepAct_25 (by decide) (fun c => absurd c (by decide +kernel)) (fun _ => ?_)
  refine lv_aload_n hx hb dX11_keepAct_28 rfl (lv_at hl 0 rfl) ?_
  refine r_get (v := .int 0) M w 0 15 clX11 rfl (by decide) G512 rfl rfl dX11_keepAct_29 ?_
  refine lv_iconst (v := 1) hx hb dX11_keepAct_32 (by decide) ?_
  refine r_iadd (v := (1 : Int32)) M (by decide +kernel) dX11_keepAct_33 ?_
  refine lv_goto (tgt := 38) hx hb dX11_keepAct_34 (by decide) ?_
  refine r_put (ws' := [(a0, .inr (10, [.ref a1, .ref a2, .ref a3, .ref a4, .ref a5, .ref a6, .ref a7, .ref a8, .ref a9, .ref a10, .ref a11, .ref a12, .ref a13, .ref a14, .int 0, .int 1, .int 0])), (a9, .inl (T 3, 8, .inr (.inr (.inr (.inr (va_up (va_up (va_up (va_up (va_up (va_up (va_up (va_up (fun _ => none) (Int32.toNatClampNeg (0 : Int32)) (some a19)) (Int32.toNatClampNeg (1 : Int32)) (some a20)) (Int32.toNatClampNeg (2 : Int32)) (some a21)) (Int32.toNatClampNeg (3 : Int32)) (some a22)) (Int32.toNatClampNeg (4 : Int32)) (some a23)) (Int32.toNatClampNeg (5 : Int32)) (some a24)) (Int32.toNatClampNeg (6 : Int32)) (some a25)) (Int32.toNatClampNeg (7 : Int32)) (some a26))))))), (a19, .inr (7, [.ref a27, .ref a28, .ref a29, .ref a30, .int 0, .int 0, .int 0, .int 0])), (a2, .inr (7, [.ref a15, .ref a16, .ref a17, .ref a18, .int 0, .int 0, .int 0, .int 0])), (a27, .inl (T 0, 9, .inl cn47)), (a28, .inl (T 0, 9, .inl cn47)), (a29, .inl (T 0, 9, .inl cn47)), (a30, .inl (T 0, 3, .inl cn93)), (a15, .inl (T 0, 9, .inl (fun _ => 0))), (a16, .inl (T 0, 9, .inl (fun _ => 0))), (a17, .inl (T 0, 9, .inl (fun _ => 0))), (a18, .inl (T 0, 3, .inl (fun _ => 0)))]) M w 0 15 clX11 rfl (by decide) G512 rfl rfl rfl rfl (Nat.le_of_ble_eq_true rfl) rfl dX11_keepAct_38 (fun H locs w => ?_)
  refine lv_aload_n hx hb dX11_keepAct_41 rfl (lv_at hl 0 rfl) ?_
  refine lv_aload_n hx hb dX11_keepAct_42 rfl (lv_at hl 0 rfl) ?_
  refine r_get (v := .int 0) M w 0 14 clX11 rfl (by decide) G511 rfl rfl dX11_keepAct_43 ?_
  refine lv_iconst (v := 1) hx hb dX11_keepAct_46 (by decide) ?_
  refine r_iadd (v := (1 : Int32)) M (by decide +kernel) dX11_keepAct_47 ?_
  refine lv_bipush (v := 8) hx hb dX11_keepAct_48 (by decide) ?_
  refine r_min (v := (1 : Int32)) M G867 G641 G136 G642 hl.1 (by decide) (Nat.le_of_ble_eq_true rfl) (by decide) (by decide) (by decide +kernel) dX11_keepAct_50 ?_
  refine r_put (ws' := [(a0, .inr (10, [.ref a1, .ref a2, .ref a3, .ref a4, .ref a5, .ref a6, .ref a7, .ref a8, .ref a9, .ref a10, .ref a11, .ref a12, .ref a13, .ref a14, .int 1, .int 1, .int 0])), (a9, .inl (T 3, 8, .inr (.inr (.inr (.inr (va_up (va_up (va_up (va_up (va_up (va_up (va_up (va_up (fun _ => none) (Int32.toNatClampNeg (0 : Int32)) (some a19)) (Int32.toNatClampNeg (1 : Int32)) (some a20)) (Int32.toNatClampNeg (2 : Int32)) (some a21)) (Int32.toNatClampNeg (3 : Int32)) (some a22)) (Int32.toNatClampNeg (4 : Int32)) (some a23)) (Int32.toNatClampNeg (5 : Int32)) (some a24)) (Int32.toNatClampNeg (6 : Int32)) (some a25)) (Int32.toNatClampNeg (7 : Int32)) (some a26))))))), (a19, .inr (7, [.ref a27, .ref a28, .ref a29, .ref a30, .int 0, .int 0, .int 0, .int 0])), (a2, .inr (7, [.ref a15, .ref a16, .ref a17, .ref a18, .int 0, .int 0, .int 0, .int 0])), (a27, .inl (T 0, 9, .inl cn47)), (a28, .inl (T 0, 9, .inl cn47)), (a29, .inl (T 0, 9, .inl cn47)), (a30, .inl (T 0, 3, .inl cn93)), (a15, .inl (T 0, 9, .inl (fun _ => 0))), (a16, .inl (T 0, 9, .inl (fun _ => 0))), (a17, .inl (T 0, 9, .inl (fun _ => 0))), (a18, .inl (T 0, 3, .inl (fun _ => 0)))]) M w 0 14 clX11 rfl (by decide) G511 rfl rfl rfl rfl (Nat.le_of_ble_eq_true rfl) rfl dX11_keepAct_53 (fun H locs w => ?_)
  exact ret () _ _ _ _ _ [0, 3, 1, 8, 9, 10, 11, 2, 4, 5, 6, 7] dX11_keepAct_56 trivial w (by decide) rfl
set_option maxRecDepth 100000 in
set_option maxHeartbeats 4000000 in
theorem c133_X7_copy (l : Launch) (D : va_G) (T : Nat → ClassId) (sz : Nat) (a0 a1 a2 a3 a4 a5 a6 a7 a8 a9 : Nat) : Met l yX7_copy (Cond.code yX7_copy cX7_copy 2 none :: GW) (Rm 1 0 0) (cPre [.ref a0, .ref a1] D T [(a0, .inr (7, [.ref a2, .ref a3, .ref a4, .ref a5, .int 0, .int 0, .int 0, .int 0])), (a1, .inr (7, [.ref a6, .ref a7, .ref a8, .ref a9, .int 0, .int 0, .int 0, .int 0])), (a2, .inl (T 0, 9, .inl (fun _ => 0))), (a3, .inl (T 0, 9, .inl (fun _ => 0))), (a4, .inl (T 0, 9, .inl (fun _ => 0))), (a5, .inl (T 0, 3, .inl (fun _ => 0))), (a6, .inl (T 0, 9, .inl cn47)), (a7, .inl (T 0, 9, .inl cn47)), (a8, .inl (T 0, 9, .inl cn47)), (a9, .inl (T 0, 3, .inl cn93))] sz) (qV D [(a0, .inr (7, [.ref a2, .ref a3, .ref a4, .ref a5, .int 0, .int 0, .int 0, .int 0])), (a1, .inr (7, [.ref a6, .ref a7, .ref a8, .ref a9, .int 0, .int 0, .int 0, .int 0])), (a2, .inl (T 0, 9, .inl (fun _ => 0))), (a3, .inl (T 0, 9, .inl (fun _ => 0))), (a4, .inl (T 0, 9, .inl (fun _ => 0))), (a5, .inl (T 0, 3, .inl (fun _ => 0))), (a6, .inl (T 0, 9, .inl cn47)), (a7, .inl (T 0, 9, .inl cn47)), (a8, .inl (T 0, 9, .inl cn47)), (a9, .inl (T 0, 3, .inl cn93))] sz (fun (u : Unit) => True) (fun u => [(a0, .inr (7, [.ref a2, .ref a3, .ref a4, .ref a5, .int 0, .int 0, .int 0, .int 0])), (a1, .inr (7, [.ref a6, .ref a7, .ref a8, .ref a9, .int 0, .int 0, .int 0, .int 0])), (a2, .inl (T 0, 9, .inl cn98)), (a3, .inl (T 0, 9, .inl cn98)), (a4, .inl (T 0, 9, .inl cn98)), (a5, .inl (T 0, 3, .inl cn99)), (a6, .inl (T 0, 9, .inl cn47)), (a7, .inl (T 0, 9, .inl cn47)), (a8, .inl (T 0, 9, .inl cn47)), (a9, .inl (T 0, 3, .inl cn93))])) 0 0 (va_A [(a0, .inr (7, [.ref a2, .ref a3, .ref a4, .ref a5, .int 0, .int 0, .int 0, .int 0])), (a1, .inr (7, [.ref a6, .ref a7, .ref a8, .ref a9, .int 0, .int 0, .int 0, .int 0])), (a2, .inl (T 0, 9, .inl (fun _ => 0))), (a3, .inl (T 0, 9, .inl (fun _ => 0))), (a4, .inl (T 0, 9, .inl (fun _ => 0))), (a5, .inl (T 0, 3, .inl (fun _ => 0))), (a6, .inl (T 0, 9, .inl cn47)), (a7, .inl (T 0, 9, .inl cn47)), (a8, .inl (T 0, 9, .inl cn47)), (a9, .inl (T 0, 3, .inl cn93))] sz) := by
  refine e_V (by decide) (Nat.le_of_ble_eq_true rfl) ?_
  intro p e s m args below meth c A Q ls M hin w ret hl
  have hx := M.1.1
  have hb := M.1.2.1
  have hl : lv_has ls 2 [(0, .ref a0), (1, .ref a1)] := hl
  refine lv_aload_n hx hb dX7_copy_0 rfl (lv_at hl 1 rfl) ?_
  refine r_get (v := .ref a6) M w 1 0 clX7 rfl (by decide) G215 rfl rfl dX7_copy_1 ?_
  refine lv_iconst (v := 0) hx hb dX7_copy_4 (by decide) ?_
  refine lv_aload_n hx hb dX7_copy_5 rfl (lv_at hl 0 rfl) ?_
  refine r_get (v := .ref a2) M w 0 0 clX7 rfl (by decide) G215 rfl rfl dX7_copy_6 ?_
  refine lv_iconst (v := 0) hx hb dX7_copy_9 (by decide) ?_
  refine lv_bipush (v := 9) hx hb dX7_copy_10 (by decide) ?_
  refine r_copyi (ws' := [(a0, .inr (7, [.ref a2, .ref a3, .ref a4, .ref a5, .int 0, .int 0, .int 0, .int 0])), (a1, .inr (7, [.ref a6, .ref a7, .ref a8, .ref a9, .int 0, .int 0, .int 0, .int 0])), (a2, .inl (T 0, 9, .inl cn98)), (a3, .inl (T 0, 9, .inl (fun _ => 0))), (a4, .inl (T 0, 9, .inl (fun _ => 0))), (a5, .inl (T 0, 3, .inl (fun _ => 0))), (a6, .inl (T 0, 9, .inl cn47)), (a7, .inl (T 0, 9, .inl cn47)), (a8, .inl (T 0, 9, .inl cn47)), (a9, .inl (T 0, 3, .inl cn93))]) M w 6 2 G794 G796 G795 G140 hl.1 rfl rfl (by decide) (by decide) (by decide) (by decide +kernel) (by decide +kernel) (by decide) (Nat.le_of_ble_eq_true rfl) rfl dX7_copy_12 (fun H locs w => ?_)
  refine lv_aload_n hx hb dX7_copy_15 rfl (lv_at hl 1 rfl) ?_
  refine r_get (v := .ref a7) M w 1 1 clX7 rfl (by decide) G220 rfl rfl dX7_copy_16 ?_
  refine lv_iconst (v := 0) hx hb dX7_copy_19 (by decide) ?_
  refine lv_aload_n hx hb dX7_copy_20 rfl (lv_at hl 0 rfl) ?_
  refine r_get (v := .ref a3) M w 0 1 clX7 rfl (by decide) G220 rfl rfl dX7_copy_21 ?_
  refine lv_iconst (v := 0) hx hb dX7_copy_24 (by decide) ?_
  refine lv_bipush (v := 9) hx hb dX7_copy_25 (by decide) ?_
  refine r_copyi (ws' := [(a0, .inr (7, [.ref a2, .ref a3, .ref a4, .ref a5, .int 0, .int 0, .int 0, .int 0])), (a1, .inr (7, [.ref a6, .ref a7, .ref a8, .ref a9, .int 0, .int 0, .int 0, .int 0])), (a2, .inl (T 0, 9, .inl cn98)), (a3, .inl (T 0, 9, .inl cn98)), (a4, .inl (T 0, 9, .inl (fun _ => 0))), (a5, .inl (T 0, 3, .inl (fun _ => 0))), (a6, .inl (T 0, 9, .inl cn47)), (a7, .inl (T 0, 9, .inl cn47)), (a8, .inl (T 0, 9, .inl cn47)), (a9, .inl (T 0, 3, .inl cn93))]) M w 7 3 G794 G796 G795 G140 hl.1 rfl rfl (by decide) (by decide) (by decide) (by decide +kernel) (by decide +kernel) (by decide) (Nat.le_of_ble_eq_true rfl) rfl dX7_copy_27 (fun H locs w => ?_)
  refine lv_aload_n hx hb dX7_copy_30 rfl (lv_at hl 1 rfl) ?_
  refine r_get (v := .ref a8) M w 1 2 clX7 rfl (by decide) G224 rfl rfl dX7_copy_31 ?_
  refine lv_iconst (v := 0) hx hb dX7_copy_34 (by decide) ?_
  refine lv_aload_n hx hb dX7_copy_35 rfl (lv_at hl 0 rfl) ?_
  refine r_get (v := .ref a4) M w 0 2 clX7 rfl (by decide) G224 rfl rfl dX7_copy_36 ?_
  refine lv_iconst (v := 0) hx hb dX7_copy_39 (by decide) ?_
  refine lv_bipush (v := 9) hx hb dX7_copy_40 (by decide) ?_
  refine r_copyi (ws' := [(a0, .inr (7, [.ref a2, .ref a3, .ref a4, .ref a5, .int 0, .int 0, .int 0, .int 0])), (a1, .inr (7, [.ref a6, .ref a7, .ref a8, .ref a9, .int 0, .int 0, .int 0, .int 0])), (a2, .inl (T 0, 9, .inl cn98)), (a3, .inl (T 0, 9, .inl cn98)), (a4, .inl (T 0, 9, .inl cn98)), (a5, .inl (T 0, 3, .inl (fun _ => 0))), (a6, .inl (T 0, 9, .inl cn47)), (a7, .inl (T 0, 9, .inl cn47)), (a8, .inl (T 0, 9, .inl cn47)), (a9, .inl (T 0, 3, .inl cn93))]) M w 8 4 G794 G796 G795 G140 hl.1 rfl rfl (by decide) (by decide) (by decide) (by decide +kernel) (by decide +kernel) (by decide) (Nat.le_of_ble_eq_true rfl) rfl dX7_copy_42 (fun H locs w => ?_)
  refine lv_aload_n hx hb dX7_copy_45 rfl (lv_at hl 1 rfl) ?_
  refine r_get (v := .ref a9) M w 1 3 clX7 rfl (by decide) G227 rfl rfl dX7_copy_46 ?_
  refine lv_iconst (v := 0) hx hb dX7_copy_49 (by decide) ?_
  refine lv_aload_n hx hb dX7_copy_50 rfl (lv_at hl 0 rfl) ?_
  refine r_get (v := .ref a5) M w 0 3 clX7 rfl (by decide) G227 rfl rfl dX7_copy_51 ?_
  refine lv_iconst (v := 0) hx hb dX7_copy_54 (by decide) ?_
  refine lv_iconst (v := 3) hx hb dX7_copy_55 (by decide) ?_
  refine r_copyi (ws' := [(a0, .inr (7, [.ref a2, .ref a3, .ref a4, .ref a5, .int 0, .int 0, .int 0, .int 0])), (a1, .inr (7, [.ref a6, .ref a7, .ref a8, .ref a9, .int 0, .int 0, .int 0, .int 0])), (a2, .inl (T 0, 9, .inl cn98)), (a3, .inl (T 0, 9, .inl cn98)), (a4, .inl (T 0, 9, .inl cn98)), (a5, .inl (T 0, 3, .inl cn99)), (a6, .inl (T 0, 9, .inl cn47)), (a7, .inl (T 0, 9, .inl cn47)), (a8, .inl (T 0, 9, .inl cn47)), (a9, .inl (T 0, 3, .inl cn93))]) M w 9 5 G794 G796 G795 G140 hl.1 rfl rfl (by decide) (by decide) (by decide) (by decide +kernel) (by decide +kernel) (by decide) (Nat.le_of_ble_eq_true rfl) rfl dX7_copy_56 (fun H locs w => ?_)
  refine lv_aload_n hx hb dX7_copy_59 rfl (lv_at hl 0 rfl) ?_
  refine lv_aload_n hx hb dX7_copy_60 rfl (lv_at hl 1 rfl) ?_
  refine r_get (v := .int 0) M w 1 4 clX7 rfl (by decide) G229 rfl rfl dX7_copy_61 ?_
  refine r_put (ws' := [(a0, .inr (7, [.ref a2, .ref a3, .ref a4, .ref a5, .int 0, .int 0, .int 0, .int 0])), (a1, .inr (7, [.ref a6, .ref a7, .ref a8, .ref a9, .int 0, .int 0, .int 0, .int 0])), (a2, .inl (T 0, 9, .inl cn98)), (a3, .inl (T 0, 9, .inl cn98)), (a4, .inl (T 0, 9, .inl cn98)), (a5, .inl (T 0, 3, .inl cn99)), (a6, .inl (T 0, 9, .inl cn47)), (a7, .inl (T 0, 9, .inl cn47)), (a8, .inl (T 0, 9, .inl cn47)), (a9, .inl (T 0, 3, .inl cn93))]) M w 0 4 clX7 rfl (by decide) G229 rfl rfl rfl rfl (Nat.le_of_ble_eq_true rfl) rfl dX7_copy_64 (fun H locs w => ?_)
  refine lv_aload_n hx hb dX7_copy_67 rfl (lv_at hl 0 rfl) ?_
  refine lv_aload_n hx hb dX7_copy_68 rfl (lv_at hl 1 rfl) ?_
  refine r_get (v := .int 0) M w 1 5 clX7 rfl (by decide) G232 rfl rfl dX7_copy_69 ?_
  refine r_put (ws' := [(a0, .inr (7, [.ref a2, .ref a3, .ref a4, .ref a5, .int 0, .int 0, .int 0, .int 0])), (a1, .inr (7, [.ref a6, .ref a7, .ref a8, .ref a9, .int 0, .int 0, .int 0, .int 0])), (a2, .inl (T 0, 9, .inl cn98)), (a3, .inl (T 0, 9, .inl cn98)), (a4, .inl (T 0, 9, .inl cn98)), (a5, .inl (T 0, 3, .inl cn99)), (a6, .inl (T 0, 9, .inl cn47)), (a7, .inl (T 0, 9, .inl cn47)), (a8, .inl (T 0, 9, .inl cn47)), (a9, .inl (T 0, 3, .inl cn93))]) M w 0 5 clX7 rfl (by decide) G232 rfl rfl rfl rfl (Nat.le_of_ble_eq_true rfl) rfl dX7_copy_72 (fun H locs w => ?_)
  refine lv_aload_n hx hb dX7_copy_75 rfl (lv_at hl 0 rfl) ?_
  refine lv_aload_n hx hb dX7_copy_76 rfl (lv_at hl 1 rfl) ?_
  refine r_get (v := .int 0) M w 1 6 clX7 rfl (by decide) G234 rfl rfl dX7_copy_77 ?_
  refine r_put (ws' := [(a0, .inr (7, [.ref a2, .ref a3, .ref a4, .ref a5, .int 0, .int 0, .int 0, .int 0])), (a1, .inr (7, [.ref a6, .ref a7, .ref a8, .ref a9, .int 0, .int 0, .int 0, .int 0])), (a2, .inl (T 0, 9, .inl cn98)), (a3, .inl (T 0, 9, .inl cn98)), (a4, .inl (T 0, 9, .inl cn98)), (a5, .inl (T 0, 3, .inl cn99)), (a6, .inl (T 0, 9, .inl cn47)), (a7, .inl (T 0, 9, .inl cn47)), (a8, .inl (T 0, 9, .inl cn47)), (a9, .inl (T 0, 3, .inl cn93))]) M w 0 6 clX7 rfl (by decide) G234 rfl rfl rfl rfl (Nat.le_of_ble_eq_true rfl) rfl dX7_copy_80 (fun H locs w => ?_)
  refine lv_aload_n hx hb dX7_copy_83 rfl (lv_at hl 0 rfl) ?_
  refine lv_aload_n hx hb dX7_copy_84 rfl (lv_at hl 1 rfl) ?_
  refine r_get (v := .int 0) M w 1 7 clX7 rfl (by decide) G236 rfl rfl dX7_copy_85 ?_
  refine r_put (ws' := [(a0, .inr (7, [.ref a2, .ref a3, .ref a4, .ref a5, .int 0, .int 0, .int 0, .int 0])), (a1, .inr (7, [.ref a6, .ref a7, .ref a8, .ref a9, .int 0, .int 0, .int 0, .int 0])), (a2, .inl (T 0, 9, .inl cn98)), (a3, .inl (T 0, 9, .inl cn98)), (a4, .inl (T 0, 9, .inl cn98)), (a5, .inl (T 0, 3, .inl cn99)), (a6, .inl (T 0, 9, .inl cn47)), (a7, .inl (T 0, 9, .inl cn47)), (a8, .inl (T 0, 9, .inl cn47)), (a9, .inl (T 0, 3, .inl cn93))]) M w 0 7 clX7 rfl (by decide) G236 rfl rfl rfl rfl (Nat.le_of_ble_eq_true rfl) rfl dX7_copy_88 (fun H locs w => ?_)
  exact ret () _ _ _ _ _ [0, 1, 2, 3, 4, 5, 6, 7, 8, 9] dX7_copy_91 trivial w (by decide) rfl
set_option maxRecDepth 100000 in
set_option maxHeartbeats 4000000 in
theorem c134_X11_book (l : Launch) (D : va_G) (T : Nat → ClassId) (sz : Nat) (a0 a1 a2 a3 a4 a5 a6 a7 a8 a9 a10 a11 a12 a13 a14 a15 a16 a17 a18 a19 a20 a21 a22 a23 a24 a25 a26 a27 a28 a36 a35 a34 a33 a32 a31 a30 a29 a37 a38 a39 a40 a41 a42 a43 a44 a45 a46 a47 a48 a49 : Nat) (x0 : Int32) : Met l yX11_book (Cond.code yX11_book cX11_book 4 (some .int) :: GW) (Rm 3 0 0) (cPre [.ref a0, .int x0] D T [(a0, .inr (10, [.ref a1, .ref a2, .ref a3, .ref a4, .ref a5, .ref a6, .ref a7, .ref a8, .ref a9, .ref a10, .ref a11, .ref a12, .ref a13, .ref a14, .int 0, .int 0, .int 0])), (a1, .inr (8, [.ref a15, .int 0, .int 0, .int 0, .int 0, .int 0, .null, .long 0, .int 0, .int 0, .int 0, .int 0])), (a2, .inr (7, [.ref a16, .ref a17, .ref a18, .ref a19, .int 0, .int 0, .int 0, .int 0])), (a3, .inr (7, [.ref a20, .ref a21, .ref a22, .ref a23, .int 0, .int 0, .int 0, .int 0])), (a4, .inr (0, [.ref a24, .ref a25, .ref a26, .ref a27, .ref a28, .int 0])), (a9, .inl (T 3, 8, .inr (.inr (.inr (.inr (va_up (va_up (va_up (va_up (va_up (va_up (va_up (va_up (fun _ => none) (Int32.toNatClampNeg (0 : Int32)) (some a29)) (Int32.toNatClampNeg (1 : Int32)) (some a30)) (Int32.toNatClampNeg (2 : Int32)) (some a31)) (Int32.toNatClampNeg (3 : Int32)) (some a32)) (Int32.toNatClampNeg (4 : Int32)) (some a33)) (Int32.toNatClampNeg (5 : Int32)) (some a34)) (Int32.toNatClampNeg (6 : Int32)) (some a35)) (Int32.toNatClampNeg (7 : Int32)) (some a36))))))), (a11, .inr (9, [.ref a37, .ref a38, .ref a39, .ref a40, .ref a41, .ref a42, .ref a43, .ref a44, .ref a45, .int 0, .int 0, .int 0, .int 0, .int 12, .int 1, .int 0, .int 0, .int 0])), (a16, .inl (T 0, 9, .inl (fun _ => 0))), (a17, .inl (T 0, 9, .inl (fun _ => 0))), (a18, .inl (T 0, 9, .inl (fun _ => 0))), (a19, .inl (T 0, 3, .inl (fun _ => 0))), (a20, .inl (T 0, 9, .inl (fun _ => 0))), (a21, .inl (T 0, 9, .inl (fun _ => 0))), (a22, .inl (T 0, 9, .inl (fun _ => 0))), (a23, .inl (T 0, 3, .inl (fun _ => 0))), (a28, .inl (T 0, 4, .inl cn4)), (a29, .inr (7, [.ref a46, .ref a47, .ref a48, .ref a49, .int 0, .int 0, .int 0, .int 0])), (a46, .inl (T 0, 9, .inl (fun _ => 0))), (a47, .inl (T 0, 9, .inl (fun _ => 0))), (a48, .inl (T 0, 9, .inl (fun _ => 0))), (a49, .inl (T 0, 3, .inl (fun _ => 0)))] sz) (qI D [(a0, .inr (10, [.ref a1, .ref a2, .ref a3, .ref a4, .ref a5, .ref a6, .ref a7, .ref a8, .ref a9, .ref a10, .ref a11, .ref a12, .ref a13, .ref a14, .int 0, .int 0, .int 0])), (a1, .inr (8, [.ref a15, .int 0, .int 0, .int 0, .int 0, .int 0, .null, .long 0, .int 0, .int 0, .int 0, .int 0])), (a2, .inr (7, [.ref a16, .ref a17, .ref a18, .ref a19, .int 0, .int 0, .int 0, .int 0])), (a3, .inr (7, [.ref a20, .ref a21, .ref a22, .ref a23, .int 0, .int 0, .int 0, .int 0])), (a4, .inr (0, [.ref a24, .ref a25, .ref a26, .ref a27, .ref a28, .int 0])), (a9, .inl (T 3, 8, .inr (.inr (.inr (.inr (va_up (va_up (va_up (va_up (va_up (va_up (va_up (va_up (fun _ => none) (Int32.toNatClampNeg (0 : Int32)) (some a29)) (Int32.toNatClampNeg (1 : Int32)) (some a30)) (Int32.toNatClampNeg (2 : Int32)) (some a31)) (Int32.toNatClampNeg (3 : Int32)) (some a32)) (Int32.toNatClampNeg (4 : Int32)) (some a33)) (Int32.toNatClampNeg (5 : Int32)) (some a34)) (Int32.toNatClampNeg (6 : Int32)) (some a35)) (Int32.toNatClampNeg (7 : Int32)) (some a36))))))), (a11, .inr (9, [.ref a37, .ref a38, .ref a39, .ref a40, .ref a41, .ref a42, .ref a43, .ref a44, .ref a45, .int 0, .int 0, .int 0, .int 0, .int 12, .int 1, .int 0, .int 0, .int 0])), (a16, .inl (T 0, 9, .inl (fun _ => 0))), (a17, .inl (T 0, 9, .inl (fun _ => 0))), (a18, .inl (T 0, 9, .inl (fun _ => 0))), (a19, .inl (T 0, 3, .inl (fun _ => 0))), (a20, .inl (T 0, 9, .inl (fun _ => 0))), (a21, .inl (T 0, 9, .inl (fun _ => 0))), (a22, .inl (T 0, 9, .inl (fun _ => 0))), (a23, .inl (T 0, 3, .inl (fun _ => 0))), (a28, .inl (T 0, 4, .inl cn4)), (a29, .inr (7, [.ref a46, .ref a47, .ref a48, .ref a49, .int 0, .int 0, .int 0, .int 0])), (a46, .inl (T 0, 9, .inl (fun _ => 0))), (a47, .inl (T 0, 9, .inl (fun _ => 0))), (a48, .inl (T 0, 9, .inl (fun _ => 0))), (a49, .inl (T 0, 3, .inl (fun _ => 0)))] sz (fun (v : Int32) (u : Unit) => (x0 = (0 : Int32) ∧ ¬ x0 = (1 : Int32) ∧ (-1 : Int32) = v) ∨ (¬ x0 = (0 : Int32) ∧ x0 = (1 : Int32) ∧ x0 = (1 : Int32) ∧ (-1 : Int32) = v) ∨ (¬ x0 = (0 : Int32) ∧ ¬ x0 = (1 : Int32) ∧ (-1000 : Int32) = v)) (fun u => [])) 0 0 (va_A [(a0, .inr (10, [.ref a1, .ref a2, .ref a3, .ref a4, .ref a5, .ref a6, .ref a7, .ref a8, .ref a9, .ref a10, .ref a11, .ref a12, .ref a13, .ref a14, .int 0, .int 0, .int 0])), (a1, .inr (8, [.ref a15, .int 0, .int 0, .int 0, .int 0, .int 0, .null, .long 0, .int 0, .int 0, .int 0, .int 0])), (a2, .inr (7, [.ref a16, .ref a17, .ref a18, .ref a19, .int 0, .int 0, .int 0, .int 0])), (a3, .inr (7, [.ref a20, .ref a21, .ref a22, .ref a23, .int 0, .int 0, .int 0, .int 0])), (a4, .inr (0, [.ref a24, .ref a25, .ref a26, .ref a27, .ref a28, .int 0])), (a9, .inl (T 3, 8, .inr (.inr (.inr (.inr (va_up (va_up (va_up (va_up (va_up (va_up (va_up (va_up (fun _ => none) (Int32.toNatClampNeg (0 : Int32)) (some a29)) (Int32.toNatClampNeg (1 : Int32)) (some a30)) (Int32.toNatClampNeg (2 : Int32)) (some a31)) (Int32.toNatClampNeg (3 : Int32)) (some a32)) (Int32.toNatClampNeg (4 : Int32)) (some a33)) (Int32.toNatClampNeg (5 : Int32)) (some a34)) (Int32.toNatClampNeg (6 : Int32)) (some a35)) (Int32.toNatClampNeg (7 : Int32)) (some a36))))))), (a11, .inr (9, [.ref a37, .ref a38, .ref a39, .ref a40, .ref a41, .ref a42, .ref a43, .ref a44, .ref a45, .int 0, .int 0, .int 0, .int 0, .int 12, .int 1, .int 0, .int 0, .int 0])), (a16, .inl (T 0, 9, .inl (fun _ => 0))), (a17, .inl (T 0, 9, .inl (fun _ => 0))), (a18, .inl (T 0, 9, .inl (fun _ => 0))), (a19, .inl (T 0, 3, .inl (fun _ => 0))), (a20, .inl (T 0, 9, .inl (fun _ => 0))), (a21, .inl (T 0, 9, .inl (fun _ => 0))), (a22, .inl (T 0, 9, .inl (fun _ => 0))), (a23, .inl (T 0, 3, .inl (fun _ => 0))), (a28, .inl (T 0, 4, .inl cn4)), (a29, .inr (7, [.ref a46, .ref a47, .ref a48, .ref a49, .int 0, .int 0, .int 0, .int 0])), (a46, .inl (T 0, 9, .inl (fun _ => 0))), (a47, .inl (T 0, 9, .inl (fun _ => 0))), (a48, .inl (T 0, 9, .inl (fun _ => 0))), (a49, .inl (T 0, 3, .inl (fun _ => 0)))] sz) := by
  refine e_I (by decide) (Nat.le_of_ble_eq_true rfl) ?_
  intro p e s m args below meth c A Q ls M hin w ret hl
  have hx := M.1.1
  have hb := M.1.2.1
  have hl : lv_has ls 4 [(0, .ref a0), (1, .int x0)] := hl
  refine lv_iload_n hx hb dX11_book_0 rfl (lv_at hl 1 rfl) ?_
  refine lv_if_eq (tgt := 13) hx hb dX11_book_1 (by decide) (fun c_1 => ?_) (fun c_1 => ?_)
  · refine lv_aload_n hx hb dX11_book_13 rfl (lv_at hl 0 rfl) ?_
    refine r_get (v := .ref a4) M w 0 3 clX11 rfl (by decide) G500 rfl rfl dX11_book_14 ?_
    refine lv_aload_n hx hb dX11_book_17 rfl (lv_at hl 0 rfl) ?_
    refine r_get (v := .ref a1) M w 0 0 clX11 rfl (by decide) G497 rfl rfl dX11_book_18 ?_
    refine lv_aload_n hx hb dX11_book_21 rfl (lv_at hl 0 rfl) ?_
    refine r_get (v := .ref a11) M w 0 10 clX11 rfl (by decide) G507 rfl rfl dX11_book_22 ?_
    refine k_I (ce := 0) (sl := 0) (rest := []) (wr := [(a0, .inr (10, [.ref a1, .ref a2, .ref a3, .ref a4, .ref a5, .ref a6, .ref a7, .ref a8, .ref a9, .ref a10, .ref a11, .ref a12, .ref a13, .ref a14, .int 0, .int 0, .int 0])), (a2, .inr (7, [.ref a16, .ref a17, .ref a18, .ref a19, .int 0, .int 0, .int 0, .int 0])), (a3, .inr (7, [.ref a20, .ref a21, .ref a22, .ref a23, .int 0, .int 0, .int 0, .int 0])), (a9, .inl (T 3, 8, .inr (.inr (.inr (.inr (va_up (va_up (va_up (va_up (va_up (va_up (va_up (va_up (fun _ => none) (Int32.toNatClampNeg (0 : Int32)) (some a29)) (Int32.toNatClampNeg (1 : Int32)) (some a30)) (Int32.toNatClampNeg (2 : Int32)) (some a31)) (Int32.toNatClampNeg (3 : Int32)) (some a32)) (Int32.toNatClampNeg (4 : Int32)) (some a33)) (Int32.toNatClampNeg (5 : Int32)) (some a34)) (Int32.toNatClampNeg (6 : Int32)) (some a35)) (Int32.toNatClampNeg (7 : Int32)) (some a36))))))), (a11, .inr (9, [.ref a37, .ref a38, .ref a39, .ref a40, .ref a41, .ref a42, .ref a43, .ref a44, .ref a45, .int 0, .int 0, .int 0, .int 0, .int 12, .int 1, .int 0, .int 0, .int 0])), (a16, .inl (T 0, 9, .inl (fun _ => 0))), (a17, .inl (T 0, 9, .inl (fun _ => 0))), (a18, .inl (T 0, 9, .inl (fun _ => 0))), (a19, .inl (T 0, 3, .inl (fun _ => 0))), (a20, .inl (T 0, 9, .inl (fun _ => 0))), (a21, .inl (T 0, 9, .inl (fun _ => 0))), (a22, .inl (T 0, 9, .inl (fun _ => 0))), (a23, .inl (T 0, 3, .inl (fun _ => 0))), (a28, .inl (T 0, 4, .inl cn4)), (a29, .inr (7, [.ref a46, .ref a47, .ref a48, .ref a49, .int 0, .int 0, .int 0, .int 0])), (a46, .inl (T 0, 9, .inl (fun _ => 0))), (a47, .inl (T 0, 9, .inl (fun _ => 0))), (a48, .inl (T 0, 9, .inl (fun _ => 0))), (a49, .inl (T 0, 3, .inl (fun _ => 0)))]) (r_V (f := 2) [4, 1] M w V_HookedCity_301 G1164 G1165 (c128_X0_read l D T _ a4 a1 a11 a24 a25 a26 a27 a28 a15) 4 clX0 rfl rfl (by decide) rfl hl.1 rfl (Nat.le_of_ble_eq_true rfl) dX11_book_25 (by decide) (by decide) (by decide) (by decide)) w [4, 1] [0, 2, 3, 5, 6, 7, 8, 9, 10, 11, 12, 13, 14, 15, 16, 17, 18, 19, 20] rfl rfl (by decide) (by decide) rfl rfl (fun v _ H locs hp w => ?_)
    have hp : (1 : Int32) = v := hp
    subst hp
    have w : WD D A s.heap [(a0, .inr (10, [.ref a1, .ref a2, .ref a3, .ref a4, .ref a5, .ref a6, .ref a7, .ref a8, .ref a9, .ref a10, .ref a11, .ref a12, .ref a13, .ref a14, .int 0, .int 0, .int 0])), (a2, .inr (7, [.ref a16, .ref a17, .ref a18, .ref a19, .int 0, .int 0, .int 0, .int 0])), (a3, .inr (7, [.ref a20, .ref a21, .ref a22, .ref a23, .int 0, .int 0, .int 0, .int 0])), (a9, .inl (T 3, 8, .inr (.inr (.inr (.inr (va_up (va_up (va_up (va_up (va_up (va_up (va_up (va_up (fun _ => none) (Int32.toNatClampNeg (0 : Int32)) (some a29)) (Int32.toNatClampNeg (1 : Int32)) (some a30)) (Int32.toNatClampNeg (2 : Int32)) (some a31)) (Int32.toNatClampNeg (3 : Int32)) (some a32)) (Int32.toNatClampNeg (4 : Int32)) (some a33)) (Int32.toNatClampNeg (5 : Int32)) (some a34)) (Int32.toNatClampNeg (6 : Int32)) (some a35)) (Int32.toNatClampNeg (7 : Int32)) (some a36))))))), (a11, .inr (9, [.ref a37, .ref a38, .ref a39, .ref a40, .ref a41, .ref a42, .ref a43, .ref a44, .ref a45, .int 0, .int 0, .int 0, .int 0, .int 12, .int 1, .int 0, .int 0, .int 0])), (a16, .inl (T 0, 9, .inl (fun _ => 0))), (a17, .inl (T 0, 9, .inl (fun _ => 0))), (a18, .inl (T 0, 9, .inl (fun _ => 0))), (a19, .inl (T 0, 3, .inl (fun _ => 0))), (a20, .inl (T 0, 9, .inl (fun _ => 0))), (a21, .inl (T 0, 9, .inl (fun _ => 0))), (a22, .inl (T 0, 9, .inl (fun _ => 0))), (a23, .inl (T 0, 3, .inl (fun _ => 0))), (a28, .inl (T 0, 4, .inl cn4)), (a29, .inr (7, [.ref a46, .ref a47, .ref a48, .ref a49, .int 0, .int 0, .int 0, .int 0])), (a46, .inl (T 0, 9, .inl (fun _ => 0))), (a47, .inl (T 0, 9, .inl (fun _ => 0))), (a48, .inl (T 0, 9, .inl (fun _ => 0))), (a49, .inl (T 0, 3, .inl (fun _ => 0))), (a4, .inr (0, [.ref a24, .ref a25, .ref a26, .ref a27, .ref a28, .int 0])), (a1, .inr (8, [.ref a15, .int 0, .int 400, .int 0, .int 0, .int 0, .null, .long 0, .int 0, .int 0, .int 0, .int 0]))] H locs := w
    refine lv_istore_n (lv' := [(2, .int 1), (0, .ref a0), (1, .int x0)]) hx hb dX11_book_28 rfl hl (by decide) rfl (fun ls hl => ?_)
    refine lv_aload_n hx hb dX11_book_29 rfl (lv_at hl 1 rfl) ?_
    refine r_get (v := .ref a1) M w 0 0 clX11 rfl (by decide) G497 rfl rfl dX11_book_30 ?_
    refine k_V (ce := 0) (sl := 0) (rest := []) (wr := [(a0, .inr (10, [.ref a1, .ref a2, .ref a3, .ref a4, .ref a5, .ref a6, .ref a7, .ref a8, .ref a9, .ref a10, .ref a11, .ref a12, .ref a13, .ref a14, .int 0, .int 0, .int 0])), (a2, .inr (7, [.ref a16, .ref a17, .ref a18, .ref a19, .int 0, .int 0, .int 0, .int 0])), (a3, .inr (7, [.ref a20, .ref a21, .ref a22, .ref a23, .int 0, .int 0, .int 0, .int 0])), (a9, .inl (T 3, 8, .inr (.inr (.inr (.inr (va_up (va_up (va_up (va_up (va_up (va_up (va_up (va_up (fun _ => none) (Int32.toNatClampNeg (0 : Int32)) (some a29)) (Int32.toNatClampNeg (1 : Int32)) (some a30)) (Int32.toNatClampNeg (2 : Int32)) (some a31)) (Int32.toNatClampNeg (3 : Int32)) (some a32)) (Int32.toNatClampNeg (4 : Int32)) (some a33)) (Int32.toNatClampNeg (5 : Int32)) (some a34)) (Int32.toNatClampNeg (6 : Int32)) (some a35)) (Int32.toNatClampNeg (7 : Int32)) (some a36))))))), (a11, .inr (9, [.ref a37, .ref a38, .ref a39, .ref a40, .ref a41, .ref a42, .ref a43, .ref a44, .ref a45, .int 0, .int 0, .int 0, .int 0, .int 12, .int 1, .int 0, .int 0, .int 0])), (a16, .inl (T 0, 9, .inl (fun _ => 0))), (a17, .inl (T 0, 9, .inl (fun _ => 0))), (a18, .inl (T 0, 9, .inl (fun _ => 0))), (a19, .inl (T 0, 3, .inl (fun _ => 0))), (a20, .inl (T 0, 9, .inl (fun _ => 0))), (a21, .inl (T 0, 9, .inl (fun _ => 0))), (a22, .inl (T 0, 9, .inl (fun _ => 0))), (a23, .inl (T 0, 3, .inl (fun _ => 0))), (a28, .inl (T 0, 4, .inl cn4)), (a29, .inr (7, [.ref a46, .ref a47, .ref a48, .ref a49, .int 0, .int 0, .int 0, .int 0])), (a46, .inl (T 0, 9, .inl (fun _ => 0))), (a47, .inl (T 0, 9, .inl (fun _ => 0))), (a48, .inl (T 0, 9, .inl (fun _ => 0))), (a49, .inl (T 0, 3, .inl (fun _ => 0))), (a4, .inr (0, [.ref a24, .ref a25, .ref a26, .ref a27, .ref a28, .int 0]))]) (r_V (f := 0) [20] M w V_HookedCity_115 G787 G788 (c129_X8_empty l D T _ a1 a15) 20 clX8 rfl rfl (by decide) rfl hl.1 rfl (Nat.le_of_ble_eq_true rfl) dX11_book_33 (by decide) (by decide) (by decide) (by decide)) w [20] [0, 1, 2, 3, 4, 5, 6, 7, 8, 9, 10, 11, 12, 13, 14, 15, 16, 17, 18, 19] rfl rfl (by decide) (by decide) rfl rfl (fun _ H locs hp w => ?_)
    have w : WD D A s.heap [(a0, .inr (10, [.ref a1, .ref a2, .ref a3, .ref a4, .ref a5, .ref a6, .ref a7, .ref a8, .ref a9, .ref a10, .ref a11, .ref a12, .ref a13, .ref a14, .int 0, .int 0, .int 0])), (a2, .inr (7, [.ref a16, .ref a17, .ref a18, .ref a19, .int 0, .int 0, .int 0, .int 0])), (a3, .inr (7, [.ref a20, .ref a21, .ref a22, .ref a23, .int 0, .int 0, .int 0, .int 0])), (a9, .inl (T 3, 8, .inr (.inr (.inr (.inr (va_up (va_up (va_up (va_up (va_up (va_up (va_up (va_up (fun _ => none) (Int32.toNatClampNeg (0 : Int32)) (some a29)) (Int32.toNatClampNeg (1 : Int32)) (some a30)) (Int32.toNatClampNeg (2 : Int32)) (some a31)) (Int32.toNatClampNeg (3 : Int32)) (some a32)) (Int32.toNatClampNeg (4 : Int32)) (some a33)) (Int32.toNatClampNeg (5 : Int32)) (some a34)) (Int32.toNatClampNeg (6 : Int32)) (some a35)) (Int32.toNatClampNeg (7 : Int32)) (some a36))))))), (a11, .inr (9, [.ref a37, .ref a38, .ref a39, .ref a40, .ref a41, .ref a42, .ref a43, .ref a44, .ref a45, .int 0, .int 0, .int 0, .int 0, .int 12, .int 1, .int 0, .int 0, .int 0])), (a16, .inl (T 0, 9, .inl (fun _ => 0))), (a17, .inl (T 0, 9, .inl (fun _ => 0))), (a18, .inl (T 0, 9, .inl (fun _ => 0))), (a19, .inl (T 0, 3, .inl (fun _ => 0))), (a20, .inl (T 0, 9, .inl (fun _ => 0))), (a21, .inl (T 0, 9, .inl (fun _ => 0))), (a22, .inl (T 0, 9, .inl (fun _ => 0))), (a23, .inl (T 0, 3, .inl (fun _ => 0))), (a28, .inl (T 0, 4, .inl cn4)), (a29, .inr (7, [.ref a46, .ref a47, .ref a48, .ref a49, .int 0, .int 0, .int 0, .int 0])), (a46, .inl (T 0, 9, .inl (fun _ => 0))), (a47, .inl (T 0, 9, .inl (fun _ => 0))), (a48, .inl (T 0, 9, .inl (fun _ => 0))), (a49, .inl (T 0, 3, .inl (fun _ => 0))), (a4, .inr (0, [.ref a24, .ref a25, .ref a26, .ref a27, .ref a28, .int 0])), (a1, .inr (8, [.ref a15, .int 0, .int 400, .int 0, .int 0, .int 0, .null, .long 0, .int 0, .int 0, .int 0, .int 0]))] H locs := w
    refine lv_iload_n hx hb dX11_book_36 rfl (lv_at hl 0 rfl) ?_
    refine lv_if_ne (tgt := 51) hx hb dX11_book_37 (by decide) (fun _ => ?_) (fun c => absurd c (by decide +kernel))
    refine lv_aload_n hx hb dX11_book_51 rfl (lv_at hl 1 rfl) ?_
    refine r_get (v := .ref a3) M w 0 2 clX11 rfl (by decide) G499 rfl rfl dX11_book_52 ?_
    refine lv_aload_n hx hb dX11_book_55 rfl (lv_at hl 1 rfl) ?_
    refine r_get (v := .ref a2) M w 0 1 clX11 rfl (by decide) G498 rfl rfl dX11_book_56 ?_
    refine k_V (ce := 0) (sl := 0) (rest := []) (wr := [(a0, .inr (10, [.ref a1, .ref a2, .ref a3, .ref a4, .ref a5, .ref a6, .ref a7, .ref a8, .ref a9, .ref a10, .ref a11, .ref a12, .ref a13, .ref a14, .int 0, .int 0, .int 0])), (a9, .inl (T 3, 8, .inr (.inr (.inr (.inr (va_up (va_up (va_up (va_up (va_up (va_up (va_up (va_up (fun _ => none) (Int32.toNatClampNeg (0 : Int32)) (some a29)) (Int32.toNatClampNeg (1 : Int32)) (some a30)) (Int32.toNatClampNeg (2 : Int32)) (some a31)) (Int32.toNatClampNeg (3 : Int32)) (some a32)) (Int32.toNatClampNeg (4 : Int32)) (some a33)) (Int32.toNatClampNeg (5 : Int32)) (some a34)) (Int32.toNatClampNeg (6 : Int32)) (some a35)) (Int32.toNatClampNeg (7 : Int32)) (some a36))))))), (a11, .inr (9, [.ref a37, .ref a38, .ref a39, .ref a40, .ref a41, .ref a42, .ref a43, .ref a44, .ref a45, .int 0, .int 0, .int 0, .int 0, .int 12, .int 1, .int 0, .int 0, .int 0])), (a28, .inl (T 0, 4, .inl cn4)), (a29, .inr (7, [.ref a46, .ref a47, .ref a48, .ref a49, .int 0, .int 0, .int 0, .int 0])), (a46, .inl (T 0, 9, .inl (fun _ => 0))), (a47, .inl (T 0, 9, .inl (fun _ => 0))), (a48, .inl (T 0, 9, .inl (fun _ => 0))), (a49, .inl (T 0, 3, .inl (fun _ => 0))), (a4, .inr (0, [.ref a24, .ref a25, .ref a26, .ref a27, .ref a28, .int 0])), (a1, .inr (8, [.ref a15, .int 0, .int 400, .int 0, .int 0, .int 0, .null, .long 0, .int 0, .int 0, .int 0, .int 0]))]) (r_V (f := 1) [2, 1, 9, 10, 11, 12, 5, 6, 7, 8] M w V_HookedCity_230 G864 G865 (c130_X7_copy l D T _ a3 a2 a20 a21 a22 a23 a16 a17 a18 a19) 2 clX7 rfl rfl (by decide) rfl hl.1 rfl (Nat.le_of_ble_eq_true rfl) dX11_book_59 (by decide) (by decide) (by decide) (by decide)) w [2, 1, 9, 10, 11, 12, 5, 6, 7, 8] [0, 3, 4, 13, 14, 15, 16, 17, 18, 19, 20] rfl rfl (by decide) (by decide) rfl rfl (fun _ H locs hp w => ?_)
    have w : WD D A s.heap [(a0, .inr (10, [.ref a1, .ref a2, .ref a3, .ref a4, .ref a5, .ref a6, .ref a7, .ref a8, .ref a9, .ref a10, .ref a11, .ref a12, .ref a13, .ref a14, .int 0, .int 0, .int 0])), (a9, .inl (T 3, 8, .inr (.inr (.inr (.inr (va_up (va_up (va_up (va_up (va_up (va_up (va_up (va_up (fun _ => none) (Int32.toNatClampNeg (0 : Int32)) (some a29)) (Int32.toNatClampNeg (1 : Int32)) (some a30)) (Int32.toNatClampNeg (2 : Int32)) (some a31)) (Int32.toNatClampNeg (3 : Int32)) (some a32)) (Int32.toNatClampNeg (4 : Int32)) (some a33)) (Int32.toNatClampNeg (5 : Int32)) (some a34)) (Int32.toNatClampNeg (6 : Int32)) (some a35)) (Int32.toNatClampNeg (7 : Int32)) (some a36))))))), (a11, .inr (9, [.ref a37, .ref a38, .ref a39, .ref a40, .ref a41, .ref a42, .ref a43, .ref a44, .ref a45, .int 0, .int 0, .int 0, .int 0, .int 12, .int 1, .int 0, .int 0, .int 0])), (a28, .inl (T 0, 4, .inl cn4)), (a29, .inr (7, [.ref a46, .ref a47, .ref a48, .ref a49, .int 0, .int 0, .int 0, .int 0])), (a46, .inl (T 0, 9, .inl (fun _ => 0))), (a47, .inl (T 0, 9, .inl (fun _ => 0))), (a48, .inl (T 0, 9, .inl (fun _ => 0))), (a49, .inl (T 0, 3, .inl (fun _ => 0))), (a4, .inr (0, [.ref a24, .ref a25, .ref a26, .ref a27, .ref a28, .int 0])), (a1, .inr (8, [.ref a15, .int 0, .int 400, .int 0, .int 0, .int 0, .null, .long 0, .int 0, .int 0, .int 0, .int 0])), (a3, .inr (7, [.ref a20, .ref a21, .ref a22, .ref a23, .int 0, .int 0, .int 0, .int 0])), (a2, .inr (7, [.ref a16, .ref a17, .ref a18, .ref a19, .int 0, .int 0, .int 0, .int 0])), (a20, .inl (T 0, 9, .inl cn47)), (a21, .inl (T 0, 9, .inl cn47)), (a22, .inl (T 0, 9, .inl cn47)), (a23, .inl (T 0, 3, .inl cn93)), (a16, .inl (T 0, 9, .inl (fun _ => 0))), (a17, .inl (T 0, 9, .inl (fun _ => 0))), (a18, .inl (T 0, 9, .inl (fun _ => 0))), (a19, .inl (T 0, 3, .inl (fun _ => 0)))] H locs := w
    refine lv_aload_n hx hb dX11_book_62 rfl (lv_at hl 1 rfl) ?_
    refine r_get (v := .ref a4) M w 0 3 clX11 rfl (by decide) G500 rfl rfl dX11_book_63 ?_
    refine lv_aload_n hx hb dX11_book_66 rfl (lv_at hl 1 rfl) ?_
    refine r_get (v := .ref a11) M w 0 10 clX11 rfl (by decide) G507 rfl rfl dX11_book_67 ?_
    refine lv_aload_n hx hb dX11_book_70 rfl (lv_at hl 1 rfl) ?_
    refine r_get (v := .ref a3) M w 0 2 clX11 rfl (by decide) G499 rfl rfl dX11_book_71 ?_
    refine k_I (ce := 0) (sl := 0) (rest := []) (wr := [(a0, .inr (10, [.ref a1, .ref a2, .ref a3, .ref a4, .ref a5, .ref a6, .ref a7, .ref a8, .ref a9, .ref a10, .ref a11, .ref a12, .ref a13, .ref a14, .int 0, .int 0, .int 0])), (a9, .inl (T 3, 8, .inr (.inr (.inr (.inr (va_up (va_up (va_up (va_up (va_up (va_up (va_up (va_up (fun _ => none) (Int32.toNatClampNeg (0 : Int32)) (some a29)) (Int32.toNatClampNeg (1 : Int32)) (some a30)) (Int32.toNatClampNeg (2 : Int32)) (some a31)) (Int32.toNatClampNeg (3 : Int32)) (some a32)) (Int32.toNatClampNeg (4 : Int32)) (some a33)) (Int32.toNatClampNeg (5 : Int32)) (some a34)) (Int32.toNatClampNeg (6 : Int32)) (some a35)) (Int32.toNatClampNeg (7 : Int32)) (some a36))))))), (a29, .inr (7, [.ref a46, .ref a47, .ref a48, .ref a49, .int 0, .int 0, .int 0, .int 0])), (a46, .inl (T 0, 9, .inl (fun _ => 0))), (a47, .inl (T 0, 9, .inl (fun _ => 0))), (a48, .inl (T 0, 9, .inl (fun _ => 0))), (a49, .inl (T 0, 3, .inl (fun _ => 0))), (a1, .inr (8, [.ref a15, .int 0, .int 400, .int 0, .int 0, .int 0, .null, .long 0, .int 0, .int 0, .int 0, .int 0])), (a2, .inr (7, [.ref a16, .ref a17, .ref a18, .ref a19, .int 0, .int 0, .int 0, .int 0])), (a20, .inl (T 0, 9, .inl cn47)), (a21, .inl (T 0, 9, .inl cn47)), (a22, .inl (T 0, 9, .inl cn47)), (a23, .inl (T 0, 3, .inl cn93)), (a16, .inl (T 0, 9, .inl (fun _ => 0))), (a17, .inl (T 0, 9, .inl (fun _ => 0))), (a18, .inl (T 0, 9, .inl (fun _ => 0))), (a19, .inl (T 0, 3, .inl (fun _ => 0)))]) (r_V (f := 1) [9, 2, 11, 3] M w V_HookedCity_304 G1203 G1204 (c131_X0_live l D T _ a4 a11 a3 a24 a25 a26 a27 a28 a37 a38 a39 a40 a41 a42 a43 a44 a45 a20 a21 a22 a23) 9 clX0 rfl rfl (by decide) rfl hl.1 rfl (Nat.le_of_ble_eq_true rfl) dX11_book_74 (by decide) (by decide) (by decide) (by decide)) w [9, 2, 11, 3] [0, 1, 4, 5, 6, 7, 8, 10, 12, 13, 14, 15, 16, 17, 18, 19, 20] rfl rfl (by decide) (by decide) rfl rfl (fun v _ H locs hp w => ?_)
    have hp : (-1 : Int32) = v := hp
    subst hp
    have w : WD D A s.heap [(a0, .inr (10, [.ref a1, .ref a2, .ref a3, .ref a4, .ref a5, .ref a6, .ref a7, .ref a8, .ref a9, .ref a10, .ref a11, .ref a12, .ref a13, .ref a14, .int 0, .int 0, .int 0])), (a9, .inl (T 3, 8, .inr (.inr (.inr (.inr (va_up (va_up (va_up (va_up (va_up (va_up (va_up (va_up (fun _ => none) (Int32.toNatClampNeg (0 : Int32)) (some a29)) (Int32.toNatClampNeg (1 : Int32)) (some a30)) (Int32.toNatClampNeg (2 : Int32)) (some a31)) (Int32.toNatClampNeg (3 : Int32)) (some a32)) (Int32.toNatClampNeg (4 : Int32)) (some a33)) (Int32.toNatClampNeg (5 : Int32)) (some a34)) (Int32.toNatClampNeg (6 : Int32)) (some a35)) (Int32.toNatClampNeg (7 : Int32)) (some a36))))))), (a29, .inr (7, [.ref a46, .ref a47, .ref a48, .ref a49, .int 0, .int 0, .int 0, .int 0])), (a46, .inl (T 0, 9, .inl (fun _ => 0))), (a47, .inl (T 0, 9, .inl (fun _ => 0))), (a48, .inl (T 0, 9, .inl (fun _ => 0))), (a49, .inl (T 0, 3, .inl (fun _ => 0))), (a1, .inr (8, [.ref a15, .int 0, .int 400, .int 0, .int 0, .int 0, .null, .long 0, .int 0, .int 0, .int 0, .int 0])), (a2, .inr (7, [.ref a16, .ref a17, .ref a18, .ref a19, .int 0, .int 0, .int 0, .int 0])), (a20, .inl (T 0, 9, .inl cn47)), (a21, .inl (T 0, 9, .inl cn47)), (a22, .inl (T 0, 9, .inl cn47)), (a23, .inl (T 0, 3, .inl cn93)), (a16, .inl (T 0, 9, .inl (fun _ => 0))), (a17, .inl (T 0, 9, .inl (fun _ => 0))), (a18, .inl (T 0, 9, .inl (fun _ => 0))), (a19, .inl (T 0, 3, .inl (fun _ => 0))), (a4, .inr (0, [.ref a24, .ref a25, .ref a26, .ref a27, .ref a28, .int 0])), (a11, .inr (9, [.ref a37, .ref a38, .ref a39, .ref a40, .ref a41, .ref a42, .ref a43, .ref a44, .ref a45, .int 0, .int 0, .int 0, .int 0, .int 12, .int 1, .int 0, .int 0, .int 0])), (a3, .inr (7, [.ref a20, .ref a21, .ref a22, .ref a23, .int 0, .int 0, .int 0, .int 0])), (a28, .inl (T 0, 4, .inl cn97))] H locs := w
    refine lv_istore_n (lv' := [(3, .int (-1)), (2, .int 1), (0, .ref a0), (1, .int x0)]) hx hb dX11_book_77 rfl hl (by decide) rfl (fun ls hl => ?_)
    refine lv_iload_n hx hb dX11_book_78 rfl (lv_at hl 3 rfl) ?_
    refine lv_iconst (v := 1) hx hb dX11_book_79 (by decide) ?_
    refine lv_icmp_ne (tgt := 98) hx hb dX11_book_80 (by decide) (fun c_2 => ?_) (fun c_2 => ?_)
    · refine lv_iload_n hx hb dX11_book_98 rfl (lv_at hl 0 rfl) ?_
      exact ret _ () _ _ _ _ _ [] dX11_book_99 (Or.inl ⟨c_1, c_2, rfl⟩) w (by decide) rfl
    · exfalso
      simp only [fa_lt, fa_le, fa_eq] at c_1 c_2
      have e0 : (0 : Int32).toInt = 0 := (by decide)
      have e1 : (1 : Int32).toInt = 1 := (by decide)
      omega
  · refine lv_iload_n hx hb dX11_book_4 rfl (lv_at hl 1 rfl) ?_
    refine lv_iconst (v := 1) hx hb dX11_book_5 (by decide) ?_
    refine lv_icmp_eq (tgt := 13) hx hb dX11_book_6 (by decide) (fun c_3 => ?_) (fun c_3 => ?_)
    · refine lv_aload_n hx hb dX11_book_13 rfl (lv_at hl 0 rfl) ?_
      refine r_get (v := .ref a4) M w 0 3 clX11 rfl (by decide) G500 rfl rfl dX11_book_14 ?_
      refine lv_aload_n hx hb dX11_book_17 rfl (lv_at hl 0 rfl) ?_
      refine r_get (v := .ref a1) M w 0 0 clX11 rfl (by decide) G497 rfl rfl dX11_book_18 ?_
      refine lv_aload_n hx hb dX11_book_21 rfl (lv_at hl 0 rfl) ?_
      refine r_get (v := .ref a11) M w 0 10 clX11 rfl (by decide) G507 rfl rfl dX11_book_22 ?_
      refine k_I (ce := 0) (sl := 0) (rest := []) (wr := [(a0, .inr (10, [.ref a1, .ref a2, .ref a3, .ref a4, .ref a5, .ref a6, .ref a7, .ref a8, .ref a9, .ref a10, .ref a11, .ref a12, .ref a13, .ref a14, .int 0, .int 0, .int 0])), (a2, .inr (7, [.ref a16, .ref a17, .ref a18, .ref a19, .int 0, .int 0, .int 0, .int 0])), (a3, .inr (7, [.ref a20, .ref a21, .ref a22, .ref a23, .int 0, .int 0, .int 0, .int 0])), (a9, .inl (T 3, 8, .inr (.inr (.inr (.inr (va_up (va_up (va_up (va_up (va_up (va_up (va_up (va_up (fun _ => none) (Int32.toNatClampNeg (0 : Int32)) (some a29)) (Int32.toNatClampNeg (1 : Int32)) (some a30)) (Int32.toNatClampNeg (2 : Int32)) (some a31)) (Int32.toNatClampNeg (3 : Int32)) (some a32)) (Int32.toNatClampNeg (4 : Int32)) (some a33)) (Int32.toNatClampNeg (5 : Int32)) (some a34)) (Int32.toNatClampNeg (6 : Int32)) (some a35)) (Int32.toNatClampNeg (7 : Int32)) (some a36))))))), (a11, .inr (9, [.ref a37, .ref a38, .ref a39, .ref a40, .ref a41, .ref a42, .ref a43, .ref a44, .ref a45, .int 0, .int 0, .int 0, .int 0, .int 12, .int 1, .int 0, .int 0, .int 0])), (a16, .inl (T 0, 9, .inl (fun _ => 0))), (a17, .inl (T 0, 9, .inl (fun _ => 0))), (a18, .inl (T 0, 9, .inl (fun _ => 0))), (a19, .inl (T 0, 3, .inl (fun _ => 0))), (a20, .inl (T 0, 9, .inl (fun _ => 0))), (a21, .inl (T 0, 9, .inl (fun _ => 0))), (a22, .inl (T 0, 9, .inl (fun _ => 0))), (a23, .inl (T 0, 3, .inl (fun _ => 0))), (a28, .inl (T 0, 4, .inl cn4)), (a29, .inr (7, [.ref a46, .ref a47, .ref a48, .ref a49, .int 0, .int 0, .int 0, .int 0])), (a46, .inl (T 0, 9, .inl (fun _ => 0))), (a47, .inl (T 0, 9, .inl (fun _ => 0))), (a48, .inl (T 0, 9, .inl (fun _ => 0))), (a49, .inl (T 0, 3, .inl (fun _ => 0)))]) (r_V (f := 2) [4, 1] M w V_HookedCity_301 G1164 G1165 (c128_X0_read l D T _ a4 a1 a11 a24 a25 a26 a27 a28 a15) 4 clX0 rfl rfl (by decide) rfl hl.1 rfl (Nat.le_of_ble_eq_true rfl) dX11_book_25 (by decide) (by decide) (by decide) (by decide)) w [4, 1] [0, 2, 3, 5, 6, 7, 8, 9, 10, 11, 12, 13, 14, 15, 16, 17, 18, 19, 20] rfl rfl (by decide) (by decide) rfl rfl (fun v _ H locs hp w => ?_)
      have hp : (1 : Int32) = v := hp
      subst hp
      have w : WD D A s.heap [(a0, .inr (10, [.ref a1, .ref a2, .ref a3, .ref a4, .ref a5, .ref a6, .ref a7, .ref a8, .ref a9, .ref a10, .ref a11, .ref a12, .ref a13, .ref a14, .int 0, .int 0, .int 0])), (a2, .inr (7, [.ref a16, .ref a17, .ref a18, .ref a19, .int 0, .int 0, .int 0, .int 0])), (a3, .inr (7, [.ref a20, .ref a21, .ref a22, .ref a23, .int 0, .int 0, .int 0, .int 0])), (a9, .inl (T 3, 8, .inr (.inr (.inr (.inr (va_up (va_up (va_up (va_up (va_up (va_up (va_up (va_up (fun _ => none) (Int32.toNatClampNeg (0 : Int32)) (some a29)) (Int32.toNatClampNeg (1 : Int32)) (some a30)) (Int32.toNatClampNeg (2 : Int32)) (some a31)) (Int32.toNatClampNeg (3 : Int32)) (some a32)) (Int32.toNatClampNeg (4 : Int32)) (some a33)) (Int32.toNatClampNeg (5 : Int32)) (some a34)) (Int32.toNatClampNeg (6 : Int32)) (some a35)) (Int32.toNatClampNeg (7 : Int32)) (some a36))))))), (a11, .inr (9, [.ref a37, .ref a38, .ref a39, .ref a40, .ref a41, .ref a42, .ref a43, .ref a44, .ref a45, .int 0, .int 0, .int 0, .int 0, .int 12, .int 1, .int 0, .int 0, .int 0])), (a16, .inl (T 0, 9, .inl (fun _ => 0))), (a17, .inl (T 0, 9, .inl (fun _ => 0))), (a18, .inl (T 0, 9, .inl (fun _ => 0))), (a19, .inl (T 0, 3, .inl (fun _ => 0))), (a20, .inl (T 0, 9, .inl (fun _ => 0))), (a21, .inl (T 0, 9, .inl (fun _ => 0))), (a22, .inl (T 0, 9, .inl (fun _ => 0))), (a23, .inl (T 0, 3, .inl (fun _ => 0))), (a28, .inl (T 0, 4, .inl cn4)), (a29, .inr (7, [.ref a46, .ref a47, .ref a48, .ref a49, .int 0, .int 0, .int 0, .int 0])), (a46, .inl (T 0, 9, .inl (fun _ => 0))), (a47, .inl (T 0, 9, .inl (fun _ => 0))), (a48, .inl (T 0, 9, .inl (fun _ => 0))), (a49, .inl (T 0, 3, .inl (fun _ => 0))), (a4, .inr (0, [.ref a24, .ref a25, .ref a26, .ref a27, .ref a28, .int 0])), (a1, .inr (8, [.ref a15, .int 0, .int 400, .int 0, .int 0, .int 0, .null, .long 0, .int 0, .int 0, .int 0, .int 0]))] H locs := w
      refine lv_istore_n (lv' := [(2, .int 1), (0, .ref a0), (1, .int x0)]) hx hb dX11_book_28 rfl hl (by decide) rfl (fun ls hl => ?_)
      refine lv_aload_n hx hb dX11_book_29 rfl (lv_at hl 1 rfl) ?_
      refine r_get (v := .ref a1) M w 0 0 clX11 rfl (by decide) G497 rfl rfl dX11_book_30 ?_
      refine k_V (ce := 0) (sl := 0) (rest := []) (wr := [(a0, .inr (10, [.ref a1, .ref a2, .ref a3, .ref a4, .ref a5, .ref a6, .ref a7, .ref a8, .ref a9, .ref a10, .ref a11, .ref a12, .ref a13, .ref a14, .int 0, .int 0, .int 0])), (a2, .inr (7, [.ref a16, .ref a17, .ref a18, .ref a19, .int 0, .int 0, .int 0, .int 0])), (a3, .inr (7, [.ref a20, .ref a21, .ref a22, .ref a23, .int 0, .int 0, .int 0, .int 0])), (a9, .inl (T 3, 8, .inr (.inr (.inr (.inr (va_up (va_up (va_up (va_up (va_up (va_up (va_up (va_up (fun _ => none) (Int32.toNatClampNeg (0 : Int32)) (some a29)) (Int32.toNatClampNeg (1 : Int32)) (some a30)) (Int32.toNatClampNeg (2 : Int32)) (some a31)) (Int32.toNatClampNeg (3 : Int32)) (some a32)) (Int32.toNatClampNeg (4 : Int32)) (some a33)) (Int32.toNatClampNeg (5 : Int32)) (some a34)) (Int32.toNatClampNeg (6 : Int32)) (some a35)) (Int32.toNatClampNeg (7 : Int32)) (some a36))))))), (a11, .inr (9, [.ref a37, .ref a38, .ref a39, .ref a40, .ref a41, .ref a42, .ref a43, .ref a44, .ref a45, .int 0, .int 0, .int 0, .int 0, .int 12, .int 1, .int 0, .int 0, .int 0])), (a16, .inl (T 0, 9, .inl (fun _ => 0))), (a17, .inl (T 0, 9, .inl (fun _ => 0))), (a18, .inl (T 0, 9, .inl (fun _ => 0))), (a19, .inl (T 0, 3, .inl (fun _ => 0))), (a20, .inl (T 0, 9, .inl (fun _ => 0))), (a21, .inl (T 0, 9, .inl (fun _ => 0))), (a22, .inl (T 0, 9, .inl (fun _ => 0))), (a23, .inl (T 0, 3, .inl (fun _ => 0))), (a28, .inl (T 0, 4, .inl cn4)), (a29, .inr (7, [.ref a46, .ref a47, .ref a48, .ref a49, .int 0, .int 0, .int 0, .int 0])), (a46, .inl (T 0, 9, .inl (fun _ => 0))), (a47, .inl (T 0, 9, .inl (fun _ => 0))), (a48, .inl (T 0, 9, .inl (fun _ => 0))), (a49, .inl (T 0, 3, .inl (fun _ => 0))), (a4, .inr (0, [.ref a24, .ref a25, .ref a26, .ref a27, .ref a28, .int 0]))]) (r_V (f := 0) [20] M w V_HookedCity_115 G787 G788 (c129_X8_empty l D T _ a1 a15) 20 clX8 rfl rfl (by decide) rfl hl.1 rfl (Nat.le_of_ble_eq_true rfl) dX11_book_33 (by decide) (by decide) (by decide) (by decide)) w [20] [0, 1, 2, 3, 4, 5, 6, 7, 8, 9, 10, 11, 12, 13, 14, 15, 16, 17, 18, 19] rfl rfl (by decide) (by decide) rfl rfl (fun _ H locs hp w => ?_)
      have w : WD D A s.heap [(a0, .inr (10, [.ref a1, .ref a2, .ref a3, .ref a4, .ref a5, .ref a6, .ref a7, .ref a8, .ref a9, .ref a10, .ref a11, .ref a12, .ref a13, .ref a14, .int 0, .int 0, .int 0])), (a2, .inr (7, [.ref a16, .ref a17, .ref a18, .ref a19, .int 0, .int 0, .int 0, .int 0])), (a3, .inr (7, [.ref a20, .ref a21, .ref a22, .ref a23, .int 0, .int 0, .int 0, .int 0])), (a9, .inl (T 3, 8, .inr (.inr (.inr (.inr (va_up (va_up (va_up (va_up (va_up (va_up (va_up (va_up (fun _ => none) (Int32.toNatClampNeg (0 : Int32)) (some a29)) (Int32.toNatClampNeg (1 : Int32)) (some a30)) (Int32.toNatClampNeg (2 : Int32)) (some a31)) (Int32.toNatClampNeg (3 : Int32)) (some a32)) (Int32.toNatClampNeg (4 : Int32)) (some a33)) (Int32.toNatClampNeg (5 : Int32)) (some a34)) (Int32.toNatClampNeg (6 : Int32)) (some a35)) (Int32.toNatClampNeg (7 : Int32)) (some a36))))))), (a11, .inr (9, [.ref a37, .ref a38, .ref a39, .ref a40, .ref a41, .ref a42, .ref a43, .ref a44, .ref a45, .int 0, .int 0, .int 0, .int 0, .int 12, .int 1, .int 0, .int 0, .int 0])), (a16, .inl (T 0, 9, .inl (fun _ => 0))), (a17, .inl (T 0, 9, .inl (fun _ => 0))), (a18, .inl (T 0, 9, .inl (fun _ => 0))), (a19, .inl (T 0, 3, .inl (fun _ => 0))), (a20, .inl (T 0, 9, .inl (fun _ => 0))), (a21, .inl (T 0, 9, .inl (fun _ => 0))), (a22, .inl (T 0, 9, .inl (fun _ => 0))), (a23, .inl (T 0, 3, .inl (fun _ => 0))), (a28, .inl (T 0, 4, .inl cn4)), (a29, .inr (7, [.ref a46, .ref a47, .ref a48, .ref a49, .int 0, .int 0, .int 0, .int 0])), (a46, .inl (T 0, 9, .inl (fun _ => 0))), (a47, .inl (T 0, 9, .inl (fun _ => 0))), (a48, .inl (T 0, 9, .inl (fun _ => 0))), (a49, .inl (T 0, 3, .inl (fun _ => 0))), (a4, .inr (0, [.ref a24, .ref a25, .ref a26, .ref a27, .ref a28, .int 0])), (a1, .inr (8, [.ref a15, .int 0, .int 400, .int 0, .int 0, .int 0, .null, .long 0, .int 0, .int 0, .int 0, .int 0]))] H locs := w
      refine lv_iload_n hx hb dX11_book_36 rfl (lv_at hl 0 rfl) ?_
      refine lv_if_ne (tgt := 51) hx hb dX11_book_37 (by decide) (fun _ => ?_) (fun c => absurd c (by decide +kernel))
      refine lv_aload_n hx hb dX11_book_51 rfl (lv_at hl 1 rfl) ?_
      refine r_get (v := .ref a3) M w 0 2 clX11 rfl (by decide) G499 rfl rfl dX11_book_52 ?_
      refine lv_aload_n hx hb dX11_book_55 rfl (lv_at hl 1 rfl) ?_
      refine r_get (v := .ref a2) M w 0 1 clX11 rfl (by decide) G498 rfl rfl dX11_book_56 ?_
      refine k_V (ce := 0) (sl := 0) (rest := []) (wr := [(a0, .inr (10, [.ref a1, .ref a2, .ref a3, .ref a4, .ref a5, .ref a6, .ref a7, .ref a8, .ref a9, .ref a10, .ref a11, .ref a12, .ref a13, .ref a14, .int 0, .int 0, .int 0])), (a9, .inl (T 3, 8, .inr (.inr (.inr (.inr (va_up (va_up (va_up (va_up (va_up (va_up (va_up (va_up (fun _ => none) (Int32.toNatClampNeg (0 : Int32)) (some a29)) (Int32.toNatClampNeg (1 : Int32)) (some a30)) (Int32.toNatClampNeg (2 : Int32)) (some a31)) (Int32.toNatClampNeg (3 : Int32)) (some a32)) (Int32.toNatClampNeg (4 : Int32)) (some a33)) (Int32.toNatClampNeg (5 : Int32)) (some a34)) (Int32.toNatClampNeg (6 : Int32)) (some a35)) (Int32.toNatClampNeg (7 : Int32)) (some a36))))))), (a11, .inr (9, [.ref a37, .ref a38, .ref a39, .ref a40, .ref a41, .ref a42, .ref a43, .ref a44, .ref a45, .int 0, .int 0, .int 0, .int 0, .int 12, .int 1, .int 0, .int 0, .int 0])), (a28, .inl (T 0, 4, .inl cn4)), (a29, .inr (7, [.ref a46, .ref a47, .ref a48, .ref a49, .int 0, .int 0, .int 0, .int 0])), (a46, .inl (T 0, 9, .inl (fun _ => 0))), (a47, .inl (T 0, 9, .inl (fun _ => 0))), (a48, .inl (T 0, 9, .inl (fun _ => 0))), (a49, .inl (T 0, 3, .inl (fun _ => 0))), (a4, .inr (0, [.ref a24, .ref a25, .ref a26, .ref a27, .ref a28, .int 0])), (a1, .inr (8, [.ref a15, .int 0, .int 400, .int 0, .int 0, .int 0, .null, .long 0, .int 0, .int 0, .int 0, .int 0]))]) (r_V (f := 1) [2, 1, 9, 10, 11, 12, 5, 6, 7, 8] M w V_HookedCity_230 G864 G865 (c130_X7_copy l D T _ a3 a2 a20 a21 a22 a23 a16 a17 a18 a19) 2 clX7 rfl rfl (by decide) rfl hl.1 rfl (Nat.le_of_ble_eq_true rfl) dX11_book_59 (by decide) (by decide) (by decide) (by decide)) w [2, 1, 9, 10, 11, 12, 5, 6, 7, 8] [0, 3, 4, 13, 14, 15, 16, 17, 18, 19, 20] rfl rfl (by decide) (by decide) rfl rfl (fun _ H locs hp w => ?_)
      have w : WD D A s.heap [(a0, .inr (10, [.ref a1, .ref a2, .ref a3, .ref a4, .ref a5, .ref a6, .ref a7, .ref a8, .ref a9, .ref a10, .ref a11, .ref a12, .ref a13, .ref a14, .int 0, .int 0, .int 0])), (a9, .inl (T 3, 8, .inr (.inr (.inr (.inr (va_up (va_up (va_up (va_up (va_up (va_up (va_up (va_up (fun _ => none) (Int32.toNatClampNeg (0 : Int32)) (some a29)) (Int32.toNatClampNeg (1 : Int32)) (some a30)) (Int32.toNatClampNeg (2 : Int32)) (some a31)) (Int32.toNatClampNeg (3 : Int32)) (some a32)) (Int32.toNatClampNeg (4 : Int32)) (some a33)) (Int32.toNatClampNeg (5 : Int32)) (some a34)) (Int32.toNatClampNeg (6 : Int32)) (some a35)) (Int32.toNatClampNeg (7 : Int32)) (some a36))))))), (a11, .inr (9, [.ref a37, .ref a38, .ref a39, .ref a40, .ref a41, .ref a42, .ref a43, .ref a44, .ref a45, .int 0, .int 0, .int 0, .int 0, .int 12, .int 1, .int 0, .int 0, .int 0])), (a28, .inl (T 0, 4, .inl cn4)), (a29, .inr (7, [.ref a46, .ref a47, .ref a48, .ref a49, .int 0, .int 0, .int 0, .int 0])), (a46, .inl (T 0, 9, .inl (fun _ => 0))), (a47, .inl (T 0, 9, .inl (fun _ => 0))), (a48, .inl (T 0, 9, .inl (fun _ => 0))), (a49, .inl (T 0, 3, .inl (fun _ => 0))), (a4, .inr (0, [.ref a24, .ref a25, .ref a26, .ref a27, .ref a28, .int 0])), (a1, .inr (8, [.ref a15, .int 0, .int 400, .int 0, .int 0, .int 0, .null, .long 0, .int 0, .int 0, .int 0, .int 0])), (a3, .inr (7, [.ref a20, .ref a21, .ref a22, .ref a23, .int 0, .int 0, .int 0, .int 0])), (a2, .inr (7, [.ref a16, .ref a17, .ref a18, .ref a19, .int 0, .int 0, .int 0, .int 0])), (a20, .inl (T 0, 9, .inl cn47)), (a21, .inl (T 0, 9, .inl cn47)), (a22, .inl (T 0, 9, .inl cn47)), (a23, .inl (T 0, 3, .inl cn93)), (a16, .inl (T 0, 9, .inl (fun _ => 0))), (a17, .inl (T 0, 9, .inl (fun _ => 0))), (a18, .inl (T 0, 9, .inl (fun _ => 0))), (a19, .inl (T 0, 3, .inl (fun _ => 0)))] H locs := w
      refine lv_aload_n hx hb dX11_book_62 rfl (lv_at hl 1 rfl) ?_
      refine r_get (v := .ref a4) M w 0 3 clX11 rfl (by decide) G500 rfl rfl dX11_book_63 ?_
      refine lv_aload_n hx hb dX11_book_66 rfl (lv_at hl 1 rfl) ?_
      refine r_get (v := .ref a11) M w 0 10 clX11 rfl (by decide) G507 rfl rfl dX11_book_67 ?_
      refine lv_aload_n hx hb dX11_book_70 rfl (lv_at hl 1 rfl) ?_
      refine r_get (v := .ref a3) M w 0 2 clX11 rfl (by decide) G499 rfl rfl dX11_book_71 ?_
      refine k_I (ce := 0) (sl := 0) (rest := []) (wr := [(a0, .inr (10, [.ref a1, .ref a2, .ref a3, .ref a4, .ref a5, .ref a6, .ref a7, .ref a8, .ref a9, .ref a10, .ref a11, .ref a12, .ref a13, .ref a14, .int 0, .int 0, .int 0])), (a9, .inl (T 3, 8, .inr (.inr (.inr (.inr (va_up (va_up (va_up (va_up (va_up (va_up (va_up (va_up (fun _ => none) (Int32.toNatClampNeg (0 : Int32)) (some a29)) (Int32.toNatClampNeg (1 : Int32)) (some a30)) (Int32.toNatClampNeg (2 : Int32)) (some a31)) (Int32.toNatClampNeg (3 : Int32)) (some a32)) (Int32.toNatClampNeg (4 : Int32)) (some a33)) (Int32.toNatClampNeg (5 : Int32)) (some a34)) (Int32.toNatClampNeg (6 : Int32)) (some a35)) (Int32.toNatClampNeg (7 : Int32)) (some a36))))))), (a29, .inr (7, [.ref a46, .ref a47, .ref a48, .ref a49, .int 0, .int 0, .int 0, .int 0])), (a46, .inl (T 0, 9, .inl (fun _ => 0))), (a47, .inl (T 0, 9, .inl (fun _ => 0))), (a48, .inl (T 0, 9, .inl (fun _ => 0))), (a49, .inl (T 0, 3, .inl (fun _ => 0))), (a1, .inr (8, [.ref a15, .int 0, .int 400, .int 0, .int 0, .int 0, .null, .long 0, .int 0, .int 0, .int 0, .int 0])), (a2, .inr (7, [.ref a16, .ref a17, .ref a18, .ref a19, .int 0, .int 0, .int 0, .int 0])), (a20, .inl (T 0, 9, .inl cn47)), (a21, .inl (T 0, 9, .inl cn47)), (a22, .inl (T 0, 9, .inl cn47)), (a23, .inl (T 0, 3, .inl cn93)), (a16, .inl (T 0, 9, .inl (fun _ => 0))), (a17, .inl (T 0, 9, .inl (fun _ => 0))), (a18, .inl (T 0, 9, .inl (fun _ => 0))), (a19, .inl (T 0, 3, .inl (fun _ => 0)))]) (r_V (f := 1) [9, 2, 11, 3] M w V_HookedCity_304 G1203 G1204 (c131_X0_live l D T _ a4 a11 a3 a24 a25 a26 a27 a28 a37 a38 a39 a40 a41 a42 a43 a44 a45 a20 a21 a22 a23) 9 clX0 rfl rfl (by decide) rfl hl.1 rfl (Nat.le_of_ble_eq_true rfl) dX11_book_74 (by decide) (by decide) (by decide) (by decide)) w [9, 2, 11, 3] [0, 1, 4, 5, 6, 7, 8, 10, 12, 13, 14, 15, 16, 17, 18, 19, 20] rfl rfl (by decide) (by decide) rfl rfl (fun v _ H locs hp w => ?_)
      have hp : (-1 : Int32) = v := hp
      subst hp
      have w : WD D A s.heap [(a0, .inr (10, [.ref a1, .ref a2, .ref a3, .ref a4, .ref a5, .ref a6, .ref a7, .ref a8, .ref a9, .ref a10, .ref a11, .ref a12, .ref a13, .ref a14, .int 0, .int 0, .int 0])), (a9, .inl (T 3, 8, .inr (.inr (.inr (.inr (va_up (va_up (va_up (va_up (va_up (va_up (va_up (va_up (fun _ => none) (Int32.toNatClampNeg (0 : Int32)) (some a29)) (Int32.toNatClampNeg (1 : Int32)) (some a30)) (Int32.toNatClampNeg (2 : Int32)) (some a31)) (Int32.toNatClampNeg (3 : Int32)) (some a32)) (Int32.toNatClampNeg (4 : Int32)) (some a33)) (Int32.toNatClampNeg (5 : Int32)) (some a34)) (Int32.toNatClampNeg (6 : Int32)) (some a35)) (Int32.toNatClampNeg (7 : Int32)) (some a36))))))), (a29, .inr (7, [.ref a46, .ref a47, .ref a48, .ref a49, .int 0, .int 0, .int 0, .int 0])), (a46, .inl (T 0, 9, .inl (fun _ => 0))), (a47, .inl (T 0, 9, .inl (fun _ => 0))), (a48, .inl (T 0, 9, .inl (fun _ => 0))), (a49, .inl (T 0, 3, .inl (fun _ => 0))), (a1, .inr (8, [.ref a15, .int 0, .int 400, .int 0, .int 0, .int 0, .null, .long 0, .int 0, .int 0, .int 0, .int 0])), (a2, .inr (7, [.ref a16, .ref a17, .ref a18, .ref a19, .int 0, .int 0, .int 0, .int 0])), (a20, .inl (T 0, 9, .inl cn47)), (a21, .inl (T 0, 9, .inl cn47)), (a22, .inl (T 0, 9, .inl cn47)), (a23, .inl (T 0, 3, .inl cn93)), (a16, .inl (T 0, 9, .inl (fun _ => 0))), (a17, .inl (T 0, 9, .inl (fun _ => 0))), (a18, .inl (T 0, 9, .inl (fun _ => 0))), (a19, .inl (T 0, 3, .inl (fun _ => 0))), (a4, .inr (0, [.ref a24, .ref a25, .ref a26, .ref a27, .ref a28, .int 0])), (a11, .inr (9, [.ref a37, .ref a38, .ref a39, .ref a40, .ref a41, .ref a42, .ref a43, .ref a44, .ref a45, .int 0, .int 0, .int 0, .int 0, .int 12, .int 1, .int 0, .int 0, .int 0])), (a3, .inr (7, [.ref a20, .ref a21, .ref a22, .ref a23, .int 0, .int 0, .int 0, .int 0])), (a28, .inl (T 0, 4, .inl cn97))] H locs := w
      refine lv_istore_n (lv' := [(3, .int (-1)), (2, .int 1), (0, .ref a0), (1, .int x0)]) hx hb dX11_book_77 rfl hl (by decide) rfl (fun ls hl => ?_)
      refine lv_iload_n hx hb dX11_book_78 rfl (lv_at hl 3 rfl) ?_
      refine lv_iconst (v := 1) hx hb dX11_book_79 (by decide) ?_
      refine lv_icmp_ne (tgt := 98) hx hb dX11_book_80 (by decide) (fun c_4 => ?_) (fun c_4 => ?_)
      · exfalso
        simp only [fa_lt, fa_le, fa_eq] at c_1 c_3 c_4
        have e0 : (0 : Int32).toInt = 0 := (by decide)
        have e1 : (1 : Int32).toInt = 1 := (by decide)
        omega
      · refine lv_aload_n hx hb dX11_book_83 rfl (lv_at hl 2 rfl) ?_
        refine k_V (ce := 0) (sl := 0) (rest := []) (wr := [(a1, .inr (8, [.ref a15, .int 0, .int 400, .int 0, .int 0, .int 0, .null, .long 0, .int 0, .int 0, .int 0, .int 0])), (a20, .inl (T 0, 9, .inl cn47)), (a21, .inl (T 0, 9, .inl cn47)), (a22, .inl (T 0, 9, .inl cn47)), (a23, .inl (T 0, 3, .inl cn93)), (a4, .inr (0, [.ref a24, .ref a25, .ref a26, .ref a27, .ref a28, .int 0])), (a11, .inr (9, [.ref a37, .ref a38, .ref a39, .ref a40, .ref a41, .ref a42, .ref a43, .ref a44, .ref a45, .int 0, .int 0, .int 0, .int 0, .int 12, .int 1, .int 0, .int 0, .int 0])), (a3, .inr (7, [.ref a20, .ref a21, .ref a22, .ref a23, .int 0, .int 0, .int 0, .int 0])), (a28, .inl (T 0, 4, .inl cn97))]) (r_V (f := 2) [0, 8, 1, 13, 14, 15, 16, 2, 3, 4, 5, 6] M w V_HookedCity_204 G861 G18 (c132_X11_keepAct l D T _ a0 a1 a2 a3 a4 a5 a6 a7 a8 a9 a10 a11 a12 a13 a14 a16 a17 a18 a19 a36 a35 a34 a33 a32 a31 a30 a29 a46 a47 a48 a49) 0 clX11 rfl rfl (by decide) rfl hl.1 rfl (Nat.le_of_ble_eq_true rfl) dX11_book_84 (by decide) (by decide) (by decide) (by decide)) w [0, 8, 1, 13, 14, 15, 16, 2, 3, 4, 5, 6] [7, 9, 10, 11, 12, 17, 18, 19, 20] rfl rfl (by decide) (by decide) rfl rfl (fun _ H locs hp w => ?_)
        have w : WD D A s.heap [(a1, .inr (8, [.ref a15, .int 0, .int 400, .int 0, .int 0, .int 0, .null, .long 0, .int 0, .int 0, .int 0, .int 0])), (a20, .inl (T 0, 9, .inl cn47)), (a21, .inl (T 0, 9, .inl cn47)), (a22, .inl (T 0, 9, .inl cn47)), (a23, .inl (T 0, 3, .inl cn93)), (a4, .inr (0, [.ref a24, .ref a25, .ref a26, .ref a27, .ref a28, .int 0])), (a11, .inr (9, [.ref a37, .ref a38, .ref a39, .ref a40, .ref a41, .ref a42, .ref a43, .ref a44, .ref a45, .int 0, .int 0, .int 0, .int 0, .int 12, .int 1, .int 0, .int 0, .int 0])), (a3, .inr (7, [.ref a20, .ref a21, .ref a22, .ref a23, .int 0, .int 0, .int 0, .int 0])), (a28, .inl (T 0, 4, .inl cn97)), (a0, .inr (10, [.ref a1, .ref a2, .ref a3, .ref a4, .ref a5, .ref a6, .ref a7, .ref a8, .ref a9, .ref a10, .ref a11, .ref a12, .ref a13, .ref a14, .int 1, .int 1, .int 0])), (a2, .inr (7, [.ref a16, .ref a17, .ref a18, .ref a19, .int 0, .int 0, .int 0, .int 0])), (a9, .inl (T 3, 8, .inr (.inr (.inr (.inr (va_up (va_up (va_up (va_up (va_up (va_up (va_up (va_up (fun _ => none) (Int32.toNatClampNeg (0 : Int32)) (some a29)) (Int32.toNatClampNeg (1 : Int32)) (some a30)) (Int32.toNatClampNeg (2 : Int32)) (some a31)) (Int32.toNatClampNeg (3 : Int32)) (some a32)) (Int32.toNatClampNeg (4 : Int32)) (some a33)) (Int32.toNatClampNeg (5 : Int32)) (some a34)) (Int32.toNatClampNeg (6 : Int32)) (some a35)) (Int32.toNatClampNeg (7 : Int32)) (some a36))))))), (a16, .inl (T 0, 9, .inl (fun _ => 0))), (a17, .inl (T 0, 9, .inl (fun _ => 0))), (a18, .inl (T 0, 9, .inl (fun _ => 0))), (a19, .inl (T 0, 3, .inl (fun _ => 0))), (a29, .inr (7, [.ref a46, .ref a47, .ref a48, .ref a49, .int 0, .int 0, .int 0, .int 0])), (a46, .inl (T 0, 9, .inl cn47)), (a47, .inl (T 0, 9, .inl cn47)), (a48, .inl (T 0, 9, .inl cn47)), (a49, .inl (T 0, 3, .inl cn93))] H locs := w
        refine lv_aload_n hx hb dX11_book_87 rfl (lv_at hl 2 rfl) ?_
        refine r_get (v := .ref a2) M w 9 1 clX11 rfl (by decide) G498 rfl rfl dX11_book_88 ?_
        refine lv_aload_n hx hb dX11_book_91 rfl (lv_at hl 2 rfl) ?_
        refine r_get (v := .ref a3) M w 9 2 clX11 rfl (by decide) G499 rfl rfl dX11_book_92 ?_
        refine k_V (ce := 0) (sl := 0) (rest := []) (wr := [(a1, .inr (8, [.ref a15, .int 0, .int 400, .int 0, .int 0, .int 0, .null, .long 0, .int 0, .int 0, .int 0, .int 0])), (a4, .inr (0, [.ref a24, .ref a25, .ref a26, .ref a27, .ref a28, .int 0])), (a11, .inr (9, [.ref a37, .ref a38, .ref a39, .ref a40, .ref a41, .ref a42, .ref a43, .ref a44, .ref a45, .int 0, .int 0, .int 0, .int 0, .int 12, .int 1, .int 0, .int 0, .int 0])), (a28, .inl (T 0, 4, .inl cn97)), (a0, .inr (10, [.ref a1, .ref a2, .ref a3, .ref a4, .ref a5, .ref a6, .ref a7, .ref a8, .ref a9, .ref a10, .ref a11, .ref a12, .ref a13, .ref a14, .int 1, .int 1, .int 0])), (a9, .inl (T 3, 8, .inr (.inr (.inr (.inr (va_up (va_up (va_up (va_up (va_up (va_up (va_up (va_up (fun _ => none) (Int32.toNatClampNeg (0 : Int32)) (some a29)) (Int32.toNatClampNeg (1 : Int32)) (some a30)) (Int32.toNatClampNeg (2 : Int32)) (some a31)) (Int32.toNatClampNeg (3 : Int32)) (some a32)) (Int32.toNatClampNeg (4 : Int32)) (some a33)) (Int32.toNatClampNeg (5 : Int32)) (some a34)) (Int32.toNatClampNeg (6 : Int32)) (some a35)) (Int32.toNatClampNeg (7 : Int32)) (some a36))))))), (a29, .inr (7, [.ref a46, .ref a47, .ref a48, .ref a49, .int 0, .int 0, .int 0, .int 0])), (a46, .inl (T 0, 9, .inl cn47)), (a47, .inl (T 0, 9, .inl cn47)), (a48, .inl (T 0, 9, .inl cn47)), (a49, .inl (T 0, 3, .inl cn93))]) (r_V (f := 1) [10, 7, 12, 13, 14, 15, 1, 2, 3, 4] M w V_HookedCity_230 G864 G865 (c133_X7_copy l D T _ a2 a3 a16 a17 a18 a19 a20 a21 a22 a23) 10 clX7 rfl rfl (by decide) rfl hl.1 rfl (Nat.le_of_ble_eq_true rfl) dX11_book_95 (by decide) (by decide) (by decide) (by decide)) w [10, 7, 12, 13, 14, 15, 1, 2, 3, 4] [0, 5, 6, 8, 9, 11, 16, 17, 18, 19, 20] rfl rfl (by decide) (by decide) rfl rfl (fun _ H locs hp w => ?_)
        have w : WD D A s.heap [(a1, .inr (8, [.ref a15, .int 0, .int 400, .int 0, .int 0, .int 0, .null, .long 0, .int 0, .int 0, .int 0, .int 0])), (a4, .inr (0, [.ref a24, .ref a25, .ref a26, .ref a27, .ref a28, .int 0])), (a11, .inr (9, [.ref a37, .ref a38, .ref a39, .ref a40, .ref a41, .ref a42, .ref a43, .ref a44, .ref a45, .int 0, .int 0, .int 0, .int 0, .int 12, .int 1, .int 0, .int 0, .int 0])), (a28, .inl (T 0, 4, .inl cn97)), (a0, .inr (10, [.ref a1, .ref a2, .ref a3, .ref a4, .ref a5, .ref a6, .ref a7, .ref a8, .ref a9, .ref a10, .ref a11, .ref a12, .ref a13, .ref a14, .int 1, .int 1, .int 0])), (a9, .inl (T 3, 8, .inr (.inr (.inr (.inr (va_up (va_up (va_up (va_up (va_up (va_up (va_up (va_up (fun _ => none) (Int32.toNatClampNeg (0 : Int32)) (some a29)) (Int32.toNatClampNeg (1 : Int32)) (some a30)) (Int32.toNatClampNeg (2 : Int32)) (some a31)) (Int32.toNatClampNeg (3 : Int32)) (some a32)) (Int32.toNatClampNeg (4 : Int32)) (some a33)) (Int32.toNatClampNeg (5 : Int32)) (some a34)) (Int32.toNatClampNeg (6 : Int32)) (some a35)) (Int32.toNatClampNeg (7 : Int32)) (some a36))))))), (a29, .inr (7, [.ref a46, .ref a47, .ref a48, .ref a49, .int 0, .int 0, .int 0, .int 0])), (a46, .inl (T 0, 9, .inl cn47)), (a47, .inl (T 0, 9, .inl cn47)), (a48, .inl (T 0, 9, .inl cn47)), (a49, .inl (T 0, 3, .inl cn93)), (a2, .inr (7, [.ref a16, .ref a17, .ref a18, .ref a19, .int 0, .int 0, .int 0, .int 0])), (a3, .inr (7, [.ref a20, .ref a21, .ref a22, .ref a23, .int 0, .int 0, .int 0, .int 0])), (a16, .inl (T 0, 9, .inl cn98)), (a17, .inl (T 0, 9, .inl cn98)), (a18, .inl (T 0, 9, .inl cn98)), (a19, .inl (T 0, 3, .inl cn99)), (a20, .inl (T 0, 9, .inl cn47)), (a21, .inl (T 0, 9, .inl cn47)), (a22, .inl (T 0, 9, .inl cn47)), (a23, .inl (T 0, 3, .inl cn93))] H locs := w
        refine lv_iload_n hx hb dX11_book_98 rfl (lv_at hl 0 rfl) ?_
        exact ret _ () _ _ _ _ _ [] dX11_book_99 (Or.inr (Or.inl ⟨c_1, c_3, c_4, rfl⟩)) w (by decide) rfl
    · refine lv_sipush (v := (-1000)) hx hb dX11_book_9 (by decide) ?_
      exact ret _ () _ _ _ _ _ [] dX11_book_12 (Or.inr (Or.inr (⟨c_1, c_3, rfl⟩))) w (by decide) rfl
set_option maxRecDepth 100000 in
set_option maxHeartbeats 4000000 in
theorem c135_X12_isIn (l : Launch) (D : va_G) (T : Nat → ClassId) (sz : Nat) (x0 : Int32) : Met l yX12_isIn (Cond.code yX12_isIn cX12_isIn 3 (some .boolean) :: GW) (Rm 0 0 0) (cPre [.int x0, .int 0, .int 1] D T [] sz) (qI D [] sz (fun (v : Int32) (u : Unit) => (x0 < (0 : Int32) ∧ (0 : Int32) = v) ∨ (¬ x0 < (0 : Int32) ∧ (1 : Int32) < x0 ∧ (0 : Int32) = v) ∨ (¬ x0 < (0 : Int32) ∧ ¬ (1 : Int32) < x0 ∧ (1 : Int32) = v)) (fun u => [])) 0 0 (va_A [] sz) := by
  refine e_Z (by decide) (Nat.le_of_ble_eq_true rfl) ?_
  intro p e s m args below meth c A Q ls M hin w ret hl
  have hx := M.1.1
  have hb := M.1.2.1
  have hl : lv_has ls 3 [(0, .int x0), (1, .int 0), (2, .int 1)] := hl
  refine lv_iload_n hx hb dX12_isIn_0 rfl (lv_at hl 0 rfl) ?_
  refine lv_iload_n hx hb dX12_isIn_1 rfl (lv_at hl 1 rfl) ?_
  refine lv_icmp_lt (tgt := 14) hx hb dX12_isIn_2 (by decide) (fun c_1 => ?_) (fun c_1 => ?_)
  · refine lv_iconst (v := 0) hx hb dX12_isIn_14 (by decide) ?_
    exact ret _ () _ _ _ _ _ [] dX12_isIn_15 (by decide +kernel) (Or.inl ⟨c_1, rfl⟩) w (by decide) rfl
  · refine lv_iload_n hx hb dX12_isIn_5 rfl (lv_at hl 0 rfl) ?_
    refine lv_iload_n hx hb dX12_isIn_6 rfl (lv_at hl 2 rfl) ?_
    refine lv_icmp_gt (tgt := 14) hx hb dX12_isIn_7 (by decide) (fun c_2 => ?_) (fun c_2 => ?_)
    · refine lv_iconst (v := 0) hx hb dX12_isIn_14 (by decide) ?_
      exact ret _ () _ _ _ _ _ [] dX12_isIn_15 (by decide +kernel) (Or.inr (Or.inl ⟨c_1, c_2, rfl⟩)) w (by decide) rfl
    · refine lv_iconst (v := 1) hx hb dX12_isIn_10 (by decide) ?_
      refine lv_goto (tgt := 15) hx hb dX12_isIn_11 (by decide) ?_
      exact ret _ () _ _ _ _ _ [] dX12_isIn_15 (by decide +kernel) (Or.inr (Or.inr (⟨c_1, c_2, rfl⟩))) w (by decide) rfl
set_option maxRecDepth 100000 in
set_option maxHeartbeats 4000000 in
theorem c136_X12_go (l : Launch) (D : va_G) (T : Nat → ClassId) (sz : Nat) (a0 a1 a2 a3 a4 a5 a6 a7 a8 a9 a10 a11 a12 a13 a14 a15 a16 a17 a18 a19 a20 a21 a22 : Nat) : Met l yX12_go (Cond.code yX12_go cX12_go 5 none :: GW) (Rm 0 0 0) (cPre [.ref a0] D T [(a0, .inr (11, [.int 0, .ref a1, .int 0, .int 0, .int 400, .int 0, .int 0, .int 0, .int 0, .int 0, .int 0, .int 0, .long 0, .int 0, .ref a2, .ref a3, .ref a4, .ref a5, .ref a6, .ref a7, .ref a8, .ref a9, .ref a10, .ref a11, .int 0, .ref a12, .ref a13, .ref a14, .ref a15, .int 0, .int 0, .int 0, .ref a16, .int (-1), .int (-1), .ref a17, .ref a18, .int 0, .ref a19, .int 0, .int 0, .ref a20, .ref a21, .int 0, .int 0, .ref a22, .int 0, .int 0, .int 0, .int 0]))] sz) (qV D [(a0, .inr (11, [.int 0, .ref a1, .int 0, .int 0, .int 400, .int 0, .int 0, .int 0, .int 0, .int 0, .int 0, .int 0, .long 0, .int 0, .ref a2, .ref a3, .ref a4, .ref a5, .ref a6, .ref a7, .ref a8, .ref a9, .ref a10, .ref a11, .int 0, .ref a12, .ref a13, .ref a14, .ref a15, .int 0, .int 0, .int 0, .ref a16, .int (-1), .int (-1), .ref a17, .ref a18, .int 0, .ref a19, .int 0, .int 0, .ref a20, .ref a21, .int 0, .int 0, .ref a22, .int 0, .int 0, .int 0, .int 0]))] sz (fun (u : Unit) => True) (fun u => [(a0, .inr (11, [.int 0, .ref a1, .int 0, .int 0, .int 400, .int 0, .int 0, .int 0, .int 0, .int 0, .int 0, .int 0, .long 0, .int 0, .ref a2, .ref a3, .ref a4, .ref a5, .ref a6, .ref a7, .ref a8, .ref a9, .ref a10, .ref a11, .int 0, .ref a12, .ref a13, .ref a14, .ref a15, .int 0, .int 0, .int 0, .ref a16, .int (-1), .int (-1), .ref a17, .ref a18, .int 0, .ref a19, .int 0, .int 0, .ref a20, .ref a21, .int 0, .int 0, .ref a22, .int 0, .int 0, .int 0, .int 0]))])) 0 0 (va_A [(a0, .inr (11, [.int 0, .ref a1, .int 0, .int 0, .int 400, .int 0, .int 0, .int 0, .int 0, .int 0, .int 0, .int 0, .long 0, .int 0, .ref a2, .ref a3, .ref a4, .ref a5, .ref a6, .ref a7, .ref a8, .ref a9, .ref a10, .ref a11, .int 0, .ref a12, .ref a13, .ref a14, .ref a15, .int 0, .int 0, .int 0, .ref a16, .int (-1), .int (-1), .ref a17, .ref a18, .int 0, .ref a19, .int 0, .int 0, .ref a20, .ref a21, .int 0, .int 0, .ref a22, .int 0, .int 0, .int 0, .int 0]))] sz) := by
  refine e_V (by decide) (Nat.le_of_ble_eq_true rfl) ?_
  intro p e s m args below meth c A Q ls M hin w ret hl
  have hx := M.1.1
  have hb := M.1.2.1
  have hl : lv_has ls 5 [(0, .ref a0)] := hl
  refine lv_aload_n hx hb dX12_go_0 rfl (lv_at hl 0 rfl) ?_
  refine r_get (v := .int 0) M w 0 5 clX12 rfl (by decide) G1472 rfl rfl dX12_go_1 ?_
  refine lv_aload_n hx hb dX12_go_4 rfl (lv_at hl 0 rfl) ?_
  refine r_get (v := .int 0) M w 0 3 clX12 rfl (by decide) G1470 rfl rfl dX12_go_5 ?_
  refine lv_icmp_ge (tgt := 52) hx hb dX12_go_8 (by decide) (fun _ => ?_) (fun c => absurd (by decide +kernel) c)
  refine lv_aload_n hx hb dX12_go_52 rfl (lv_at hl 0 rfl) ?_
  refine lv_aload_n hx hb dX12_go_53 rfl (lv_at hl 0 rfl) ?_
  refine r_get (v := .int 0) M w 0 5 clX12 rfl (by decide) G1472 rfl rfl dX12_go_54 ?_
  refine r_put (ws' := [(a0, .inr (11, [.int 0, .ref a1, .int 0, .int 0, .int 400, .int 0, .int 0, .int 0, .int 0, .int 0, .int 0, .int 0, .long 0, .int 0, .ref a2, .ref a3, .ref a4, .ref a5, .ref a6, .ref a7, .ref a8, .ref a9, .ref a10, .ref a11, .int 0, .ref a12, .ref a13, .ref a14, .ref a15, .int 0, .int 0, .int 0, .ref a16, .int (-1), .int (-1), .ref a17, .ref a18, .int 0, .ref a19, .int 0, .int 0, .ref a20, .ref a21, .int 0, .int 0, .ref a22, .int 0, .int 0, .int 0, .int 0]))]) M w 0 6 clX12 rfl (by decide) G1473 rfl rfl rfl rfl (Nat.le_of_ble_eq_true rfl) rfl dX12_go_57 (fun H locs w => ?_)
  refine lv_aload_n hx hb dX12_go_60 rfl (lv_at hl 0 rfl) ?_
  refine r_get (v := .int 0) M w 0 3 clX12 rfl (by decide) G1470 rfl rfl dX12_go_61 ?_
  refine lv_aload_n hx hb dX12_go_64 rfl (lv_at hl 0 rfl) ?_
  refine r_get (v := .int 400) M w 0 4 clX12 rfl (by decide) G1471 rfl rfl dX12_go_65 ?_
  refine lv_icmp_le (tgt := 96) hx hb dX12_go_68 (by decide) (fun _ => ?_) (fun c => absurd (by decide +kernel) c)
  refine lv_aload_n hx hb dX12_go_96 rfl (lv_at hl 0 rfl) ?_
  refine r_get (v := .int 0) M w 0 5 clX12 rfl (by decide) G1472 rfl rfl dX12_go_97 ?_
  refine lv_aload_n hx hb dX12_go_100 rfl (lv_at hl 0 rfl) ?_
  refine r_get (v := .int 0) M w 0 3 clX12 rfl (by decide) G1470 rfl rfl dX12_go_101 ?_
  refine lv_icmp_lt (tgt := 113) hx hb dX12_go_104 (by decide) (fun c => absurd c (by decide +kernel)) (fun _ => ?_)
  refine lv_aload_n hx hb dX12_go_107 rfl (lv_at hl 0 rfl) ?_
  refine lv_iconst (v := 0) hx hb dX12_go_108 (by decide) ?_
  refine r_put (ws' := [(a0, .inr (11, [.int 0, .ref a1, .int 0, .int 0, .int 400, .int 0, .int 0, .int 0, .int 0, .int 0, .int 0, .int 0, .long 0, .int 0, .ref a2, .ref a3, .ref a4, .ref a5, .ref a6, .ref a7, .ref a8, .ref a9, .ref a10, .ref a11, .int 0, .ref a12, .ref a13, .ref a14, .ref a15, .int 0, .int 0, .int 0, .ref a16, .int (-1), .int (-1), .ref a17, .ref a18, .int 0, .ref a19, .int 0, .int 0, .ref a20, .ref a21, .int 0, .int 0, .ref a22, .int 0, .int 0, .int 0, .int 0]))]) M w 0 7 clX12 rfl (by decide) G1474 rfl rfl rfl rfl (Nat.le_of_ble_eq_true rfl) rfl dX12_go_109 (fun H locs w => ?_)
  exact ret () _ _ _ _ _ [0] dX12_go_112 trivial w (by decide) rfl
set_option maxRecDepth 100000 in
set_option maxHeartbeats 4000000 in
theorem c137_X12_begin (l : Launch) (D : va_G) (T : Nat → ClassId) (sz : Nat) (a0 a1 a2 a3 a4 a5 a6 a7 a8 a9 a10 a11 a12 a13 a14 a15 a16 a17 a18 a19 a20 a21 a22 : Nat) : Met l yX12_begin (Cond.code yX12_begin cX12_begin 2 none :: GW) (Rm 1 0 0) (cPre [.ref a0, .int 400] D T [(a0, .inr (11, [.int 0, .ref a1, .int 0, .int 0, .int 0, .int 0, .int 0, .int 0, .int 0, .int 0, .int 0, .int 0, .long 0, .int 0, .ref a2, .ref a3, .ref a4, .ref a5, .ref a6, .ref a7, .ref a8, .ref a9, .ref a10, .ref a11, .int 0, .ref a12, .ref a13, .ref a14, .ref a15, .int 0, .int 0, .int 0, .ref a16, .int (-1), .int (-1), .ref a17, .ref a18, .int 0, .ref a19, .int 0, .int 0, .ref a20, .ref a21, .int 0, .int 0, .ref a22, .int 0, .int 0, .int 0, .int 0]))] sz) (qV D [(a0, .inr (11, [.int 0, .ref a1, .int 0, .int 0, .int 0, .int 0, .int 0, .int 0, .int 0, .int 0, .int 0, .int 0, .long 0, .int 0, .ref a2, .ref a3, .ref a4, .ref a5, .ref a6, .ref a7, .ref a8, .ref a9, .ref a10, .ref a11, .int 0, .ref a12, .ref a13, .ref a14, .ref a15, .int 0, .int 0, .int 0, .ref a16, .int (-1), .int (-1), .ref a17, .ref a18, .int 0, .ref a19, .int 0, .int 0, .ref a20, .ref a21, .int 0, .int 0, .ref a22, .int 0, .int 0, .int 0, .int 0]))] sz (fun (u : Unit) => True) (fun u => [(a0, .inr (11, [.int 0, .ref a1, .int 0, .int 0, .int 400, .int 0, .int 0, .int 0, .int 0, .int 0, .int 0, .int 0, .long 0, .int 0, .ref a2, .ref a3, .ref a4, .ref a5, .ref a6, .ref a7, .ref a8, .ref a9, .ref a10, .ref a11, .int 0, .ref a12, .ref a13, .ref a14, .ref a15, .int 0, .int 0, .int 0, .ref a16, .int (-1), .int (-1), .ref a17, .ref a18, .int 0, .ref a19, .int 0, .int 0, .ref a20, .ref a21, .int 0, .int 0, .ref a22, .int 0, .int 0, .int 0, .int 0]))])) 0 0 (va_A [(a0, .inr (11, [.int 0, .ref a1, .int 0, .int 0, .int 0, .int 0, .int 0, .int 0, .int 0, .int 0, .int 0, .int 0, .long 0, .int 0, .ref a2, .ref a3, .ref a4, .ref a5, .ref a6, .ref a7, .ref a8, .ref a9, .ref a10, .ref a11, .int 0, .ref a12, .ref a13, .ref a14, .ref a15, .int 0, .int 0, .int 0, .ref a16, .int (-1), .int (-1), .ref a17, .ref a18, .int 0, .ref a19, .int 0, .int 0, .ref a20, .ref a21, .int 0, .int 0, .ref a22, .int 0, .int 0, .int 0, .int 0]))] sz) := by
  refine e_V (by decide) (Nat.le_of_ble_eq_true rfl) ?_
  intro p e s m args below meth c A Q ls M hin w ret hl
  have hx := M.1.1
  have hb := M.1.2.1
  have hl : lv_has ls 2 [(0, .ref a0), (1, .int 400)] := hl
  refine lv_aload_n hx hb dX12_begin_0 rfl (lv_at hl 0 rfl) ?_
  refine lv_iconst (v := 0) hx hb dX12_begin_1 (by decide) ?_
  refine r_put (ws' := [(a0, .inr (11, [.int 0, .ref a1, .int 0, .int 0, .int 0, .int 0, .int 0, .int 0, .int 0, .int 0, .int 0, .int 0, .long 0, .int 0, .ref a2, .ref a3, .ref a4, .ref a5, .ref a6, .ref a7, .ref a8, .ref a9, .ref a10, .ref a11, .int 0, .ref a12, .ref a13, .ref a14, .ref a15, .int 0, .int 0, .int 0, .ref a16, .int (-1), .int (-1), .ref a17, .ref a18, .int 0, .ref a19, .int 0, .int 0, .ref a20, .ref a21, .int 0, .int 0, .ref a22, .int 0, .int 0, .int 0, .int 0]))]) M w 0 0 clX12 rfl (by decide) G1467 rfl rfl rfl rfl (Nat.le_of_ble_eq_true rfl) rfl dX12_begin_2 (fun H locs w => ?_)
  refine lv_aload_n hx hb dX12_begin_5 rfl (lv_at hl 0 rfl) ?_
  refine lv_aload_n hx hb dX12_begin_6 rfl (lv_at hl 0 rfl) ?_
  refine k_I (ce := 0) (sl := 0) (rest := [.ref a0]) (wr := []) (r_V (f := 0) [0] M w V_HookedCityModel_89 G1629 G48 (c43_X12_take l D T _ a0 a1 a2 a3 a4 a5 a6 a7 a8 a9 a10 a11 a12 a13 a14 a15 a16 a17 a18 a19 a20 a21 a22) 0 clX12 rfl rfl (by decide) rfl hl.1 rfl (Nat.le_of_ble_eq_true rfl) dX12_begin_7 (by decide) (by decide) (by decide) (by decide)) w [0] [] rfl rfl (by decide) (by decide) rfl rfl (fun v _ H locs hp w => ?_)
  have hp : (0 : Int32) = v := hp
  subst hp
  have w : WD D A s.heap [(a0, .inr (11, [.int 0, .ref a1, .int 0, .int 0, .int 0, .int 0, .int 0, .int 0, .int 0, .int 0, .int 0, .int 0, .long 0, .int 0, .ref a2, .ref a3, .ref a4, .ref a5, .ref a6, .ref a7, .ref a8, .ref a9, .ref a10, .ref a11, .int 0, .ref a12, .ref a13, .ref a14, .ref a15, .int 0, .int 0, .int 0, .ref a16, .int (-1), .int (-1), .ref a17, .ref a18, .int 0, .ref a19, .int 0, .int 0, .ref a20, .ref a21, .int 0, .int 0, .ref a22, .int 0, .int 0, .int 0, .int 0]))] H locs := w
  refine r_put (ws' := [(a0, .inr (11, [.int 0, .ref a1, .int 0, .int 0, .int 0, .int 0, .int 0, .int 0, .int 0, .int 0, .int 0, .int 0, .long 0, .int 0, .ref a2, .ref a3, .ref a4, .ref a5, .ref a6, .ref a7, .ref a8, .ref a9, .ref a10, .ref a11, .int 0, .ref a12, .ref a13, .ref a14, .ref a15, .int 0, .int 0, .int 0, .ref a16, .int (-1), .int (-1), .ref a17, .ref a18, .int 0, .ref a19, .int 0, .int 0, .ref a20, .ref a21, .int 0, .int 0, .ref a22, .int 0, .int 0, .int 0, .int 0]))]) M w 0 3 clX12 rfl (by decide) G1470 rfl rfl rfl rfl (Nat.le_of_ble_eq_true rfl) rfl dX12_begin_10 (fun H locs w => ?_)
  refine lv_aload_n hx hb dX12_begin_13 rfl (lv_at hl 0 rfl) ?_
  refine lv_iload_n hx hb dX12_begin_14 rfl (lv_at hl 1 rfl) ?_
  refine r_put (ws' := [(a0, .inr (11, [.int 0, .ref a1, .int 0, .int 0, .int 400, .int 0, .int 0, .int 0, .int 0, .int 0, .int 0, .int 0, .long 0, .int 0, .ref a2, .ref a3, .ref a4, .ref a5, .ref a6, .ref a7, .ref a8, .ref a9, .ref a10, .ref a11, .int 0, .ref a12, .ref a13, .ref a14, .ref a15, .int 0, .int 0, .int 0, .ref a16, .int (-1), .int (-1), .ref a17, .ref a18, .int 0, .ref a19, .int 0, .int 0, .ref a20, .ref a21, .int 0, .int 0, .ref a22, .int 0, .int 0, .int 0, .int 0]))]) M w 0 4 clX12 rfl (by decide) G1471 rfl rfl rfl rfl (Nat.le_of_ble_eq_true rfl) rfl dX12_begin_15 (fun H locs w => ?_)
  refine lv_aload_n hx hb dX12_begin_18 rfl (lv_at hl 0 rfl) ?_
  refine lv_iconst (v := 0) hx hb dX12_begin_19 (by decide) ?_
  refine r_put (ws' := [(a0, .inr (11, [.int 0, .ref a1, .int 0, .int 0, .int 400, .int 0, .int 0, .int 0, .int 0, .int 0, .int 0, .int 0, .long 0, .int 0, .ref a2, .ref a3, .ref a4, .ref a5, .ref a6, .ref a7, .ref a8, .ref a9, .ref a10, .ref a11, .int 0, .ref a12, .ref a13, .ref a14, .ref a15, .int 0, .int 0, .int 0, .ref a16, .int (-1), .int (-1), .ref a17, .ref a18, .int 0, .ref a19, .int 0, .int 0, .ref a20, .ref a21, .int 0, .int 0, .ref a22, .int 0, .int 0, .int 0, .int 0]))]) M w 0 10 clX12 rfl (by decide) G1477 rfl rfl rfl rfl (Nat.le_of_ble_eq_true rfl) rfl dX12_begin_20 (fun H locs w => ?_)
  refine lv_aload_n hx hb dX12_begin_23 rfl (lv_at hl 0 rfl) ?_
  refine lv_iconst (v := 0) hx hb dX12_begin_24 (by decide) ?_
  refine r_put (ws' := [(a0, .inr (11, [.int 0, .ref a1, .int 0, .int 0, .int 400, .int 0, .int 0, .int 0, .int 0, .int 0, .int 0, .int 0, .long 0, .int 0, .ref a2, .ref a3, .ref a4, .ref a5, .ref a6, .ref a7, .ref a8, .ref a9, .ref a10, .ref a11, .int 0, .ref a12, .ref a13, .ref a14, .ref a15, .int 0, .int 0, .int 0, .ref a16, .int (-1), .int (-1), .ref a17, .ref a18, .int 0, .ref a19, .int 0, .int 0, .ref a20, .ref a21, .int 0, .int 0, .ref a22, .int 0, .int 0, .int 0, .int 0]))]) M w 0 5 clX12 rfl (by decide) G1472 rfl rfl rfl rfl (Nat.le_of_ble_eq_true rfl) rfl dX12_begin_25 (fun H locs w => ?_)
  refine lv_aload_n hx hb dX12_begin_28 rfl (lv_at hl 0 rfl) ?_
  refine k_V (ce := 0) (sl := 0) (rest := []) (wr := []) (r_V (f := 0) [0] M w V_HookedCityModel_82 G1633 G49 (c136_X12_go l D T _ a0 a1 a2 a3 a4 a5 a6 a7 a8 a9 a10 a11 a12 a13 a14 a15 a16 a17 a18 a19 a20 a21 a22) 0 clX12 rfl rfl (by decide) rfl hl.1 rfl (Nat.le_of_ble_eq_true rfl) dX12_begin_29 (by decide) (by decide) (by decide) (by decide)) w [0] [] rfl rfl (by decide) (by decide) rfl rfl (fun _ H locs hp w => ?_)
  have w : WD D A s.heap [(a0, .inr (11, [.int 0, .ref a1, .int 0, .int 0, .int 400, .int 0, .int 0, .int 0, .int 0, .int 0, .int 0, .int 0, .long 0, .int 0, .ref a2, .ref a3, .ref a4, .ref a5, .ref a6, .ref a7, .ref a8, .ref a9, .ref a10, .ref a11, .int 0, .ref a12, .ref a13, .ref a14, .ref a15, .int 0, .int 0, .int 0, .ref a16, .int (-1), .int (-1), .ref a17, .ref a18, .int 0, .ref a19, .int 0, .int 0, .ref a20, .ref a21, .int 0, .int 0, .ref a22, .int 0, .int 0, .int 0, .int 0]))] H locs := w
  exact ret () _ _ _ _ _ [0] dX12_begin_32 trivial w (by decide) rfl
set_option maxRecDepth 100000 in
set_option maxHeartbeats 4000000 in
theorem c138_X12_layAside (l : Launch) (D : va_G) (T : Nat → ClassId) (sz : Nat) (a0 a1 a2 a3 a4 a5 a6 a7 a8 a9 a10 a11 a12 a13 a14 a15 a16 a17 a18 a19 a20 a21 a22 : Nat) : Met l yX12_layAside (Cond.code yX12_layAside cX12_layAside 2 none :: GW) (Rm 0 0 0) (cPre [.ref a0] D T [(a0, .inr (11, [.int 0, .ref a1, .int 0, .int 0, .int 400, .int 0, .int 0, .int 0, .int 0, .int 0, .int 0, .int 0, .long 0, .int 0, .ref a2, .ref a3, .ref a4, .ref a5, .ref a6, .ref a7, .ref a8, .ref a9, .ref a10, .ref a11, .int 0, .ref a12, .ref a13, .ref a14, .ref a15, .int 0, .int 0, .int 0, .ref a16, .int (-1), .int (-1), .ref a17, .ref a18, .int 0, .ref a19, .int 0, .int 0, .ref a20, .ref a21, .int 0, .int 0, .ref a22, .int 0, .int 0, .int 0, .int 0])), (a2, .inl (T 0, 329, .inl cn45)), (a6, .inl (T 0, 34, .inl (fun _ => 0)))] sz) (qV D [(a0, .inr (11, [.int 0, .ref a1, .int 0, .int 0, .int 400, .int 0, .int 0, .int 0, .int 0, .int 0, .int 0, .int 0, .long 0, .int 0, .ref a2, .ref a3, .ref a4, .ref a5, .ref a6, .ref a7, .ref a8, .ref a9, .ref a10, .ref a11, .int 0, .ref a12, .ref a13, .ref a14, .ref a15, .int 0, .int 0, .int 0, .ref a16, .int (-1), .int (-1), .ref a17, .ref a18, .int 0, .ref a19, .int 0, .int 0, .ref a20, .ref a21, .int 0, .int 0, .ref a22, .int 0, .int 0, .int 0, .int 0])), (a2, .inl (T 0, 329, .inl cn45)), (a6, .inl (T 0, 34, .inl (fun _ => 0)))] sz (fun (u : Unit) => True) (fun u => [(a0, .inr (11, [.int 0, .ref a1, .int 0, .int 0, .int 400, .int 0, .int 0, .int 0, .int 0, .int 0, .int 0, .int 0, .long 0, .int 0, .ref a2, .ref a3, .ref a4, .ref a5, .ref a6, .ref a7, .ref a8, .ref a9, .ref a10, .ref a11, .int 0, .ref a12, .ref a13, .ref a14, .ref a15, .int 0, .int 0, .int 0, .ref a16, .int (-1), .int (-1), .ref a17, .ref a18, .int 0, .ref a19, .int 0, .int 0, .ref a20, .ref a21, .int 0, .int 0, .ref a22, .int 0, .int 0, .int 0, .int 0])), (a2, .inl (T 0, 329, .inl cn45)), (a6, .inl (T 0, 34, .inl cn101))])) 0 0 (va_A [(a0, .inr (11, [.int 0, .ref a1, .int 0, .int 0, .int 400, .int 0, .int 0, .int 0, .int 0, .int 0, .int 0, .int 0, .long 0, .int 0, .ref a2, .ref a3, .ref a4, .ref a5, .ref a6, .ref a7, .ref a8, .ref a9, .ref a10, .ref a11, .int 0, .ref a12, .ref a13, .ref a14, .ref a15, .int 0, .int 0, .int 0, .ref a16, .int (-1), .int (-1), .ref a17, .ref a18, .int 0, .ref a19, .int 0, .int 0, .ref a20, .ref a21, .int 0, .int 0, .ref a22, .int 0, .int 0, .int 0, .int 0])), (a2, .inl (T 0, 329, .inl cn45)), (a6, .inl (T 0, 34, .inl (fun _ => 0)))] sz) := by
  refine e_V (by decide) (Nat.le_of_ble_eq_true rfl) ?_
  intro p e s m args below meth c A Q ls M hin w ret hl
  have hx := M.1.1
  have hb := M.1.2.1
  have hl : lv_has ls 2 [(0, .ref a0)] := hl
  refine lv_iconst (v := 0) hx hb dX12_layAside_0 (by decide) ?_
  refine lv_istore_n (lv' := [(1, .int 0), (0, .ref a0)]) hx hb dX12_layAside_1 rfl hl (by decide) rfl (fun ls hl => ?_)
  have w : WD D A s.heap [(a0, .inr (11, [.int 0, .ref a1, .int 0, .int 0, .int 400, .int 0, .int 0, .int 0, .int 0, .int 0, .int 0, .int 0, .long 0, .int 0, .ref a2, .ref a3, .ref a4, .ref a5, .ref a6, .ref a7, .ref a8, .ref a9, .ref a10, .ref a11, .int 0, .ref a12, .ref a13, .ref a14, .ref a15, .int 0, .int 0, .int 0, .ref a16, .int (-1), .int (-1), .ref a17, .ref a18, .int 0, .ref a19, .int 0, .int 0, .ref a20, .ref a21, .int 0, .int 0, .ref a22, .int 0, .int 0, .int 0, .int 0])), (a2, .inl (T 0, 329, .inl cn45)), (a6, .inl (T 0, 34, .inl (shc 0 0 0 53 cn45 (fun _ => 0))))] _ _ := w.to (by simp only [shc_0])
  have loop : ∀ (k i : Nat) (H : Heap) (locs : List Loc) (ls : Array Slot), 0 ≤ i → i ≤ 34 → 34 < i + k → WD D A s.heap [(a0, .inr (11, [.int 0, .ref a1, .int 0, .int 0, .int 400, .int 0, .int 0, .int 0, .int 0, .int 0, .int 0, .int 0, .long 0, .int 0, .ref a2, .ref a3, .ref a4, .ref a5, .ref a6, .ref a7, .ref a8, .ref a9, .ref a10, .ref a11, .int 0, .ref a12, .ref a13, .ref a14, .ref a15, .int 0, .int 0, .int 0, .ref a16, .int (-1), .int (-1), .ref a17, .ref a18, .int 0, .ref a19, .int 0, .int 0, .ref a20, .ref a21, .int 0, .int 0, .ref a22, .int 0, .int 0, .int 0, .int 0])), (a2, .inl (T 0, 329, .inl cn45)), (a6, .inl (T 0, 34, .inl (shc 0 i 0 53 cn45 (fun _ => 0))))] H locs → lv_has ls 2 [(1, .int (nI i)), (0, .ref a0)] → W p l e (Rm 0 0 0) s m args below meth c H locs 0 0 Q (F0 m 2 ls []) := by
    intro k
    induction k with
    | zero => intro i H locs ls h0 h1 h2; exact absurd h2 (by omega)
    | succ k ih =>
      intro i H locs ls hi0 hi1 hi2 w hl
      refine lv_iload_n hx hb dX12_layAside_2 rfl (lv_at hl 0 rfl) ?_
      refine lv_bipush (v := 34) hx hb dX12_layAside_3 (by decide) ?_
      refine lv_icmp_ge (tgt := 29) hx hb dX12_layAside_5 (by decide) (fun c_1 => ?_) (fun c_1 => ?_)
      · have hi2 : 34 ≤ i := ix_exit (n := 34) (by decide) (by omega) (by decide) c_1
        obtain rfl : i = 34 := by omega
        have w : WD D A s.heap [(a0, .inr (11, [.int 0, .ref a1, .int 0, .int 0, .int 400, .int 0, .int 0, .int 0, .int 0, .int 0, .int 0, .int 0, .long 0, .int 0, .ref a2, .ref a3, .ref a4, .ref a5, .ref a6, .ref a7, .ref a8, .ref a9, .ref a10, .ref a11, .int 0, .ref a12, .ref a13, .ref a14, .ref a15, .int 0, .int 0, .int 0, .ref a16, .int (-1), .int (-1), .ref a17, .ref a18, .int 0, .ref a19, .int 0, .int 0, .ref a20, .ref a21, .int 0, .int 0, .ref a22, .int 0, .int 0, .int 0, .int 0])), (a2, .inl (T 0, 329, .inl cn45)), (a6, .inl (T 0, 34, .inl cn101))] H locs := w
        have hl : lv_has ls 2 [(1, .int 34), (0, .ref a0)] := hl
        exact ret () _ _ _ _ _ [0, 1, 2] dX12_layAside_29 trivial w (by decide) rfl
      · have hi2 : i < 34 := ix_in2 (n := 34) (by decide) (by omega) (by decide) c_1
        refine lv_aload_n hx hb dX12_layAside_8 rfl (lv_at hl 1 rfl) ?_
        refine r_get (v := .ref a6) M w 0 18 clX12 rfl (by decide) G1485 rfl rfl dX12_layAside_9 ?_
        refine lv_iload_n hx hb dX12_layAside_12 rfl (lv_at hl 0 rfl) ?_
        refine lv_aload_n hx hb dX12_layAside_13 rfl (lv_at hl 1 rfl) ?_
        refine r_get (v := .ref a2) M w 0 14 clX12 rfl (by decide) G1481 rfl rfl dX12_layAside_14 ?_
        refine lv_bipush (v := 53) hx hb dX12_layAside_17 (by decide) ?_
        refine lv_iload_n hx hb dX12_layAside_19 rfl (lv_at hl 0 rfl) ?_
        refine r_iadd (v := (nI (i + 53))) M (ix_addl (k := 53) (by decide) (by omega)) dX12_layAside_20 ?_
        refine r_iald (v := (cn45 (Int32.toNatClampNeg (nI (i + 53))))) M w 1 rfl (ix_in (by omega) (by decide)) rfl dX12_layAside_21 ?_
        refine r_iast (ws' := [(a0, .inr (11, [.int 0, .ref a1, .int 0, .int 0, .int 400, .int 0, .int 0, .int 0, .int 0, .int 0, .int 0, .int 0, .long 0, .int 0, .ref a2, .ref a3, .ref a4, .ref a5, .ref a6, .ref a7, .ref a8, .ref a9, .ref a10, .ref a11, .int 0, .ref a12, .ref a13, .ref a14, .ref a15, .int 0, .int 0, .int 0, .ref a16, .int (-1), .int (-1), .ref a17, .ref a18, .int 0, .ref a19, .int 0, .int 0, .ref a20, .ref a21, .int 0, .int 0, .ref a22, .int 0, .int 0, .int 0, .int 0])), (a2, .inl (T 0, 329, .inl cn45)), (a6, .inl (T 0, 34, .inl (upd (shc 0 i 0 53 cn45 (fun _ => 0)) (Int32.toNatClampNeg (nI i)) (cn45 (Int32.toNatClampNeg (nI (i + 53)))))))]) M w 2 rfl (ix_in (by omega) (by decide)) rfl dX12_layAside_22 (fun H locs w => ?_)
        refine lv_iinc (v := (nI (i + 1))) (lv' := [(1, .int (nI (i + 1))), (0, .ref a0)]) hx hb dX12_layAside_23 hl (k := 0) rfl (ix_add (k := 1) (by decide) (by omega)) (by decide) rfl (fun ls hl => ?_)
        refine lv_goto (tgt := 2) hx hb dX12_layAside_26 (by decide) ?_
        rw [show (upd (shc 0 i 0 53 cn45 (fun _ => 0)) (Int32.toNatClampNeg (nI i)) (cn45 (Int32.toNatClampNeg (nI (i + 53))))) = (shc 0 (i + 1) 0 53 cn45 (fun _ => 0)) from shc_step (g := cn45) (k := (Int32.toNatClampNeg (nI i))) (i := (Int32.toNatClampNeg (nI (i + 53)))) (nI_clamp (by omega)) ((nI_clamp (by omega)).trans (by omega)) (by omega)] at w
        exact ih (i + 1) _ _ _ (by omega) (by omega) (by omega) w (lv_sub hl [0, 1] rfl)
  exact loop 35 0 _ _ _ (by decide) (by decide) (by decide) w hl
set_option maxRecDepth 100000 in
set_option maxHeartbeats 4000000 in
theorem c139_X12_opens (l : Launch) (D : va_G) (T : Nat → ClassId) (sz : Nat) (a0 a1 a2 a3 a4 a5 a6 a7 a8 a9 a10 a11 a12 a13 a14 a15 a16 a17 a18 a19 a20 a21 a22 : Nat) : Met l yX12_opens (Cond.code yX12_opens cX12_opens 3 (some .int) :: GW) (Rm 0 0 0) (cPre [.ref a0] D T [(a0, .inr (11, [.int 0, .ref a1, .int 0, .int 0, .int 400, .int 0, .int 0, .int 0, .int 0, .int 0, .int 0, .int 0, .long 0, .int 0, .ref a2, .ref a3, .ref a4, .ref a5, .ref a6, .ref a7, .ref a8, .ref a9, .ref a10, .ref a11, .int 0, .ref a12, .ref a13, .ref a14, .ref a15, .int 0, .int 0, .int 0, .ref a16, .int (-1), .int (-1), .ref a17, .ref a18, .int 0, .ref a19, .int 0, .int 0, .ref a20, .ref a21, .int 0, .int 0, .ref a22, .int 0, .int 0, .int 0, .int 0])), (a2, .inl (T 0, 329, .inl cn45))] sz) (qI D [(a0, .inr (11, [.int 0, .ref a1, .int 0, .int 0, .int 400, .int 0, .int 0, .int 0, .int 0, .int 0, .int 0, .int 0, .long 0, .int 0, .ref a2, .ref a3, .ref a4, .ref a5, .ref a6, .ref a7, .ref a8, .ref a9, .ref a10, .ref a11, .int 0, .ref a12, .ref a13, .ref a14, .ref a15, .int 0, .int 0, .int 0, .ref a16, .int (-1), .int (-1), .ref a17, .ref a18, .int 0, .ref a19, .int 0, .int 0, .ref a20, .ref a21, .int 0, .int 0, .ref a22, .int 0, .int 0, .int 0, .int 0])), (a2, .inl (T 0, 329, .inl cn45))] sz (fun (v : Int32) (u : Unit) => (0 : Int32) = v) (fun u => [(a0, .inr (11, [.int 0, .ref a1, .int 0, .int 0, .int 400, .int 0, .int 0, .int 0, .int 0, .int 0, .int 0, .int 0, .long 0, .int 0, .ref a2, .ref a3, .ref a4, .ref a5, .ref a6, .ref a7, .ref a8, .ref a9, .ref a10, .ref a11, .int 0, .ref a12, .ref a13, .ref a14, .ref a15, .int 0, .int 0, .int 0, .ref a16, .int (-1), .int (-1), .ref a17, .ref a18, .int 0, .ref a19, .int 0, .int 0, .ref a20, .ref a21, .int 0, .int 0, .ref a22, .int 0, .int 0, .int 0, .int 0])), (a2, .inl (T 0, 329, .inl cn45))])) 0 0 (va_A [(a0, .inr (11, [.int 0, .ref a1, .int 0, .int 0, .int 400, .int 0, .int 0, .int 0, .int 0, .int 0, .int 0, .int 0, .long 0, .int 0, .ref a2, .ref a3, .ref a4, .ref a5, .ref a6, .ref a7, .ref a8, .ref a9, .ref a10, .ref a11, .int 0, .ref a12, .ref a13, .ref a14, .ref a15, .int 0, .int 0, .int 0, .ref a16, .int (-1), .int (-1), .ref a17, .ref a18, .int 0, .ref a19, .int 0, .int 0, .ref a20, .ref a21, .int 0, .int 0, .ref a22, .int 0, .int 0, .int 0, .int 0])), (a2, .inl (T 0, 329, .inl cn45))] sz) := by
  refine e_I (by decide) (Nat.le_of_ble_eq_true rfl) ?_
  intro p e s m args below meth c A Q ls M hin w ret hl
  have hx := M.1.1
  have hb := M.1.2.1
  have hl : lv_has ls 3 [(0, .ref a0)] := hl
  refine lv_iconst (v := 0) hx hb dX12_opens_0 (by decide) ?_
  refine lv_istore_n (lv' := [(1, .int 0), (0, .ref a0)]) hx hb dX12_opens_1 rfl hl (by decide) rfl (fun ls hl => ?_)
  refine lv_iconst (v := 0) hx hb dX12_opens_2 (by decide) ?_
  refine lv_istore_n (lv' := [(2, .int 0), (1, .int 0), (0, .ref a0)]) hx hb dX12_opens_3 rfl hl (by decide) rfl (fun ls hl => ?_)
  refine lv_iload_n hx hb dX12_opens_4 rfl (lv_at hl 0 rfl) ?_
  refine lv_aload_n hx hb dX12_opens_5 rfl (lv_at hl 2 rfl) ?_
  refine r_get (v := .ref a2) M w 0 14 clX12 rfl (by decide) G1481 rfl rfl dX12_opens_6 ?_
  refine lv_iconst (v := 0) hx hb dX12_opens_9 (by decide) ?_
  refine r_iald (v := (0 : Int32)) M w 1 rfl (vin (by decide +kernel)) (by decide +kernel) dX12_opens_10 ?_
  refine lv_icmp_ge (tgt := 34) hx hb dX12_opens_11 (by decide) (fun _ => ?_) (fun c => absurd (by decide +kernel) c)
  refine lv_iload_n hx hb dX12_opens_34 rfl (lv_at hl 1 rfl) ?_
  exact ret _ () _ _ _ _ _ [0, 1] dX12_opens_35 rfl w (by decide) rfl
set_option maxRecDepth 100000 in
set_option maxHeartbeats 4000000 in
theorem c140_X12_stay (l : Launch) (D : va_G) (T : Nat → ClassId) (sz : Nat) (a0 a1 a2 a3 a4 a5 a6 a7 a8 a9 a10 a11 a12 a13 a14 a15 a16 a17 a18 a19 a20 a21 a22 : Nat) : Met l yX12_stay (Cond.code yX12_stay cX12_stay 4 none :: GW) (Rm 0 0 0) (cPre [.ref a0, .int 0] D T [(a0, .inr (11, [.int 0, .ref a1, .int 0, .int 0, .int 400, .int 0, .int 0, .int 0, .int 0, .int 0, .int 0, .int 0, .long 0, .int 0, .ref a2, .ref a3, .ref a4, .ref a5, .ref a6, .ref a7, .ref a8, .ref a9, .ref a10, .ref a11, .int 0, .ref a12, .ref a13, .ref a14, .ref a15, .int 0, .int 0, .int 0, .ref a16, .int (-1), .int (-1), .ref a17, .ref a18, .int 0, .ref a19, .int 0, .int 0, .ref a20, .ref a21, .int 0, .int 1, .ref a22, .int 0, .int 0, .int 0, .int 0])), (a2, .inl (T 0, 329, .inl cn45)), (a6, .inl (T 0, 34, .inl cn101))] sz) (qV D [(a0, .inr (11, [.int 0, .ref a1, .int 0, .int 0, .int 400, .int 0, .int 0, .int 0, .int 0, .int 0, .int 0, .int 0, .long 0, .int 0, .ref a2, .ref a3, .ref a4, .ref a5, .ref a6, .ref a7, .ref a8, .ref a9, .ref a10, .ref a11, .int 0, .ref a12, .ref a13, .ref a14, .ref a15, .int 0, .int 0, .int 0, .ref a16, .int (-1), .int (-1), .ref a17, .ref a18, .int 0, .ref a19, .int 0, .int 0, .ref a20, .ref a21, .int 0, .int 1, .ref a22, .int 0, .int 0, .int 0, .int 0])), (a2, .inl (T 0, 329, .inl cn45)), (a6, .inl (T 0, 34, .inl cn101))] sz (fun (u : Unit) => True) (fun u => [])) 0 0 (va_A [(a0, .inr (11, [.int 0, .ref a1, .int 0, .int 0, .int 400, .int 0, .int 0, .int 0, .int 0, .int 0, .int 0, .int 0, .long 0, .int 0, .ref a2, .ref a3, .ref a4, .ref a5, .ref a6, .ref a7, .ref a8, .ref a9, .ref a10, .ref a11, .int 0, .ref a12, .ref a13, .ref a14, .ref a15, .int 0, .int 0, .int 0, .ref a16, .int (-1), .int (-1), .ref a17, .ref a18, .int 0, .ref a19, .int 0, .int 0, .ref a20, .ref a21, .int 0, .int 1, .ref a22, .int 0, .int 0, .int 0, .int 0])), (a2, .inl (T 0, 329, .inl cn45)), (a6, .inl (T 0, 34, .inl cn101))] sz) := by
  refine e_V (by decide) (Nat.le_of_ble_eq_true rfl) ?_
  intro p e s m args below meth c A Q ls M hin w ret hl
  have hx := M.1.1
  have hb := M.1.2.1
  have hl : lv_has ls 4 [(0, .ref a0), (1, .int 0)] := hl
  refine lv_iconst (v := 0) hx hb dX12_stay_0 (by decide) ?_
  refine lv_istore_n (lv' := [(2, .int 0), (0, .ref a0), (1, .int 0)]) hx hb dX12_stay_1 rfl hl (by decide) rfl (fun ls hl => ?_)
  have loop : ∀ (k i : Nat) (f1 : Nat → Int32) (f2 : Nat → Int32) (H : Heap) (locs : List Loc) (ls : Array Slot), 0 ≤ i → i ≤ 34 → 34 < i + k → WD D A s.heap [(a0, .inr (11, [.int 0, .ref a1, .int 0, .int 0, .int 400, .int 0, .int 0, .int 0, .int 0, .int 0, .int 0, .int 0, .long 0, .int 0, .ref a2, .ref a3, .ref a4, .ref a5, .ref a6, .ref a7, .ref a8, .ref a9, .ref a10, .ref a11, .int 0, .ref a12, .ref a13, .ref a14, .ref a15, .int 0, .int 0, .int 0, .ref a16, .int (-1), .int (-1), .ref a17, .ref a18, .int 0, .ref a19, .int 0, .int 0, .ref a20, .ref a21, .int 0, .int 1, .ref a22, .int 0, .int 0, .int 0, .int 0])), (a2, .inl (T 0, 329, .inl f1)), (a6, .inl (T 0, 34, .inl f2))] H locs → lv_has ls 4 [(2, .int (nI i)), (0, .ref a0), (1, .int 0)] → W p l e (Rm 0 0 0) s m args below meth c H locs 0 0 Q (F0 m 2 ls []) := by
    intro k
    induction k with
    | zero => intro i f1 f2 H locs ls h0 h1 h2; exact absurd h2 (by omega)
    | succ k ih =>
      intro i f1 f2 H locs ls hi0 hi1 hi2 w hl
      refine lv_iload_n hx hb dX12_stay_2 rfl (lv_at hl 0 rfl) ?_
      refine lv_bipush (v := 34) hx hb dX12_stay_3 (by decide) ?_
      refine lv_icmp_ge (tgt := 46) hx hb dX12_stay_5 (by decide) (fun c_3 => ?_) (fun c_3 => ?_)
      · have hi2 : 34 ≤ i := ix_exit (n := 34) (by decide) (by omega) (by decide) c_3
        obtain rfl : i = 34 := by omega
        have w : WD D A s.heap [(a0, .inr (11, [.int 0, .ref a1, .int 0, .int 0, .int 400, .int 0, .int 0, .int 0, .int 0, .int 0, .int 0, .int 0, .long 0, .int 0, .ref a2, .ref a3, .ref a4, .ref a5, .ref a6, .ref a7, .ref a8, .ref a9, .ref a10, .ref a11, .int 0, .ref a12, .ref a13, .ref a14, .ref a15, .int 0, .int 0, .int 0, .ref a16, .int (-1), .int (-1), .ref a17, .ref a18, .int 0, .ref a19, .int 0, .int 0, .ref a20, .ref a21, .int 0, .int 1, .ref a22, .int 0, .int 0, .int 0, .int 0])), (a2, .inl (T 0, 329, .inl f1)), (a6, .inl (T 0, 34, .inl f2))] H locs := w
        have hl : lv_has ls 4 [(2, .int 34), (0, .ref a0), (1, .int 0)] := hl
        refine lv_iload_n hx hb dX12_stay_46 rfl (lv_at hl 2 rfl) ?_
        refine lv_if_ne (tgt := 51) hx hb dX12_stay_47 (by decide) (fun c => absurd (by decide +kernel) c) (fun _ => ?_)
        exact ret () _ _ _ _ _ [] dX12_stay_50 trivial w (by decide) rfl
      · have hi2 : i < 34 := ix_in2 (n := 34) (by decide) (by omega) (by decide) c_3
        refine lv_aload_n hx hb dX12_stay_8 rfl (lv_at hl 1 rfl) ?_
        refine r_get (v := .ref a2) M w 0 14 clX12 rfl (by decide) G1481 rfl rfl dX12_stay_9 ?_
        refine lv_bipush (v := 53) hx hb dX12_stay_12 (by decide) ?_
        refine lv_iload_n hx hb dX12_stay_14 rfl (lv_at hl 0 rfl) ?_
        refine r_iadd (v := (nI (i + 53))) M (ix_addl (k := 53) (by decide) (by omega)) dX12_stay_15 ?_
        refine r_iald (v := (f1 (Int32.toNatClampNeg (nI (i + 53))))) M w 1 rfl (ix_in (by omega) (by decide)) rfl dX12_stay_16 ?_
        refine lv_istore_n (lv' := [(3, .int (f1 (Int32.toNatClampNeg (nI (i + 53))))), (2, .int (nI i)), (0, .ref a0), (1, .int 0)]) hx hb dX12_stay_17 rfl hl (by decide) rfl (fun ls hl => ?_)
        refine lv_aload_n hx hb dX12_stay_18 rfl (lv_at hl 2 rfl) ?_
        refine r_get (v := .ref a2) M w 0 14 clX12 rfl (by decide) G1481 rfl rfl dX12_stay_19 ?_
        refine lv_bipush (v := 53) hx hb dX12_stay_22 (by decide) ?_
        refine lv_iload_n hx hb dX12_stay_24 rfl (lv_at hl 1 rfl) ?_
        refine r_iadd (v := (nI (i + 53))) M (ix_addl (k := 53) (by decide) (by omega)) dX12_stay_25 ?_
        refine lv_aload_n hx hb dX12_stay_26 rfl (lv_at hl 2 rfl) ?_
        refine r_get (v := .ref a6) M w 0 18 clX12 rfl (by decide) G1485 rfl rfl dX12_stay_27 ?_
        refine lv_iload_n hx hb dX12_stay_30 rfl (lv_at hl 1 rfl) ?_
        refine r_iald (v := (f2 (Int32.toNatClampNeg (nI i)))) M w 2 rfl (ix_in (by omega) (by decide)) rfl dX12_stay_31 ?_
        refine r_iast (ws' := [(a0, .inr (11, [.int 0, .ref a1, .int 0, .int 0, .int 400, .int 0, .int 0, .int 0, .int 0, .int 0, .int 0, .int 0, .long 0, .int 0, .ref a2, .ref a3, .ref a4, .ref a5, .ref a6, .ref a7, .ref a8, .ref a9, .ref a10, .ref a11, .int 0, .ref a12, .ref a13, .ref a14, .ref a15, .int 0, .int 0, .int 0, .ref a16, .int (-1), .int (-1), .ref a17, .ref a18, .int 0, .ref a19, .int 0, .int 0, .ref a20, .ref a21, .int 0, .int 1, .ref a22, .int 0, .int 0, .int 0, .int 0])), (a2, .inl (T 0, 329, .inl (upd f1 (Int32.toNatClampNeg (nI (i + 53))) (f2 (Int32.toNatClampNeg (nI i)))))), (a6, .inl (T 0, 34, .inl f2))]) M w 1 rfl (ix_in (by omega) (by decide)) rfl dX12_stay_32 (fun H locs w => ?_)
        refine lv_aload_n hx hb dX12_stay_33 rfl (lv_at hl 2 rfl) ?_
        refine r_get (v := .ref a6) M w 0 18 clX12 rfl (by decide) G1485 rfl rfl dX12_stay_34 ?_
        refine lv_iload_n hx hb dX12_stay_37 rfl (lv_at hl 1 rfl) ?_
        refine lv_iload_n hx hb dX12_stay_38 rfl (lv_at hl 0 rfl) ?_
        refine r_iast (ws' := [(a0, .inr (11, [.int 0, .ref a1, .int 0, .int 0, .int 400, .int 0, .int 0, .int 0, .int 0, .int 0, .int 0, .int 0, .long 0, .int 0, .ref a2, .ref a3, .ref a4, .ref a5, .ref a6, .ref a7, .ref a8, .ref a9, .ref a10, .ref a11, .int 0, .ref a12, .ref a13, .ref a14, .ref a15, .int 0, .int 0, .int 0, .ref a16, .int (-1), .int (-1), .ref a17, .ref a18, .int 0, .ref a19, .int 0, .int 0, .ref a20, .ref a21, .int 0, .int 1, .ref a22, .int 0, .int 0, .int 0, .int 0])), (a2, .inl (T 0, 329, .inl (upd f1 (Int32.toNatClampNeg (nI (i + 53))) (f2 (Int32.toNatClampNeg (nI i)))))), (a6, .inl (T 0, 34, .inl (upd f2 (Int32.toNatClampNeg (nI i)) (f1 (Int32.toNatClampNeg (nI (i + 53)))))))]) M w 2 rfl (ix_in (by omega) (by decide)) rfl dX12_stay_39 (fun H locs w => ?_)
        refine lv_iinc (v := (nI (i + 1))) (lv' := [(2, .int (nI (i + 1))), (3, .int (f1 (Int32.toNatClampNeg (nI (i + 53))))), (0, .ref a0), (1, .int 0)]) hx hb dX12_stay_40 hl (k := 1) rfl (ix_add (k := 1) (by decide) (by omega)) (by decide) rfl (fun ls hl => ?_)
        refine lv_goto (tgt := 2) hx hb dX12_stay_43 (by decide) ?_
        exact ih (i + 1) (upd f1 (Int32.toNatClampNeg (nI (i + 53))) (f2 (Int32.toNatClampNeg (nI i)))) (upd f2 (Int32.toNatClampNeg (nI i)) (f1 (Int32.toNatClampNeg (nI (i + 53))))) _ _ _ (by omega) (by omega) (by omega) w (lv_sub hl [0, 2, 3] rfl)
  exact loop 35 0 cn45 cn101 _ _ _ (by decide) (by decide) (by decide) w hl
set_option maxRecDepth 100000 in
set_option maxHeartbeats 4000000 in
theorem c141_X12_book (l : Launch) (D : va_G) (T : Nat → ClassId) (sz : Nat) (a0 a1 a2 a3 a4 a5 a6 a7 a8 a9 a10 a11 a12 a13 a14 a15 a16 a17 a18 a19 a20 a21 a22 : Nat) (x0 : Int32) : Met l yX12_book (Cond.code yX12_book cX12_book 4 (some .int) :: GW) (Rm 2 0 0) (cPre [.ref a0, .int x0] D T [(a0, .inr (11, [.int 0, .ref a1, .int 0, .int 0, .int 0, .int 0, .int 0, .int 0, .int 0, .int 0, .int 0, .int 0, .long 0, .int 0, .ref a2, .ref a3, .ref a4, .ref a5, .ref a6, .ref a7, .ref a8, .ref a9, .ref a10, .ref a11, .int 0, .ref a12, .ref a13, .ref a14, .ref a15, .int 0, .int 0, .int 0, .ref a16, .int (-1), .int (-1), .ref a17, .ref a18, .int 0, .ref a19, .int 0, .int 0, .ref a20, .ref a21, .int 0, .int 0, .ref a22, .int 0, .int 0, .int 0, .int 0])), (a2, .inl (T 0, 329, .inl cn45)), (a6, .inl (T 0, 34, .inl (fun _ => 0))), (a21, .inl (T 0, 4, .inl (fun _ => 0)))] sz) (qI D [(a0, .inr (11, [.int 0, .ref a1, .int 0, .int 0, .int 0, .int 0, .int 0, .int 0, .int 0, .int 0, .int 0, .int 0, .long 0, .int 0, .ref a2, .ref a3, .ref a4, .ref a5, .ref a6, .ref a7, .ref a8, .ref a9, .ref a10, .ref a11, .int 0, .ref a12, .ref a13, .ref a14, .ref a15, .int 0, .int 0, .int 0, .ref a16, .int (-1), .int (-1), .ref a17, .ref a18, .int 0, .ref a19, .int 0, .int 0, .ref a20, .ref a21, .int 0, .int 0, .ref a22, .int 0, .int 0, .int 0, .int 0])), (a2, .inl (T 0, 329, .inl cn45)), (a6, .inl (T 0, 34, .inl (fun _ => 0))), (a21, .inl (T 0, 4, .inl (fun _ => 0)))] sz (fun (v : Int32) (u : Unit) => (x0 < (0 : Int32) ∧ (-1000 : Int32) = v) ∨ (¬ x0 < (0 : Int32) ∧ (1 : Int32) < x0 ∧ (-1000 : Int32) = v) ∨ (¬ x0 < (0 : Int32) ∧ ¬ (1 : Int32) < x0 ∧ ¬ x0 = (1 : Int32) ∧ (-1 : Int32) = v) ∨ (¬ x0 < (0 : Int32) ∧ ¬ (1 : Int32) < x0 ∧ x0 = (1 : Int32) ∧ (-1 : Int32) = v)) (fun u => [])) 0 0 (va_A [(a0, .inr (11, [.int 0, .ref a1, .int 0, .int 0, .int 0, .int 0, .int 0, .int 0, .int 0, .int 0, .int 0, .int 0, .long 0, .int 0, .ref a2, .ref a3, .ref a4, .ref a5, .ref a6, .ref a7, .ref a8, .ref a9, .ref a10, .ref a11, .int 0, .ref a12, .ref a13, .ref a14, .ref a15, .int 0, .int 0, .int 0, .ref a16, .int (-1), .int (-1), .ref a17, .ref a18, .int 0, .ref a19, .int 0, .int 0, .ref a20, .ref a21, .int 0, .int 0, .ref a22, .int 0, .int 0, .int 0, .int 0])), (a2, .inl (T 0, 329, .inl cn45)), (a6, .inl (T 0, 34, .inl (fun _ => 0))), (a21, .inl (T 0, 4, .inl (fun _ => 0)))] sz) := by
  refine e_I (by decide) (Nat.le_of_ble_eq_true rfl) ?_
  intro p e s m args below meth c A Q ls M hin w ret hl
  have hx := M.1.1
  have hb := M.1.2.1
  have hl : lv_has ls 4 [(0, .ref a0), (1, .int x0)] := hl
  refine lv_aload_n hx hb dX12_book_0 rfl (lv_at hl 0 rfl) ?_
  refine lv_iconst (v := 0) hx hb dX12_book_1 (by decide) ?_
  refine r_put (ws' := [(a0, .inr (11, [.int 0, .ref a1, .int 0, .int 0, .int 0, .int 0, .int 0, .int 0, .int 0, .int 0, .int 0, .int 0, .long 0, .int 0, .ref a2, .ref a3, .ref a4, .ref a5, .ref a6, .ref a7, .ref a8, .ref a9, .ref a10, .ref a11, .int 0, .ref a12, .ref a13, .ref a14, .ref a15, .int 0, .int 0, .int 0, .ref a16, .int (-1), .int (-1), .ref a17, .ref a18, .int 0, .ref a19, .int 0, .int 0, .ref a20, .ref a21, .int 0, .int 0, .ref a22, .int 0, .int 0, .int 0, .int 0])), (a2, .inl (T 0, 329, .inl cn45)), (a6, .inl (T 0, 34, .inl (fun _ => 0))), (a21, .inl (T 0, 4, .inl (fun _ => 0)))]) M w 0 0 clX12 rfl (by decide) G1467 rfl rfl rfl rfl (Nat.le_of_ble_eq_true rfl) rfl dX12_book_2 (fun H locs w => ?_)
  refine lv_iload_n hx hb dX12_book_5 rfl (lv_at hl 1 rfl) ?_
  refine lv_iconst (v := 0) hx hb dX12_book_6 (by decide) ?_
  refine lv_iconst (v := 1) hx hb dX12_book_7 (by decide) ?_
  refine k_I (ce := 0) (sl := 0) (rest := []) (wr := [(a0, .inr (11, [.int 0, .ref a1, .int 0, .int 0, .int 0, .int 0, .int 0, .int 0, .int 0, .int 0, .int 0, .int 0, .long 0, .int 0, .ref a2, .ref a3, .ref a4, .ref a5, .ref a6, .ref a7, .ref a8, .ref a9, .ref a10, .ref a11, .int 0, .ref a12, .ref a13, .ref a14, .ref a15, .int 0, .int 0, .int 0, .ref a16, .int (-1), .int (-1), .ref a17, .ref a18, .int 0, .ref a19, .int 0, .int 0, .ref a20, .ref a21, .int 0, .int 0, .ref a22, .int 0, .int 0, .int 0, .int 0])), (a2, .inl (T 0, 329, .inl cn45)), (a6, .inl (T 0, 34, .inl (fun _ => 0))), (a21, .inl (T 0, 4, .inl (fun _ => 0)))]) (r_S (f := 0) [] M w V_HookedCityModel_75 G1697 (c135_X12_isIn l D T _ x0) rfl (by decide) rfl hl.1 rfl (Nat.le_of_ble_eq_true rfl) dX12_book_8 (by decide) (by decide) (by decide) (by decide)) w [] [0, 1, 2, 3] rfl rfl (by decide) (by decide) rfl rfl (fun v _ H locs hp w => ?_)
  try dsimp only at hp
  rcases hp with ⟨c_1, hp⟩ | ⟨c_2, c_3, hp⟩ | ⟨c_4, c_5, hp⟩
  · have hp : (0 : Int32) = v := hp
    subst hp
    have w : WD D A s.heap [(a0, .inr (11, [.int 0, .ref a1, .int 0, .int 0, .int 0, .int 0, .int 0, .int 0, .int 0, .int 0, .int 0, .int 0, .long 0, .int 0, .ref a2, .ref a3, .ref a4, .ref a5, .ref a6, .ref a7, .ref a8, .ref a9, .ref a10, .ref a11, .int 0, .ref a12, .ref a13, .ref a14, .ref a15, .int 0, .int 0, .int 0, .ref a16, .int (-1), .int (-1), .ref a17, .ref a18, .int 0, .ref a19, .int 0, .int 0, .ref a20, .ref a21, .int 0, .int 0, .ref a22, .int 0, .int 0, .int 0, .int 0])), (a2, .inl (T 0, 329, .inl cn45)), (a6, .inl (T 0, 34, .inl (fun _ => 0))), (a21, .inl (T 0, 4, .inl (fun _ => 0)))] H locs := w
    refine lv_if_ne (tgt := 18) hx hb dX12_book_11 (by decide) (fun c => absurd (by decide +kernel) c) (fun _ => ?_)
    refine lv_sipush (v := (-1000)) hx hb dX12_book_14 (by decide) ?_
    exact ret _ () _ _ _ _ _ [] dX12_book_17 (Or.inl ⟨c_1, rfl⟩) w (by decide) rfl
  · have hp : (0 : Int32) = v := hp
    subst hp
    have w : WD D A s.heap [(a0, .inr (11, [.int 0, .ref a1, .int 0, .int 0, .int 0, .int 0, .int 0, .int 0, .int 0, .int 0, .int 0, .int 0, .long 0, .int 0, .ref a2, .ref a3, .ref a4, .ref a5, .ref a6, .ref a7, .ref a8, .ref a9, .ref a10, .ref a11, .int 0, .ref a12, .ref a13, .ref a14, .ref a15, .int 0, .int 0, .int 0, .ref a16, .int (-1), .int (-1), .ref a17, .ref a18, .int 0, .ref a19, .int 0, .int 0, .ref a20, .ref a21, .int 0, .int 0, .ref a22, .int 0, .int 0, .int 0, .int 0])), (a2, .inl (T 0, 329, .inl cn45)), (a6, .inl (T 0, 34, .inl (fun _ => 0))), (a21, .inl (T 0, 4, .inl (fun _ => 0)))] H locs := w
    refine lv_if_ne (tgt := 18) hx hb dX12_book_11 (by decide) (fun c => absurd (by decide +kernel) c) (fun _ => ?_)
    refine lv_sipush (v := (-1000)) hx hb dX12_book_14 (by decide) ?_
    exact ret _ () _ _ _ _ _ [] dX12_book_17 (Or.inr (Or.inl ⟨c_2, c_3, rfl⟩)) w (by decide) rfl
  · have hp : (1 : Int32) = v := hp
    subst hp
    have w : WD D A s.heap [(a0, .inr (11, [.int 0, .ref a1, .int 0, .int 0, .int 0, .int 0, .int 0, .int 0, .int 0, .int 0, .int 0, .int 0, .long 0, .int 0, .ref a2, .ref a3, .ref a4, .ref a5, .ref a6, .ref a7, .ref a8, .ref a9, .ref a10, .ref a11, .int 0, .ref a12, .ref a13, .ref a14, .ref a15, .int 0, .int 0, .int 0, .ref a16, .int (-1), .int (-1), .ref a17, .ref a18, .int 0, .ref a19, .int 0, .int 0, .ref a20, .ref a21, .int 0, .int 0, .ref a22, .int 0, .int 0, .int 0, .int 0])), (a2, .inl (T 0, 329, .inl cn45)), (a6, .inl (T 0, 34, .inl (fun _ => 0))), (a21, .inl (T 0, 4, .inl (fun _ => 0)))] H locs := w
    refine lv_if_ne (tgt := 18) hx hb dX12_book_11 (by decide) (fun _ => ?_) (fun c => absurd c (by decide +kernel))
    refine lv_aload_n hx hb dX12_book_18 rfl (lv_at hl 0 rfl) ?_
    refine lv_sipush (v := 400) hx hb dX12_book_19 (by decide) ?_
    refine k_V (ce := 0) (sl := 0) (rest := []) (wr := [(a2, .inl (T 0, 329, .inl cn45)), (a6, .inl (T 0, 34, .inl (fun _ => 0))), (a21, .inl (T 0, 4, .inl (fun _ => 0)))]) (r_V (f := 1) [0] M w V_HookedCityModel_224 G1625 G47 (c137_X12_begin l D T _ a0 a1 a2 a3 a4 a5 a6 a7 a8 a9 a10 a11 a12 a13 a14 a15 a16 a17 a18 a19 a20 a21 a22) 0 clX12 rfl rfl (by decide) rfl hl.1 rfl (Nat.le_of_ble_eq_true rfl) dX12_book_22 (by decide) (by decide) (by decide) (by decide)) w [0] [1, 2, 3] rfl rfl (by decide) (by decide) rfl rfl (fun _ H locs hp w => ?_)
    have w : WD D A s.heap [(a2, .inl (T 0, 329, .inl cn45)), (a6, .inl (T 0, 34, .inl (fun _ => 0))), (a21, .inl (T 0, 4, .inl (fun _ => 0))), (a0, .inr (11, [.int 0, .ref a1, .int 0, .int 0, .int 400, .int 0, .int 0, .int 0, .int 0, .int 0, .int 0, .int 0, .long 0, .int 0, .ref a2, .ref a3, .ref a4, .ref a5, .ref a6, .ref a7, .ref a8, .ref a9, .ref a10, .ref a11, .int 0, .ref a12, .ref a13, .ref a14, .ref a15, .int 0, .int 0, .int 0, .ref a16, .int (-1), .int (-1), .ref a17, .ref a18, .int 0, .ref a19, .int 0, .int 0, .ref a20, .ref a21, .int 0, .int 0, .ref a22, .int 0, .int 0, .int 0, .int 0]))] H locs := w
    refine lv_aload_n hx hb dX12_book_25 rfl (lv_at hl 0 rfl) ?_
    refine lv_iconst (v := 0) hx hb dX12_book_26 (by decide) ?_
    refine r_put (ws' := [(a2, .inl (T 0, 329, .inl cn45)), (a6, .inl (T 0, 34, .inl (fun _ => 0))), (a21, .inl (T 0, 4, .inl (fun _ => 0))), (a0, .inr (11, [.int 0, .ref a1, .int 0, .int 0, .int 400, .int 0, .int 0, .int 0, .int 0, .int 0, .int 0, .int 0, .long 0, .int 0, .ref a2, .ref a3, .ref a4, .ref a5, .ref a6, .ref a7, .ref a8, .ref a9, .ref a10, .ref a11, .int 0, .ref a12, .ref a13, .ref a14, .ref a15, .int 0, .int 0, .int 0, .ref a16, .int (-1), .int (-1), .ref a17, .ref a18, .int 0, .ref a19, .int 0, .int 0, .ref a20, .ref a21, .int 0, .int 0, .ref a22, .int 0, .int 0, .int 0, .int 0]))]) M w 3 43 clX12 rfl (by decide) G1510 rfl rfl rfl rfl (Nat.le_of_ble_eq_true rfl) rfl dX12_book_27 (fun H locs w => ?_)
    refine lv_aload_n hx hb dX12_book_30 rfl (lv_at hl 0 rfl) ?_
    refine r_get (v := .int 0) M w 3 7 clX12 rfl (by decide) G1474 rfl rfl dX12_book_31 ?_
    refine lv_if_eq (tgt := 65) hx hb dX12_book_34 (by decide) (fun _ => ?_) (fun c => absurd (by decide +kernel) c)
    refine lv_aload_n hx hb dX12_book_65 rfl (lv_at hl 0 rfl) ?_
    refine k_V (ce := 0) (sl := 0) (rest := []) (wr := [(a21, .inl (T 0, 4, .inl (fun _ => 0)))]) (r_V (f := 0) [3, 0, 1] M w V_HookedCityModel_364 G1977 G101 (c138_X12_layAside l D T _ a0 a1 a2 a3 a4 a5 a6 a7 a8 a9 a10 a11 a12 a13 a14 a15 a16 a17 a18 a19 a20 a21 a22) 3 clX12 rfl rfl (by decide) rfl hl.1 rfl (Nat.le_of_ble_eq_true rfl) dX12_book_66 (by decide) (by decide) (by decide) (by decide)) w [3, 0, 1] [2] rfl rfl (by decide) (by decide) rfl rfl (fun _ H locs hp w => ?_)
    have w : WD D A s.heap [(a21, .inl (T 0, 4, .inl (fun _ => 0))), (a0, .inr (11, [.int 0, .ref a1, .int 0, .int 0, .int 400, .int 0, .int 0, .int 0, .int 0, .int 0, .int 0, .int 0, .long 0, .int 0, .ref a2, .ref a3, .ref a4, .ref a5, .ref a6, .ref a7, .ref a8, .ref a9, .ref a10, .ref a11, .int 0, .ref a12, .ref a13, .ref a14, .ref a15, .int 0, .int 0, .int 0, .ref a16, .int (-1), .int (-1), .ref a17, .ref a18, .int 0, .ref a19, .int 0, .int 0, .ref a20, .ref a21, .int 0, .int 0, .ref a22, .int 0, .int 0, .int 0, .int 0])), (a2, .inl (T 0, 329, .inl cn45)), (a6, .inl (T 0, 34, .inl cn101))] H locs := w
    refine lv_iconst (v := 0) hx hb dX12_book_69 (by decide) ?_
    refine lv_istore_n (lv' := [(2, .int 0), (0, .ref a0), (1, .int x0)]) hx hb dX12_book_70 rfl hl (by decide) rfl (fun ls hl => ?_)
    refine lv_iconst (v := 0) hx hb dX12_book_71 (by decide) ?_
    refine lv_istore_n (lv' := [(3, .int 0), (2, .int 0), (0, .ref a0), (1, .int x0)]) hx hb dX12_book_72 rfl hl (by decide) rfl (fun ls hl => ?_)
    refine lv_iload_n hx hb dX12_book_73 rfl (lv_at hl 1 rfl) ?_
    refine lv_aload_n hx hb dX12_book_74 rfl (lv_at hl 2 rfl) ?_
    refine r_get (v := .int 0) M w 1 43 clX12 rfl (by decide) G1510 rfl rfl dX12_book_75 ?_
    refine lv_icmp_ge (tgt := 103) hx hb dX12_book_78 (by decide) (fun _ => ?_) (fun c => absurd (by decide +kernel) c)
    refine lv_aload_n hx hb dX12_book_103 rfl (lv_at hl 2 rfl) ?_
    refine r_get (v := .ref a21) M w 1 42 clX12 rfl (by decide) G1509 rfl rfl dX12_book_104 ?_
    refine lv_iconst (v := 0) hx hb dX12_book_107 (by decide) ?_
    refine lv_iload_n hx hb dX12_book_108 rfl (lv_at hl 0 rfl) ?_
    refine r_iast (ws' := [(a21, .inl (T 0, 4, .inl cn102)), (a0, .inr (11, [.int 0, .ref a1, .int 0, .int 0, .int 400, .int 0, .int 0, .int 0, .int 0, .int 0, .int 0, .int 0, .long 0, .int 0, .ref a2, .ref a3, .ref a4, .ref a5, .ref a6, .ref a7, .ref a8, .ref a9, .ref a10, .ref a11, .int 0, .ref a12, .ref a13, .ref a14, .ref a15, .int 0, .int 0, .int 0, .ref a16, .int (-1), .int (-1), .ref a17, .ref a18, .int 0, .ref a19, .int 0, .int 0, .ref a20, .ref a21, .int 0, .int 0, .ref a22, .int 0, .int 0, .int 0, .int 0])), (a2, .inl (T 0, 329, .inl cn45)), (a6, .inl (T 0, 34, .inl cn101))]) M w 0 rfl (vin (by decide +kernel)) rfl dX12_book_109 (fun H locs w => ?_)
    refine lv_aload_n hx hb dX12_book_110 rfl (lv_at hl 2 rfl) ?_
    refine r_get (v := .ref a21) M w 1 42 clX12 rfl (by decide) G1509 rfl rfl dX12_book_111 ?_
    refine lv_iconst (v := 1) hx hb dX12_book_114 (by decide) ?_
    refine lv_iload_n hx hb dX12_book_115 rfl (lv_at hl 1 rfl) ?_
    refine r_iast (ws' := [(a21, .inl (T 0, 4, .inl cn103)), (a0, .inr (11, [.int 0, .ref a1, .int 0, .int 0, .int 400, .int 0, .int 0, .int 0, .int 0, .int 0, .int 0, .int 0, .long 0, .int 0, .ref a2, .ref a3, .ref a4, .ref a5, .ref a6, .ref a7, .ref a8, .ref a9, .ref a10, .ref a11, .int 0, .ref a12, .ref a13, .ref a14, .ref a15, .int 0, .int 0, .int 0, .ref a16, .int (-1), .int (-1), .ref a17, .ref a18, .int 0, .ref a19, .int 0, .int 0, .ref a20, .ref a21, .int 0, .int 0, .ref a22, .int 0, .int 0, .int 0, .int 0])), (a2, .inl (T 0, 329, .inl cn45)), (a6, .inl (T 0, 34, .inl cn101))]) M w 0 rfl (vin (by decide +kernel)) rfl dX12_book_116 (fun H locs w => ?_)
    refine lv_aload_n hx hb dX12_book_117 rfl (lv_at hl 2 rfl) ?_
    refine r_get (v := .ref a21) M w 1 42 clX12 rfl (by decide) G1509 rfl rfl dX12_book_118 ?_
    refine lv_iconst (v := 2) hx hb dX12_book_121 (by decide) ?_
    refine lv_aload_n hx hb dX12_book_122 rfl (lv_at hl 2 rfl) ?_
    refine r_get (v := .ref a2) M w 1 14 clX12 rfl (by decide) G1481 rfl rfl dX12_book_123 ?_
    refine lv_bipush (v := 53) hx hb dX12_book_126 (by decide) ?_
    refine r_iald (v := (0 : Int32)) M w 2 rfl (vin (by decide +kernel)) (by decide +kernel) dX12_book_128 ?_
    refine r_iast (ws' := [(a21, .inl (T 0, 4, .inl cn104)), (a0, .inr (11, [.int 0, .ref a1, .int 0, .int 0, .int 400, .int 0, .int 0, .int 0, .int 0, .int 0, .int 0, .int 0, .long 0, .int 0, .ref a2, .ref a3, .ref a4, .ref a5, .ref a6, .ref a7, .ref a8, .ref a9, .ref a10, .ref a11, .int 0, .ref a12, .ref a13, .ref a14, .ref a15, .int 0, .int 0, .int 0, .ref a16, .int (-1), .int (-1), .ref a17, .ref a18, .int 0, .ref a19, .int 0, .int 0, .ref a20, .ref a21, .int 0, .int 0, .ref a22, .int 0, .int 0, .int 0, .int 0])), (a2, .inl (T 0, 329, .inl cn45)), (a6, .inl (T 0, 34, .inl cn101))]) M w 0 rfl (vin (by decide +kernel)) rfl dX12_book_129 (fun H locs w => ?_)
    refine lv_aload_n hx hb dX12_book_130 rfl (lv_at hl 2 rfl) ?_
    refine r_get (v := .ref a21) M w 1 42 clX12 rfl (by decide) G1509 rfl rfl dX12_book_131 ?_
    refine lv_iconst (v := 3) hx hb dX12_book_134 (by decide) ?_
    refine lv_aload_n hx hb dX12_book_135 rfl (lv_at hl 2 rfl) ?_
    refine k_I (ce := 0) (sl := 0) (rest := [.int 3, .ref a21]) (wr := [(a21, .inl (T 0, 4, .inl cn104)), (a6, .inl (T 0, 34, .inl cn101))]) (r_V (f := 0) [1, 2] M w V_HookedCityModel_258 G1768 G73 (c139_X12_opens l D T _ a0 a1 a2 a3 a4 a5 a6 a7 a8 a9 a10 a11 a12 a13 a14 a15 a16 a17 a18 a19 a20 a21 a22) 1 clX12 rfl rfl (by decide) rfl hl.1 rfl (Nat.le_of_ble_eq_true rfl) dX12_book_136 (by decide) (by decide) (by decide) (by decide)) w [1, 2] [0, 3] rfl rfl (by decide) (by decide) rfl rfl (fun v _ H locs hp w => ?_)
    have hp : (0 : Int32) = v := hp
    subst hp
    have w : WD D A s.heap [(a21, .inl (T 0, 4, .inl cn104)), (a6, .inl (T 0, 34, .inl cn101)), (a0, .inr (11, [.int 0, .ref a1, .int 0, .int 0, .int 400, .int 0, .int 0, .int 0, .int 0, .int 0, .int 0, .int 0, .long 0, .int 0, .ref a2, .ref a3, .ref a4, .ref a5, .ref a6, .ref a7, .ref a8, .ref a9, .ref a10, .ref a11, .int 0, .ref a12, .ref a13, .ref a14, .ref a15, .int 0, .int 0, .int 0, .ref a16, .int (-1), .int (-1), .ref a17, .ref a18, .int 0, .ref a19, .int 0, .int 0, .ref a20, .ref a21, .int 0, .int 0, .ref a22, .int 0, .int 0, .int 0, .int 0])), (a2, .inl (T 0, 329, .inl cn45))] H locs := w
    refine r_iast (ws' := [(a21, .inl (T 0, 4, .inl cn105)), (a6, .inl (T 0, 34, .inl cn101)), (a0, .inr (11, [.int 0, .ref a1, .int 0, .int 0, .int 400, .int 0, .int 0, .int 0, .int 0, .int 0, .int 0, .int 0, .long 0, .int 0, .ref a2, .ref a3, .ref a4, .ref a5, .ref a6, .ref a7, .ref a8, .ref a9, .ref a10, .ref a11, .int 0, .ref a12, .ref a13, .ref a14, .ref a15, .int 0, .int 0, .int 0, .ref a16, .int (-1), .int (-1), .ref a17, .ref a18, .int 0, .ref a19, .int 0, .int 0, .ref a20, .ref a21, .int 0, .int 0, .ref a22, .int 0, .int 0, .int 0, .int 0])), (a2, .inl (T 0, 329, .inl cn45))]) M w 0 rfl (vin (by decide +kernel)) rfl dX12_book_139 (fun H locs w => ?_)
    refine lv_aload_n hx hb dX12_book_140 rfl (lv_at hl 2 rfl) ?_
    refine lv_iconst (v := 1) hx hb dX12_book_141 (by decide) ?_
    refine r_put (ws' := [(a21, .inl (T 0, 4, .inl cn105)), (a6, .inl (T 0, 34, .inl cn101)), (a0, .inr (11, [.int 0, .ref a1, .int 0, .int 0, .int 400, .int 0, .int 0, .int 0, .int 0, .int 0, .int 0, .int 0, .long 0, .int 0, .ref a2, .ref a3, .ref a4, .ref a5, .ref a6, .ref a7, .ref a8, .ref a9, .ref a10, .ref a11, .int 0, .ref a12, .ref a13, .ref a14, .ref a15, .int 0, .int 0, .int 0, .ref a16, .int (-1), .int (-1), .ref a17, .ref a18, .int 0, .ref a19, .int 0, .int 0, .ref a20, .ref a21, .int 0, .int 1, .ref a22, .int 0, .int 0, .int 0, .int 0])), (a2, .inl (T 0, 329, .inl cn45))]) M w 2 44 clX12 rfl (by decide) G1511 rfl rfl (by decide +kernel) (by decide +kernel) (Nat.le_of_ble_eq_true rfl) rfl dX12_book_142 (fun H locs w => ?_)
    refine lv_aload_n hx hb dX12_book_145 rfl (lv_at hl 2 rfl) ?_
    refine lv_iload_n hx hb dX12_book_146 rfl (lv_at hl 3 rfl) ?_
    refine lv_iconst (v := 1) hx hb dX12_book_147 (by decide) ?_
    refine lv_icmp_ne (tgt := 159) hx hb dX12_book_148 (by decide) (fun c_6 => ?_) (fun c_6 => ?_)
    · refine lv_iconst (v := 0) hx hb dX12_book_159 (by decide) ?_
      refine k_V (ce := 0) (sl := 0) (rest := []) (wr := [(a21, .inl (T 0, 4, .inl cn105))]) (r_V (f := 0) [2, 3, 1] M w V_HookedCityModel_391 G2009 G108 (c140_X12_stay l D T _ a0 a1 a2 a3 a4 a5 a6 a7 a8 a9 a10 a11 a12 a13 a14 a15 a16 a17 a18 a19 a20 a21 a22) 2 clX12 rfl rfl (by decide) rfl hl.1 rfl (Nat.le_of_ble_eq_true rfl) dX12_book_160 (by decide) (by decide) (by decide) (by decide)) w [2, 3, 1] [0] rfl rfl (by decide) (by decide) rfl rfl (fun _ H locs hp w => ?_)
      have w : WD D A s.heap [(a21, .inl (T 0, 4, .inl cn105))] H locs := w
      refine lv_iload_n hx hb dX12_book_163 rfl (lv_at hl 0 rfl) ?_
      refine lv_if_ne (tgt := 171) hx hb dX12_book_164 (by decide) (fun c => absurd (by decide +kernel) c) (fun _ => ?_)
      refine lv_iconst (v := (-1)) hx hb dX12_book_167 (by decide) ?_
      refine lv_goto (tgt := 172) hx hb dX12_book_168 (by decide) ?_
      exact ret _ () _ _ _ _ _ [] dX12_book_172 (Or.inr (Or.inr (Or.inl ⟨c_4, c_5, c_6, rfl⟩))) w (by decide) rfl
    · refine lv_iload_n hx hb dX12_book_151 rfl (lv_at hl 1 rfl) ?_
      refine lv_if_le (tgt := 159) hx hb dX12_book_152 (by decide) (fun _ => ?_) (fun c => absurd (by decide +kernel) c)
      refine lv_iconst (v := 0) hx hb dX12_book_159 (by decide) ?_
      refine k_V (ce := 0) (sl := 0) (rest := []) (wr := [(a21, .inl (T 0, 4, .inl cn105))]) (r_V (f := 0) [2, 3, 1] M w V_HookedCityModel_391 G2009 G108 (c140_X12_stay l D T _ a0 a1 a2 a3 a4 a5 a6 a7 a8 a9 a10 a11 a12 a13 a14 a15 a16 a17 a18 a19 a20 a21 a22) 2 clX12 rfl rfl (by decide) rfl hl.1 rfl (Nat.le_of_ble_eq_true rfl) dX12_book_160 (by decide) (by decide) (by decide) (by decide)) w [2, 3, 1] [0] rfl rfl (by decide) (by decide) rfl rfl (fun _ H locs hp w => ?_)
      have w : WD D A s.heap [(a21, .inl (T 0, 4, .inl cn105))] H locs := w
      refine lv_iload_n hx hb dX12_book_163 rfl (lv_at hl 0 rfl) ?_
      refine lv_if_ne (tgt := 171) hx hb dX12_book_164 (by decide) (fun c => absurd (by decide +kernel) c) (fun _ => ?_)
      refine lv_iconst (v := (-1)) hx hb dX12_book_167 (by decide) ?_
      refine lv_goto (tgt := 172) hx hb dX12_book_168 (by decide) ?_
      exact ret _ () _ _ _ _ _ [] dX12_book_172 (Or.inr (Or.inr (Or.inr (⟨c_4, c_5, c_6, rfl⟩)))) w (by decide) rfl
set_option maxRecDepth 100000 in
set_option maxHeartbeats 4000000 in
theorem c142_X11_told (l : Launch) (D : va_G) (T : Nat → ClassId) (sz : Nat) (a0 a1 a2 a3 a4 a5 a6 a7 a8 a9 a10 a11 a12 a13 a14 a15 a16 a17 a18 a19 : Nat) (x0 : Int32) : Met l yX11_told (Cond.code yX11_told cX11_told 2 (some .int) :: GW) (Rm 0 0 0) (cPre [.ref a0, .int x0] D T [(a0, .inr (10, [.ref a1, .ref a2, .ref a3, .ref a4, .ref a5, .ref a6, .ref a7, .ref a8, .ref a9, .ref a10, .ref a11, .ref a12, .ref a13, .ref a14, .int 0, .int 0, .int 0])), (a4, .inr (0, [.ref a15, .ref a16, .ref a17, .ref a18, .ref a19, .int 0])), (a19, .inl (T 0, 4, .inl cn4))] sz) (qI D [(a0, .inr (10, [.ref a1, .ref a2, .ref a3, .ref a4, .ref a5, .ref a6, .ref a7, .ref a8, .ref a9, .ref a10, .ref a11, .ref a12, .ref a13, .ref a14, .int 0, .int 0, .int 0])), (a4, .inr (0, [.ref a15, .ref a16, .ref a17, .ref a18, .ref a19, .int 0])), (a19, .inl (T 0, 4, .inl cn4))] sz (fun (v : Int32) (u : Unit) => (-1 : Int32) = v) (fun u => [])) 0 0 (va_A [(a0, .inr (10, [.ref a1, .ref a2, .ref a3, .ref a4, .ref a5, .ref a6, .ref a7, .ref a8, .ref a9, .ref a10, .ref a11, .ref a12, .ref a13, .ref a14, .int 0, .int 0, .int 0])), (a4, .inr (0, [.ref a15, .ref a16, .ref a17, .ref a18, .ref a19, .int 0])), (a19, .inl (T 0, 4, .inl cn4))] sz) := by
  refine e_I (by decide) (Nat.le_of_ble_eq_true rfl) ?_
  intro p e s m args below meth c A Q ls M hin w ret hl
  have hx := M.1.1
  have hb := M.1.2.1
  have hl : lv_has ls 2 [(0, .ref a0), (1, .int x0)] := hl
  refine lv_iload_n hx hb dX11_told_0 rfl (lv_at hl 1 rfl) ?_
  refine lv_if_lt (tgt := 21) hx hb dX11_told_1 (by decide) (fun c_1 => ?_) (fun c_1 => ?_)
  · refine lv_iconst (v := (-1)) hx hb dX11_told_21 (by decide) ?_
    exact ret _ () _ _ _ _ _ [] dX11_told_22 rfl w (by decide) rfl
  · refine lv_iload_n hx hb dX11_told_4 rfl (lv_at hl 1 rfl) ?_
    refine lv_iconst (v := 4) hx hb dX11_told_5 (by decide) ?_
    refine lv_icmp_ge (tgt := 21) hx hb dX11_told_6 (by decide) (fun c_2 => ?_) (fun c_2 => ?_)
    · refine lv_iconst (v := (-1)) hx hb dX11_told_21 (by decide) ?_
      exact ret _ () _ _ _ _ _ [] dX11_told_22 rfl w (by decide) rfl
    · refine lv_aload_n hx hb dX11_told_9 rfl (lv_at hl 0 rfl) ?_
      refine r_get (v := .ref a4) M w 0 3 clX11 rfl (by decide) G500 rfl rfl dX11_told_10 ?_
      refine r_getN (v := .ref a19) M w 1 4 clX0 rfl (by decide) N268 rfl rfl dX11_told_13 ?_
      refine lv_iload_n hx hb dX11_told_16 rfl (lv_at hl 1 rfl) ?_
      have h3 : x0 = (0 : Int32) ∨ x0 = (1 : Int32) ∨ x0 = (2 : Int32) ∨ x0 = (3 : Int32) := by
        simp only [fa_lt, fa_le, fa_eq] at c_1 c_2 ⊢
        have e0 : (0 : Int32).toInt = 0 := (by decide)
        have e1 : (1 : Int32).toInt = 1 := (by decide)
        have e2 : (2 : Int32).toInt = 2 := (by decide)
        have e3 : (3 : Int32).toInt = 3 := (by decide)
        have e4 : (4 : Int32).toInt = 4 := (by decide)
        omega
      rcases h3 with rfl | rfl | rfl | rfl
      · refine r_iald (v := (-1 : Int32)) M w 2 rfl (vin (by decide +kernel)) (by decide +kernel) dX11_told_17 ?_
        refine lv_goto (tgt := 22) hx hb dX11_told_18 (by decide) ?_
        exact ret _ () _ _ _ _ _ [] dX11_told_22 rfl w (by decide) rfl
      · refine r_iald (v := (-1 : Int32)) M w 2 rfl (vin (by decide +kernel)) (by decide +kernel) dX11_told_17 ?_
        refine lv_goto (tgt := 22) hx hb dX11_told_18 (by decide) ?_
        exact ret _ () _ _ _ _ _ [] dX11_told_22 rfl w (by decide) rfl
      · refine r_iald (v := (-1 : Int32)) M w 2 rfl (vin (by decide +kernel)) (by decide +kernel) dX11_told_17 ?_
        refine lv_goto (tgt := 22) hx hb dX11_told_18 (by decide) ?_
        exact ret _ () _ _ _ _ _ [] dX11_told_22 rfl w (by decide) rfl
      · refine r_iald (v := (-1 : Int32)) M w 2 rfl (vin (by decide +kernel)) (by decide +kernel) dX11_told_17 ?_
        refine lv_goto (tgt := 22) hx hb dX11_told_18 (by decide) ?_
        exact ret _ () _ _ _ _ _ [] dX11_told_22 rfl w (by decide) rfl
set_option maxRecDepth 100000 in
set_option maxHeartbeats 4000000 in
theorem c143_X12_told (l : Launch) (D : va_G) (T : Nat → ClassId) (sz : Nat) (a0 a1 a2 a3 a4 a5 a6 a7 a8 a9 a10 a11 a12 a13 a14 a15 a16 a17 a18 a19 a20 a21 a22 : Nat) (x0 : Int32) : Met l yX12_told (Cond.code yX12_told cX12_told 2 (some .int) :: GW) (Rm 0 0 0) (cPre [.ref a0, .int x0] D T [(a0, .inr (11, [.int 0, .ref a1, .int 0, .int 0, .int 0, .int 0, .int 0, .int 0, .int 0, .int 0, .int 0, .int 0, .long 0, .int 0, .ref a2, .ref a3, .ref a4, .ref a5, .ref a6, .ref a7, .ref a8, .ref a9, .ref a10, .ref a11, .int 0, .ref a12, .ref a13, .ref a14, .ref a15, .int 0, .int 0, .int 0, .ref a16, .int (-1), .int (-1), .ref a17, .ref a18, .int 0, .ref a19, .int 0, .int 0, .ref a20, .ref a21, .int 0, .int 0, .ref a22, .int 0, .int 0, .int 0, .int 0]))] sz) (qI D [(a0, .inr (11, [.int 0, .ref a1, .int 0, .int 0, .int 0, .int 0, .int 0, .int 0, .int 0, .int 0, .int 0, .int 0, .long 0, .int 0, .ref a2, .ref a3, .ref a4, .ref a5, .ref a6, .ref a7, .ref a8, .ref a9, .ref a10, .ref a11, .int 0, .ref a12, .ref a13, .ref a14, .ref a15, .int 0, .int 0, .int 0, .ref a16, .int (-1), .int (-1), .ref a17, .ref a18, .int 0, .ref a19, .int 0, .int 0, .ref a20, .ref a21, .int 0, .int 0, .ref a22, .int 0, .int 0, .int 0, .int 0]))] sz (fun (v : Int32) (u : Unit) => (-1 : Int32) = v) (fun u => [])) 0 0 (va_A [(a0, .inr (11, [.int 0, .ref a1, .int 0, .int 0, .int 0, .int 0, .int 0, .int 0, .int 0, .int 0, .int 0, .int 0, .long 0, .int 0, .ref a2, .ref a3, .ref a4, .ref a5, .ref a6, .ref a7, .ref a8, .ref a9, .ref a10, .ref a11, .int 0, .ref a12, .ref a13, .ref a14, .ref a15, .int 0, .int 0, .int 0, .ref a16, .int (-1), .int (-1), .ref a17, .ref a18, .int 0, .ref a19, .int 0, .int 0, .ref a20, .ref a21, .int 0, .int 0, .ref a22, .int 0, .int 0, .int 0, .int 0]))] sz) := by
  refine e_I (by decide) (Nat.le_of_ble_eq_true rfl) ?_
  intro p e s m args below meth c A Q ls M hin w ret hl
  have hx := M.1.1
  have hb := M.1.2.1
  have hl : lv_has ls 2 [(0, .ref a0), (1, .int x0)] := hl
  refine lv_aload_n hx hb dX12_told_0 rfl (lv_at hl 0 rfl) ?_
  refine lv_iconst (v := 0) hx hb dX12_told_1 (by decide) ?_
  refine r_put (ws' := [(a0, .inr (11, [.int 0, .ref a1, .int 0, .int 0, .int 0, .int 0, .int 0, .int 0, .int 0, .int 0, .int 0, .int 0, .long 0, .int 0, .ref a2, .ref a3, .ref a4, .ref a5, .ref a6, .ref a7, .ref a8, .ref a9, .ref a10, .ref a11, .int 0, .ref a12, .ref a13, .ref a14, .ref a15, .int 0, .int 0, .int 0, .ref a16, .int (-1), .int (-1), .ref a17, .ref a18, .int 0, .ref a19, .int 0, .int 0, .ref a20, .ref a21, .int 0, .int 0, .ref a22, .int 0, .int 0, .int 0, .int 0]))]) M w 0 0 clX12 rfl (by decide) G1467 rfl rfl rfl rfl (Nat.le_of_ble_eq_true rfl) rfl dX12_told_2 (fun H locs w => ?_)
  refine lv_aload_n hx hb dX12_told_5 rfl (lv_at hl 0 rfl) ?_
  refine r_get (v := .int 0) M w 0 44 clX12 rfl (by decide) G1511 rfl rfl dX12_told_6 ?_
  refine lv_if_eq (tgt := 30) hx hb dX12_told_9 (by decide) (fun _ => ?_) (fun c => absurd (by decide +kernel) c)
  refine lv_iconst (v := (-1)) hx hb dX12_told_30 (by decide) ?_
  exact ret _ () _ _ _ _ _ [] dX12_told_31 rfl w (by decide) rfl
set_option maxRecDepth 100000 in
set_option maxHeartbeats 4000000 in
theorem c144_X8_step (l : Launch) (D : va_G) (T : Nat → ClassId) (sz : Nat) (a0 a1 : Nat) : Met l yX8_step (Cond.code yX8_step cX8_step 1 none :: GW) (Rm 0 0 0) (cPre [.ref a0] D T [(a0, .inr (8, [.ref a1, .int 0, .int 200, .int 0, .int 0, .int 0, .null, .long 0, .int 0, .int 0, .int 0, .int 0]))] sz) (qV D [(a0, .inr (8, [.ref a1, .int 0, .int 200, .int 0, .int 0, .int 0, .null, .long 0, .int 0, .int 0, .int 0, .int 0]))] sz (fun (u : Unit) => True) (fun u => [(a0, .inr (8, [.ref a1, .int 0, .int 200, .int 0, .int 0, .int 0, .null, .long 0, .int 0, .int 0, .int 0, .int 0]))])) 0 0 (va_A [(a0, .inr (8, [.ref a1, .int 0, .int 200, .int 0, .int 0, .int 0, .null, .long 0, .int 0, .int 0, .int 0, .int 0]))] sz) := by
  refine e_V (by decide) (Nat.le_of_ble_eq_true rfl) ?_
  intro p e s m args below meth c A Q ls M hin w ret hl
  have hx := M.1.1
  have hb := M.1.2.1
  have hl : lv_has ls 1 [(0, .ref a0)] := hl
  refine lv_aload_n hx hb dX8_step_0 rfl (lv_at hl 0 rfl) ?_
  refine r_get (v := .int 0) M w 0 3 clX8 rfl (by decide) G166 rfl rfl dX8_step_1 ?_
  refine lv_aload_n hx hb dX8_step_4 rfl (lv_at hl 0 rfl) ?_
  refine r_get (v := .int 0) M w 0 1 clX8 rfl (by decide) G162 rfl rfl dX8_step_5 ?_
  refine lv_icmp_ge (tgt := 52) hx hb dX8_step_8 (by decide) (fun _ => ?_) (fun c => absurd (by decide +kernel) c)
  refine lv_aload_n hx hb dX8_step_52 rfl (lv_at hl 0 rfl) ?_
  refine lv_aload_n hx hb dX8_step_53 rfl (lv_at hl 0 rfl) ?_
  refine r_get (v := .int 0) M w 0 3 clX8 rfl (by decide) G166 rfl rfl dX8_step_54 ?_
  refine r_put (ws' := [(a0, .inr (8, [.ref a1, .int 0, .int 200, .int 0, .int 0, .int 0, .null, .long 0, .int 0, .int 0, .int 0, .int 0]))]) M w 0 4 clX8 rfl (by decide) G167 rfl rfl rfl rfl (Nat.le_of_ble_eq_true rfl) rfl dX8_step_57 (fun H locs w => ?_)
  refine lv_aload_n hx hb dX8_step_60 rfl (lv_at hl 0 rfl) ?_
  refine lv_null hx hb dX8_step_61 ?_
  refine r_put (ws' := [(a0, .inr (8, [.ref a1, .int 0, .int 200, .int 0, .int 0, .int 0, .null, .long 0, .int 0, .int 0, .int 0, .int 0]))]) M w 0 6 clX8 rfl (by decide) G170 rfl rfl rfl rfl (Nat.le_of_ble_eq_true rfl) rfl dX8_step_62 (fun H locs w => ?_)
  refine lv_aload_n hx hb dX8_step_65 rfl (lv_at hl 0 rfl) ?_
  refine r_get (v := .int 0) M w 0 1 clX8 rfl (by decide) G162 rfl rfl dX8_step_66 ?_
  refine lv_aload_n hx hb dX8_step_69 rfl (lv_at hl 0 rfl) ?_
  refine r_get (v := .int 200) M w 0 2 clX8 rfl (by decide) G165 rfl rfl dX8_step_70 ?_
  refine lv_icmp_le (tgt := 103) hx hb dX8_step_73 (by decide) (fun _ => ?_) (fun c => absurd (by decide +kernel) c)
  refine lv_aload_n hx hb dX8_step_103 rfl (lv_at hl 0 rfl) ?_
  refine r_get (v := .int 0) M w 0 3 clX8 rfl (by decide) G166 rfl rfl dX8_step_104 ?_
  refine lv_aload_n hx hb dX8_step_107 rfl (lv_at hl 0 rfl) ?_
  refine r_get (v := .int 0) M w 0 1 clX8 rfl (by decide) G162 rfl rfl dX8_step_108 ?_
  refine lv_icmp_lt (tgt := 122) hx hb dX8_step_111 (by decide) (fun c => absurd c (by decide +kernel)) (fun _ => ?_)
  refine lv_aload_n hx hb dX8_step_114 rfl (lv_at hl 0 rfl) ?_
  refine lv_iconst (v := 0) hx hb dX8_step_115 (by decide) ?_
  refine r_put (ws' := [(a0, .inr (8, [.ref a1, .int 0, .int 200, .int 0, .int 0, .int 0, .null, .long 0, .int 0, .int 0, .int 0, .int 0]))]) M w 0 5 clX8 rfl (by decide) G168 rfl rfl rfl rfl (Nat.le_of_ble_eq_true rfl) rfl dX8_step_116 (fun H locs w => ?_)
  refine lv_goto (tgt := 204) hx hb dX8_step_119 (by decide) ?_
  exact ret () _ _ _ _ _ [0] dX8_step_204 trivial w (by decide) rfl
set_option maxRecDepth 100000 in
set_option maxHeartbeats 4000000 in
theorem c145_X8_open (l : Launch) (D : va_G) (T : Nat → ClassId) (sz : Nat) (a0 a1 : Nat) : Met l yX8_open (Cond.code yX8_open cX8_open 2 none :: GW) (Rm 1 0 0) (cPre [.ref a0, .int 200] D T [(a0, .inr (8, [.ref a1, .int 0, .int 0, .int 0, .int 0, .int 0, .null, .long 0, .int 0, .int 0, .int 0, .int 0]))] sz) (qV D [(a0, .inr (8, [.ref a1, .int 0, .int 0, .int 0, .int 0, .int 0, .null, .long 0, .int 0, .int 0, .int 0, .int 0]))] sz (fun (u : Unit) => True) (fun u => [(a0, .inr (8, [.ref a1, .int 0, .int 200, .int 0, .int 0, .int 0, .null, .long 0, .int 0, .int 0, .int 0, .int 0]))])) 0 0 (va_A [(a0, .inr (8, [.ref a1, .int 0, .int 0, .int 0, .int 0, .int 0, .null, .long 0, .int 0, .int 0, .int 0, .int 0]))] sz) := by
  refine e_V (by decide) (Nat.le_of_ble_eq_true rfl) ?_
  intro p e s m args below meth c A Q ls M hin w ret hl
  have hx := M.1.1
  have hb := M.1.2.1
  have hl : lv_has ls 2 [(0, .ref a0), (1, .int 200)] := hl
  refine lv_aload_n hx hb dX8_open_0 rfl (lv_at hl 0 rfl) ?_
  refine lv_iload_n hx hb dX8_open_1 rfl (lv_at hl 1 rfl) ?_
  refine r_put (ws' := [(a0, .inr (8, [.ref a1, .int 0, .int 200, .int 0, .int 0, .int 0, .null, .long 0, .int 0, .int 0, .int 0, .int 0]))]) M w 0 2 clX8 rfl (by decide) G165 rfl rfl rfl rfl (Nat.le_of_ble_eq_true rfl) rfl dX8_open_2 (fun H locs w => ?_)
  refine lv_aload_n hx hb dX8_open_5 rfl (lv_at hl 0 rfl) ?_
  refine lv_iconst (v := 0) hx hb dX8_open_6 (by decide) ?_
  refine r_put (ws' := [(a0, .inr (8, [.ref a1, .int 0, .int 200, .int 0, .int 0, .int 0, .null, .long 0, .int 0, .int 0, .int 0, .int 0]))]) M w 0 3 clX8 rfl (by decide) G166 rfl rfl rfl rfl (Nat.le_of_ble_eq_true rfl) rfl dX8_open_7 (fun H locs w => ?_)
  refine lv_aload_n hx hb dX8_open_10 rfl (lv_at hl 0 rfl) ?_
  refine lv_iconst (v := 0) hx hb dX8_open_11 (by decide) ?_
  refine r_put (ws' := [(a0, .inr (8, [.ref a1, .int 0, .int 200, .int 0, .int 0, .int 0, .null, .long 0, .int 0, .int 0, .int 0, .int 0]))]) M w 0 10 clX8 rfl (by decide) G179 rfl rfl rfl rfl (Nat.le_of_ble_eq_true rfl) rfl dX8_open_12 (fun H locs w => ?_)
  refine lv_aload_n hx hb dX8_open_15 rfl (lv_at hl 0 rfl) ?_
  refine lv_iconst (v := 0) hx hb dX8_open_16 (by decide) ?_
  refine r_put (ws' := [(a0, .inr (8, [.ref a1, .int 0, .int 200, .int 0, .int 0, .int 0, .null, .long 0, .int 0, .int 0, .int 0, .int 0]))]) M w 0 11 clX8 rfl (by decide) G181 rfl rfl rfl rfl (Nat.le_of_ble_eq_true rfl) rfl dX8_open_17 (fun H locs w => ?_)
  refine lv_aload_n hx hb dX8_open_20 rfl (lv_at hl 0 rfl) ?_
  refine k_V (ce := 0) (sl := 0) (rest := []) (wr := []) (r_V (f := 0) [0] M w V_HookedCity_Tape_55 G587 G588 (c144_X8_step l D T _ a0 a1) 0 clX8 rfl rfl (by decide) rfl hl.1 rfl (Nat.le_of_ble_eq_true rfl) dX8_open_21 (by decide) (by decide) (by decide) (by decide)) w [0] [] rfl rfl (by decide) (by decide) rfl rfl (fun _ H locs hp w => ?_)
  have w : WD D A s.heap [(a0, .inr (8, [.ref a1, .int 0, .int 200, .int 0, .int 0, .int 0, .null, .long 0, .int 0, .int 0, .int 0, .int 0]))] H locs := w
  exact ret () _ _ _ _ _ [0] dX8_open_24 trivial w (by decide) rfl
set_option maxRecDepth 100000 in
set_option maxHeartbeats 4000000 in
theorem c146_X8_atMark (l : Launch) (D : va_G) (T : Nat → ClassId) (sz : Nat) (a0 a1 : Nat) : Met l yX8_atMark (Cond.code yX8_atMark cX8_atMark 2 (some .boolean) :: GW) (Rm 0 0 0) (cPre [.ref a0, .int 40] D T [(a0, .inr (8, [.ref a1, .int 0, .int 200, .int 0, .int 0, .int 0, .null, .long 0, .int 0, .int 0, .int 0, .int 0]))] sz) (qI D [(a0, .inr (8, [.ref a1, .int 0, .int 200, .int 0, .int 0, .int 0, .null, .long 0, .int 0, .int 0, .int 0, .int 0]))] sz (fun (v : Int32) (u : Unit) => (0 : Int32) = v) (fun u => [(a0, .inr (8, [.ref a1, .int 0, .int 200, .int 0, .int 0, .int 0, .null, .long 0, .int 0, .int 0, .int 0, .int 0]))])) 0 0 (va_A [(a0, .inr (8, [.ref a1, .int 0, .int 200, .int 0, .int 0, .int 0, .null, .long 0, .int 0, .int 0, .int 0, .int 0]))] sz) := by
  refine e_Z (by decide) (Nat.le_of_ble_eq_true rfl) ?_
  intro p e s m args below meth c A Q ls M hin w ret hl
  have hx := M.1.1
  have hb := M.1.2.1
  have hl : lv_has ls 2 [(0, .ref a0), (1, .int 40)] := hl
  refine lv_aload_n hx hb dX8_atMark_0 rfl (lv_at hl 0 rfl) ?_
  refine r_get (v := .int 0) M w 0 5 clX8 rfl (by decide) G168 rfl rfl dX8_atMark_1 ?_
  refine lv_iconst (v := 5) hx hb dX8_atMark_4 (by decide) ?_
  refine lv_icmp_ne (tgt := 20) hx hb dX8_atMark_5 (by decide) (fun _ => ?_) (fun c => absurd c (by decide +kernel))
  refine lv_iconst (v := 0) hx hb dX8_atMark_20 (by decide) ?_
  exact ret _ () _ _ _ _ _ [0] dX8_atMark_21 (by decide +kernel) rfl w (by decide) rfl
set_option maxRecDepth 100000 in
set_option maxHeartbeats 4000000 in
theorem c147_X5_isMeasure (l : Launch) (D : va_G) (T : Nat → ClassId) (sz : Nat) : Met l yX5_isMeasure (Cond.code yX5_isMeasure cX5_isMeasure 1 (some .boolean) :: GW) (Rm 0 0 0) (cPre [.null] D T [] sz) (qI D [] sz (fun (v : Int32) (u : Unit) => (0 : Int32) = v) (fun u => [])) 0 0 (va_A [] sz) := by
  refine e_Z (by decide) (Nat.le_of_ble_eq_true rfl) ?_
  intro p e s m args below meth c A Q ls M hin w ret hl
  have hx := M.1.1
  have hb := M.1.2.1
  have hl : lv_has ls 1 [(0, .null)] := hl
  refine lv_aload_nN hx hb dX5_isMeasure_0 rfl (lv_at hl 0 rfl) ?_
  refine r_gets M w 18 rfl G1269 dX5_isMeasure_1 ?_
  refine lv_acmp_eq (rx := none) (ry := (some (T (10 + 18)))) (tgt := 21) hx hb dX5_isMeasure_4 (by decide) (fun c => absurd c (by simp)) (fun _ => ?_)
  refine lv_aload_nN hx hb dX5_isMeasure_7 rfl (lv_at hl 0 rfl) ?_
  refine r_gets M w 19 rfl G1271 dX5_isMeasure_8 ?_
  refine lv_acmp_eq (rx := none) (ry := (some (T (10 + 19)))) (tgt := 21) hx hb dX5_isMeasure_11 (by decide) (fun c => absurd c (by simp)) (fun _ => ?_)
  refine lv_aload_nN hx hb dX5_isMeasure_14 rfl (lv_at hl 0 rfl) ?_
  refine r_gets M w 20 rfl G1273 dX5_isMeasure_15 ?_
  refine lv_acmp_ne (rx := none) (ry := (some (T (10 + 20)))) (tgt := 25) hx hb dX5_isMeasure_18 (by decide) (fun _ => ?_) (fun c => absurd c (by simp))
  refine lv_iconst (v := 0) hx hb dX5_isMeasure_25 (by decide) ?_
  exact ret _ () _ _ _ _ _ [] dX5_isMeasure_26 (by decide +kernel) rfl w (by decide) rfl
set_option maxRecDepth 100000 in
set_option maxHeartbeats 4000000 in
theorem c148_X5_startsOne (l : Launch) (D : va_G) (T : Nat → ClassId) (sz : Nat) : Met l yX5_startsOne (Cond.code yX5_startsOne cX5_startsOne 1 (some .boolean) :: GW) (Rm 1 0 0) (cPre [.null] D T [] sz) (qI D [] sz (fun (v : Int32) (u : Unit) => (0 : Int32) = v) (fun u => [])) 0 0 (va_A [] sz) := by
  refine e_Z (by decide) (Nat.le_of_ble_eq_true rfl) ?_
  intro p e s m args below meth c A Q ls M hin w ret hl
  have hx := M.1.1
  have hb := M.1.2.1
  have hl : lv_has ls 1 [(0, .null)] := hl
  refine lv_aload_nN hx hb dX5_startsOne_0 rfl (lv_at hl 0 rfl) ?_
  refine r_gets M w 11 rfl G1252 dX5_startsOne_1 ?_
  refine lv_acmp_eq (rx := none) (ry := (some (T (10 + 11)))) (tgt := 56) hx hb dX5_startsOne_4 (by decide) (fun c => absurd c (by simp)) (fun _ => ?_)
  refine lv_aload_nN hx hb dX5_startsOne_7 rfl (lv_at hl 0 rfl) ?_
  refine r_gets M w 12 rfl G1254 dX5_startsOne_8 ?_
  refine lv_acmp_eq (rx := none) (ry := (some (T (10 + 12)))) (tgt := 56) hx hb dX5_startsOne_11 (by decide) (fun c => absurd c (by simp)) (fun _ => ?_)
  refine lv_aload_nN hx hb dX5_startsOne_14 rfl (lv_at hl 0 rfl) ?_
  refine r_gets M w 13 rfl G1256 dX5_startsOne_15 ?_
  refine lv_acmp_eq (rx := none) (ry := (some (T (10 + 13)))) (tgt := 56) hx hb dX5_startsOne_18 (by decide) (fun c => absurd c (by simp)) (fun _ => ?_)
  refine lv_aload_nN hx hb dX5_startsOne_21 rfl (lv_at hl 0 rfl) ?_
  refine r_gets M w 14 rfl G1258 dX5_startsOne_22 ?_
  refine lv_acmp_eq (rx := none) (ry := (some (T (10 + 14)))) (tgt := 56) hx hb dX5_startsOne_25 (by decide) (fun c => absurd c (by simp)) (fun _ => ?_)
  refine lv_aload_nN hx hb dX5_startsOne_28 rfl (lv_at hl 0 rfl) ?_
  refine r_gets M w 15 rfl G1260 dX5_startsOne_29 ?_
  refine lv_acmp_eq (rx := none) (ry := (some (T (10 + 15)))) (tgt := 56) hx hb dX5_startsOne_32 (by decide) (fun c => absurd c (by simp)) (fun _ => ?_)
  refine lv_aload_nN hx hb dX5_startsOne_35 rfl (lv_at hl 0 rfl) ?_
  refine r_gets M w 16 rfl G1262 dX5_startsOne_36 ?_
  refine lv_acmp_eq (rx := none) (ry := (some (T (10 + 16)))) (tgt := 56) hx hb dX5_startsOne_39 (by decide) (fun c => absurd c (by simp)) (fun _ => ?_)
  refine lv_aload_nN hx hb dX5_startsOne_42 rfl (lv_at hl 0 rfl) ?_
  refine r_gets M w 17 rfl G1264 dX5_startsOne_43 ?_
  refine lv_acmp_eq (rx := none) (ry := (some (T (10 + 17)))) (tgt := 56) hx hb dX5_startsOne_46 (by decide) (fun c => absurd c (by simp)) (fun _ => ?_)
  refine lv_aload_nN hx hb dX5_startsOne_49 rfl (lv_at hl 0 rfl) ?_
  refine k_I (ce := 0) (sl := 0) (rest := []) (wr := []) (r_S (f := 0) [] M w V_HookedCity_Sentence_102 G1267 (c147_X5_isMeasure l D T _) rfl (by decide) rfl hl.1 rfl (Nat.le_of_ble_eq_true rfl) dX5_startsOne_50 (by decide) (by decide) (by decide) (by decide)) w [] [] rfl rfl (by decide) (by decide) rfl rfl (fun v _ H locs hp w => ?_)
  have hp : (0 : Int32) = v := hp
  subst hp
  have w : WD D A s.heap [] H locs := w
  refine lv_if_eq (tgt := 60) hx hb dX5_startsOne_53 (by decide) (fun _ => ?_) (fun c => absurd (by decide +kernel) c)
  refine lv_iconst (v := 0) hx hb dX5_startsOne_60 (by decide) ?_
  exact ret _ () _ _ _ _ _ [] dX5_startsOne_61 (by decide +kernel) rfl w (by decide) rfl
set_option maxRecDepth 100000 in
set_option maxHeartbeats 4000000 in
theorem c149_X8_fail (l : Launch) (D : va_G) (T : Nat → ClassId) (sz : Nat) (a0 a1 : Nat) : Met l yX8_fail (Cond.code yX8_fail cX8_fail 2 (some .boolean) :: GW) (Rm 0 0 0) (cPre [.ref a0, .int 1] D T [(a0, .inr (8, [.ref a1, .int 0, .int 200, .int 0, .int 0, .int 0, .null, .long 0, .int 0, .int 0, .int 0, .int 0]))] sz) (qI D [(a0, .inr (8, [.ref a1, .int 0, .int 200, .int 0, .int 0, .int 0, .null, .long 0, .int 0, .int 0, .int 0, .int 0]))] sz (fun (v : Int32) (u : Unit) => (0 : Int32) = v) (fun u => [(a0, .inr (8, [.ref a1, .int 0, .int 200, .int 0, .int 0, .int 0, .null, .long 0, .int 0, .int 0, .int 1, .int 0]))])) 0 0 (va_A [(a0, .inr (8, [.ref a1, .int 0, .int 200, .int 0, .int 0, .int 0, .null, .long 0, .int 0, .int 0, .int 0, .int 0]))] sz) := by
  refine e_Z (by decide) (Nat.le_of_ble_eq_true rfl) ?_
  intro p e s m args below meth c A Q ls M hin w ret hl
  have hx := M.1.1
  have hb := M.1.2.1
  have hl : lv_has ls 2 [(0, .ref a0), (1, .int 1)] := hl
  refine lv_aload_n hx hb dX8_fail_0 rfl (lv_at hl 0 rfl) ?_
  refine lv_iload_n hx hb dX8_fail_1 rfl (lv_at hl 1 rfl) ?_
  refine r_put (ws' := [(a0, .inr (8, [.ref a1, .int 0, .int 200, .int 0, .int 0, .int 0, .null, .long 0, .int 0, .int 0, .int 1, .int 0]))]) M w 0 10 clX8 rfl (by decide) G179 rfl rfl rfl rfl (Nat.le_of_ble_eq_true rfl) rfl dX8_fail_2 (fun H locs w => ?_)
  refine lv_aload_n hx hb dX8_fail_5 rfl (lv_at hl 0 rfl) ?_
  refine lv_aload_n hx hb dX8_fail_6 rfl (lv_at hl 0 rfl) ?_
  refine r_get (v := .int 0) M w 0 4 clX8 rfl (by decide) G167 rfl rfl dX8_fail_7 ?_
  refine r_put (ws' := [(a0, .inr (8, [.ref a1, .int 0, .int 200, .int 0, .int 0, .int 0, .null, .long 0, .int 0, .int 0, .int 1, .int 0]))]) M w 0 11 clX8 rfl (by decide) G181 rfl rfl rfl rfl (Nat.le_of_ble_eq_true rfl) rfl dX8_fail_10 (fun H locs w => ?_)
  refine lv_iconst (v := 0) hx hb dX8_fail_13 (by decide) ?_
  exact ret _ () _ _ _ _ _ [0] dX8_fail_14 (by decide +kernel) rfl w (by decide) rfl
set_option maxRecDepth 100000 in
set_option maxHeartbeats 4000000 in
theorem c150_X5_readOne (l : Launch) (D : va_G) (T : Nat → ClassId) (sz : Nat) (a0 a1 a2 a3 : Nat) : Met l yX5_readOne (Cond.code yX5_readOne cX5_readOne 6 (some .boolean) :: GW) (Rm 2 0 0) (cPre [.ref a0, .ref a1, .ref a2, .int 1] D T [(a1, .inr (8, [.ref a3, .int 0, .int 200, .int 0, .int 0, .int 0, .null, .long 0, .int 0, .int 0, .int 0, .int 0]))] sz) (qI D [(a1, .inr (8, [.ref a3, .int 0, .int 200, .int 0, .int 0, .int 0, .null, .long 0, .int 0, .int 0, .int 0, .int 0]))] sz (fun (v : Int32) (u : Unit) => (0 : Int32) = v) (fun u => [(a1, .inr (8, [.ref a3, .int 0, .int 200, .int 0, .int 0, .int 0, .null, .long 0, .int 0, .int 0, .int 1, .int 0]))])) 0 0 (va_A [(a1, .inr (8, [.ref a3, .int 0, .int 200, .int 0, .int 0, .int 0, .null, .long 0, .int 0, .int 0, .int 0, .int 0]))] sz) := by
  refine e_Z (by decide) (Nat.le_of_ble_eq_true rfl) ?_
  intro p e s m args below meth c A Q ls M hin w ret hl
  have hx := M.1.1
  have hb := M.1.2.1
  have hl : lv_has ls 6 [(0, .ref a0), (1, .ref a1), (2, .ref a2), (3, .int 1)] := hl
  refine lv_aload_n hx hb dX5_readOne_0 rfl (lv_at hl 1 rfl) ?_
  refine r_getN (v := .null) M w 0 6 clX8 rfl (by decide) N173 rfl rfl dX5_readOne_1 ?_
  refine lv_astoreN (lv' := [(4, .null), (0, .ref a0), (1, .ref a1), (2, .ref a2), (3, .int 1)]) hx hb dX5_readOne_4 hl (by decide) rfl (fun ls hl => ?_)
  refine lv_aload_n hx hb dX5_readOne_6 rfl (lv_at hl 2 rfl) ?_
  refine lv_bipush (v := 40) hx hb dX5_readOne_7 (by decide) ?_
  refine k_I (ce := 0) (sl := 0) (rest := []) (wr := []) (r_V (f := 0) [0] M w V_HookedCity_Sentence_78 G783 G784 (c146_X8_atMark l D T _ a1 a3) 0 clX8 rfl rfl (by decide) rfl hl.1 rfl (Nat.le_of_ble_eq_true rfl) dX5_readOne_9 (by decide) (by decide) (by decide) (by decide)) w [0] [] rfl rfl (by decide) (by decide) rfl rfl (fun v _ H locs hp w => ?_)
  have hp : (0 : Int32) = v := hp
  subst hp
  have w : WD D A s.heap [(a1, .inr (8, [.ref a3, .int 0, .int 200, .int 0, .int 0, .int 0, .null, .long 0, .int 0, .int 0, .int 0, .int 0]))] H locs := w
  refine lv_istore (lv' := [(5, .int 0), (4, .null), (0, .ref a0), (1, .ref a1), (2, .ref a2), (3, .int 1)]) hx hb dX5_readOne_12 hl (by decide) rfl (fun ls hl => ?_)
  refine lv_iload hx hb dX5_readOne_14 (lv_at hl 0 rfl) ?_
  refine lv_if_ne (tgt := 33) hx hb dX5_readOne_16 (by decide) (fun c => absurd (by decide +kernel) c) (fun _ => ?_)
  refine lv_aloadN hx hb dX5_readOne_19 (lv_at hl 1 rfl) ?_
  refine k_I (ce := 0) (sl := 0) (rest := []) (wr := [(a1, .inr (8, [.ref a3, .int 0, .int 200, .int 0, .int 0, .int 0, .null, .long 0, .int 0, .int 0, .int 0, .int 0]))]) (r_S (f := 1) [] M w V_HookedCity_Sentence_82 G1250 (c148_X5_startsOne l D T _) rfl (by decide) rfl hl.1 rfl (Nat.le_of_ble_eq_true rfl) dX5_readOne_21 (by decide) (by decide) (by decide) (by decide)) w [] [0] rfl rfl (by decide) (by decide) rfl rfl (fun v _ H locs hp w => ?_)
  have hp : (0 : Int32) = v := hp
  subst hp
  have w : WD D A s.heap [(a1, .inr (8, [.ref a3, .int 0, .int 200, .int 0, .int 0, .int 0, .null, .long 0, .int 0, .int 0, .int 0, .int 0]))] H locs := w
  refine lv_if_ne (tgt := 33) hx hb dX5_readOne_24 (by decide) (fun c => absurd (by decide +kernel) c) (fun _ => ?_)
  refine lv_aload_n hx hb dX5_readOne_27 rfl (lv_at hl 3 rfl) ?_
  refine lv_iconst (v := 1) hx hb dX5_readOne_28 (by decide) ?_
  refine k_I (ce := 0) (sl := 0) (rest := []) (wr := []) (r_V (f := 0) [0] M w V_HookedCity_Sentence_51 G710 G711 (c149_X8_fail l D T _ a1 a3) 0 clX8 rfl rfl (by decide) rfl hl.1 rfl (Nat.le_of_ble_eq_true rfl) dX5_readOne_29 (by decide) (by decide) (by decide) (by decide)) w [0] [] rfl rfl (by decide) (by decide) rfl rfl (fun v _ H locs hp w => ?_)
  have hp : (0 : Int32) = v := hp
  subst hp
  have w : WD D A s.heap [(a1, .inr (8, [.ref a3, .int 0, .int 200, .int 0, .int 0, .int 0, .null, .long 0, .int 0, .int 0, .int 1, .int 0]))] H locs := w
  exact ret _ () _ _ _ _ _ [0] dX5_readOne_32 (by decide +kernel) rfl w (by decide) rfl
set_option maxRecDepth 100000 in
set_option maxHeartbeats 4000000 in
theorem c151_X5_readAll (l : Launch) (D : va_G) (T : Nat → ClassId) (sz : Nat) (a0 a1 a2 a3 a4 a5 a6 a7 : Nat) : Met l yX5_readAll (Cond.code yX5_readAll cX5_readAll 5 (some .boolean) :: GW) (Rm 3 0 0) (cPre [.ref a0, .ref a1, .ref a2, .int 1] D T [(a0, .inr (5, [.ref a3, .ref a4, .ref a5, .ref a6, .int 0, .int 0])), (a1, .inr (8, [.ref a7, .int 0, .int 200, .int 0, .int 0, .int 0, .null, .long 0, .int 0, .int 0, .int 0, .int 0]))] sz) (qI D [(a0, .inr (5, [.ref a3, .ref a4, .ref a5, .ref a6, .int 0, .int 0])), (a1, .inr (8, [.ref a7, .int 0, .int 200, .int 0, .int 0, .int 0, .null, .long 0, .int 0, .int 0, .int 0, .int 0]))] sz (fun (v : Int32) (u : Unit) => (0 : Int32) = v) (fun u => [(a0, .inr (5, [.ref a3, .ref a4, .ref a5, .ref a6, .int 0, .int 0])), (a1, .inr (8, [.ref a7, .int 0, .int 200, .int 0, .int 0, .int 0, .null, .long 0, .int 0, .int 0, .int 1, .int 0]))])) 0 0 (va_A [(a0, .inr (5, [.ref a3, .ref a4, .ref a5, .ref a6, .int 0, .int 0])), (a1, .inr (8, [.ref a7, .int 0, .int 200, .int 0, .int 0, .int 0, .null, .long 0, .int 0, .int 0, .int 0, .int 0]))] sz) := by
  refine e_Z (by decide) (Nat.le_of_ble_eq_true rfl) ?_
  intro p e s m args below meth c A Q ls M hin w ret hl
  have hx := M.1.1
  have hb := M.1.2.1
  have hl : lv_has ls 5 [(0, .ref a0), (1, .ref a1), (2, .ref a2), (3, .int 1)] := hl
  refine lv_aload_n hx hb dX5_readAll_0 rfl (lv_at hl 0 rfl) ?_
  refine lv_aload_n hx hb dX5_readAll_1 rfl (lv_at hl 1 rfl) ?_
  refine lv_aload_n hx hb dX5_readAll_2 rfl (lv_at hl 2 rfl) ?_
  refine lv_iload_n hx hb dX5_readAll_3 rfl (lv_at hl 3 rfl) ?_
  refine k_I (ce := 0) (sl := 0) (rest := []) (wr := [(a0, .inr (5, [.ref a3, .ref a4, .ref a5, .ref a6, .int 0, .int 0]))]) (r_V (f := 2) [1] M w V_HookedCity_Sentence_72 G1246 G38 (c150_X5_readOne l D T _ a0 a1 a2 a7) 0 clX5 rfl rfl (by decide) rfl hl.1 rfl (Nat.le_of_ble_eq_true rfl) dX5_readAll_4 (by decide) (by decide) (by decide) (by decide)) w [1] [0] rfl rfl (by decide) (by decide) rfl rfl (fun v _ H locs hp w => ?_)
  have hp : (0 : Int32) = v := hp
  subst hp
  have w : WD D A s.heap [(a0, .inr (5, [.ref a3, .ref a4, .ref a5, .ref a6, .int 0, .int 0])), (a1, .inr (8, [.ref a7, .int 0, .int 200, .int 0, .int 0, .int 0, .null, .long 0, .int 0, .int 0, .int 1, .int 0]))] H locs := w
  refine lv_if_ne (tgt := 12) hx hb dX5_readAll_7 (by decide) (fun c => absurd (by decide +kernel) c) (fun _ => ?_)
  refine lv_iconst (v := 0) hx hb dX5_readAll_10 (by decide) ?_
  exact ret _ () _ _ _ _ _ [0, 1] dX5_readAll_11 (by decide +kernel) rfl w (by decide) rfl
set_option maxRecDepth 100000 in
set_option maxHeartbeats 4000000 in
theorem c152_X5_readCond (l : Launch) (D : va_G) (T : Nat → ClassId) (sz : Nat) (a0 a1 a2 a3 a4 a5 a6 a7 : Nat) : Met l yX5_readCond (Cond.code yX5_readCond cX5_readCond 5 (some .boolean) :: GW) (Rm 4 0 0) (cPre [.ref a0, .ref a1, .ref a2, .int 1] D T [(a0, .inr (5, [.ref a3, .ref a4, .ref a5, .ref a6, .int 0, .int 0])), (a1, .inr (8, [.ref a7, .int 0, .int 200, .int 0, .int 0, .int 0, .null, .long 0, .int 0, .int 0, .int 0, .int 0]))] sz) (qI D [(a0, .inr (5, [.ref a3, .ref a4, .ref a5, .ref a6, .int 0, .int 0])), (a1, .inr (8, [.ref a7, .int 0, .int 200, .int 0, .int 0, .int 0, .null, .long 0, .int 0, .int 0, .int 0, .int 0]))] sz (fun (v : Int32) (u : Unit) => (0 : Int32) = v) (fun u => [(a0, .inr (5, [.ref a3, .ref a4, .ref a5, .ref a6, .int 0, .int 0])), (a1, .inr (8, [.ref a7, .int 0, .int 200, .int 0, .int 0, .int 0, .null, .long 0, .int 0, .int 0, .int 1, .int 0]))])) 0 0 (va_A [(a0, .inr (5, [.ref a3, .ref a4, .ref a5, .ref a6, .int 0, .int 0])), (a1, .inr (8, [.ref a7, .int 0, .int 200, .int 0, .int 0, .int 0, .null, .long 0, .int 0, .int 0, .int 0, .int 0]))] sz) := by
  refine e_Z (by decide) (Nat.le_of_ble_eq_true rfl) ?_
  intro p e s m args below meth c A Q ls M hin w ret hl
  have hx := M.1.1
  have hb := M.1.2.1
  have hl : lv_has ls 5 [(0, .ref a0), (1, .ref a1), (2, .ref a2), (3, .int 1)] := hl
  refine lv_aload_n hx hb dX5_readCond_0 rfl (lv_at hl 0 rfl) ?_
  refine lv_aload_n hx hb dX5_readCond_1 rfl (lv_at hl 1 rfl) ?_
  refine lv_aload_n hx hb dX5_readCond_2 rfl (lv_at hl 2 rfl) ?_
  refine lv_iload_n hx hb dX5_readCond_3 rfl (lv_at hl 3 rfl) ?_
  refine k_I (ce := 0) (sl := 0) (rest := []) (wr := []) (r_V (f := 3) [0, 1] M w V_HookedCity_Sentence_55 G1242 G37 (c151_X5_readAll l D T _ a0 a1 a2 a3 a4 a5 a6 a7) 0 clX5 rfl rfl (by decide) rfl hl.1 rfl (Nat.le_of_ble_eq_true rfl) dX5_readCond_4 (by decide) (by decide) (by decide) (by decide)) w [0, 1] [] rfl rfl (by decide) (by decide) rfl rfl (fun v _ H locs hp w => ?_)
  have hp : (0 : Int32) = v := hp
  subst hp
  have w : WD D A s.heap [(a0, .inr (5, [.ref a3, .ref a4, .ref a5, .ref a6, .int 0, .int 0])), (a1, .inr (8, [.ref a7, .int 0, .int 200, .int 0, .int 0, .int 0, .null, .long 0, .int 0, .int 0, .int 1, .int 0]))] H locs := w
  refine lv_if_ne (tgt := 12) hx hb dX5_readCond_7 (by decide) (fun c => absurd (by decide +kernel) c) (fun _ => ?_)
  refine lv_iconst (v := 0) hx hb dX5_readCond_10 (by decide) ?_
  exact ret _ () _ _ _ _ _ [0, 1] dX5_readCond_11 (by decide +kernel) rfl w (by decide) rfl
set_option maxRecDepth 100000 in
set_option maxHeartbeats 4000000 in
theorem c153_X5_read (l : Launch) (D : va_G) (T : Nat → ClassId) (sz : Nat) (a0 a1 a2 a3 a4 a5 a6 a7 : Nat) : Met l yX5_read (Cond.code yX5_read cX5_read 3 (some .boolean) :: GW) (Rm 5 0 0) (cPre [.ref a0, .ref a1, .ref a2] D T [(a0, .inr (5, [.ref a3, .ref a4, .ref a5, .ref a6, .int 0, .int 0])), (a1, .inr (8, [.ref a7, .int 0, .int 0, .int 0, .int 0, .int 0, .null, .long 0, .int 0, .int 0, .int 0, .int 0]))] sz) (qI D [(a0, .inr (5, [.ref a3, .ref a4, .ref a5, .ref a6, .int 0, .int 0])), (a1, .inr (8, [.ref a7, .int 0, .int 0, .int 0, .int 0, .int 0, .null, .long 0, .int 0, .int 0, .int 0, .int 0]))] sz (fun (v : Int32) (u : Unit) => (0 : Int32) = v) (fun u => [(a0, .inr (5, [.ref a3, .ref a4, .ref a5, .ref a6, .int 0, .int 0])), (a1, .inr (8, [.ref a7, .int 0, .int 200, .int 0, .int 0, .int 0, .null, .long 0, .int 0, .int 0, .int 1, .int 0]))])) 0 0 (va_A [(a0, .inr (5, [.ref a3, .ref a4, .ref a5, .ref a6, .int 0, .int 0])), (a1, .inr (8, [.ref a7, .int 0, .int 0, .int 0, .int 0, .int 0, .null, .long 0, .int 0, .int 0, .int 0, .int 0]))] sz) := by
  refine e_Z (by decide) (Nat.le_of_ble_eq_true rfl) ?_
  intro p e s m args below meth c A Q ls M hin w ret hl
  have hx := M.1.1
  have hb := M.1.2.1
  have hl : lv_has ls 3 [(0, .ref a0), (1, .ref a1), (2, .ref a2)] := hl
  refine lv_aload_n hx hb dX5_read_0 rfl (lv_at hl 0 rfl) ?_
  refine k_V (ce := 0) (sl := 0) (rest := []) (wr := [(a1, .inr (8, [.ref a7, .int 0, .int 0, .int 0, .int 0, .int 0, .null, .long 0, .int 0, .int 0, .int 0, .int 0]))]) (r_V (f := 0) [0] M w V_HookedCity_Sentence_34 G799 G800 (c41_X5_clear l D T _ a0 a3 a4 a5 a6) 0 clX5 rfl rfl (by decide) rfl hl.1 rfl (Nat.le_of_ble_eq_true rfl) dX5_read_1 (by decide) (by decide) (by decide) (by decide)) w [0] [1] rfl rfl (by decide) (by decide) rfl rfl (fun _ H locs hp w => ?_)
  have w : WD D A s.heap [(a1, .inr (8, [.ref a7, .int 0, .int 0, .int 0, .int 0, .int 0, .null, .long 0, .int 0, .int 0, .int 0, .int 0])), (a0, .inr (5, [.ref a3, .ref a4, .ref a5, .ref a6, .int 0, .int 0]))] H locs := w
  refine lv_aload_n hx hb dX5_read_4 rfl (lv_at hl 1 rfl) ?_
  refine lv_sipush (v := 200) hx hb dX5_read_5 (by decide) ?_
  refine k_V (ce := 0) (sl := 0) (rest := []) (wr := [(a0, .inr (5, [.ref a3, .ref a4, .ref a5, .ref a6, .int 0, .int 0]))]) (r_V (f := 1) [0] M w V_HookedCity_Sentence_37 G583 G584 (c145_X8_open l D T _ a1 a7) 0 clX8 rfl rfl (by decide) rfl hl.1 rfl (Nat.le_of_ble_eq_true rfl) dX5_read_8 (by decide) (by decide) (by decide) (by decide)) w [0] [1] rfl rfl (by decide) (by decide) rfl rfl (fun _ H locs hp w => ?_)
  have w : WD D A s.heap [(a0, .inr (5, [.ref a3, .ref a4, .ref a5, .ref a6, .int 0, .int 0])), (a1, .inr (8, [.ref a7, .int 0, .int 200, .int 0, .int 0, .int 0, .null, .long 0, .int 0, .int 0, .int 0, .int 0]))] H locs := w
  refine lv_aload_n hx hb dX5_read_11 rfl (lv_at hl 0 rfl) ?_
  refine lv_aload_n hx hb dX5_read_12 rfl (lv_at hl 1 rfl) ?_
  refine lv_aload_n hx hb dX5_read_13 rfl (lv_at hl 2 rfl) ?_
  refine lv_iconst (v := 1) hx hb dX5_read_14 (by decide) ?_
  refine k_I (ce := 0) (sl := 0) (rest := []) (wr := []) (r_V (f := 4) [0, 1] M w V_HookedCity_Sentence_43 G1238 G36 (c152_X5_readCond l D T _ a0 a1 a2 a3 a4 a5 a6 a7) 0 clX5 rfl rfl (by decide) rfl hl.1 rfl (Nat.le_of_ble_eq_true rfl) dX5_read_15 (by decide) (by decide) (by decide) (by decide)) w [0, 1] [] rfl rfl (by decide) (by decide) rfl rfl (fun v _ H locs hp w => ?_)
  have hp : (0 : Int32) = v := hp
  subst hp
  have w : WD D A s.heap [(a0, .inr (5, [.ref a3, .ref a4, .ref a5, .ref a6, .int 0, .int 0])), (a1, .inr (8, [.ref a7, .int 0, .int 200, .int 0, .int 0, .int 0, .null, .long 0, .int 0, .int 0, .int 1, .int 0]))] H locs := w
  refine lv_if_ne (tgt := 23) hx hb dX5_read_18 (by decide) (fun c => absurd (by decide +kernel) c) (fun _ => ?_)
  refine lv_iconst (v := 0) hx hb dX5_read_21 (by decide) ?_
  exact ret _ () _ _ _ _ _ [0, 1] dX5_read_22 (by decide +kernel) rfl w (by decide) rfl
set_option maxRecDepth 100000 in
set_option maxHeartbeats 4000000 in
theorem c154_X8_empty (l : Launch) (D : va_G) (T : Nat → ClassId) (sz : Nat) (a0 a1 : Nat) : Met l yX8_empty (Cond.code yX8_empty cX8_empty 1 none :: GW) (Rm 0 0 0) (cPre [.ref a0] D T [(a0, .inr (8, [.ref a1, .int 0, .int 200, .int 0, .int 0, .int 0, .null, .long 0, .int 0, .int 0, .int 1, .int 0]))] sz) (qV D [(a0, .inr (8, [.ref a1, .int 0, .int 200, .int 0, .int 0, .int 0, .null, .long 0, .int 0, .int 0, .int 1, .int 0]))] sz (fun (u : Unit) => True) (fun u => [(a0, .inr (8, [.ref a1, .int 0, .int 200, .int 0, .int 0, .int 0, .null, .long 0, .int 0, .int 0, .int 1, .int 0]))])) 0 0 (va_A [(a0, .inr (8, [.ref a1, .int 0, .int 200, .int 0, .int 0, .int 0, .null, .long 0, .int 0, .int 0, .int 1, .int 0]))] sz) := by
  refine e_V (by decide) (Nat.le_of_ble_eq_true rfl) ?_
  intro p e s m args below meth c A Q ls M hin w ret hl
  have hx := M.1.1
  have hb := M.1.2.1
  have hl : lv_has ls 1 [(0, .ref a0)] := hl
  refine lv_aload_n hx hb dX8_empty_0 rfl (lv_at hl 0 rfl) ?_
  refine lv_iconst (v := 0) hx hb dX8_empty_1 (by decide) ?_
  refine r_put (ws' := [(a0, .inr (8, [.ref a1, .int 0, .int 200, .int 0, .int 0, .int 0, .null, .long 0, .int 0, .int 0, .int 1, .int 0]))]) M w 0 1 clX8 rfl (by decide) G162 rfl rfl rfl rfl (Nat.le_of_ble_eq_true rfl) rfl dX8_empty_2 (fun H locs w => ?_)
  exact ret () _ _ _ _ _ [0] dX8_empty_5 trivial w (by decide) rfl
set_option maxRecDepth 100000 in
set_option maxHeartbeats 4000000 in
theorem c155_X11_sentence (l : Launch) (D : va_G) (T : Nat → ClassId) (sz : Nat) (a0 a1 a2 a3 a4 a5 a6 a7 a8 a9 a10 a11 a12 a13 a14 a15 a16 a17 a18 a19 : Nat) : Met l yX11_sentence (Cond.code yX11_sentence cX11_sentence 3 (some .int) :: GW) (Rm 6 0 0) (cPre [.ref a0] D T [(a0, .inr (10, [.ref a1, .ref a2, .ref a3, .ref a4, .ref a5, .ref a6, .ref a7, .ref a8, .ref a9, .ref a10, .ref a11, .ref a12, .ref a13, .ref a14, .int 0, .int 0, .int 0])), (a1, .inr (8, [.ref a15, .int 0, .int 0, .int 0, .int 0, .int 0, .null, .long 0, .int 0, .int 0, .int 0, .int 0])), (a14, .inr (5, [.ref a16, .ref a17, .ref a18, .ref a19, .int 0, .int 0]))] sz) (qI D [(a0, .inr (10, [.ref a1, .ref a2, .ref a3, .ref a4, .ref a5, .ref a6, .ref a7, .ref a8, .ref a9, .ref a10, .ref a11, .ref a12, .ref a13, .ref a14, .int 0, .int 0, .int 0])), (a1, .inr (8, [.ref a15, .int 0, .int 0, .int 0, .int 0, .int 0, .null, .long 0, .int 0, .int 0, .int 0, .int 0])), (a14, .inr (5, [.ref a16, .ref a17, .ref a18, .ref a19, .int 0, .int 0]))] sz (fun (v : Int32) (u : Unit) => (-1 : Int32) = v) (fun u => [])) 0 0 (va_A [(a0, .inr (10, [.ref a1, .ref a2, .ref a3, .ref a4, .ref a5, .ref a6, .ref a7, .ref a8, .ref a9, .ref a10, .ref a11, .ref a12, .ref a13, .ref a14, .int 0, .int 0, .int 0])), (a1, .inr (8, [.ref a15, .int 0, .int 0, .int 0, .int 0, .int 0, .null, .long 0, .int 0, .int 0, .int 0, .int 0])), (a14, .inr (5, [.ref a16, .ref a17, .ref a18, .ref a19, .int 0, .int 0]))] sz) := by
  refine e_I (by decide) (Nat.le_of_ble_eq_true rfl) ?_
  intro p e s m args below meth c A Q ls M hin w ret hl
  have hx := M.1.1
  have hb := M.1.2.1
  have hl : lv_has ls 3 [(0, .ref a0)] := hl
  refine lv_aload_n hx hb dX11_sentence_0 rfl (lv_at hl 0 rfl) ?_
  refine r_get (v := .ref a14) M w 0 13 clX11 rfl (by decide) G510 rfl rfl dX11_sentence_1 ?_
  refine lv_aload_n hx hb dX11_sentence_4 rfl (lv_at hl 0 rfl) ?_
  refine r_get (v := .ref a1) M w 0 0 clX11 rfl (by decide) G497 rfl rfl dX11_sentence_5 ?_
  refine lv_aload_n hx hb dX11_sentence_8 rfl (lv_at hl 0 rfl) ?_
  refine r_get (v := .ref a11) M w 0 10 clX11 rfl (by decide) G507 rfl rfl dX11_sentence_9 ?_
  refine k_I (ce := 0) (sl := 0) (rest := []) (wr := [(a0, .inr (10, [.ref a1, .ref a2, .ref a3, .ref a4, .ref a5, .ref a6, .ref a7, .ref a8, .ref a9, .ref a10, .ref a11, .ref a12, .ref a13, .ref a14, .int 0, .int 0, .int 0]))]) (r_V (f := 5) [2, 1] M w V_HookedCity_310 G1231 G1232 (c153_X5_read l D T _ a14 a1 a11 a16 a17 a18 a19 a15) 2 clX5 rfl rfl (by decide) rfl hl.1 rfl (Nat.le_of_ble_eq_true rfl) dX11_sentence_12 (by decide) (by decide) (by decide) (by decide)) w [2, 1] [0] rfl rfl (by decide) (by decide) rfl rfl (fun v _ H locs hp w => ?_)
  have hp : (0 : Int32) = v := hp
  subst hp
  have w : WD D A s.heap [(a0, .inr (10, [.ref a1, .ref a2, .ref a3, .ref a4, .ref a5, .ref a6, .ref a7, .ref a8, .ref a9, .ref a10, .ref a11, .ref a12, .ref a13, .ref a14, .int 0, .int 0, .int 0])), (a14, .inr (5, [.ref a16, .ref a17, .ref a18, .ref a19, .int 0, .int 0])), (a1, .inr (8, [.ref a15, .int 0, .int 200, .int 0, .int 0, .int 0, .null, .long 0, .int 0, .int 0, .int 1, .int 0]))] H locs := w
  refine lv_istore_n (lv' := [(1, .int 0), (0, .ref a0)]) hx hb dX11_sentence_15 rfl hl (by decide) rfl (fun ls hl => ?_)
  refine lv_aload_n hx hb dX11_sentence_16 rfl (lv_at hl 1 rfl) ?_
  refine r_get (v := .ref a1) M w 0 0 clX11 rfl (by decide) G497 rfl rfl dX11_sentence_17 ?_
  refine k_V (ce := 0) (sl := 0) (rest := []) (wr := [(a0, .inr (10, [.ref a1, .ref a2, .ref a3, .ref a4, .ref a5, .ref a6, .ref a7, .ref a8, .ref a9, .ref a10, .ref a11, .ref a12, .ref a13, .ref a14, .int 0, .int 0, .int 0])), (a14, .inr (5, [.ref a16, .ref a17, .ref a18, .ref a19, .int 0, .int 0]))]) (r_V (f := 0) [2] M w V_HookedCity_115 G787 G788 (c154_X8_empty l D T _ a1 a15) 2 clX8 rfl rfl (by decide) rfl hl.1 rfl (Nat.le_of_ble_eq_true rfl) dX11_sentence_20 (by decide) (by decide) (by decide) (by decide)) w [2] [0, 1] rfl rfl (by decide) (by decide) rfl rfl (fun _ H locs hp w => ?_)
  have w : WD D A s.heap [(a0, .inr (10, [.ref a1, .ref a2, .ref a3, .ref a4, .ref a5, .ref a6, .ref a7, .ref a8, .ref a9, .ref a10, .ref a11, .ref a12, .ref a13, .ref a14, .int 0, .int 0, .int 0])), (a14, .inr (5, [.ref a16, .ref a17, .ref a18, .ref a19, .int 0, .int 0])), (a1, .inr (8, [.ref a15, .int 0, .int 200, .int 0, .int 0, .int 0, .null, .long 0, .int 0, .int 0, .int 1, .int 0]))] H locs := w
  refine lv_iload_n hx hb dX11_sentence_23 rfl (lv_at hl 0 rfl) ?_
  refine lv_if_ne (tgt := 37) hx hb dX11_sentence_24 (by decide) (fun c => absurd (by decide +kernel) c) (fun _ => ?_)
  refine lv_iconst (v := (-1)) hx hb dX11_sentence_27 (by decide) ?_
  refine lv_aload_n hx hb dX11_sentence_28 rfl (lv_at hl 1 rfl) ?_
  refine r_get (v := .ref a1) M w 0 0 clX11 rfl (by decide) G497 rfl rfl dX11_sentence_29 ?_
  refine r_getN (v := .int 0) M w 2 11 clX8 rfl (by decide) N182 rfl rfl dX11_sentence_32 ?_
  refine r_isub (v := (-1 : Int32)) M (by decide +kernel) dX11_sentence_35 ?_
  exact ret _ () _ _ _ _ _ [] dX11_sentence_36 rfl w (by decide) rfl
set_option maxRecDepth 100000 in
set_option maxHeartbeats 4000000 in
theorem c156_X12_go (l : Launch) (D : va_G) (T : Nat → ClassId) (sz : Nat) (a0 a1 a2 a3 a4 a5 a6 a7 a8 a9 a10 a11 a12 a13 a14 a15 a16 a17 a18 a19 a20 a21 a22 : Nat) : Met l yX12_go (Cond.code yX12_go cX12_go 5 none :: GW) (Rm 0 0 0) (cPre [.ref a0] D T [(a0, .inr (11, [.int 0, .ref a1, .int 0, .int 0, .int 200, .int 0, .int 0, .int 0, .int 0, .int 0, .int 0, .int 0, .long 0, .int 0, .ref a2, .ref a3, .ref a4, .ref a5, .ref a6, .ref a7, .ref a8, .ref a9, .ref a10, .ref a11, .int 0, .ref a12, .ref a13, .ref a14, .ref a15, .int 0, .int 0, .int 0, .ref a16, .int (-1), .int (-1), .ref a17, .ref a18, .int 0, .ref a19, .int 0, .int 0, .ref a20, .ref a21, .int 0, .int 0, .ref a22, .int 0, .int 0, .int 0, .int 0]))] sz) (qV D [(a0, .inr (11, [.int 0, .ref a1, .int 0, .int 0, .int 200, .int 0, .int 0, .int 0, .int 0, .int 0, .int 0, .int 0, .long 0, .int 0, .ref a2, .ref a3, .ref a4, .ref a5, .ref a6, .ref a7, .ref a8, .ref a9, .ref a10, .ref a11, .int 0, .ref a12, .ref a13, .ref a14, .ref a15, .int 0, .int 0, .int 0, .ref a16, .int (-1), .int (-1), .ref a17, .ref a18, .int 0, .ref a19, .int 0, .int 0, .ref a20, .ref a21, .int 0, .int 0, .ref a22, .int 0, .int 0, .int 0, .int 0]))] sz (fun (u : Unit) => True) (fun u => [(a0, .inr (11, [.int 0, .ref a1, .int 0, .int 0, .int 200, .int 0, .int 0, .int 0, .int 0, .int 0, .int 0, .int 0, .long 0, .int 0, .ref a2, .ref a3, .ref a4, .ref a5, .ref a6, .ref a7, .ref a8, .ref a9, .ref a10, .ref a11, .int 0, .ref a12, .ref a13, .ref a14, .ref a15, .int 0, .int 0, .int 0, .ref a16, .int (-1), .int (-1), .ref a17, .ref a18, .int 0, .ref a19, .int 0, .int 0, .ref a20, .ref a21, .int 0, .int 0, .ref a22, .int 0, .int 0, .int 0, .int 0]))])) 0 0 (va_A [(a0, .inr (11, [.int 0, .ref a1, .int 0, .int 0, .int 200, .int 0, .int 0, .int 0, .int 0, .int 0, .int 0, .int 0, .long 0, .int 0, .ref a2, .ref a3, .ref a4, .ref a5, .ref a6, .ref a7, .ref a8, .ref a9, .ref a10, .ref a11, .int 0, .ref a12, .ref a13, .ref a14, .ref a15, .int 0, .int 0, .int 0, .ref a16, .int (-1), .int (-1), .ref a17, .ref a18, .int 0, .ref a19, .int 0, .int 0, .ref a20, .ref a21, .int 0, .int 0, .ref a22, .int 0, .int 0, .int 0, .int 0]))] sz) := by
  refine e_V (by decide) (Nat.le_of_ble_eq_true rfl) ?_
  intro p e s m args below meth c A Q ls M hin w ret hl
  have hx := M.1.1
  have hb := M.1.2.1
  have hl : lv_has ls 5 [(0, .ref a0)] := hl
  refine lv_aload_n hx hb dX12_go_0 rfl (lv_at hl 0 rfl) ?_
  refine r_get (v := .int 0) M w 0 5 clX12 rfl (by decide) G1472 rfl rfl dX12_go_1 ?_
  refine lv_aload_n hx hb dX12_go_4 rfl (lv_at hl 0 rfl) ?_
  refine r_get (v := .int 0) M w 0 3 clX12 rfl (by decide) G1470 rfl rfl dX12_go_5 ?_
  refine lv_icmp_ge (tgt := 52) hx hb dX12_go_8 (by decide) (fun _ => ?_) (fun c => absurd (by decide +kernel) c)
  refine lv_aload_n hx hb dX12_go_52 rfl (lv_at hl 0 rfl) ?_
  refine lv_aload_n hx hb dX12_go_53 rfl (lv_at hl 0 rfl) ?_
  refine r_get (v := .int 0) M w 0 5 clX12 rfl (by decide) G1472 rfl rfl dX12_go_54 ?_
  refine r_put (ws' := [(a0, .inr (11, [.int 0, .ref a1, .int 0, .int 0, .int 200, .int 0, .int 0, .int 0, .int 0, .int 0, .int 0, .int 0, .long 0, .int 0, .ref a2, .ref a3, .ref a4, .ref a5, .ref a6, .ref a7, .ref a8, .ref a9, .ref a10, .ref a11, .int 0, .ref a12, .ref a13, .ref a14, .ref a15, .int 0, .int 0, .int 0, .ref a16, .int (-1), .int (-1), .ref a17, .ref a18, .int 0, .ref a19, .int 0, .int 0, .ref a20, .ref a21, .int 0, .int 0, .ref a22, .int 0, .int 0, .int 0, .int 0]))]) M w 0 6 clX12 rfl (by decide) G1473 rfl rfl rfl rfl (Nat.le_of_ble_eq_true rfl) rfl dX12_go_57 (fun H locs w => ?_)
  refine lv_aload_n hx hb dX12_go_60 rfl (lv_at hl 0 rfl) ?_
  refine r_get (v := .int 0) M w 0 3 clX12 rfl (by decide) G1470 rfl rfl dX12_go_61 ?_
  refine lv_aload_n hx hb dX12_go_64 rfl (lv_at hl 0 rfl) ?_
  refine r_get (v := .int 200) M w 0 4 clX12 rfl (by decide) G1471 rfl rfl dX12_go_65 ?_
  refine lv_icmp_le (tgt := 96) hx hb dX12_go_68 (by decide) (fun _ => ?_) (fun c => absurd (by decide +kernel) c)
  refine lv_aload_n hx hb dX12_go_96 rfl (lv_at hl 0 rfl) ?_
  refine r_get (v := .int 0) M w 0 5 clX12 rfl (by decide) G1472 rfl rfl dX12_go_97 ?_
  refine lv_aload_n hx hb dX12_go_100 rfl (lv_at hl 0 rfl) ?_
  refine r_get (v := .int 0) M w 0 3 clX12 rfl (by decide) G1470 rfl rfl dX12_go_101 ?_
  refine lv_icmp_lt (tgt := 113) hx hb dX12_go_104 (by decide) (fun c => absurd c (by decide +kernel)) (fun _ => ?_)
  refine lv_aload_n hx hb dX12_go_107 rfl (lv_at hl 0 rfl) ?_
  refine lv_iconst (v := 0) hx hb dX12_go_108 (by decide) ?_
  refine r_put (ws' := [(a0, .inr (11, [.int 0, .ref a1, .int 0, .int 0, .int 200, .int 0, .int 0, .int 0, .int 0, .int 0, .int 0, .int 0, .long 0, .int 0, .ref a2, .ref a3, .ref a4, .ref a5, .ref a6, .ref a7, .ref a8, .ref a9, .ref a10, .ref a11, .int 0, .ref a12, .ref a13, .ref a14, .ref a15, .int 0, .int 0, .int 0, .ref a16, .int (-1), .int (-1), .ref a17, .ref a18, .int 0, .ref a19, .int 0, .int 0, .ref a20, .ref a21, .int 0, .int 0, .ref a22, .int 0, .int 0, .int 0, .int 0]))]) M w 0 7 clX12 rfl (by decide) G1474 rfl rfl rfl rfl (Nat.le_of_ble_eq_true rfl) rfl dX12_go_109 (fun H locs w => ?_)
  exact ret () _ _ _ _ _ [0] dX12_go_112 trivial w (by decide) rfl
set_option maxRecDepth 100000 in
set_option maxHeartbeats 4000000 in
theorem c157_X12_begin (l : Launch) (D : va_G) (T : Nat → ClassId) (sz : Nat) (a0 a1 a2 a3 a4 a5 a6 a7 a8 a9 a10 a11 a12 a13 a14 a15 a16 a17 a18 a19 a20 a21 a22 : Nat) : Met l yX12_begin (Cond.code yX12_begin cX12_begin 2 none :: GW) (Rm 1 0 0) (cPre [.ref a0, .int 200] D T [(a0, .inr (11, [.int 0, .ref a1, .int 0, .int 0, .int 0, .int 0, .int 0, .int 0, .int 0, .int 0, .int 0, .int 0, .long 0, .int 0, .ref a2, .ref a3, .ref a4, .ref a5, .ref a6, .ref a7, .ref a8, .ref a9, .ref a10, .ref a11, .int 0, .ref a12, .ref a13, .ref a14, .ref a15, .int 0, .int 0, .int 0, .ref a16, .int (-1), .int (-1), .ref a17, .ref a18, .int 0, .ref a19, .int 0, .int 0, .ref a20, .ref a21, .int 0, .int 0, .ref a22, .int 0, .int 0, .int 0, .int 0]))] sz) (qV D [(a0, .inr (11, [.int 0, .ref a1, .int 0, .int 0, .int 0, .int 0, .int 0, .int 0, .int 0, .int 0, .int 0, .int 0, .long 0, .int 0, .ref a2, .ref a3, .ref a4, .ref a5, .ref a6, .ref a7, .ref a8, .ref a9, .ref a10, .ref a11, .int 0, .ref a12, .ref a13, .ref a14, .ref a15, .int 0, .int 0, .int 0, .ref a16, .int (-1), .int (-1), .ref a17, .ref a18, .int 0, .ref a19, .int 0, .int 0, .ref a20, .ref a21, .int 0, .int 0, .ref a22, .int 0, .int 0, .int 0, .int 0]))] sz (fun (u : Unit) => True) (fun u => [(a0, .inr (11, [.int 0, .ref a1, .int 0, .int 0, .int 200, .int 0, .int 0, .int 0, .int 0, .int 0, .int 0, .int 0, .long 0, .int 0, .ref a2, .ref a3, .ref a4, .ref a5, .ref a6, .ref a7, .ref a8, .ref a9, .ref a10, .ref a11, .int 0, .ref a12, .ref a13, .ref a14, .ref a15, .int 0, .int 0, .int 0, .ref a16, .int (-1), .int (-1), .ref a17, .ref a18, .int 0, .ref a19, .int 0, .int 0, .ref a20, .ref a21, .int 0, .int 0, .ref a22, .int 0, .int 0, .int 0, .int 0]))])) 0 0 (va_A [(a0, .inr (11, [.int 0, .ref a1, .int 0, .int 0, .int 0, .int 0, .int 0, .int 0, .int 0, .int 0, .int 0, .int 0, .long 0, .int 0, .ref a2, .ref a3, .ref a4, .ref a5, .ref a6, .ref a7, .ref a8, .ref a9, .ref a10, .ref a11, .int 0, .ref a12, .ref a13, .ref a14, .ref a15, .int 0, .int 0, .int 0, .ref a16, .int (-1), .int (-1), .ref a17, .ref a18, .int 0, .ref a19, .int 0, .int 0, .ref a20, .ref a21, .int 0, .int 0, .ref a22, .int 0, .int 0, .int 0, .int 0]))] sz) := by
  refine e_V (by decide) (Nat.le_of_ble_eq_true rfl) ?_
  intro p e s m args below meth c A Q ls M hin w ret hl
  have hx := M.1.1
  have hb := M.1.2.1
  have hl : lv_has ls 2 [(0, .ref a0), (1, .int 200)] := hl
  refine lv_aload_n hx hb dX12_begin_0 rfl (lv_at hl 0 rfl) ?_
  refine lv_iconst (v := 0) hx hb dX12_begin_1 (by decide) ?_
  refine r_put (ws' := [(a0, .inr (11, [.int 0, .ref a1, .int 0, .int 0, .int 0, .int 0, .int 0, .int 0, .int 0, .int 0, .int 0, .int 0, .long 0, .int 0, .ref a2, .ref a3, .ref a4, .ref a5, .ref a6, .ref a7, .ref a8, .ref a9, .ref a10, .ref a11, .int 0, .ref a12, .ref a13, .ref a14, .ref a15, .int 0, .int 0, .int 0, .ref a16, .int (-1), .int (-1), .ref a17, .ref a18, .int 0, .ref a19, .int 0, .int 0, .ref a20, .ref a21, .int 0, .int 0, .ref a22, .int 0, .int 0, .int 0, .int 0]))]) M w 0 0 clX12 rfl (by decide) G1467 rfl rfl rfl rfl (Nat.le_of_ble_eq_true rfl) rfl dX12_begin_2 (fun H locs w => ?_)
  refine lv_aload_n hx hb dX12_begin_5 rfl (lv_at hl 0 rfl) ?_
  refine lv_aload_n hx hb dX12_begin_6 rfl (lv_at hl 0 rfl) ?_
  refine k_I (ce := 0) (sl := 0) (rest := [.ref a0]) (wr := []) (r_V (f := 0) [0] M w V_HookedCityModel_89 G1629 G48 (c43_X12_take l D T _ a0 a1 a2 a3 a4 a5 a6 a7 a8 a9 a10 a11 a12 a13 a14 a15 a16 a17 a18 a19 a20 a21 a22) 0 clX12 rfl rfl (by decide) rfl hl.1 rfl (Nat.le_of_ble_eq_true rfl) dX12_begin_7 (by decide) (by decide) (by decide) (by decide)) w [0] [] rfl rfl (by decide) (by decide) rfl rfl (fun v _ H locs hp w => ?_)
  have hp : (0 : Int32) = v := hp
  subst hp
  have w : WD D A s.heap [(a0, .inr (11, [.int 0, .ref a1, .int 0, .int 0, .int 0, .int 0, .int 0, .int 0, .int 0, .int 0, .int 0, .int 0, .long 0, .int 0, .ref a2, .ref a3, .ref a4, .ref a5, .ref a6, .ref a7, .ref a8, .ref a9, .ref a10, .ref a11, .int 0, .ref a12, .ref a13, .ref a14, .ref a15, .int 0, .int 0, .int 0, .ref a16, .int (-1), .int (-1), .ref a17, .ref a18, .int 0, .ref a19, .int 0, .int 0, .ref a20, .ref a21, .int 0, .int 0, .ref a22, .int 0, .int 0, .int 0, .int 0]))] H locs := w
  refine r_put (ws' := [(a0, .inr (11, [.int 0, .ref a1, .int 0, .int 0, .int 0, .int 0, .int 0, .int 0, .int 0, .int 0, .int 0, .int 0, .long 0, .int 0, .ref a2, .ref a3, .ref a4, .ref a5, .ref a6, .ref a7, .ref a8, .ref a9, .ref a10, .ref a11, .int 0, .ref a12, .ref a13, .ref a14, .ref a15, .int 0, .int 0, .int 0, .ref a16, .int (-1), .int (-1), .ref a17, .ref a18, .int 0, .ref a19, .int 0, .int 0, .ref a20, .ref a21, .int 0, .int 0, .ref a22, .int 0, .int 0, .int 0, .int 0]))]) M w 0 3 clX12 rfl (by decide) G1470 rfl rfl rfl rfl (Nat.le_of_ble_eq_true rfl) rfl dX12_begin_10 (fun H locs w => ?_)
  refine lv_aload_n hx hb dX12_begin_13 rfl (lv_at hl 0 rfl) ?_
  refine lv_iload_n hx hb dX12_begin_14 rfl (lv_at hl 1 rfl) ?_
  refine r_put (ws' := [(a0, .inr (11, [.int 0, .ref a1, .int 0, .int 0, .int 200, .int 0, .int 0, .int 0, .int 0, .int 0, .int 0, .int 0, .long 0, .int 0, .ref a2, .ref a3, .ref a4, .ref a5, .ref a6, .ref a7, .ref a8, .ref a9, .ref a10, .ref a11, .int 0, .ref a12, .ref a13, .ref a14, .ref a15, .int 0, .int 0, .int 0, .ref a16, .int (-1), .int (-1), .ref a17, .ref a18, .int 0, .ref a19, .int 0, .int 0, .ref a20, .ref a21, .int 0, .int 0, .ref a22, .int 0, .int 0, .int 0, .int 0]))]) M w 0 4 clX12 rfl (by decide) G1471 rfl rfl rfl rfl (Nat.le_of_ble_eq_true rfl) rfl dX12_begin_15 (fun H locs w => ?_)
  refine lv_aload_n hx hb dX12_begin_18 rfl (lv_at hl 0 rfl) ?_
  refine lv_iconst (v := 0) hx hb dX12_begin_19 (by decide) ?_
  refine r_put (ws' := [(a0, .inr (11, [.int 0, .ref a1, .int 0, .int 0, .int 200, .int 0, .int 0, .int 0, .int 0, .int 0, .int 0, .int 0, .long 0, .int 0, .ref a2, .ref a3, .ref a4, .ref a5, .ref a6, .ref a7, .ref a8, .ref a9, .ref a10, .ref a11, .int 0, .ref a12, .ref a13, .ref a14, .ref a15, .int 0, .int 0, .int 0, .ref a16, .int (-1), .int (-1), .ref a17, .ref a18, .int 0, .ref a19, .int 0, .int 0, .ref a20, .ref a21, .int 0, .int 0, .ref a22, .int 0, .int 0, .int 0, .int 0]))]) M w 0 10 clX12 rfl (by decide) G1477 rfl rfl rfl rfl (Nat.le_of_ble_eq_true rfl) rfl dX12_begin_20 (fun H locs w => ?_)
  refine lv_aload_n hx hb dX12_begin_23 rfl (lv_at hl 0 rfl) ?_
  refine lv_iconst (v := 0) hx hb dX12_begin_24 (by decide) ?_
  refine r_put (ws' := [(a0, .inr (11, [.int 0, .ref a1, .int 0, .int 0, .int 200, .int 0, .int 0, .int 0, .int 0, .int 0, .int 0, .int 0, .long 0, .int 0, .ref a2, .ref a3, .ref a4, .ref a5, .ref a6, .ref a7, .ref a8, .ref a9, .ref a10, .ref a11, .int 0, .ref a12, .ref a13, .ref a14, .ref a15, .int 0, .int 0, .int 0, .ref a16, .int (-1), .int (-1), .ref a17, .ref a18, .int 0, .ref a19, .int 0, .int 0, .ref a20, .ref a21, .int 0, .int 0, .ref a22, .int 0, .int 0, .int 0, .int 0]))]) M w 0 5 clX12 rfl (by decide) G1472 rfl rfl rfl rfl (Nat.le_of_ble_eq_true rfl) rfl dX12_begin_25 (fun H locs w => ?_)
  refine lv_aload_n hx hb dX12_begin_28 rfl (lv_at hl 0 rfl) ?_
  refine k_V (ce := 0) (sl := 0) (rest := []) (wr := []) (r_V (f := 0) [0] M w V_HookedCityModel_82 G1633 G49 (c156_X12_go l D T _ a0 a1 a2 a3 a4 a5 a6 a7 a8 a9 a10 a11 a12 a13 a14 a15 a16 a17 a18 a19 a20 a21 a22) 0 clX12 rfl rfl (by decide) rfl hl.1 rfl (Nat.le_of_ble_eq_true rfl) dX12_begin_29 (by decide) (by decide) (by decide) (by decide)) w [0] [] rfl rfl (by decide) (by decide) rfl rfl (fun _ H locs hp w => ?_)
  have w : WD D A s.heap [(a0, .inr (11, [.int 0, .ref a1, .int 0, .int 0, .int 200, .int 0, .int 0, .int 0, .int 0, .int 0, .int 0, .int 0, .long 0, .int 0, .ref a2, .ref a3, .ref a4, .ref a5, .ref a6, .ref a7, .ref a8, .ref a9, .ref a10, .ref a11, .int 0, .ref a12, .ref a13, .ref a14, .ref a15, .int 0, .int 0, .int 0, .ref a16, .int (-1), .int (-1), .ref a17, .ref a18, .int 0, .ref a19, .int 0, .int 0, .ref a20, .ref a21, .int 0, .int 0, .ref a22, .int 0, .int 0, .int 0, .int 0]))] H locs := w
  exact ret () _ _ _ _ _ [0] dX12_begin_32 trivial w (by decide) rfl
set_option maxRecDepth 100000 in
set_option maxHeartbeats 4000000 in
theorem c158_X12_isSign (l : Launch) (D : va_G) (T : Nat → ClassId) (sz : Nat) (a0 a1 a2 a3 a4 a5 a6 a7 a8 a9 a10 a11 a12 a13 a14 a15 a16 a17 a18 a19 a20 a21 a22 : Nat) : Met l yX12_isSign (Cond.code yX12_isSign cX12_isSign 2 (some .boolean) :: GW) (Rm 0 0 0) (cPre [.ref a0, .int 40] D T [(a0, .inr (11, [.int 0, .ref a1, .int 0, .int 0, .int 200, .int 0, .int 0, .int 0, .int 0, .int 0, .int 0, .int 0, .long 0, .int 0, .ref a2, .ref a3, .ref a4, .ref a5, .ref a6, .ref a7, .ref a8, .ref a9, .ref a10, .ref a11, .int 0, .ref a12, .ref a13, .ref a14, .ref a15, .int 0, .int 0, .int 0, .ref a16, .int (-1), .int (-1), .ref a17, .ref a18, .int 0, .ref a19, .int 0, .int 0, .ref a20, .ref a21, .int 0, .int 0, .ref a22, .int 0, .int 0, .int 0, .int 0]))] sz) (qI D [(a0, .inr (11, [.int 0, .ref a1, .int 0, .int 0, .int 200, .int 0, .int 0, .int 0, .int 0, .int 0, .int 0, .int 0, .long 0, .int 0, .ref a2, .ref a3, .ref a4, .ref a5, .ref a6, .ref a7, .ref a8, .ref a9, .ref a10, .ref a11, .int 0, .ref a12, .ref a13, .ref a14, .ref a15, .int 0, .int 0, .int 0, .ref a16, .int (-1), .int (-1), .ref a17, .ref a18, .int 0, .ref a19, .int 0, .int 0, .ref a20, .ref a21, .int 0, .int 0, .ref a22, .int 0, .int 0, .int 0, .int 0]))] sz (fun (v : Int32) (u : Unit) => (0 : Int32) = v) (fun u => [(a0, .inr (11, [.int 0, .ref a1, .int 0, .int 0, .int 200, .int 0, .int 0, .int 0, .int 0, .int 0, .int 0, .int 0, .long 0, .int 0, .ref a2, .ref a3, .ref a4, .ref a5, .ref a6, .ref a7, .ref a8, .ref a9, .ref a10, .ref a11, .int 0, .ref a12, .ref a13, .ref a14, .ref a15, .int 0, .int 0, .int 0, .ref a16, .int (-1), .int (-1), .ref a17, .ref a18, .int 0, .ref a19, .int 0, .int 0, .ref a20, .ref a21, .int 0, .int 0, .ref a22, .int 0, .int 0, .int 0, .int 0]))])) 0 0 (va_A [(a0, .inr (11, [.int 0, .ref a1, .int 0, .int 0, .int 200, .int 0, .int 0, .int 0, .int 0, .int 0, .int 0, .int 0, .long 0, .int 0, .ref a2, .ref a3, .ref a4, .ref a5, .ref a6, .ref a7, .ref a8, .ref a9, .ref a10, .ref a11, .int 0, .ref a12, .ref a13, .ref a14, .ref a15, .int 0, .int 0, .int 0, .ref a16, .int (-1), .int (-1), .ref a17, .ref a18, .int 0, .ref a19, .int 0, .int 0, .ref a20, .ref a21, .int 0, .int 0, .ref a22, .int 0, .int 0, .int 0, .int 0]))] sz) := by
  refine e_Z (by decide) (Nat.le_of_ble_eq_true rfl) ?_
  intro p e s m args below meth c A Q ls M hin w ret hl
  have hx := M.1.1
  have hb := M.1.2.1
  have hl : lv_has ls 2 [(0, .ref a0), (1, .int 40)] := hl
  refine lv_aload_n hx hb dX12_isSign_0 rfl (lv_at hl 0 rfl) ?_
  refine r_get (v := .int 0) M w 0 7 clX12 rfl (by decide) G1474 rfl rfl dX12_isSign_1 ?_
  refine lv_iconst (v := 4) hx hb dX12_isSign_4 (by decide) ?_
  refine lv_icmp_ne (tgt := 20) hx hb dX12_isSign_5 (by decide) (fun _ => ?_) (fun c => absurd c (by decide +kernel))
  refine lv_iconst (v := 0) hx hb dX12_isSign_20 (by decide) ?_
  exact ret _ () _ _ _ _ _ [0] dX12_isSign_21 (by decide +kernel) rfl w (by decide) rfl
set_option maxRecDepth 100000 in
set_option maxHeartbeats 4000000 in
theorem c159_X12_isWord (l : Launch) (D : va_G) (T : Nat → ClassId) (sz : Nat) (a0 a1 a2 a3 a4 a5 a6 a7 a8 a9 a10 a11 a12 a13 a14 a15 a16 a17 a18 a19 a20 a21 a22 : Nat) : Met l yX12_isWord (Cond.code yX12_isWord cX12_isWord 2 (some .boolean) :: GW) (Rm 0 0 0) (cPre [.ref a0, .int 17] D T [(a0, .inr (11, [.int 0, .ref a1, .int 0, .int 0, .int 200, .int 0, .int 0, .int 0, .int 0, .int 0, .int 0, .int 0, .long 0, .int 0, .ref a2, .ref a3, .ref a4, .ref a5, .ref a6, .ref a7, .ref a8, .ref a9, .ref a10, .ref a11, .int 0, .ref a12, .ref a13, .ref a14, .ref a15, .int 0, .int 0, .int 0, .ref a16, .int (-1), .int (-1), .ref a17, .ref a18, .int 0, .ref a19, .int 0, .int 0, .ref a20, .ref a21, .int 0, .int 0, .ref a22, .int 0, .int 0, .int 0, .int 0]))] sz) (qI D [(a0, .inr (11, [.int 0, .ref a1, .int 0, .int 0, .int 200, .int 0, .int 0, .int 0, .int 0, .int 0, .int 0, .int 0, .long 0, .int 0, .ref a2, .ref a3, .ref a4, .ref a5, .ref a6, .ref a7, .ref a8, .ref a9, .ref a10, .ref a11, .int 0, .ref a12, .ref a13, .ref a14, .ref a15, .int 0, .int 0, .int 0, .ref a16, .int (-1), .int (-1), .ref a17, .ref a18, .int 0, .ref a19, .int 0, .int 0, .ref a20, .ref a21, .int 0, .int 0, .ref a22, .int 0, .int 0, .int 0, .int 0]))] sz (fun (v : Int32) (u : Unit) => (0 : Int32) = v) (fun u => [(a0, .inr (11, [.int 0, .ref a1, .int 0, .int 0, .int 200, .int 0, .int 0, .int 0, .int 0, .int 0, .int 0, .int 0, .long 0, .int 0, .ref a2, .ref a3, .ref a4, .ref a5, .ref a6, .ref a7, .ref a8, .ref a9, .ref a10, .ref a11, .int 0, .ref a12, .ref a13, .ref a14, .ref a15, .int 0, .int 0, .int 0, .ref a16, .int (-1), .int (-1), .ref a17, .ref a18, .int 0, .ref a19, .int 0, .int 0, .ref a20, .ref a21, .int 0, .int 0, .ref a22, .int 0, .int 0, .int 0, .int 0]))])) 0 0 (va_A [(a0, .inr (11, [.int 0, .ref a1, .int 0, .int 0, .int 200, .int 0, .int 0, .int 0, .int 0, .int 0, .int 0, .int 0, .long 0, .int 0, .ref a2, .ref a3, .ref a4, .ref a5, .ref a6, .ref a7, .ref a8, .ref a9, .ref a10, .ref a11, .int 0, .ref a12, .ref a13, .ref a14, .ref a15, .int 0, .int 0, .int 0, .ref a16, .int (-1), .int (-1), .ref a17, .ref a18, .int 0, .ref a19, .int 0, .int 0, .ref a20, .ref a21, .int 0, .int 0, .ref a22, .int 0, .int 0, .int 0, .int 0]))] sz) := by
  refine e_Z (by decide) (Nat.le_of_ble_eq_true rfl) ?_
  intro p e s m args below meth c A Q ls M hin w ret hl
  have hx := M.1.1
  have hb := M.1.2.1
  have hl : lv_has ls 2 [(0, .ref a0), (1, .int 17)] := hl
  refine lv_aload_n hx hb dX12_isWord_0 rfl (lv_at hl 0 rfl) ?_
  refine r_get (v := .int 0) M w 0 7 clX12 rfl (by decide) G1474 rfl rfl dX12_isWord_1 ?_
  refine lv_iconst (v := 2) hx hb dX12_isWord_4 (by decide) ?_
  refine lv_icmp_ne (tgt := 24) hx hb dX12_isWord_5 (by decide) (fun _ => ?_) (fun c => absurd c (by decide +kernel))
  refine lv_iconst (v := 0) hx hb dX12_isWord_24 (by decide) ?_
  exact ret _ () _ _ _ _ _ [0] dX12_isWord_25 (by decide +kernel) rfl w (by decide) rfl
set_option maxRecDepth 100000 in
set_option maxHeartbeats 4000000 in
theorem c160_X12_isWord (l : Launch) (D : va_G) (T : Nat → ClassId) (sz : Nat) (a0 a1 a2 a3 a4 a5 a6 a7 a8 a9 a10 a11 a12 a13 a14 a15 a16 a17 a18 a19 a20 a21 a22 : Nat) : Met l yX12_isWord (Cond.code yX12_isWord cX12_isWord 2 (some .boolean) :: GW) (Rm 0 0 0) (cPre [.ref a0, .int 18] D T [(a0, .inr (11, [.int 0, .ref a1, .int 0, .int 0, .int 200, .int 0, .int 0, .int 0, .int 0, .int 0, .int 0, .int 0, .long 0, .int 0, .ref a2, .ref a3, .ref a4, .ref a5, .ref a6, .ref a7, .ref a8, .ref a9, .ref a10, .ref a11, .int 0, .ref a12, .ref a13, .ref a14, .ref a15, .int 0, .int 0, .int 0, .ref a16, .int (-1), .int (-1), .ref a17, .ref a18, .int 0, .ref a19, .int 0, .int 0, .ref a20, .ref a21, .int 0, .int 0, .ref a22, .int 0, .int 0, .int 0, .int 0]))] sz) (qI D [(a0, .inr (11, [.int 0, .ref a1, .int 0, .int 0, .int 200, .int 0, .int 0, .int 0, .int 0, .int 0, .int 0, .int 0, .long 0, .int 0, .ref a2, .ref a3, .ref a4, .ref a5, .ref a6, .ref a7, .ref a8, .ref a9, .ref a10, .ref a11, .int 0, .ref a12, .ref a13, .ref a14, .ref a15, .int 0, .int 0, .int 0, .ref a16, .int (-1), .int (-1), .ref a17, .ref a18, .int 0, .ref a19, .int 0, .int 0, .ref a20, .ref a21, .int 0, .int 0, .ref a22, .int 0, .int 0, .int 0, .int 0]))] sz (fun (v : Int32) (u : Unit) => (0 : Int32) = v) (fun u => [(a0, .inr (11, [.int 0, .ref a1, .int 0, .int 0, .int 200, .int 0, .int 0, .int 0, .int 0, .int 0, .int 0, .int 0, .long 0, .int 0, .ref a2, .ref a3, .ref a4, .ref a5, .ref a6, .ref a7, .ref a8, .ref a9, .ref a10, .ref a11, .int 0, .ref a12, .ref a13, .ref a14, .ref a15, .int 0, .int 0, .int 0, .ref a16, .int (-1), .int (-1), .ref a17, .ref a18, .int 0, .ref a19, .int 0, .int 0, .ref a20, .ref a21, .int 0, .int 0, .ref a22, .int 0, .int 0, .int 0, .int 0]))])) 0 0 (va_A [(a0, .inr (11, [.int 0, .ref a1, .int 0, .int 0, .int 200, .int 0, .int 0, .int 0, .int 0, .int 0, .int 0, .int 0, .long 0, .int 0, .ref a2, .ref a3, .ref a4, .ref a5, .ref a6, .ref a7, .ref a8, .ref a9, .ref a10, .ref a11, .int 0, .ref a12, .ref a13, .ref a14, .ref a15, .int 0, .int 0, .int 0, .ref a16, .int (-1), .int (-1), .ref a17, .ref a18, .int 0, .ref a19, .int 0, .int 0, .ref a20, .ref a21, .int 0, .int 0, .ref a22, .int 0, .int 0, .int 0, .int 0]))] sz) := by
  refine e_Z (by decide) (Nat.le_of_ble_eq_true rfl) ?_
  intro p e s m args below meth c A Q ls M hin w ret hl
  have hx := M.1.1
  have hb := M.1.2.1
  have hl : lv_has ls 2 [(0, .ref a0), (1, .int 18)] := hl
  refine lv_aload_n hx hb dX12_isWord_0 rfl (lv_at hl 0 rfl) ?_
  refine r_get (v := .int 0) M w 0 7 clX12 rfl (by decide) G1474 rfl rfl dX12_isWord_1 ?_
  refine lv_iconst (v := 2) hx hb dX12_isWord_4 (by decide) ?_
  refine lv_icmp_ne (tgt := 24) hx hb dX12_isWord_5 (by decide) (fun _ => ?_) (fun c => absurd c (by decide +kernel))
  refine lv_iconst (v := 0) hx hb dX12_isWord_24 (by decide) ?_
  exact ret _ () _ _ _ _ _ [0] dX12_isWord_25 (by decide +kernel) rfl w (by decide) rfl
set_option maxRecDepth 100000 in
set_option maxHeartbeats 4000000 in
theorem c161_X12_isWord (l : Launch) (D : va_G) (T : Nat → ClassId) (sz : Nat) (a0 a1 a2 a3 a4 a5 a6 a7 a8 a9 a10 a11 a12 a13 a14 a15 a16 a17 a18 a19 a20 a21 a22 : Nat) : Met l yX12_isWord (Cond.code yX12_isWord cX12_isWord 2 (some .boolean) :: GW) (Rm 0 0 0) (cPre [.ref a0, .int 19] D T [(a0, .inr (11, [.int 0, .ref a1, .int 0, .int 0, .int 200, .int 0, .int 0, .int 0, .int 0, .int 0, .int 0, .int 0, .long 0, .int 0, .ref a2, .ref a3, .ref a4, .ref a5, .ref a6, .ref a7, .ref a8, .ref a9, .ref a10, .ref a11, .int 0, .ref a12, .ref a13, .ref a14, .ref a15, .int 0, .int 0, .int 0, .ref a16, .int (-1), .int (-1), .ref a17, .ref a18, .int 0, .ref a19, .int 0, .int 0, .ref a20, .ref a21, .int 0, .int 0, .ref a22, .int 0, .int 0, .int 0, .int 0]))] sz) (qI D [(a0, .inr (11, [.int 0, .ref a1, .int 0, .int 0, .int 200, .int 0, .int 0, .int 0, .int 0, .int 0, .int 0, .int 0, .long 0, .int 0, .ref a2, .ref a3, .ref a4, .ref a5, .ref a6, .ref a7, .ref a8, .ref a9, .ref a10, .ref a11, .int 0, .ref a12, .ref a13, .ref a14, .ref a15, .int 0, .int 0, .int 0, .ref a16, .int (-1), .int (-1), .ref a17, .ref a18, .int 0, .ref a19, .int 0, .int 0, .ref a20, .ref a21, .int 0, .int 0, .ref a22, .int 0, .int 0, .int 0, .int 0]))] sz (fun (v : Int32) (u : Unit) => (0 : Int32) = v) (fun u => [(a0, .inr (11, [.int 0, .ref a1, .int 0, .int 0, .int 200, .int 0, .int 0, .int 0, .int 0, .int 0, .int 0, .int 0, .long 0, .int 0, .ref a2, .ref a3, .ref a4, .ref a5, .ref a6, .ref a7, .ref a8, .ref a9, .ref a10, .ref a11, .int 0, .ref a12, .ref a13, .ref a14, .ref a15, .int 0, .int 0, .int 0, .ref a16, .int (-1), .int (-1), .ref a17, .ref a18, .int 0, .ref a19, .int 0, .int 0, .ref a20, .ref a21, .int 0, .int 0, .ref a22, .int 0, .int 0, .int 0, .int 0]))])) 0 0 (va_A [(a0, .inr (11, [.int 0, .ref a1, .int 0, .int 0, .int 200, .int 0, .int 0, .int 0, .int 0, .int 0, .int 0, .int 0, .long 0, .int 0, .ref a2, .ref a3, .ref a4, .ref a5, .ref a6, .ref a7, .ref a8, .ref a9, .ref a10, .ref a11, .int 0, .ref a12, .ref a13, .ref a14, .ref a15, .int 0, .int 0, .int 0, .ref a16, .int (-1), .int (-1), .ref a17, .ref a18, .int 0, .ref a19, .int 0, .int 0, .ref a20, .ref a21, .int 0, .int 0, .ref a22, .int 0, .int 0, .int 0, .int 0]))] sz) := by
  refine e_Z (by decide) (Nat.le_of_ble_eq_true rfl) ?_
  intro p e s m args below meth c A Q ls M hin w ret hl
  have hx := M.1.1
  have hb := M.1.2.1
  have hl : lv_has ls 2 [(0, .ref a0), (1, .int 19)] := hl
  refine lv_aload_n hx hb dX12_isWord_0 rfl (lv_at hl 0 rfl) ?_
  refine r_get (v := .int 0) M w 0 7 clX12 rfl (by decide) G1474 rfl rfl dX12_isWord_1 ?_
  refine lv_iconst (v := 2) hx hb dX12_isWord_4 (by decide) ?_
  refine lv_icmp_ne (tgt := 24) hx hb dX12_isWord_5 (by decide) (fun _ => ?_) (fun c => absurd c (by decide +kernel))
  refine lv_iconst (v := 0) hx hb dX12_isWord_24 (by decide) ?_
  exact ret _ () _ _ _ _ _ [0] dX12_isWord_25 (by decide +kernel) rfl w (by decide) rfl
set_option maxRecDepth 100000 in
set_option maxHeartbeats 4000000 in
theorem c162_X12_isWord (l : Launch) (D : va_G) (T : Nat → ClassId) (sz : Nat) (a0 a1 a2 a3 a4 a5 a6 a7 a8 a9 a10 a11 a12 a13 a14 a15 a16 a17 a18 a19 a20 a21 a22 : Nat) : Met l yX12_isWord (Cond.code yX12_isWord cX12_isWord 2 (some .boolean) :: GW) (Rm 0 0 0) (cPre [.ref a0, .int 20] D T [(a0, .inr (11, [.int 0, .ref a1, .int 0, .int 0, .int 200, .int 0, .int 0, .int 0, .int 0, .int 0, .int 0, .int 0, .long 0, .int 0, .ref a2, .ref a3, .ref a4, .ref a5, .ref a6, .ref a7, .ref a8, .ref a9, .ref a10, .ref a11, .int 0, .ref a12, .ref a13, .ref a14, .ref a15, .int 0, .int 0, .int 0, .ref a16, .int (-1), .int (-1), .ref a17, .ref a18, .int 0, .ref a19, .int 0, .int 0, .ref a20, .ref a21, .int 0, .int 0, .ref a22, .int 0, .int 0, .int 0, .int 0]))] sz) (qI D [(a0, .inr (11, [.int 0, .ref a1, .int 0, .int 0, .int 200, .int 0, .int 0, .int 0, .int 0, .int 0, .int 0, .int 0, .long 0, .int 0, .ref a2, .ref a3, .ref a4, .ref a5, .ref a6, .ref a7, .ref a8, .ref a9, .ref a10, .ref a11, .int 0, .ref a12, .ref a13, .ref a14, .ref a15, .int 0, .int 0, .int 0, .ref a16, .int (-1), .int (-1), .ref a17, .ref a18, .int 0, .ref a19, .int 0, .int 0, .ref a20, .ref a21, .int 0, .int 0, .ref a22, .int 0, .int 0, .int 0, .int 0]))] sz (fun (v : Int32) (u : Unit) => (0 : Int32) = v) (fun u => [(a0, .inr (11, [.int 0, .ref a1, .int 0, .int 0, .int 200, .int 0, .int 0, .int 0, .int 0, .int 0, .int 0, .int 0, .long 0, .int 0, .ref a2, .ref a3, .ref a4, .ref a5, .ref a6, .ref a7, .ref a8, .ref a9, .ref a10, .ref a11, .int 0, .ref a12, .ref a13, .ref a14, .ref a15, .int 0, .int 0, .int 0, .ref a16, .int (-1), .int (-1), .ref a17, .ref a18, .int 0, .ref a19, .int 0, .int 0, .ref a20, .ref a21, .int 0, .int 0, .ref a22, .int 0, .int 0, .int 0, .int 0]))])) 0 0 (va_A [(a0, .inr (11, [.int 0, .ref a1, .int 0, .int 0, .int 200, .int 0, .int 0, .int 0, .int 0, .int 0, .int 0, .int 0, .long 0, .int 0, .ref a2, .ref a3, .ref a4, .ref a5, .ref a6, .ref a7, .ref a8, .ref a9, .ref a10, .ref a11, .int 0, .ref a12, .ref a13, .ref a14, .ref a15, .int 0, .int 0, .int 0, .ref a16, .int (-1), .int (-1), .ref a17, .ref a18, .int 0, .ref a19, .int 0, .int 0, .ref a20, .ref a21, .int 0, .int 0, .ref a22, .int 0, .int 0, .int 0, .int 0]))] sz) := by
  refine e_Z (by decide) (Nat.le_of_ble_eq_true rfl) ?_
  intro p e s m args below meth c A Q ls M hin w ret hl
  have hx := M.1.1
  have hb := M.1.2.1
  have hl : lv_has ls 2 [(0, .ref a0), (1, .int 20)] := hl
  refine lv_aload_n hx hb dX12_isWord_0 rfl (lv_at hl 0 rfl) ?_
  refine r_get (v := .int 0) M w 0 7 clX12 rfl (by decide) G1474 rfl rfl dX12_isWord_1 ?_
  refine lv_iconst (v := 2) hx hb dX12_isWord_4 (by decide) ?_
  refine lv_icmp_ne (tgt := 24) hx hb dX12_isWord_5 (by decide) (fun _ => ?_) (fun c => absurd c (by decide +kernel))
  refine lv_iconst (v := 0) hx hb dX12_isWord_24 (by decide) ?_
  exact ret _ () _ _ _ _ _ [0] dX12_isWord_25 (by decide +kernel) rfl w (by decide) rfl
set_option maxRecDepth 100000 in
set_option maxHeartbeats 4000000 in
theorem c163_X12_isWord (l : Launch) (D : va_G) (T : Nat → ClassId) (sz : Nat) (a0 a1 a2 a3 a4 a5 a6 a7 a8 a9 a10 a11 a12 a13 a14 a15 a16 a17 a18 a19 a20 a21 a22 : Nat) : Met l yX12_isWord (Cond.code yX12_isWord cX12_isWord 2 (some .boolean) :: GW) (Rm 0 0 0) (cPre [.ref a0, .int 21] D T [(a0, .inr (11, [.int 0, .ref a1, .int 0, .int 0, .int 200, .int 0, .int 0, .int 0, .int 0, .int 0, .int 0, .int 0, .long 0, .int 0, .ref a2, .ref a3, .ref a4, .ref a5, .ref a6, .ref a7, .ref a8, .ref a9, .ref a10, .ref a11, .int 0, .ref a12, .ref a13, .ref a14, .ref a15, .int 0, .int 0, .int 0, .ref a16, .int (-1), .int (-1), .ref a17, .ref a18, .int 0, .ref a19, .int 0, .int 0, .ref a20, .ref a21, .int 0, .int 0, .ref a22, .int 0, .int 0, .int 0, .int 0]))] sz) (qI D [(a0, .inr (11, [.int 0, .ref a1, .int 0, .int 0, .int 200, .int 0, .int 0, .int 0, .int 0, .int 0, .int 0, .int 0, .long 0, .int 0, .ref a2, .ref a3, .ref a4, .ref a5, .ref a6, .ref a7, .ref a8, .ref a9, .ref a10, .ref a11, .int 0, .ref a12, .ref a13, .ref a14, .ref a15, .int 0, .int 0, .int 0, .ref a16, .int (-1), .int (-1), .ref a17, .ref a18, .int 0, .ref a19, .int 0, .int 0, .ref a20, .ref a21, .int 0, .int 0, .ref a22, .int 0, .int 0, .int 0, .int 0]))] sz (fun (v : Int32) (u : Unit) => (0 : Int32) = v) (fun u => [(a0, .inr (11, [.int 0, .ref a1, .int 0, .int 0, .int 200, .int 0, .int 0, .int 0, .int 0, .int 0, .int 0, .int 0, .long 0, .int 0, .ref a2, .ref a3, .ref a4, .ref a5, .ref a6, .ref a7, .ref a8, .ref a9, .ref a10, .ref a11, .int 0, .ref a12, .ref a13, .ref a14, .ref a15, .int 0, .int 0, .int 0, .ref a16, .int (-1), .int (-1), .ref a17, .ref a18, .int 0, .ref a19, .int 0, .int 0, .ref a20, .ref a21, .int 0, .int 0, .ref a22, .int 0, .int 0, .int 0, .int 0]))])) 0 0 (va_A [(a0, .inr (11, [.int 0, .ref a1, .int 0, .int 0, .int 200, .int 0, .int 0, .int 0, .int 0, .int 0, .int 0, .int 0, .long 0, .int 0, .ref a2, .ref a3, .ref a4, .ref a5, .ref a6, .ref a7, .ref a8, .ref a9, .ref a10, .ref a11, .int 0, .ref a12, .ref a13, .ref a14, .ref a15, .int 0, .int 0, .int 0, .ref a16, .int (-1), .int (-1), .ref a17, .ref a18, .int 0, .ref a19, .int 0, .int 0, .ref a20, .ref a21, .int 0, .int 0, .ref a22, .int 0, .int 0, .int 0, .int 0]))] sz) := by
  refine e_Z (by decide) (Nat.le_of_ble_eq_true rfl) ?_
  intro p e s m args below meth c A Q ls M hin w ret hl
  have hx := M.1.1
  have hb := M.1.2.1
  have hl : lv_has ls 2 [(0, .ref a0), (1, .int 21)] := hl
  refine lv_aload_n hx hb dX12_isWord_0 rfl (lv_at hl 0 rfl) ?_
  refine r_get (v := .int 0) M w 0 7 clX12 rfl (by decide) G1474 rfl rfl dX12_isWord_1 ?_
  refine lv_iconst (v := 2) hx hb dX12_isWord_4 (by decide) ?_
  refine lv_icmp_ne (tgt := 24) hx hb dX12_isWord_5 (by decide) (fun _ => ?_) (fun c => absurd c (by decide +kernel))
  refine lv_iconst (v := 0) hx hb dX12_isWord_24 (by decide) ?_
  exact ret _ () _ _ _ _ _ [0] dX12_isWord_25 (by decide +kernel) rfl w (by decide) rfl
set_option maxRecDepth 100000 in
set_option maxHeartbeats 4000000 in
theorem c164_X12_isWord (l : Launch) (D : va_G) (T : Nat → ClassId) (sz : Nat) (a0 a1 a2 a3 a4 a5 a6 a7 a8 a9 a10 a11 a12 a13 a14 a15 a16 a17 a18 a19 a20 a21 a22 : Nat) : Met l yX12_isWord (Cond.code yX12_isWord cX12_isWord 2 (some .boolean) :: GW) (Rm 0 0 0) (cPre [.ref a0, .int 22] D T [(a0, .inr (11, [.int 0, .ref a1, .int 0, .int 0, .int 200, .int 0, .int 0, .int 0, .int 0, .int 0, .int 0, .int 0, .long 0, .int 0, .ref a2, .ref a3, .ref a4, .ref a5, .ref a6, .ref a7, .ref a8, .ref a9, .ref a10, .ref a11, .int 0, .ref a12, .ref a13, .ref a14, .ref a15, .int 0, .int 0, .int 0, .ref a16, .int (-1), .int (-1), .ref a17, .ref a18, .int 0, .ref a19, .int 0, .int 0, .ref a20, .ref a21, .int 0, .int 0, .ref a22, .int 0, .int 0, .int 0, .int 0]))] sz) (qI D [(a0, .inr (11, [.int 0, .ref a1, .int 0, .int 0, .int 200, .int 0, .int 0, .int 0, .int 0, .int 0, .int 0, .int 0, .long 0, .int 0, .ref a2, .ref a3, .ref a4, .ref a5, .ref a6, .ref a7, .ref a8, .ref a9, .ref a10, .ref a11, .int 0, .ref a12, .ref a13, .ref a14, .ref a15, .int 0, .int 0, .int 0, .ref a16, .int (-1), .int (-1), .ref a17, .ref a18, .int 0, .ref a19, .int 0, .int 0, .ref a20, .ref a21, .int 0, .int 0, .ref a22, .int 0, .int 0, .int 0, .int 0]))] sz (fun (v : Int32) (u : Unit) => (0 : Int32) = v) (fun u => [(a0, .inr (11, [.int 0, .ref a1, .int 0, .int 0, .int 200, .int 0, .int 0, .int 0, .int 0, .int 0, .int 0, .int 0, .long 0, .int 0, .ref a2, .ref a3, .ref a4, .ref a5, .ref a6, .ref a7, .ref a8, .ref a9, .ref a10, .ref a11, .int 0, .ref a12, .ref a13, .ref a14, .ref a15, .int 0, .int 0, .int 0, .ref a16, .int (-1), .int (-1), .ref a17, .ref a18, .int 0, .ref a19, .int 0, .int 0, .ref a20, .ref a21, .int 0, .int 0, .ref a22, .int 0, .int 0, .int 0, .int 0]))])) 0 0 (va_A [(a0, .inr (11, [.int 0, .ref a1, .int 0, .int 0, .int 200, .int 0, .int 0, .int 0, .int 0, .int 0, .int 0, .int 0, .long 0, .int 0, .ref a2, .ref a3, .ref a4, .ref a5, .ref a6, .ref a7, .ref a8, .ref a9, .ref a10, .ref a11, .int 0, .ref a12, .ref a13, .ref a14, .ref a15, .int 0, .int 0, .int 0, .ref a16, .int (-1), .int (-1), .ref a17, .ref a18, .int 0, .ref a19, .int 0, .int 0, .ref a20, .ref a21, .int 0, .int 0, .ref a22, .int 0, .int 0, .int 0, .int 0]))] sz) := by
  refine e_Z (by decide) (Nat.le_of_ble_eq_true rfl) ?_
  intro p e s m args below meth c A Q ls M hin w ret hl
  have hx := M.1.1
  have hb := M.1.2.1
  have hl : lv_has ls 2 [(0, .ref a0), (1, .int 22)] := hl
  refine lv_aload_n hx hb dX12_isWord_0 rfl (lv_at hl 0 rfl) ?_
  refine r_get (v := .int 0) M w 0 7 clX12 rfl (by decide) G1474 rfl rfl dX12_isWord_1 ?_
  refine lv_iconst (v := 2) hx hb dX12_isWord_4 (by decide) ?_
  refine lv_icmp_ne (tgt := 24) hx hb dX12_isWord_5 (by decide) (fun _ => ?_) (fun c => absurd c (by decide +kernel))
  refine lv_iconst (v := 0) hx hb dX12_isWord_24 (by decide) ?_
  exact ret _ () _ _ _ _ _ [0] dX12_isWord_25 (by decide +kernel) rfl w (by decide) rfl
set_option maxRecDepth 100000 in
set_option maxHeartbeats 4000000 in
theorem c165_X12_isWord (l : Launch) (D : va_G) (T : Nat → ClassId) (sz : Nat) (a0 a1 a2 a3 a4 a5 a6 a7 a8 a9 a10 a11 a12 a13 a14 a15 a16 a17 a18 a19 a20 a21 a22 : Nat) : Met l yX12_isWord (Cond.code yX12_isWord cX12_isWord 2 (some .boolean) :: GW) (Rm 0 0 0) (cPre [.ref a0, .int 23] D T [(a0, .inr (11, [.int 0, .ref a1, .int 0, .int 0, .int 200, .int 0, .int 0, .int 0, .int 0, .int 0, .int 0, .int 0, .long 0, .int 0, .ref a2, .ref a3, .ref a4, .ref a5, .ref a6, .ref a7, .ref a8, .ref a9, .ref a10, .ref a11, .int 0, .ref a12, .ref a13, .ref a14, .ref a15, .int 0, .int 0, .int 0, .ref a16, .int (-1), .int (-1), .ref a17, .ref a18, .int 0, .ref a19, .int 0, .int 0, .ref a20, .ref a21, .int 0, .int 0, .ref a22, .int 0, .int 0, .int 0, .int 0]))] sz) (qI D [(a0, .inr (11, [.int 0, .ref a1, .int 0, .int 0, .int 200, .int 0, .int 0, .int 0, .int 0, .int 0, .int 0, .int 0, .long 0, .int 0, .ref a2, .ref a3, .ref a4, .ref a5, .ref a6, .ref a7, .ref a8, .ref a9, .ref a10, .ref a11, .int 0, .ref a12, .ref a13, .ref a14, .ref a15, .int 0, .int 0, .int 0, .ref a16, .int (-1), .int (-1), .ref a17, .ref a18, .int 0, .ref a19, .int 0, .int 0, .ref a20, .ref a21, .int 0, .int 0, .ref a22, .int 0, .int 0, .int 0, .int 0]))] sz (fun (v : Int32) (u : Unit) => (0 : Int32) = v) (fun u => [(a0, .inr (11, [.int 0, .ref a1, .int 0, .int 0, .int 200, .int 0, .int 0, .int 0, .int 0, .int 0, .int 0, .int 0, .long 0, .int 0, .ref a2, .ref a3, .ref a4, .ref a5, .ref a6, .ref a7, .ref a8, .ref a9, .ref a10, .ref a11, .int 0, .ref a12, .ref a13, .ref a14, .ref a15, .int 0, .int 0, .int 0, .ref a16, .int (-1), .int (-1), .ref a17, .ref a18, .int 0, .ref a19, .int 0, .int 0, .ref a20, .ref a21, .int 0, .int 0, .ref a22, .int 0, .int 0, .int 0, .int 0]))])) 0 0 (va_A [(a0, .inr (11, [.int 0, .ref a1, .int 0, .int 0, .int 200, .int 0, .int 0, .int 0, .int 0, .int 0, .int 0, .int 0, .long 0, .int 0, .ref a2, .ref a3, .ref a4, .ref a5, .ref a6, .ref a7, .ref a8, .ref a9, .ref a10, .ref a11, .int 0, .ref a12, .ref a13, .ref a14, .ref a15, .int 0, .int 0, .int 0, .ref a16, .int (-1), .int (-1), .ref a17, .ref a18, .int 0, .ref a19, .int 0, .int 0, .ref a20, .ref a21, .int 0, .int 0, .ref a22, .int 0, .int 0, .int 0, .int 0]))] sz) := by
  refine e_Z (by decide) (Nat.le_of_ble_eq_true rfl) ?_
  intro p e s m args below meth c A Q ls M hin w ret hl
  have hx := M.1.1
  have hb := M.1.2.1
  have hl : lv_has ls 2 [(0, .ref a0), (1, .int 23)] := hl
  refine lv_aload_n hx hb dX12_isWord_0 rfl (lv_at hl 0 rfl) ?_
  refine r_get (v := .int 0) M w 0 7 clX12 rfl (by decide) G1474 rfl rfl dX12_isWord_1 ?_
  refine lv_iconst (v := 2) hx hb dX12_isWord_4 (by decide) ?_
  refine lv_icmp_ne (tgt := 24) hx hb dX12_isWord_5 (by decide) (fun _ => ?_) (fun c => absurd c (by decide +kernel))
  refine lv_iconst (v := 0) hx hb dX12_isWord_24 (by decide) ?_
  exact ret _ () _ _ _ _ _ [0] dX12_isWord_25 (by decide +kernel) rfl w (by decide) rfl
set_option maxRecDepth 100000 in
set_option maxHeartbeats 4000000 in
theorem c166_X12_isWord (l : Launch) (D : va_G) (T : Nat → ClassId) (sz : Nat) (a0 a1 a2 a3 a4 a5 a6 a7 a8 a9 a10 a11 a12 a13 a14 a15 a16 a17 a18 a19 a20 a21 a22 : Nat) : Met l yX12_isWord (Cond.code yX12_isWord cX12_isWord 2 (some .boolean) :: GW) (Rm 0 0 0) (cPre [.ref a0, .int 24] D T [(a0, .inr (11, [.int 0, .ref a1, .int 0, .int 0, .int 200, .int 0, .int 0, .int 0, .int 0, .int 0, .int 0, .int 0, .long 0, .int 0, .ref a2, .ref a3, .ref a4, .ref a5, .ref a6, .ref a7, .ref a8, .ref a9, .ref a10, .ref a11, .int 0, .ref a12, .ref a13, .ref a14, .ref a15, .int 0, .int 0, .int 0, .ref a16, .int (-1), .int (-1), .ref a17, .ref a18, .int 0, .ref a19, .int 0, .int 0, .ref a20, .ref a21, .int 0, .int 0, .ref a22, .int 0, .int 0, .int 0, .int 0]))] sz) (qI D [(a0, .inr (11, [.int 0, .ref a1, .int 0, .int 0, .int 200, .int 0, .int 0, .int 0, .int 0, .int 0, .int 0, .int 0, .long 0, .int 0, .ref a2, .ref a3, .ref a4, .ref a5, .ref a6, .ref a7, .ref a8, .ref a9, .ref a10, .ref a11, .int 0, .ref a12, .ref a13, .ref a14, .ref a15, .int 0, .int 0, .int 0, .ref a16, .int (-1), .int (-1), .ref a17, .ref a18, .int 0, .ref a19, .int 0, .int 0, .ref a20, .ref a21, .int 0, .int 0, .ref a22, .int 0, .int 0, .int 0, .int 0]))] sz (fun (v : Int32) (u : Unit) => (0 : Int32) = v) (fun u => [(a0, .inr (11, [.int 0, .ref a1, .int 0, .int 0, .int 200, .int 0, .int 0, .int 0, .int 0, .int 0, .int 0, .int 0, .long 0, .int 0, .ref a2, .ref a3, .ref a4, .ref a5, .ref a6, .ref a7, .ref a8, .ref a9, .ref a10, .ref a11, .int 0, .ref a12, .ref a13, .ref a14, .ref a15, .int 0, .int 0, .int 0, .ref a16, .int (-1), .int (-1), .ref a17, .ref a18, .int 0, .ref a19, .int 0, .int 0, .ref a20, .ref a21, .int 0, .int 0, .ref a22, .int 0, .int 0, .int 0, .int 0]))])) 0 0 (va_A [(a0, .inr (11, [.int 0, .ref a1, .int 0, .int 0, .int 200, .int 0, .int 0, .int 0, .int 0, .int 0, .int 0, .int 0, .long 0, .int 0, .ref a2, .ref a3, .ref a4, .ref a5, .ref a6, .ref a7, .ref a8, .ref a9, .ref a10, .ref a11, .int 0, .ref a12, .ref a13, .ref a14, .ref a15, .int 0, .int 0, .int 0, .ref a16, .int (-1), .int (-1), .ref a17, .ref a18, .int 0, .ref a19, .int 0, .int 0, .ref a20, .ref a21, .int 0, .int 0, .ref a22, .int 0, .int 0, .int 0, .int 0]))] sz) := by
  refine e_Z (by decide) (Nat.le_of_ble_eq_true rfl) ?_
  intro p e s m args below meth c A Q ls M hin w ret hl
  have hx := M.1.1
  have hb := M.1.2.1
  have hl : lv_has ls 2 [(0, .ref a0), (1, .int 24)] := hl
  refine lv_aload_n hx hb dX12_isWord_0 rfl (lv_at hl 0 rfl) ?_
  refine r_get (v := .int 0) M w 0 7 clX12 rfl (by decide) G1474 rfl rfl dX12_isWord_1 ?_
  refine lv_iconst (v := 2) hx hb dX12_isWord_4 (by decide) ?_
  refine lv_icmp_ne (tgt := 24) hx hb dX12_isWord_5 (by decide) (fun _ => ?_) (fun c => absurd c (by decide +kernel))
  refine lv_iconst (v := 0) hx hb dX12_isWord_24 (by decide) ?_
  exact ret _ () _ _ _ _ _ [0] dX12_isWord_25 (by decide +kernel) rfl w (by decide) rfl
set_option maxRecDepth 100000 in
set_option maxHeartbeats 4000000 in
theorem c167_X12_isWord (l : Launch) (D : va_G) (T : Nat → ClassId) (sz : Nat) (a0 a1 a2 a3 a4 a5 a6 a7 a8 a9 a10 a11 a12 a13 a14 a15 a16 a17 a18 a19 a20 a21 a22 : Nat) : Met l yX12_isWord (Cond.code yX12_isWord cX12_isWord 2 (some .boolean) :: GW) (Rm 0 0 0) (cPre [.ref a0, .int 25] D T [(a0, .inr (11, [.int 0, .ref a1, .int 0, .int 0, .int 200, .int 0, .int 0, .int 0, .int 0, .int 0, .int 0, .int 0, .long 0, .int 0, .ref a2, .ref a3, .ref a4, .ref a5, .ref a6, .ref a7, .ref a8, .ref a9, .ref a10, .ref a11, .int 0, .ref a12, .ref a13, .ref a14, .ref a15, .int 0, .int 0, .int 0, .ref a16, .int (-1), .int (-1), .ref a17, .ref a18, .int 0, .ref a19, .int 0, .int 0, .ref a20, .ref a21, .int 0, .int 0, .ref a22, .int 0, .int 0, .int 0, .int 0]))] sz) (qI D [(a0, .inr (11, [.int 0, .ref a1, .int 0, .int 0, .int 200, .int 0, .int 0, .int 0, .int 0, .int 0, .int 0, .int 0, .long 0, .int 0, .ref a2, .ref a3, .ref a4, .ref a5, .ref a6, .ref a7, .ref a8, .ref a9, .ref a10, .ref a11, .int 0, .ref a12, .ref a13, .ref a14, .ref a15, .int 0, .int 0, .int 0, .ref a16, .int (-1), .int (-1), .ref a17, .ref a18, .int 0, .ref a19, .int 0, .int 0, .ref a20, .ref a21, .int 0, .int 0, .ref a22, .int 0, .int 0, .int 0, .int 0]))] sz (fun (v : Int32) (u : Unit) => (0 : Int32) = v) (fun u => [(a0, .inr (11, [.int 0, .ref a1, .int 0, .int 0, .int 200, .int 0, .int 0, .int 0, .int 0, .int 0, .int 0, .int 0, .long 0, .int 0, .ref a2, .ref a3, .ref a4, .ref a5, .ref a6, .ref a7, .ref a8, .ref a9, .ref a10, .ref a11, .int 0, .ref a12, .ref a13, .ref a14, .ref a15, .int 0, .int 0, .int 0, .ref a16, .int (-1), .int (-1), .ref a17, .ref a18, .int 0, .ref a19, .int 0, .int 0, .ref a20, .ref a21, .int 0, .int 0, .ref a22, .int 0, .int 0, .int 0, .int 0]))])) 0 0 (va_A [(a0, .inr (11, [.int 0, .ref a1, .int 0, .int 0, .int 200, .int 0, .int 0, .int 0, .int 0, .int 0, .int 0, .int 0, .long 0, .int 0, .ref a2, .ref a3, .ref a4, .ref a5, .ref a6, .ref a7, .ref a8, .ref a9, .ref a10, .ref a11, .int 0, .ref a12, .ref a13, .ref a14, .ref a15, .int 0, .int 0, .int 0, .ref a16, .int (-1), .int (-1), .ref a17, .ref a18, .int 0, .ref a19, .int 0, .int 0, .ref a20, .ref a21, .int 0, .int 0, .ref a22, .int 0, .int 0, .int 0, .int 0]))] sz) := by
  refine e_Z (by decide) (Nat.le_of_ble_eq_true rfl) ?_
  intro p e s m args below meth c A Q ls M hin w ret hl
  have hx := M.1.1
  have hb := M.1.2.1
  have hl : lv_has ls 2 [(0, .ref a0), (1, .int 25)] := hl
  refine lv_aload_n hx hb dX12_isWord_0 rfl (lv_at hl 0 rfl) ?_
  refine r_get (v := .int 0) M w 0 7 clX12 rfl (by decide) G1474 rfl rfl dX12_isWord_1 ?_
  refine lv_iconst (v := 2) hx hb dX12_isWord_4 (by decide) ?_
  refine lv_icmp_ne (tgt := 24) hx hb dX12_isWord_5 (by decide) (fun _ => ?_) (fun c => absurd c (by decide +kernel))
  refine lv_iconst (v := 0) hx hb dX12_isWord_24 (by decide) ?_
  exact ret _ () _ _ _ _ _ [0] dX12_isWord_25 (by decide +kernel) rfl w (by decide) rfl
set_option maxRecDepth 100000 in
set_option maxHeartbeats 4000000 in
theorem c168_X12_isWord (l : Launch) (D : va_G) (T : Nat → ClassId) (sz : Nat) (a0 a1 a2 a3 a4 a5 a6 a7 a8 a9 a10 a11 a12 a13 a14 a15 a16 a17 a18 a19 a20 a21 a22 : Nat) : Met l yX12_isWord (Cond.code yX12_isWord cX12_isWord 2 (some .boolean) :: GW) (Rm 0 0 0) (cPre [.ref a0, .int 26] D T [(a0, .inr (11, [.int 0, .ref a1, .int 0, .int 0, .int 200, .int 0, .int 0, .int 0, .int 0, .int 0, .int 0, .int 0, .long 0, .int 0, .ref a2, .ref a3, .ref a4, .ref a5, .ref a6, .ref a7, .ref a8, .ref a9, .ref a10, .ref a11, .int 0, .ref a12, .ref a13, .ref a14, .ref a15, .int 0, .int 0, .int 0, .ref a16, .int (-1), .int (-1), .ref a17, .ref a18, .int 0, .ref a19, .int 0, .int 0, .ref a20, .ref a21, .int 0, .int 0, .ref a22, .int 0, .int 0, .int 0, .int 0]))] sz) (qI D [(a0, .inr (11, [.int 0, .ref a1, .int 0, .int 0, .int 200, .int 0, .int 0, .int 0, .int 0, .int 0, .int 0, .int 0, .long 0, .int 0, .ref a2, .ref a3, .ref a4, .ref a5, .ref a6, .ref a7, .ref a8, .ref a9, .ref a10, .ref a11, .int 0, .ref a12, .ref a13, .ref a14, .ref a15, .int 0, .int 0, .int 0, .ref a16, .int (-1), .int (-1), .ref a17, .ref a18, .int 0, .ref a19, .int 0, .int 0, .ref a20, .ref a21, .int 0, .int 0, .ref a22, .int 0, .int 0, .int 0, .int 0]))] sz (fun (v : Int32) (u : Unit) => (0 : Int32) = v) (fun u => [(a0, .inr (11, [.int 0, .ref a1, .int 0, .int 0, .int 200, .int 0, .int 0, .int 0, .int 0, .int 0, .int 0, .int 0, .long 0, .int 0, .ref a2, .ref a3, .ref a4, .ref a5, .ref a6, .ref a7, .ref a8, .ref a9, .ref a10, .ref a11, .int 0, .ref a12, .ref a13, .ref a14, .ref a15, .int 0, .int 0, .int 0, .ref a16, .int (-1), .int (-1), .ref a17, .ref a18, .int 0, .ref a19, .int 0, .int 0, .ref a20, .ref a21, .int 0, .int 0, .ref a22, .int 0, .int 0, .int 0, .int 0]))])) 0 0 (va_A [(a0, .inr (11, [.int 0, .ref a1, .int 0, .int 0, .int 200, .int 0, .int 0, .int 0, .int 0, .int 0, .int 0, .int 0, .long 0, .int 0, .ref a2, .ref a3, .ref a4, .ref a5, .ref a6, .ref a7, .ref a8, .ref a9, .ref a10, .ref a11, .int 0, .ref a12, .ref a13, .ref a14, .ref a15, .int 0, .int 0, .int 0, .ref a16, .int (-1), .int (-1), .ref a17, .ref a18, .int 0, .ref a19, .int 0, .int 0, .ref a20, .ref a21, .int 0, .int 0, .ref a22, .int 0, .int 0, .int 0, .int 0]))] sz) := by
  refine e_Z (by decide) (Nat.le_of_ble_eq_true rfl) ?_
  intro p e s m args below meth c A Q ls M hin w ret hl
  have hx := M.1.1
  have hb := M.1.2.1
  have hl : lv_has ls 2 [(0, .ref a0), (1, .int 26)] := hl
  refine lv_aload_n hx hb dX12_isWord_0 rfl (lv_at hl 0 rfl) ?_
  refine r_get (v := .int 0) M w 0 7 clX12 rfl (by decide) G1474 rfl rfl dX12_isWord_1 ?_
  refine lv_iconst (v := 2) hx hb dX12_isWord_4 (by decide) ?_
  refine lv_icmp_ne (tgt := 24) hx hb dX12_isWord_5 (by decide) (fun _ => ?_) (fun c => absurd c (by decide +kernel))
  refine lv_iconst (v := 0) hx hb dX12_isWord_24 (by decide) ?_
  exact ret _ () _ _ _ _ _ [0] dX12_isWord_25 (by decide +kernel) rfl w (by decide) rfl
set_option maxRecDepth 100000 in
set_option maxHeartbeats 4000000 in
theorem c169_X12_bad (l : Launch) (D : va_G) (T : Nat → ClassId) (sz : Nat) (a0 a1 a2 a3 a4 a5 a6 a7 a8 a9 a10 a11 a12 a13 a14 a15 a16 a17 a18 a19 a20 a21 a22 : Nat) : Met l yX12_bad (Cond.code yX12_bad cX12_bad 2 (some .boolean) :: GW) (Rm 0 0 0) (cPre [.ref a0, .int 1] D T [(a0, .inr (11, [.int 0, .ref a1, .int 0, .int 0, .int 200, .int 0, .int 0, .int 0, .int 0, .int 0, .int 0, .int 0, .long 0, .int 0, .ref a2, .ref a3, .ref a4, .ref a5, .ref a6, .ref a7, .ref a8, .ref a9, .ref a10, .ref a11, .int 0, .ref a12, .ref a13, .ref a14, .ref a15, .int 0, .int 0, .int 0, .ref a16, .int (-1), .int (-1), .ref a17, .ref a18, .int 0, .ref a19, .int 0, .int 0, .ref a20, .ref a21, .int 0, .int 0, .ref a22, .int 0, .int 0, .int 0, .int 0]))] sz) (qI D [(a0, .inr (11, [.int 0, .ref a1, .int 0, .int 0, .int 200, .int 0, .int 0, .int 0, .int 0, .int 0, .int 0, .int 0, .long 0, .int 0, .ref a2, .ref a3, .ref a4, .ref a5, .ref a6, .ref a7, .ref a8, .ref a9, .ref a10, .ref a11, .int 0, .ref a12, .ref a13, .ref a14, .ref a15, .int 0, .int 0, .int 0, .ref a16, .int (-1), .int (-1), .ref a17, .ref a18, .int 0, .ref a19, .int 0, .int 0, .ref a20, .ref a21, .int 0, .int 0, .ref a22, .int 0, .int 0, .int 0, .int 0]))] sz (fun (v : Int32) (u : Unit) => (0 : Int32) = v) (fun u => [(a0, .inr (11, [.int 0, .ref a1, .int 0, .int 0, .int 200, .int 0, .int 0, .int 0, .int 0, .int 0, .int 1, .int 0, .long 0, .int 0, .ref a2, .ref a3, .ref a4, .ref a5, .ref a6, .ref a7, .ref a8, .ref a9, .ref a10, .ref a11, .int 0, .ref a12, .ref a13, .ref a14, .ref a15, .int 0, .int 0, .int 0, .ref a16, .int (-1), .int (-1), .ref a17, .ref a18, .int 0, .ref a19, .int 0, .int 0, .ref a20, .ref a21, .int 0, .int 0, .ref a22, .int 0, .int 0, .int 0, .int 0]))])) 0 0 (va_A [(a0, .inr (11, [.int 0, .ref a1, .int 0, .int 0, .int 200, .int 0, .int 0, .int 0, .int 0, .int 0, .int 0, .int 0, .long 0, .int 0, .ref a2, .ref a3, .ref a4, .ref a5, .ref a6, .ref a7, .ref a8, .ref a9, .ref a10, .ref a11, .int 0, .ref a12, .ref a13, .ref a14, .ref a15, .int 0, .int 0, .int 0, .ref a16, .int (-1), .int (-1), .ref a17, .ref a18, .int 0, .ref a19, .int 0, .int 0, .ref a20, .ref a21, .int 0, .int 0, .ref a22, .int 0, .int 0, .int 0, .int 0]))] sz) := by
  refine e_Z (by decide) (Nat.le_of_ble_eq_true rfl) ?_
  intro p e s m args below meth c A Q ls M hin w ret hl
  have hx := M.1.1
  have hb := M.1.2.1
  have hl : lv_has ls 2 [(0, .ref a0), (1, .int 1)] := hl
  refine lv_aload_n hx hb dX12_bad_0 rfl (lv_at hl 0 rfl) ?_
  refine lv_aload_n hx hb dX12_bad_1 rfl (lv_at hl 0 rfl) ?_
  refine r_get (v := .int 0) M w 0 7 clX12 rfl (by decide) G1474 rfl rfl dX12_bad_2 ?_
  refine lv_iconst (v := 1) hx hb dX12_bad_5 (by decide) ?_
  refine lv_icmp_ne (tgt := 13) hx hb dX12_bad_6 (by decide) (fun _ => ?_) (fun c => absurd c (by decide +kernel))
  refine lv_iload_n hx hb dX12_bad_13 rfl (lv_at hl 1 rfl) ?_
  refine r_put (ws' := [(a0, .inr (11, [.int 0, .ref a1, .int 0, .int 0, .int 200, .int 0, .int 0, .int 0, .int 0, .int 0, .int 1, .int 0, .long 0, .int 0, .ref a2, .ref a3, .ref a4, .ref a5, .ref a6, .ref a7, .ref a8, .ref a9, .ref a10, .ref a11, .int 0, .ref a12, .ref a13, .ref a14, .ref a15, .int 0, .int 0, .int 0, .ref a16, .int (-1), .int (-1), .ref a17, .ref a18, .int 0, .ref a19, .int 0, .int 0, .ref a20, .ref a21, .int 0, .int 0, .ref a22, .int 0, .int 0, .int 0, .int 0]))]) M w 0 10 clX12 rfl (by decide) G1477 rfl rfl rfl rfl (Nat.le_of_ble_eq_true rfl) rfl dX12_bad_14 (fun H locs w => ?_)
  refine lv_aload_n hx hb dX12_bad_17 rfl (lv_at hl 0 rfl) ?_
  refine lv_aload_n hx hb dX12_bad_18 rfl (lv_at hl 0 rfl) ?_
  refine r_get (v := .int 0) M w 0 6 clX12 rfl (by decide) G1473 rfl rfl dX12_bad_19 ?_
  refine r_put (ws' := [(a0, .inr (11, [.int 0, .ref a1, .int 0, .int 0, .int 200, .int 0, .int 0, .int 0, .int 0, .int 0, .int 1, .int 0, .long 0, .int 0, .ref a2, .ref a3, .ref a4, .ref a5, .ref a6, .ref a7, .ref a8, .ref a9, .ref a10, .ref a11, .int 0, .ref a12, .ref a13, .ref a14, .ref a15, .int 0, .int 0, .int 0, .ref a16, .int (-1), .int (-1), .ref a17, .ref a18, .int 0, .ref a19, .int 0, .int 0, .ref a20, .ref a21, .int 0, .int 0, .ref a22, .int 0, .int 0, .int 0, .int 0]))]) M w 0 11 clX12 rfl (by decide) G1478 rfl rfl rfl rfl (Nat.le_of_ble_eq_true rfl) rfl dX12_bad_22 (fun H locs w => ?_)
  refine lv_iconst (v := 0) hx hb dX12_bad_25 (by decide) ?_
  exact ret _ () _ _ _ _ _ [0] dX12_bad_26 (by decide +kernel) rfl w (by decide) rfl
set_option maxRecDepth 100000 in
set_option maxHeartbeats 4000000 in
theorem c170_X12_readSaid (l : Launch) (D : va_G) (T : Nat → ClassId) (sz : Nat) (a0 a1 a2 a3 a4 a5 a6 a7 a8 a9 a10 a11 a12 a13 a14 a15 a16 a17 a18 a19 a20 a21 a22 : Nat) : Met l yX12_readSaid (Cond.code yX12_readSaid cX12_readSaid 4 (some .boolean) :: GW) (Rm 1 0 0) (cPre [.ref a0] D T [(a0, .inr (11, [.int 0, .ref a1, .int 0, .int 0, .int 200, .int 0, .int 0, .int 0, .int 0, .int 0, .int 0, .int 0, .long 0, .int 0, .ref a2, .ref a3, .ref a4, .ref a5, .ref a6, .ref a7, .ref a8, .ref a9, .ref a10, .ref a11, .int 0, .ref a12, .ref a13, .ref a14, .ref a15, .int 0, .int 0, .int 0, .ref a16, .int (-1), .int (-1), .ref a17, .ref a18, .int 0, .ref a19, .int 0, .int 0, .ref a20, .ref a21, .int 0, .int 0, .ref a22, .int 0, .int 0, .int 0, .int 0]))] sz) (qI D [(a0, .inr (11, [.int 0, .ref a1, .int 0, .int 0, .int 200, .int 0, .int 0, .int 0, .int 0, .int 0, .int 0, .int 0, .long 0, .int 0, .ref a2, .ref a3, .ref a4, .ref a5, .ref a6, .ref a7, .ref a8, .ref a9, .ref a10, .ref a11, .int 0, .ref a12, .ref a13, .ref a14, .ref a15, .int 0, .int 0, .int 0, .ref a16, .int (-1), .int (-1), .ref a17, .ref a18, .int 0, .ref a19, .int 0, .int 0, .ref a20, .ref a21, .int 0, .int 0, .ref a22, .int 0, .int 0, .int 0, .int 0]))] sz (fun (v : Int32) (u : Unit) => (0 : Int32) = v) (fun u => [(a0, .inr (11, [.int 0, .ref a1, .int 0, .int 0, .int 200, .int 0, .int 0, .int 0, .int 0, .int 0, .int 1, .int 0, .long 0, .int 0, .ref a2, .ref a3, .ref a4, .ref a5, .ref a6, .ref a7, .ref a8, .ref a9, .ref a10, .ref a11, .int 0, .ref a12, .ref a13, .ref a14, .ref a15, .int 0, .int 0, .int 0, .ref a16, .int (-1), .int (-1), .ref a17, .ref a18, .int 0, .ref a19, .int 0, .int 0, .ref a20, .ref a21, .int 0, .int 0, .ref a22, .int 0, .int 0, .int 0, .int 0]))])) 0 0 (va_A [(a0, .inr (11, [.int 0, .ref a1, .int 0, .int 0, .int 200, .int 0, .int 0, .int 0, .int 0, .int 0, .int 0, .int 0, .long 0, .int 0, .ref a2, .ref a3, .ref a4, .ref a5, .ref a6, .ref a7, .ref a8, .ref a9, .ref a10, .ref a11, .int 0, .ref a12, .ref a13, .ref a14, .ref a15, .int 0, .int 0, .int 0, .ref a16, .int (-1), .int (-1), .ref a17, .ref a18, .int 0, .ref a19, .int 0, .int 0, .ref a20, .ref a21, .int 0, .int 0, .ref a22, .int 0, .int 0, .int 0, .int 0]))] sz) := by
  refine e_Z (by decide) (Nat.le_of_ble_eq_true rfl) ?_
  intro p e s m args below meth c A Q ls M hin w ret hl
  have hx := M.1.1
  have hb := M.1.2.1
  have hl : lv_has ls 4 [(0, .ref a0)] := hl
  refine lv_aload_n hx hb dX12_readSaid_0 rfl (lv_at hl 0 rfl) ?_
  refine lv_bipush (v := 40) hx hb dX12_readSaid_1 (by decide) ?_
  refine k_I (ce := 0) (sl := 0) (rest := []) (wr := []) (r_V (f := 0) [0] M w V_HookedCityModel_86 G1728 G67 (c158_X12_isSign l D T _ a0 a1 a2 a3 a4 a5 a6 a7 a8 a9 a10 a11 a12 a13 a14 a15 a16 a17 a18 a19 a20 a21 a22) 0 clX12 rfl rfl (by decide) rfl hl.1 rfl (Nat.le_of_ble_eq_true rfl) dX12_readSaid_3 (by decide) (by decide) (by decide) (by decide)) w [0] [] rfl rfl (by decide) (by decide) rfl rfl (fun v _ H locs hp w => ?_)
  have hp : (0 : Int32) = v := hp
  subst hp
  have w : WD D A s.heap [(a0, .inr (11, [.int 0, .ref a1, .int 0, .int 0, .int 200, .int 0, .int 0, .int 0, .int 0, .int 0, .int 0, .int 0, .long 0, .int 0, .ref a2, .ref a3, .ref a4, .ref a5, .ref a6, .ref a7, .ref a8, .ref a9, .ref a10, .ref a11, .int 0, .ref a12, .ref a13, .ref a14, .ref a15, .int 0, .int 0, .int 0, .ref a16, .int (-1), .int (-1), .ref a17, .ref a18, .int 0, .ref a19, .int 0, .int 0, .ref a20, .ref a21, .int 0, .int 0, .ref a22, .int 0, .int 0, .int 0, .int 0]))] H locs := w
  refine lv_istore_n (lv' := [(1, .int 0), (0, .ref a0)]) hx hb dX12_readSaid_6 rfl hl (by decide) rfl (fun ls hl => ?_)
  refine lv_bipush (v := 17) hx hb dX12_readSaid_7 (by decide) ?_
  refine lv_istore_n (lv' := [(2, .int 17), (1, .int 0), (0, .ref a0)]) hx hb dX12_readSaid_9 rfl hl (by decide) rfl (fun ls hl => ?_)
  refine lv_iload_n hx hb dX12_readSaid_10 rfl (lv_at hl 0 rfl) ?_
  refine lv_bipush (v := 26) hx hb dX12_readSaid_11 (by decide) ?_
  refine lv_icmp_gt (tgt := 30) hx hb dX12_readSaid_13 (by decide) (fun c => absurd c (by decide +kernel)) (fun _ => ?_)
  refine lv_aload_n hx hb dX12_readSaid_16 rfl (lv_at hl 2 rfl) ?_
  refine lv_iload_n hx hb dX12_readSaid_17 rfl (lv_at hl 0 rfl) ?_
  refine k_I (ce := 0) (sl := 0) (rest := []) (wr := []) (r_V (f := 0) [0] M w V_HookedCityModel_183 G1653 G52 (c159_X12_isWord l D T _ a0 a1 a2 a3 a4 a5 a6 a7 a8 a9 a10 a11 a12 a13 a14 a15 a16 a17 a18 a19 a20 a21 a22) 0 clX12 rfl rfl (by decide) rfl hl.1 rfl (Nat.le_of_ble_eq_true rfl) dX12_readSaid_18 (by decide) (by decide) (by decide) (by decide)) w [0] [] rfl rfl (by decide) (by decide) rfl rfl (fun v _ H locs hp w => ?_)
  have hp : (0 : Int32) = v := hp
  subst hp
  have w : WD D A s.heap [(a0, .inr (11, [.int 0, .ref a1, .int 0, .int 0, .int 200, .int 0, .int 0, .int 0, .int 0, .int 0, .int 0, .int 0, .long 0, .int 0, .ref a2, .ref a3, .ref a4, .ref a5, .ref a6, .ref a7, .ref a8, .ref a9, .ref a10, .ref a11, .int 0, .ref a12, .ref a13, .ref a14, .ref a15, .int 0, .int 0, .int 0, .ref a16, .int (-1), .int (-1), .ref a17, .ref a18, .int 0, .ref a19, .int 0, .int 0, .ref a20, .ref a21, .int 0, .int 0, .ref a22, .int 0, .int 0, .int 0, .int 0]))] H locs := w
  refine lv_if_ne (tgt := 30) hx hb dX12_readSaid_21 (by decide) (fun c => absurd (by decide +kernel) c) (fun _ => ?_)
  refine lv_iinc (v := (18 : Int32)) (lv' := [(2, .int 18), (1, .int 0), (0, .ref a0)]) hx hb dX12_readSaid_24 hl (k := 0) rfl (by decide +kernel) (by decide) rfl (fun ls hl => ?_)
  refine lv_goto (tgt := 10) hx hb dX12_readSaid_27 (by decide) ?_
  refine lv_iload_n hx hb dX12_readSaid_10 rfl (lv_at hl 0 rfl) ?_
  refine lv_bipush (v := 26) hx hb dX12_readSaid_11 (by decide) ?_
  refine lv_icmp_gt (tgt := 30) hx hb dX12_readSaid_13 (by decide) (fun c => absurd c (by decide +kernel)) (fun _ => ?_)
  refine lv_aload_n hx hb dX12_readSaid_16 rfl (lv_at hl 2 rfl) ?_
  refine lv_iload_n hx hb dX12_readSaid_17 rfl (lv_at hl 0 rfl) ?_
  refine k_I (ce := 0) (sl := 0) (rest := []) (wr := []) (r_V (f := 0) [0] M w V_HookedCityModel_183 G1653 G52 (c160_X12_isWord l D T _ a0 a1 a2 a3 a4 a5 a6 a7 a8 a9 a10 a11 a12 a13 a14 a15 a16 a17 a18 a19 a20 a21 a22) 0 clX12 rfl rfl (by decide) rfl hl.1 rfl (Nat.le_of_ble_eq_true rfl) dX12_readSaid_18 (by decide) (by decide) (by decide) (by decide)) w [0] [] rfl rfl (by decide) (by decide) rfl rfl (fun v _ H locs hp w => ?_)
  have hp : (0 : Int32) = v := hp
  subst hp
  have w : WD D A s.heap [(a0, .inr (11, [.int 0, .ref a1, .int 0, .int 0, .int 200, .int 0, .int 0, .int 0, .int 0, .int 0, .int 0, .int 0, .long 0, .int 0, .ref a2, .ref a3, .ref a4, .ref a5, .ref a6, .ref a7, .ref a8, .ref a9, .ref a10, .ref a11, .int 0, .ref a12, .ref a13, .ref a14, .ref a15, .int 0, .int 0, .int 0, .ref a16, .int (-1), .int (-1), .ref a17, .ref a18, .int 0, .ref a19, .int 0, .int 0, .ref a20, .ref a21, .int 0, .int 0, .ref a22, .int 0, .int 0, .int 0, .int 0]))] H locs := w
  refine lv_if_ne (tgt := 30) hx hb dX12_readSaid_21 (by decide) (fun c => absurd (by decide +kernel) c) (fun _ => ?_)
  refine lv_iinc (v := (19 : Int32)) (lv' := [(2, .int 19), (1, .int 0), (0, .ref a0)]) hx hb dX12_readSaid_24 hl (k := 0) rfl (by decide +kernel) (by decide) rfl (fun ls hl => ?_)
  refine lv_goto (tgt := 10) hx hb dX12_readSaid_27 (by decide) ?_
  refine lv_iload_n hx hb dX12_readSaid_10 rfl (lv_at hl 0 rfl) ?_
  refine lv_bipush (v := 26) hx hb dX12_readSaid_11 (by decide) ?_
  refine lv_icmp_gt (tgt := 30) hx hb dX12_readSaid_13 (by decide) (fun c => absurd c (by decide +kernel)) (fun _ => ?_)
  refine lv_aload_n hx hb dX12_readSaid_16 rfl (lv_at hl 2 rfl) ?_
  refine lv_iload_n hx hb dX12_readSaid_17 rfl (lv_at hl 0 rfl) ?_
  refine k_I (ce := 0) (sl := 0) (rest := []) (wr := []) (r_V (f := 0) [0] M w V_HookedCityModel_183 G1653 G52 (c161_X12_isWord l D T _ a0 a1 a2 a3 a4 a5 a6 a7 a8 a9 a10 a11 a12 a13 a14 a15 a16 a17 a18 a19 a20 a21 a22) 0 clX12 rfl rfl (by decide) rfl hl.1 rfl (Nat.le_of_ble_eq_true rfl) dX12_readSaid_18 (by decide) (by decide) (by decide) (by decide)) w [0] [] rfl rfl (by decide) (by decide) rfl rfl (fun v _ H locs hp w => ?_)
  have hp : (0 : Int32) = v := hp
  subst hp
  have w : WD D A s.heap [(a0, .inr (11, [.int 0, .ref a1, .int 0, .int 0, .int 200, .int 0, .int 0, .int 0, .int 0, .int 0, .int 0, .int 0, .long 0, .int 0, .ref a2, .ref a3, .ref a4, .ref a5, .ref a6, .ref a7, .ref a8, .ref a9, .ref a10, .ref a11, .int 0, .ref a12, .ref a13, .ref a14, .ref a15, .int 0, .int 0, .int 0, .ref a16, .int (-1), .int (-1), .ref a17, .ref a18, .int 0, .ref a19, .int 0, .int 0, .ref a20, .ref a21, .int 0, .int 0, .ref a22, .int 0, .int 0, .int 0, .int 0]))] H locs := w
  refine lv_if_ne (tgt := 30) hx hb dX12_readSaid_21 (by decide) (fun c => absurd (by decide +kernel) c) (fun _ => ?_)
  refine lv_iinc (v := (20 : Int32)) (lv' := [(2, .int 20), (1, .int 0), (0, .ref a0)]) hx hb dX12_readSaid_24 hl (k := 0) rfl (by decide +kernel) (by decide) rfl (fun ls hl => ?_)
  refine lv_goto (tgt := 10) hx hb dX12_readSaid_27 (by decide) ?_
  refine lv_iload_n hx hb dX12_readSaid_10 rfl (lv_at hl 0 rfl) ?_
  refine lv_bipush (v := 26) hx hb dX12_readSaid_11 (by decide) ?_
  refine lv_icmp_gt (tgt := 30) hx hb dX12_readSaid_13 (by decide) (fun c => absurd c (by decide +kernel)) (fun _ => ?_)
  refine lv_aload_n hx hb dX12_readSaid_16 rfl (lv_at hl 2 rfl) ?_
  refine lv_iload_n hx hb dX12_readSaid_17 rfl (lv_at hl 0 rfl) ?_
  refine k_I (ce := 0) (sl := 0) (rest := []) (wr := []) (r_V (f := 0) [0] M w V_HookedCityModel_183 G1653 G52 (c162_X12_isWord l D T _ a0 a1 a2 a3 a4 a5 a6 a7 a8 a9 a10 a11 a12 a13 a14 a15 a16 a17 a18 a19 a20 a21 a22) 0 clX12 rfl rfl (by decide) rfl hl.1 rfl (Nat.le_of_ble_eq_true rfl) dX12_readSaid_18 (by decide) (by decide) (by decide) (by decide)) w [0] [] rfl rfl (by decide) (by decide) rfl rfl (fun v _ H locs hp w => ?_)
  have hp : (0 : Int32) = v := hp
  subst hp
  have w : WD D A s.heap [(a0, .inr (11, [.int 0, .ref a1, .int 0, .int 0, .int 200, .int 0, .int 0, .int 0, .int 0, .int 0, .int 0, .int 0, .long 0, .int 0, .ref a2, .ref a3, .ref a4, .ref a5, .ref a6, .ref a7, .ref a8, .ref a9, .ref a10, .ref a11, .int 0, .ref a12, .ref a13, .ref a14, .ref a15, .int 0, .int 0, .int 0, .ref a16, .int (-1), .int (-1), .ref a17, .ref a18, .int 0, .ref a19, .int 0, .int 0, .ref a20, .ref a21, .int 0, .int 0, .ref a22, .int 0, .int 0, .int 0, .int 0]))] H locs := w
  refine lv_if_ne (tgt := 30) hx hb dX12_readSaid_21 (by decide) (fun c => absurd (by decide +kernel) c) (fun _ => ?_)
  refine lv_iinc (v := (21 : Int32)) (lv' := [(2, .int 21), (1, .int 0), (0, .ref a0)]) hx hb dX12_readSaid_24 hl (k := 0) rfl (by decide +kernel) (by decide) rfl (fun ls hl => ?_)
  refine lv_goto (tgt := 10) hx hb dX12_readSaid_27 (by decide) ?_
  refine lv_iload_n hx hb dX12_readSaid_10 rfl (lv_at hl 0 rfl) ?_
  refine lv_bipush (v := 26) hx hb dX12_readSaid_11 (by decide) ?_
  refine lv_icmp_gt (tgt := 30) hx hb dX12_readSaid_13 (by decide) (fun c => absurd c (by decide +kernel)) (fun _ => ?_)
  refine lv_aload_n hx hb dX12_readSaid_16 rfl (lv_at hl 2 rfl) ?_
  refine lv_iload_n hx hb dX12_readSaid_17 rfl (lv_at hl 0 rfl) ?_
  refine k_I (ce := 0) (sl := 0) (rest := []) (wr := []) (r_V (f := 0) [0] M w V_HookedCityModel_183 G1653 G52 (c163_X12_isWord l D T _ a0 a1 a2 a3 a4 a5 a6 a7 a8 a9 a10 a11 a12 a13 a14 a15 a16 a17 a18 a19 a20 a21 a22) 0 clX12 rfl rfl (by decide) rfl hl.1 rfl (Nat.le_of_ble_eq_true rfl) dX12_readSaid_18 (by decide) (by decide) (by decide) (by decide)) w [0] [] rfl rfl (by decide) (by decide) rfl rfl (fun v _ H locs hp w => ?_)
  have hp : (0 : Int32) = v := hp
  subst hp
  have w : WD D A s.heap [(a0, .inr (11, [.int 0, .ref a1, .int 0, .int 0, .int 200, .int 0, .int 0, .int 0, .int 0, .int 0, .int 0, .int 0, .long 0, .int 0, .ref a2, .ref a3, .ref a4, .ref a5, .ref a6, .ref a7, .ref a8, .ref a9, .ref a10, .ref a11, .int 0, .ref a12, .ref a13, .ref a14, .ref a15, .int 0, .int 0, .int 0, .ref a16, .int (-1), .int (-1), .ref a17, .ref a18, .int 0, .ref a19, .int 0, .int 0, .ref a20, .ref a21, .int 0, .int 0, .ref a22, .int 0, .int 0, .int 0, .int 0]))] H locs := w
  refine lv_if_ne (tgt := 30) hx hb dX12_readSaid_21 (by decide) (fun c => absurd (by decide +kernel) c) (fun _ => ?_)
  refine lv_iinc (v := (22 : Int32)) (lv' := [(2, .int 22), (1, .int 0), (0, .ref a0)]) hx hb dX12_readSaid_24 hl (k := 0) rfl (by decide +kernel) (by decide) rfl (fun ls hl => ?_)
  refine lv_goto (tgt := 10) hx hb dX12_readSaid_27 (by decide) ?_
  refine lv_iload_n hx hb dX12_readSaid_10 rfl (lv_at hl 0 rfl) ?_
  refine lv_bipush (v := 26) hx hb dX12_readSaid_11 (by decide) ?_
  refine lv_icmp_gt (tgt := 30) hx hb dX12_readSaid_13 (by decide) (fun c => absurd c (by decide +kernel)) (fun _ => ?_)
  refine lv_aload_n hx hb dX12_readSaid_16 rfl (lv_at hl 2 rfl) ?_
  refine lv_iload_n hx hb dX12_readSaid_17 rfl (lv_at hl 0 rfl) ?_
  refine k_I (ce := 0) (sl := 0) (rest := []) (wr := []) (r_V (f := 0) [0] M w V_HookedCityModel_183 G1653 G52 (c164_X12_isWord l D T _ a0 a1 a2 a3 a4 a5 a6 a7 a8 a9 a10 a11 a12 a13 a14 a15 a16 a17 a18 a19 a20 a21 a22) 0 clX12 rfl rfl (by decide) rfl hl.1 rfl (Nat.le_of_ble_eq_true rfl) dX12_readSaid_18 (by decide) (by decide) (by decide) (by decide)) w [0] [] rfl rfl (by decide) (by decide) rfl rfl (fun v _ H locs hp w => ?_)
  have hp : (0 : Int32) = v := hp
  subst hp
  have w : WD D A s.heap [(a0, .inr (11, [.int 0, .ref a1, .int 0, .int 0, .int 200, .int 0, .int 0, .int 0, .int 0, .int 0, .int 0, .int 0, .long 0, .int 0, .ref a2, .ref a3, .ref a4, .ref a5, .ref a6, .ref a7, .ref a8, .ref a9, .ref a10, .ref a11, .int 0, .ref a12, .ref a13, .ref a14, .ref a15, .int 0, .int 0, .int 0, .ref a16, .int (-1), .int (-1), .ref a17, .ref a18, .int 0, .ref a19, .int 0, .int 0, .ref a20, .ref a21, .int 0, .int 0, .ref a22, .int 0, .int 0, .int 0, .int 0]))] H locs := w
  refine lv_if_ne (tgt := 30) hx hb dX12_readSaid_21 (by decide) (fun c => absurd (by decide +kernel) c) (fun _ => ?_)
  refine lv_iinc (v := (23 : Int32)) (lv' := [(2, .int 23), (1, .int 0), (0, .ref a0)]) hx hb dX12_readSaid_24 hl (k := 0) rfl (by decide +kernel) (by decide) rfl (fun ls hl => ?_)
  refine lv_goto (tgt := 10) hx hb dX12_readSaid_27 (by decide) ?_
  refine lv_iload_n hx hb dX12_readSaid_10 rfl (lv_at hl 0 rfl) ?_
  refine lv_bipush (v := 26) hx hb dX12_readSaid_11 (by decide) ?_
  refine lv_icmp_gt (tgt := 30) hx hb dX12_readSaid_13 (by decide) (fun c => absurd c (by decide +kernel)) (fun _ => ?_)
  refine lv_aload_n hx hb dX12_readSaid_16 rfl (lv_at hl 2 rfl) ?_
  refine lv_iload_n hx hb dX12_readSaid_17 rfl (lv_at hl 0 rfl) ?_
  refine k_I (ce := 0) (sl := 0) (rest := []) (wr := []) (r_V (f := 0) [0] M w V_HookedCityModel_183 G1653 G52 (c165_X12_isWord l D T _ a0 a1 a2 a3 a4 a5 a6 a7 a8 a9 a10 a11 a12 a13 a14 a15 a16 a17 a18 a19 a20 a21 a22) 0 clX12 rfl rfl (by decide) rfl hl.1 rfl (Nat.le_of_ble_eq_true rfl) dX12_readSaid_18 (by decide) (by decide) (by decide) (by decide)) w [0] [] rfl rfl (by decide) (by decide) rfl rfl (fun v _ H locs hp w => ?_)
  have hp : (0 : Int32) = v := hp
  subst hp
  have w : WD D A s.heap [(a0, .inr (11, [.int 0, .ref a1, .int 0, .int 0, .int 200, .int 0, .int 0, .int 0, .int 0, .int 0, .int 0, .int 0, .long 0, .int 0, .ref a2, .ref a3, .ref a4, .ref a5, .ref a6, .ref a7, .ref a8, .ref a9, .ref a10, .ref a11, .int 0, .ref a12, .ref a13, .ref a14, .ref a15, .int 0, .int 0, .int 0, .ref a16, .int (-1), .int (-1), .ref a17, .ref a18, .int 0, .ref a19, .int 0, .int 0, .ref a20, .ref a21, .int 0, .int 0, .ref a22, .int 0, .int 0, .int 0, .int 0]))] H locs := w
  refine lv_if_ne (tgt := 30) hx hb dX12_readSaid_21 (by decide) (fun c => absurd (by decide +kernel) c) (fun _ => ?_)
  refine lv_iinc (v := (24 : Int32)) (lv' := [(2, .int 24), (1, .int 0), (0, .ref a0)]) hx hb dX12_readSaid_24 hl (k := 0) rfl (by decide +kernel) (by decide) rfl (fun ls hl => ?_)
  refine lv_goto (tgt := 10) hx hb dX12_readSaid_27 (by decide) ?_
  refine lv_iload_n hx hb dX12_readSaid_10 rfl (lv_at hl 0 rfl) ?_
  refine lv_bipush (v := 26) hx hb dX12_readSaid_11 (by decide) ?_
  refine lv_icmp_gt (tgt := 30) hx hb dX12_readSaid_13 (by decide) (fun c => absurd c (by decide +kernel)) (fun _ => ?_)
  refine lv_aload_n hx hb dX12_readSaid_16 rfl (lv_at hl 2 rfl) ?_
  refine lv_iload_n hx hb dX12_readSaid_17 rfl (lv_at hl 0 rfl) ?_
  refine k_I (ce := 0) (sl := 0) (rest := []) (wr := []) (r_V (f := 0) [0] M w V_HookedCityModel_183 G1653 G52 (c166_X12_isWord l D T _ a0 a1 a2 a3 a4 a5 a6 a7 a8 a9 a10 a11 a12 a13 a14 a15 a16 a17 a18 a19 a20 a21 a22) 0 clX12 rfl rfl (by decide) rfl hl.1 rfl (Nat.le_of_ble_eq_true rfl) dX12_readSaid_18 (by decide) (by decide) (by decide) (by decide)) w [0] [] rfl rfl (by decide) (by decide) rfl rfl (fun v _ H locs hp w => ?_)
  have hp : (0 : Int32) = v := hp
  subst hp
  have w : WD D A s.heap [(a0, .inr (11, [.int 0, .ref a1, .int 0, .int 0, .int 200, .int 0, .int 0, .int 0, .int 0, .int 0, .int 0, .int 0, .long 0, .int 0, .ref a2, .ref a3, .ref a4, .ref a5, .ref a6, .ref a7, .ref a8, .ref a9, .ref a10, .ref a11, .int 0, .ref a12, .ref a13, .ref a14, .ref a15, .int 0, .int 0, .int 0, .ref a16, .int (-1), .int (-1), .ref a17, .ref a18, .int 0, .ref a19, .int 0, .int 0, .ref a20, .ref a21, .int 0, .int 0, .ref a22, .int 0, .int 0, .int 0, .int 0]))] H locs := w
  refine lv_if_ne (tgt := 30) hx hb dX12_readSaid_21 (by decide) (fun c => absurd (by decide +kernel) c) (fun _ => ?_)
  refine lv_iinc (v := (25 : Int32)) (lv' := [(2, .int 25), (1, .int 0), (0, .ref a0)]) hx hb dX12_readSaid_24 hl (k := 0) rfl (by decide +kernel) (by decide) rfl (fun ls hl => ?_)
  refine lv_goto (tgt := 10) hx hb dX12_readSaid_27 (by decide) ?_
  refine lv_iload_n hx hb dX12_readSaid_10 rfl (lv_at hl 0 rfl) ?_
  refine lv_bipush (v := 26) hx hb dX12_readSaid_11 (by decide) ?_
  refine lv_icmp_gt (tgt := 30) hx hb dX12_readSaid_13 (by decide) (fun c => absurd c (by decide +kernel)) (fun _ => ?_)
  refine lv_aload_n hx hb dX12_readSaid_16 rfl (lv_at hl 2 rfl) ?_
  refine lv_iload_n hx hb dX12_readSaid_17 rfl (lv_at hl 0 rfl) ?_
  refine k_I (ce := 0) (sl := 0) (rest := []) (wr := []) (r_V (f := 0) [0] M w V_HookedCityModel_183 G1653 G52 (c167_X12_isWord l D T _ a0 a1 a2 a3 a4 a5 a6 a7 a8 a9 a10 a11 a12 a13 a14 a15 a16 a17 a18 a19 a20 a21 a22) 0 clX12 rfl rfl (by decide) rfl hl.1 rfl (Nat.le_of_ble_eq_true rfl) dX12_readSaid_18 (by decide) (by decide) (by decide) (by decide)) w [0] [] rfl rfl (by decide) (by decide) rfl rfl (fun v _ H locs hp w => ?_)
  have hp : (0 : Int32) = v := hp
  subst hp
  have w : WD D A s.heap [(a0, .inr (11, [.int 0, .ref a1, .int 0, .int 0, .int 200, .int 0, .int 0, .int 0, .int 0, .int 0, .int 0, .int 0, .long 0, .int 0, .ref a2, .ref a3, .ref a4, .ref a5, .ref a6, .ref a7, .ref a8, .ref a9, .ref a10, .ref a11, .int 0, .ref a12, .ref a13, .ref a14, .ref a15, .int 0, .int 0, .int 0, .ref a16, .int (-1), .int (-1), .ref a17, .ref a18, .int 0, .ref a19, .int 0, .int 0, .ref a20, .ref a21, .int 0, .int 0, .ref a22, .int 0, .int 0, .int 0, .int 0]))] H locs := w
  refine lv_if_ne (tgt := 30) hx hb dX12_readSaid_21 (by decide) (fun c => absurd (by decide +kernel) c) (fun _ => ?_)
  refine lv_iinc (v := (26 : Int32)) (lv' := [(2, .int 26), (1, .int 0), (0, .ref a0)]) hx hb dX12_readSaid_24 hl (k := 0) rfl (by decide +kernel) (by decide) rfl (fun ls hl => ?_)
  refine lv_goto (tgt := 10) hx hb dX12_readSaid_27 (by decide) ?_
  refine lv_iload_n hx hb dX12_readSaid_10 rfl (lv_at hl 0 rfl) ?_
  refine lv_bipush (v := 26) hx hb dX12_readSaid_11 (by decide) ?_
  refine lv_icmp_gt (tgt := 30) hx hb dX12_readSaid_13 (by decide) (fun c => absurd c (by decide +kernel)) (fun _ => ?_)
  refine lv_aload_n hx hb dX12_readSaid_16 rfl (lv_at hl 2 rfl) ?_
  refine lv_iload_n hx hb dX12_readSaid_17 rfl (lv_at hl 0 rfl) ?_
  refine k_I (ce := 0) (sl := 0) (rest := []) (wr := []) (r_V (f := 0) [0] M w V_HookedCityModel_183 G1653 G52 (c168_X12_isWord l D T _ a0 a1 a2 a3 a4 a5 a6 a7 a8 a9 a10 a11 a12 a13 a14 a15 a16 a17 a18 a19 a20 a21 a22) 0 clX12 rfl rfl (by decide) rfl hl.1 rfl (Nat.le_of_ble_eq_true rfl) dX12_readSaid_18 (by decide) (by decide) (by decide) (by decide)) w [0] [] rfl rfl (by decide) (by decide) rfl rfl (fun v _ H locs hp w => ?_)
  have hp : (0 : Int32) = v := hp
  subst hp
  have w : WD D A s.heap [(a0, .inr (11, [.int 0, .ref a1, .int 0, .int 0, .int 200, .int 0, .int 0, .int 0, .int 0, .int 0, .int 0, .int 0, .long 0, .int 0, .ref a2, .ref a3, .ref a4, .ref a5, .ref a6, .ref a7, .ref a8, .ref a9, .ref a10, .ref a11, .int 0, .ref a12, .ref a13, .ref a14, .ref a15, .int 0, .int 0, .int 0, .ref a16, .int (-1), .int (-1), .ref a17, .ref a18, .int 0, .ref a19, .int 0, .int 0, .ref a20, .ref a21, .int 0, .int 0, .ref a22, .int 0, .int 0, .int 0, .int 0]))] H locs := w
  refine lv_if_ne (tgt := 30) hx hb dX12_readSaid_21 (by decide) (fun c => absurd (by decide +kernel) c) (fun _ => ?_)
  refine lv_iinc (v := (27 : Int32)) (lv' := [(2, .int 27), (1, .int 0), (0, .ref a0)]) hx hb dX12_readSaid_24 hl (k := 0) rfl (by decide +kernel) (by decide) rfl (fun ls hl => ?_)
  refine lv_goto (tgt := 10) hx hb dX12_readSaid_27 (by decide) ?_
  refine lv_iload_n hx hb dX12_readSaid_10 rfl (lv_at hl 0 rfl) ?_
  refine lv_bipush (v := 26) hx hb dX12_readSaid_11 (by decide) ?_
  refine lv_icmp_gt (tgt := 30) hx hb dX12_readSaid_13 (by decide) (fun _ => ?_) (fun c => absurd (by decide +kernel) c)
  refine lv_iload_n hx hb dX12_readSaid_30 rfl (lv_at hl 1 rfl) ?_
  refine lv_if_ne (tgt := 46) hx hb dX12_readSaid_31 (by decide) (fun c => absurd (by decide +kernel) c) (fun _ => ?_)
  refine lv_iload_n hx hb dX12_readSaid_34 rfl (lv_at hl 0 rfl) ?_
  refine lv_bipush (v := 26) hx hb dX12_readSaid_35 (by decide) ?_
  refine lv_icmp_le (tgt := 46) hx hb dX12_readSaid_37 (by decide) (fun c => absurd c (by decide +kernel)) (fun _ => ?_)
  refine lv_aload_n hx hb dX12_readSaid_40 rfl (lv_at hl 2 rfl) ?_
  refine lv_iconst (v := 1) hx hb dX12_readSaid_41 (by decide) ?_
  refine k_I (ce := 0) (sl := 0) (rest := []) (wr := []) (r_V (f := 0) [0] M w V_HookedCityModel_72 G1671 G55 (c169_X12_bad l D T _ a0 a1 a2 a3 a4 a5 a6 a7 a8 a9 a10 a11 a12 a13 a14 a15 a16 a17 a18 a19 a20 a21 a22) 0 clX12 rfl rfl (by decide) rfl hl.1 rfl (Nat.le_of_ble_eq_true rfl) dX12_readSaid_42 (by decide) (by decide) (by decide) (by decide)) w [0] [] rfl rfl (by decide) (by decide) rfl rfl (fun v _ H locs hp w => ?_)
  have hp : (0 : Int32) = v := hp
  subst hp
  have w : WD D A s.heap [(a0, .inr (11, [.int 0, .ref a1, .int 0, .int 0, .int 200, .int 0, .int 0, .int 0, .int 0, .int 0, .int 1, .int 0, .long 0, .int 0, .ref a2, .ref a3, .ref a4, .ref a5, .ref a6, .ref a7, .ref a8, .ref a9, .ref a10, .ref a11, .int 0, .ref a12, .ref a13, .ref a14, .ref a15, .int 0, .int 0, .int 0, .ref a16, .int (-1), .int (-1), .ref a17, .ref a18, .int 0, .ref a19, .int 0, .int 0, .ref a20, .ref a21, .int 0, .int 0, .ref a22, .int 0, .int 0, .int 0, .int 0]))] H locs := w
  exact ret _ () _ _ _ _ _ [0] dX12_readSaid_45 (by decide +kernel) rfl w (by decide) rfl
set_option maxRecDepth 100000 in
set_option maxHeartbeats 4000000 in
theorem c171_X12_readAnd (l : Launch) (D : va_G) (T : Nat → ClassId) (sz : Nat) (a0 a1 a2 a3 a4 a5 a6 a7 a8 a9 a10 a11 a12 a13 a14 a15 a16 a17 a18 a19 a20 a21 a22 : Nat) : Met l yX12_readAnd (Cond.code yX12_readAnd cX12_readAnd 2 (some .boolean) :: GW) (Rm 2 0 0) (cPre [.ref a0] D T [(a0, .inr (11, [.int 0, .ref a1, .int 0, .int 0, .int 200, .int 0, .int 0, .int 0, .int 0, .int 0, .int 0, .int 0, .long 0, .int 0, .ref a2, .ref a3, .ref a4, .ref a5, .ref a6, .ref a7, .ref a8, .ref a9, .ref a10, .ref a11, .int 0, .ref a12, .ref a13, .ref a14, .ref a15, .int 0, .int 0, .int 0, .ref a16, .int (-1), .int (-1), .ref a17, .ref a18, .int 0, .ref a19, .int 0, .int 0, .ref a20, .ref a21, .int 0, .int 0, .ref a22, .int 0, .int 0, .int 0, .int 0]))] sz) (qI D [(a0, .inr (11, [.int 0, .ref a1, .int 0, .int 0, .int 200, .int 0, .int 0, .int 0, .int 0, .int 0, .int 0, .int 0, .long 0, .int 0, .ref a2, .ref a3, .ref a4, .ref a5, .ref a6, .ref a7, .ref a8, .ref a9, .ref a10, .ref a11, .int 0, .ref a12, .ref a13, .ref a14, .ref a15, .int 0, .int 0, .int 0, .ref a16, .int (-1), .int (-1), .ref a17, .ref a18, .int 0, .ref a19, .int 0, .int 0, .ref a20, .ref a21, .int 0, .int 0, .ref a22, .int 0, .int 0, .int 0, .int 0]))] sz (fun (v : Int32) (u : Unit) => (0 : Int32) = v) (fun u => [(a0, .inr (11, [.int 0, .ref a1, .int 0, .int 0, .int 200, .int 0, .int 0, .int 0, .int 0, .int 0, .int 1, .int 0, .long 0, .int 0, .ref a2, .ref a3, .ref a4, .ref a5, .ref a6, .ref a7, .ref a8, .ref a9, .ref a10, .ref a11, .int 0, .ref a12, .ref a13, .ref a14, .ref a15, .int 0, .int 0, .int 0, .ref a16, .int (-1), .int (-1), .ref a17, .ref a18, .int 0, .ref a19, .int 0, .int 0, .ref a20, .ref a21, .int 0, .int 0, .ref a22, .int 0, .int 0, .int 0, .int 0]))])) 0 0 (va_A [(a0, .inr (11, [.int 0, .ref a1, .int 0, .int 0, .int 200, .int 0, .int 0, .int 0, .int 0, .int 0, .int 0, .int 0, .long 0, .int 0, .ref a2, .ref a3, .ref a4, .ref a5, .ref a6, .ref a7, .ref a8, .ref a9, .ref a10, .ref a11, .int 0, .ref a12, .ref a13, .ref a14, .ref a15, .int 0, .int 0, .int 0, .ref a16, .int (-1), .int (-1), .ref a17, .ref a18, .int 0, .ref a19, .int 0, .int 0, .ref a20, .ref a21, .int 0, .int 0, .ref a22, .int 0, .int 0, .int 0, .int 0]))] sz) := by
  refine e_Z (by decide) (Nat.le_of_ble_eq_true rfl) ?_
  intro p e s m args below meth c A Q ls M hin w ret hl
  have hx := M.1.1
  have hb := M.1.2.1
  have hl : lv_has ls 2 [(0, .ref a0)] := hl
  refine lv_aload_n hx hb dX12_readAnd_0 rfl (lv_at hl 0 rfl) ?_
  refine k_I (ce := 0) (sl := 0) (rest := []) (wr := []) (r_V (f := 1) [0] M w V_HookedCityModel_407 G2029 G111 (c170_X12_readSaid l D T _ a0 a1 a2 a3 a4 a5 a6 a7 a8 a9 a10 a11 a12 a13 a14 a15 a16 a17 a18 a19 a20 a21 a22) 0 clX12 rfl rfl (by decide) rfl hl.1 rfl (Nat.le_of_ble_eq_true rfl) dX12_readAnd_1 (by decide) (by decide) (by decide) (by decide)) w [0] [] rfl rfl (by decide) (by decide) rfl rfl (fun v _ H locs hp w => ?_)
  have hp : (0 : Int32) = v := hp
  subst hp
  have w : WD D A s.heap [(a0, .inr (11, [.int 0, .ref a1, .int 0, .int 0, .int 200, .int 0, .int 0, .int 0, .int 0, .int 0, .int 1, .int 0, .long 0, .int 0, .ref a2, .ref a3, .ref a4, .ref a5, .ref a6, .ref a7, .ref a8, .ref a9, .ref a10, .ref a11, .int 0, .ref a12, .ref a13, .ref a14, .ref a15, .int 0, .int 0, .int 0, .ref a16, .int (-1), .int (-1), .ref a17, .ref a18, .int 0, .ref a19, .int 0, .int 0, .ref a20, .ref a21, .int 0, .int 0, .ref a22, .int 0, .int 0, .int 0, .int 0]))] H locs := w
  refine lv_if_ne (tgt := 9) hx hb dX12_readAnd_4 (by decide) (fun c => absurd (by decide +kernel) c) (fun _ => ?_)
  refine lv_iconst (v := 0) hx hb dX12_readAnd_7 (by decide) ?_
  exact ret _ () _ _ _ _ _ [0] dX12_readAnd_8 (by decide +kernel) rfl w (by decide) rfl
set_option maxRecDepth 100000 in
set_option maxHeartbeats 4000000 in
theorem c172_X12_readOr (l : Launch) (D : va_G) (T : Nat → ClassId) (sz : Nat) (a0 a1 a2 a3 a4 a5 a6 a7 a8 a9 a10 a11 a12 a13 a14 a15 a16 a17 a18 a19 a20 a21 a22 : Nat) : Met l yX12_readOr (Cond.code yX12_readOr cX12_readOr 2 (some .boolean) :: GW) (Rm 3 0 0) (cPre [.ref a0] D T [(a0, .inr (11, [.int 0, .ref a1, .int 0, .int 0, .int 200, .int 0, .int 0, .int 0, .int 0, .int 0, .int 0, .int 0, .long 0, .int 0, .ref a2, .ref a3, .ref a4, .ref a5, .ref a6, .ref a7, .ref a8, .ref a9, .ref a10, .ref a11, .int 0, .ref a12, .ref a13, .ref a14, .ref a15, .int 0, .int 0, .int 0, .ref a16, .int (-1), .int (-1), .ref a17, .ref a18, .int 0, .ref a19, .int 0, .int 0, .ref a20, .ref a21, .int 0, .int 0, .ref a22, .int 0, .int 0, .int 0, .int 0]))] sz) (qI D [(a0, .inr (11, [.int 0, .ref a1, .int 0, .int 0, .int 200, .int 0, .int 0, .int 0, .int 0, .int 0, .int 0, .int 0, .long 0, .int 0, .ref a2, .ref a3, .ref a4, .ref a5, .ref a6, .ref a7, .ref a8, .ref a9, .ref a10, .ref a11, .int 0, .ref a12, .ref a13, .ref a14, .ref a15, .int 0, .int 0, .int 0, .ref a16, .int (-1), .int (-1), .ref a17, .ref a18, .int 0, .ref a19, .int 0, .int 0, .ref a20, .ref a21, .int 0, .int 0, .ref a22, .int 0, .int 0, .int 0, .int 0]))] sz (fun (v : Int32) (u : Unit) => (0 : Int32) = v) (fun u => [(a0, .inr (11, [.int 0, .ref a1, .int 0, .int 0, .int 200, .int 0, .int 0, .int 0, .int 0, .int 0, .int 1, .int 0, .long 0, .int 0, .ref a2, .ref a3, .ref a4, .ref a5, .ref a6, .ref a7, .ref a8, .ref a9, .ref a10, .ref a11, .int 0, .ref a12, .ref a13, .ref a14, .ref a15, .int 0, .int 0, .int 0, .ref a16, .int (-1), .int (-1), .ref a17, .ref a18, .int 0, .ref a19, .int 0, .int 0, .ref a20, .ref a21, .int 0, .int 0, .ref a22, .int 0, .int 0, .int 0, .int 0]))])) 0 0 (va_A [(a0, .inr (11, [.int 0, .ref a1, .int 0, .int 0, .int 200, .int 0, .int 0, .int 0, .int 0, .int 0, .int 0, .int 0, .long 0, .int 0, .ref a2, .ref a3, .ref a4, .ref a5, .ref a6, .ref a7, .ref a8, .ref a9, .ref a10, .ref a11, .int 0, .ref a12, .ref a13, .ref a14, .ref a15, .int 0, .int 0, .int 0, .ref a16, .int (-1), .int (-1), .ref a17, .ref a18, .int 0, .ref a19, .int 0, .int 0, .ref a20, .ref a21, .int 0, .int 0, .ref a22, .int 0, .int 0, .int 0, .int 0]))] sz) := by
  refine e_Z (by decide) (Nat.le_of_ble_eq_true rfl) ?_
  intro p e s m args below meth c A Q ls M hin w ret hl
  have hx := M.1.1
  have hb := M.1.2.1
  have hl : lv_has ls 2 [(0, .ref a0)] := hl
  refine lv_aload_n hx hb dX12_readOr_0 rfl (lv_at hl 0 rfl) ?_
  refine k_I (ce := 0) (sl := 0) (rest := []) (wr := []) (r_V (f := 2) [0] M w V_HookedCityModel_398 G2025 G110 (c171_X12_readAnd l D T _ a0 a1 a2 a3 a4 a5 a6 a7 a8 a9 a10 a11 a12 a13 a14 a15 a16 a17 a18 a19 a20 a21 a22) 0 clX12 rfl rfl (by decide) rfl hl.1 rfl (Nat.le_of_ble_eq_true rfl) dX12_readOr_1 (by decide) (by decide) (by decide) (by decide)) w [0] [] rfl rfl (by decide) (by decide) rfl rfl (fun v _ H locs hp w => ?_)
  have hp : (0 : Int32) = v := hp
  subst hp
  have w : WD D A s.heap [(a0, .inr (11, [.int 0, .ref a1, .int 0, .int 0, .int 200, .int 0, .int 0, .int 0, .int 0, .int 0, .int 1, .int 0, .long 0, .int 0, .ref a2, .ref a3, .ref a4, .ref a5, .ref a6, .ref a7, .ref a8, .ref a9, .ref a10, .ref a11, .int 0, .ref a12, .ref a13, .ref a14, .ref a15, .int 0, .int 0, .int 0, .ref a16, .int (-1), .int (-1), .ref a17, .ref a18, .int 0, .ref a19, .int 0, .int 0, .ref a20, .ref a21, .int 0, .int 0, .ref a22, .int 0, .int 0, .int 0, .int 0]))] H locs := w
  refine lv_if_ne (tgt := 9) hx hb dX12_readOr_4 (by decide) (fun c => absurd (by decide +kernel) c) (fun _ => ?_)
  refine lv_iconst (v := 0) hx hb dX12_readOr_7 (by decide) ?_
  exact ret _ () _ _ _ _ _ [0] dX12_readOr_8 (by decide +kernel) rfl w (by decide) rfl
set_option maxRecDepth 100000 in
set_option maxHeartbeats 4000000 in
theorem c173_X12_sentence (l : Launch) (D : va_G) (T : Nat → ClassId) (sz : Nat) (a0 a1 a2 a3 a4 a5 a6 a7 a8 a9 a10 a11 a12 a13 a14 a15 a16 a17 a18 a19 a20 a21 a22 : Nat) : Met l yX12_sentence (Cond.code yX12_sentence cX12_sentence 2 (some .int) :: GW) (Rm 4 0 0) (cPre [.ref a0] D T [(a0, .inr (11, [.int 0, .ref a1, .int 0, .int 0, .int 0, .int 0, .int 0, .int 0, .int 0, .int 0, .int 0, .int 0, .long 0, .int 0, .ref a2, .ref a3, .ref a4, .ref a5, .ref a6, .ref a7, .ref a8, .ref a9, .ref a10, .ref a11, .int 0, .ref a12, .ref a13, .ref a14, .ref a15, .int 0, .int 0, .int 0, .ref a16, .int (-1), .int (-1), .ref a17, .ref a18, .int 0, .ref a19, .int 0, .int 0, .ref a20, .ref a21, .int 0, .int 0, .ref a22, .int 0, .int 0, .int 0, .int 0]))] sz) (qI D [(a0, .inr (11, [.int 0, .ref a1, .int 0, .int 0, .int 0, .int 0, .int 0, .int 0, .int 0, .int 0, .int 0, .int 0, .long 0, .int 0, .ref a2, .ref a3, .ref a4, .ref a5, .ref a6, .ref a7, .ref a8, .ref a9, .ref a10, .ref a11, .int 0, .ref a12, .ref a13, .ref a14, .ref a15, .int 0, .int 0, .int 0, .ref a16, .int (-1), .int (-1), .ref a17, .ref a18, .int 0, .ref a19, .int 0, .int 0, .ref a20, .ref a21, .int 0, .int 0, .ref a22, .int 0, .int 0, .int 0, .int 0]))] sz (fun (v : Int32) (u : Unit) => (-1 : Int32) = v) (fun u => [])) 0 0 (va_A [(a0, .inr (11, [.int 0, .ref a1, .int 0, .int 0, .int 0, .int 0, .int 0, .int 0, .int 0, .int 0, .int 0, .int 0, .long 0, .int 0, .ref a2, .ref a3, .ref a4, .ref a5, .ref a6, .ref a7, .ref a8, .ref a9, .ref a10, .ref a11, .int 0, .ref a12, .ref a13, .ref a14, .ref a15, .int 0, .int 0, .int 0, .ref a16, .int (-1), .int (-1), .ref a17, .ref a18, .int 0, .ref a19, .int 0, .int 0, .ref a20, .ref a21, .int 0, .int 0, .ref a22, .int 0, .int 0, .int 0, .int 0]))] sz) := by
  refine e_I (by decide) (Nat.le_of_ble_eq_true rfl) ?_
  intro p e s m args below meth c A Q ls M hin w ret hl
  have hx := M.1.1
  have hb := M.1.2.1
  have hl : lv_has ls 2 [(0, .ref a0)] := hl
  refine lv_aload_n hx hb dX12_sentence_0 rfl (lv_at hl 0 rfl) ?_
  refine lv_sipush (v := 200) hx hb dX12_sentence_1 (by decide) ?_
  refine k_V (ce := 0) (sl := 0) (rest := []) (wr := []) (r_V (f := 1) [0] M w V_HookedCityModel_224 G1625 G47 (c157_X12_begin l D T _ a0 a1 a2 a3 a4 a5 a6 a7 a8 a9 a10 a11 a12 a13 a14 a15 a16 a17 a18 a19 a20 a21 a22) 0 clX12 rfl rfl (by decide) rfl hl.1 rfl (Nat.le_of_ble_eq_true rfl) dX12_sentence_4 (by decide) (by decide) (by decide) (by decide)) w [0] [] rfl rfl (by decide) (by decide) rfl rfl (fun _ H locs hp w => ?_)
  have w : WD D A s.heap [(a0, .inr (11, [.int 0, .ref a1, .int 0, .int 0, .int 200, .int 0, .int 0, .int 0, .int 0, .int 0, .int 0, .int 0, .long 0, .int 0, .ref a2, .ref a3, .ref a4, .ref a5, .ref a6, .ref a7, .ref a8, .ref a9, .ref a10, .ref a11, .int 0, .ref a12, .ref a13, .ref a14, .ref a15, .int 0, .int 0, .int 0, .ref a16, .int (-1), .int (-1), .ref a17, .ref a18, .int 0, .ref a19, .int 0, .int 0, .ref a20, .ref a21, .int 0, .int 0, .ref a22, .int 0, .int 0, .int 0, .int 0]))] H locs := w
  refine lv_aload_n hx hb dX12_sentence_7 rfl (lv_at hl 0 rfl) ?_
  refine lv_iconst (v := 0) hx hb dX12_sentence_8 (by decide) ?_
  refine r_put (ws' := [(a0, .inr (11, [.int 0, .ref a1, .int 0, .int 0, .int 200, .int 0, .int 0, .int 0, .int 0, .int 0, .int 0, .int 0, .long 0, .int 0, .ref a2, .ref a3, .ref a4, .ref a5, .ref a6, .ref a7, .ref a8, .ref a9, .ref a10, .ref a11, .int 0, .ref a12, .ref a13, .ref a14, .ref a15, .int 0, .int 0, .int 0, .ref a16, .int (-1), .int (-1), .ref a17, .ref a18, .int 0, .ref a19, .int 0, .int 0, .ref a20, .ref a21, .int 0, .int 0, .ref a22, .int 0, .int 0, .int 0, .int 0]))]) M w 0 46 clX12 rfl (by decide) G1513 rfl rfl rfl rfl (Nat.le_of_ble_eq_true rfl) rfl dX12_sentence_9 (fun H locs w => ?_)
  refine lv_aload_n hx hb dX12_sentence_12 rfl (lv_at hl 0 rfl) ?_
  refine lv_iconst (v := 0) hx hb dX12_sentence_13 (by decide) ?_
  refine r_put (ws' := [(a0, .inr (11, [.int 0, .ref a1, .int 0, .int 0, .int 200, .int 0, .int 0, .int 0, .int 0, .int 0, .int 0, .int 0, .long 0, .int 0, .ref a2, .ref a3, .ref a4, .ref a5, .ref a6, .ref a7, .ref a8, .ref a9, .ref a10, .ref a11, .int 0, .ref a12, .ref a13, .ref a14, .ref a15, .int 0, .int 0, .int 0, .ref a16, .int (-1), .int (-1), .ref a17, .ref a18, .int 0, .ref a19, .int 0, .int 0, .ref a20, .ref a21, .int 0, .int 0, .ref a22, .int 0, .int 0, .int 0, .int 0]))]) M w 0 47 clX12 rfl (by decide) G1514 rfl rfl rfl rfl (Nat.le_of_ble_eq_true rfl) rfl dX12_sentence_14 (fun H locs w => ?_)
  refine lv_aload_n hx hb dX12_sentence_17 rfl (lv_at hl 0 rfl) ?_
  refine lv_iconst (v := 0) hx hb dX12_sentence_18 (by decide) ?_
  refine r_put (ws' := [(a0, .inr (11, [.int 0, .ref a1, .int 0, .int 0, .int 200, .int 0, .int 0, .int 0, .int 0, .int 0, .int 0, .int 0, .long 0, .int 0, .ref a2, .ref a3, .ref a4, .ref a5, .ref a6, .ref a7, .ref a8, .ref a9, .ref a10, .ref a11, .int 0, .ref a12, .ref a13, .ref a14, .ref a15, .int 0, .int 0, .int 0, .ref a16, .int (-1), .int (-1), .ref a17, .ref a18, .int 0, .ref a19, .int 0, .int 0, .ref a20, .ref a21, .int 0, .int 0, .ref a22, .int 0, .int 0, .int 0, .int 0]))]) M w 0 48 clX12 rfl (by decide) G1515 rfl rfl rfl rfl (Nat.le_of_ble_eq_true rfl) rfl dX12_sentence_19 (fun H locs w => ?_)
  refine lv_aload_n hx hb dX12_sentence_22 rfl (lv_at hl 0 rfl) ?_
  refine k_I (ce := 0) (sl := 0) (rest := []) (wr := []) (r_V (f := 3) [0] M w V_HookedCityModel_428 G2021 G109 (c172_X12_readOr l D T _ a0 a1 a2 a3 a4 a5 a6 a7 a8 a9 a10 a11 a12 a13 a14 a15 a16 a17 a18 a19 a20 a21 a22) 0 clX12 rfl rfl (by decide) rfl hl.1 rfl (Nat.le_of_ble_eq_true rfl) dX12_sentence_23 (by decide) (by decide) (by decide) (by decide)) w [0] [] rfl rfl (by decide) (by decide) rfl rfl (fun v _ H locs hp w => ?_)
  have hp : (0 : Int32) = v := hp
  subst hp
  have w : WD D A s.heap [(a0, .inr (11, [.int 0, .ref a1, .int 0, .int 0, .int 200, .int 0, .int 0, .int 0, .int 0, .int 0, .int 1, .int 0, .long 0, .int 0, .ref a2, .ref a3, .ref a4, .ref a5, .ref a6, .ref a7, .ref a8, .ref a9, .ref a10, .ref a11, .int 0, .ref a12, .ref a13, .ref a14, .ref a15, .int 0, .int 0, .int 0, .ref a16, .int (-1), .int (-1), .ref a17, .ref a18, .int 0, .ref a19, .int 0, .int 0, .ref a20, .ref a21, .int 0, .int 0, .ref a22, .int 0, .int 0, .int 0, .int 0]))] H locs := w
  refine lv_if_ne (tgt := 36) hx hb dX12_sentence_26 (by decide) (fun c => absurd (by decide +kernel) c) (fun _ => ?_)
  refine lv_iconst (v := (-1)) hx hb dX12_sentence_29 (by decide) ?_
  refine lv_aload_n hx hb dX12_sentence_30 rfl (lv_at hl 0 rfl) ?_
  refine r_get (v := .int 0) M w 0 11 clX12 rfl (by decide) G1478 rfl rfl dX12_sentence_31 ?_
  refine r_isub (v := (-1 : Int32)) M (by decide +kernel) dX12_sentence_34 ?_
  exact ret _ () _ _ _ _ _ [] dX12_sentence_35 rfl w (by decide) rfl
set_option maxRecDepth 100000 in
set_option maxHeartbeats 4000000 in
theorem c174_X5_isEmpty (l : Launch) (D : va_G) (T : Nat → ClassId) (sz : Nat) (a0 a1 a2 a3 a4 : Nat) : Met l yX5_isEmpty (Cond.code yX5_isEmpty cX5_isEmpty 1 (some .boolean) :: GW) (Rm 0 0 0) (cPre [.ref a0] D T [(a0, .inr (5, [.ref a1, .ref a2, .ref a3, .ref a4, .int 0, .int 0]))] sz) (qI D [(a0, .inr (5, [.ref a1, .ref a2, .ref a3, .ref a4, .int 0, .int 0]))] sz (fun (v : Int32) (u : Unit) => (1 : Int32) = v) (fun u => [(a0, .inr (5, [.ref a1, .ref a2, .ref a3, .ref a4, .int 0, .int 0]))])) 0 0 (va_A [(a0, .inr (5, [.ref a1, .ref a2, .ref a3, .ref a4, .int 0, .int 0]))] sz) := by
  refine e_Z (by decide) (Nat.le_of_ble_eq_true rfl) ?_
  intro p e s m args below meth c A Q ls M hin w ret hl
  have hx := M.1.1
  have hb := M.1.2.1
  have hl : lv_has ls 1 [(0, .ref a0)] := hl
  refine lv_aload_n hx hb dX5_isEmpty_0 rfl (lv_at hl 0 rfl) ?_
  refine r_get (v := .int 0) M w 0 4 clX5 rfl (by decide) G456 rfl rfl dX5_isEmpty_1 ?_
  refine lv_if_ne (tgt := 11) hx hb dX5_isEmpty_4 (by decide) (fun c => absurd (by decide +kernel) c) (fun _ => ?_)
  refine lv_iconst (v := 1) hx hb dX5_isEmpty_7 (by decide) ?_
  refine lv_goto (tgt := 12) hx hb dX5_isEmpty_8 (by decide) ?_
  exact ret _ () _ _ _ _ _ [0] dX5_isEmpty_12 (by decide +kernel) rfl w (by decide) rfl
set_option maxRecDepth 100000 in
set_option maxHeartbeats 4000000 in
theorem c175_X11_said (l : Launch) (D : va_G) (T : Nat → ClassId) (sz : Nat) (a0 a1 a2 a3 a4 a5 a6 a7 a8 a9 a10 a11 a12 a13 a14 a15 a16 a17 a18 : Nat) (x0 : Int32) : Met l yX11_said (Cond.code yX11_said cX11_said 3 (some .int) :: GW) (Rm 1 0 0) (cPre [.ref a0, .int x0] D T [(a0, .inr (10, [.ref a1, .ref a2, .ref a3, .ref a4, .ref a5, .ref a6, .ref a7, .ref a8, .ref a9, .ref a10, .ref a11, .ref a12, .ref a13, .ref a14, .int 0, .int 0, .int 0])), (a13, .inr (5, [.ref a15, .ref a16, .ref a17, .ref a18, .int 0, .int 0]))] sz) (qI D [(a0, .inr (10, [.ref a1, .ref a2, .ref a3, .ref a4, .ref a5, .ref a6, .ref a7, .ref a8, .ref a9, .ref a10, .ref a11, .ref a12, .ref a13, .ref a14, .int 0, .int 0, .int 0])), (a13, .inr (5, [.ref a15, .ref a16, .ref a17, .ref a18, .int 0, .int 0]))] sz (fun (v : Int32) (u : Unit) => (-1 : Int32) = v) (fun u => [])) 0 0 (va_A [(a0, .inr (10, [.ref a1, .ref a2, .ref a3, .ref a4, .ref a5, .ref a6, .ref a7, .ref a8, .ref a9, .ref a10, .ref a11, .ref a12, .ref a13, .ref a14, .int 0, .int 0, .int 0])), (a13, .inr (5, [.ref a15, .ref a16, .ref a17, .ref a18, .int 0, .int 0]))] sz) := by
  refine e_I (by decide) (Nat.le_of_ble_eq_true rfl) ?_
  intro p e s m args below meth c A Q ls M hin w ret hl
  have hx := M.1.1
  have hb := M.1.2.1
  have hl : lv_has ls 3 [(0, .ref a0), (1, .int x0)] := hl
  refine lv_aload_n hx hb dX11_said_0 rfl (lv_at hl 0 rfl) ?_
  refine r_get (v := .ref a13) M w 0 12 clX11 rfl (by decide) G509 rfl rfl dX11_said_1 ?_
  refine k_I (ce := 0) (sl := 0) (rest := []) (wr := [(a0, .inr (10, [.ref a1, .ref a2, .ref a3, .ref a4, .ref a5, .ref a6, .ref a7, .ref a8, .ref a9, .ref a10, .ref a11, .ref a12, .ref a13, .ref a14, .int 0, .int 0, .int 0]))]) (r_V (f := 0) [1] M w V_HookedCity_314 G1302 G1303 (c174_X5_isEmpty l D T _ a13 a15 a16 a17 a18) 1 clX5 rfl rfl (by decide) rfl hl.1 rfl (Nat.le_of_ble_eq_true rfl) dX11_said_4 (by decide) (by decide) (by decide) (by decide)) w [1] [0] rfl rfl (by decide) (by decide) rfl rfl (fun v _ H locs hp w => ?_)
  have hp : (1 : Int32) = v := hp
  subst hp
  have w : WD D A s.heap [(a0, .inr (10, [.ref a1, .ref a2, .ref a3, .ref a4, .ref a5, .ref a6, .ref a7, .ref a8, .ref a9, .ref a10, .ref a11, .ref a12, .ref a13, .ref a14, .int 0, .int 0, .int 0])), (a13, .inr (5, [.ref a15, .ref a16, .ref a17, .ref a18, .int 0, .int 0]))] H locs := w
  refine lv_if_ne (tgt := 15) hx hb dX11_said_7 (by decide) (fun _ => ?_) (fun c => absurd c (by decide +kernel))
  refine lv_iconst (v := (-1)) hx hb dX11_said_15 (by decide) ?_
  exact ret _ () _ _ _ _ _ [] dX11_said_16 rfl w (by decide) rfl
set_option maxRecDepth 100000 in
set_option maxHeartbeats 4000000 in
theorem c176_X12_said (l : Launch) (D : va_G) (T : Nat → ClassId) (sz : Nat) (a0 a1 a2 a3 a4 a5 a6 a7 a8 a9 a10 a11 a12 a13 a14 a15 a16 a17 a18 a19 a20 a21 a22 : Nat) (x0 : Int32) : Met l yX12_said (Cond.code yX12_said cX12_said 4 (some .int) :: GW) (Rm 0 0 0) (cPre [.ref a0, .int x0] D T [(a0, .inr (11, [.int 0, .ref a1, .int 0, .int 0, .int 0, .int 0, .int 0, .int 0, .int 0, .int 0, .int 0, .int 0, .long 0, .int 0, .ref a2, .ref a3, .ref a4, .ref a5, .ref a6, .ref a7, .ref a8, .ref a9, .ref a10, .ref a11, .int 0, .ref a12, .ref a13, .ref a14, .ref a15, .int 0, .int 0, .int 0, .ref a16, .int (-1), .int (-1), .ref a17, .ref a18, .int 0, .ref a19, .int 0, .int 0, .ref a20, .ref a21, .int 0, .int 0, .ref a22, .int 0, .int 0, .int 0, .int 0])), (a2, .inl (T 0, 329, .inl cn45))] sz) (qI D [(a0, .inr (11, [.int 0, .ref a1, .int 0, .int 0, .int 0, .int 0, .int 0, .int 0, .int 0, .int 0, .int 0, .int 0, .long 0, .int 0, .ref a2, .ref a3, .ref a4, .ref a5, .ref a6, .ref a7, .ref a8, .ref a9, .ref a10, .ref a11, .int 0, .ref a12, .ref a13, .ref a14, .ref a15, .int 0, .int 0, .int 0, .ref a16, .int (-1), .int (-1), .ref a17, .ref a18, .int 0, .ref a19, .int 0, .int 0, .ref a20, .ref a21, .int 0, .int 0, .ref a22, .int 0, .int 0, .int 0, .int 0])), (a2, .inl (T 0, 329, .inl cn45))] sz (fun (v : Int32) (u : Unit) => (-1 : Int32) = v) (fun u => [])) 0 0 (va_A [(a0, .inr (11, [.int 0, .ref a1, .int 0, .int 0, .int 0, .int 0, .int 0, .int 0, .int 0, .int 0, .int 0, .int 0, .long 0, .int 0, .ref a2, .ref a3, .ref a4, .ref a5, .ref a6, .ref a7, .ref a8, .ref a9, .ref a10, .ref a11, .int 0, .ref a12, .ref a13, .ref a14, .ref a15, .int 0, .int 0, .int 0, .ref a16, .int (-1), .int (-1), .ref a17, .ref a18, .int 0, .ref a19, .int 0, .int 0, .ref a20, .ref a21, .int 0, .int 0, .ref a22, .int 0, .int 0, .int 0, .int 0])), (a2, .inl (T 0, 329, .inl cn45))] sz) := by
  refine e_I (by decide) (Nat.le_of_ble_eq_true rfl) ?_
  intro p e s m args below meth c A Q ls M hin w ret hl
  have hx := M.1.1
  have hb := M.1.2.1
  have hl : lv_has ls 4 [(0, .ref a0), (1, .int x0)] := hl
  refine lv_aload_n hx hb dX12_said_0 rfl (lv_at hl 0 rfl) ?_
  refine lv_iconst (v := 0) hx hb dX12_said_1 (by decide) ?_
  refine r_put (ws' := [(a0, .inr (11, [.int 0, .ref a1, .int 0, .int 0, .int 0, .int 0, .int 0, .int 0, .int 0, .int 0, .int 0, .int 0, .long 0, .int 0, .ref a2, .ref a3, .ref a4, .ref a5, .ref a6, .ref a7, .ref a8, .ref a9, .ref a10, .ref a11, .int 0, .ref a12, .ref a13, .ref a14, .ref a15, .int 0, .int 0, .int 0, .ref a16, .int (-1), .int (-1), .ref a17, .ref a18, .int 0, .ref a19, .int 0, .int 0, .ref a20, .ref a21, .int 0, .int 0, .ref a22, .int 0, .int 0, .int 0, .int 0])), (a2, .inl (T 0, 329, .inl cn45))]) M w 0 0 clX12 rfl (by decide) G1467 rfl rfl rfl rfl (Nat.le_of_ble_eq_true rfl) rfl dX12_said_2 (fun H locs w => ?_)
  refine lv_aload_n hx hb dX12_said_5 rfl (lv_at hl 0 rfl) ?_
  refine r_get (v := .ref a2) M w 0 14 clX12 rfl (by decide) G1481 rfl rfl dX12_said_6 ?_
  refine lv_bipush (v := 87) hx hb dX12_said_9 (by decide) ?_
  refine r_iald (v := (0 : Int32)) M w 1 rfl (vin (by decide +kernel)) (by decide +kernel) dX12_said_11 ?_
  refine lv_if_ne (tgt := 17) hx hb dX12_said_12 (by decide) (fun c => absurd (by decide +kernel) c) (fun _ => ?_)
  refine lv_iconst (v := (-1)) hx hb dX12_said_15 (by decide) ?_
  exact ret _ () _ _ _ _ _ [] dX12_said_16 rfl w (by decide) rfl
