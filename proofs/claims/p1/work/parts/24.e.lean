def cn106 : Nat → Int64 := (va_cpy (fun _ => 0) (fun _ => 0) (Int32.toNatClampNeg (0 : Int32)) (Int32.toNatClampNeg (0 : Int32)) (Int32.toNatClampNeg (9 : Int32)))
def cn107 : Nat → Int64 := (va_cpy (fun _ => 0) (fun _ => 0) (Int32.toNatClampNeg (0 : Int32)) (Int32.toNatClampNeg (0 : Int32)) (Int32.toNatClampNeg (3 : Int32)))
theorem dX9_copy_0 : decode cX9_copy 0 = .ok (.aload_n 1, 1) := by decide +kernel
theorem dX9_copy_1 : decode cX9_copy 1 = .ok (.getfield 9, 3) := by decide +kernel
theorem dX9_copy_4 : decode cX9_copy 4 = .ok (.iconst 0, 1) := by decide +kernel
theorem dX9_copy_5 : decode cX9_copy 5 = .ok (.aload_n 0, 1) := by decide +kernel
theorem dX9_copy_6 : decode cX9_copy 6 = .ok (.getfield 9, 3) := by decide +kernel
theorem dX9_copy_9 : decode cX9_copy 9 = .ok (.iconst 0, 1) := by decide +kernel
theorem dX9_copy_10 : decode cX9_copy 10 = .ok (.bipush 9, 2) := by decide +kernel
theorem dX9_copy_12 : decode cX9_copy 12 = .ok (.invokestatic 75, 3) := by decide +kernel
theorem G1348 : Cond.methodLink "HookedCity$Town" 75 ⟨"java/lang/System", "arraycopy", "(Ljava/lang/Object;ILjava/lang/Object;II)V"⟩ ∈ GW := gw_i 1348 (by decide +kernel) rfl
theorem dX9_copy_15 : decode cX9_copy 15 = .ok (.aload_n 1, 1) := by decide +kernel
theorem dX9_copy_16 : decode cX9_copy 16 = .ok (.getfield 15, 3) := by decide +kernel
theorem dX9_copy_19 : decode cX9_copy 19 = .ok (.iconst 0, 1) := by decide +kernel
theorem dX9_copy_20 : decode cX9_copy 20 = .ok (.aload_n 0, 1) := by decide +kernel
theorem dX9_copy_21 : decode cX9_copy 21 = .ok (.getfield 15, 3) := by decide +kernel
theorem dX9_copy_24 : decode cX9_copy 24 = .ok (.iconst 0, 1) := by decide +kernel
theorem dX9_copy_25 : decode cX9_copy 25 = .ok (.bipush 9, 2) := by decide +kernel
theorem dX9_copy_27 : decode cX9_copy 27 = .ok (.invokestatic 75, 3) := by decide +kernel
theorem dX9_copy_30 : decode cX9_copy 30 = .ok (.aload_n 1, 1) := by decide +kernel
theorem dX9_copy_31 : decode cX9_copy 31 = .ok (.getfield 19, 3) := by decide +kernel
theorem dX9_copy_34 : decode cX9_copy 34 = .ok (.iconst 0, 1) := by decide +kernel
theorem dX9_copy_35 : decode cX9_copy 35 = .ok (.aload_n 0, 1) := by decide +kernel
theorem dX9_copy_36 : decode cX9_copy 36 = .ok (.getfield 19, 3) := by decide +kernel
theorem dX9_copy_39 : decode cX9_copy 39 = .ok (.iconst 0, 1) := by decide +kernel
theorem dX9_copy_40 : decode cX9_copy 40 = .ok (.bipush 9, 2) := by decide +kernel
theorem dX9_copy_42 : decode cX9_copy 42 = .ok (.invokestatic 75, 3) := by decide +kernel
theorem dX9_copy_45 : decode cX9_copy 45 = .ok (.aload_n 1, 1) := by decide +kernel
theorem dX9_copy_46 : decode cX9_copy 46 = .ok (.getfield 22, 3) := by decide +kernel
theorem dX9_copy_49 : decode cX9_copy 49 = .ok (.iconst 0, 1) := by decide +kernel
theorem dX9_copy_50 : decode cX9_copy 50 = .ok (.aload_n 0, 1) := by decide +kernel
theorem dX9_copy_51 : decode cX9_copy 51 = .ok (.getfield 22, 3) := by decide +kernel
theorem dX9_copy_54 : decode cX9_copy 54 = .ok (.iconst 0, 1) := by decide +kernel
theorem dX9_copy_55 : decode cX9_copy 55 = .ok (.bipush 9, 2) := by decide +kernel
theorem dX9_copy_57 : decode cX9_copy 57 = .ok (.invokestatic 75, 3) := by decide +kernel
theorem dX9_copy_60 : decode cX9_copy 60 = .ok (.aload_n 1, 1) := by decide +kernel
theorem dX9_copy_61 : decode cX9_copy 61 = .ok (.getfield 25, 3) := by decide +kernel
theorem dX9_copy_64 : decode cX9_copy 64 = .ok (.iconst 0, 1) := by decide +kernel
theorem dX9_copy_65 : decode cX9_copy 65 = .ok (.aload_n 0, 1) := by decide +kernel
theorem dX9_copy_66 : decode cX9_copy 66 = .ok (.getfield 25, 3) := by decide +kernel
theorem dX9_copy_69 : decode cX9_copy 69 = .ok (.iconst 0, 1) := by decide +kernel
theorem dX9_copy_70 : decode cX9_copy 70 = .ok (.bipush 9, 2) := by decide +kernel
theorem dX9_copy_72 : decode cX9_copy 72 = .ok (.invokestatic 75, 3) := by decide +kernel
theorem dX9_copy_75 : decode cX9_copy 75 = .ok (.aload_n 1, 1) := by decide +kernel
theorem dX9_copy_76 : decode cX9_copy 76 = .ok (.getfield 34, 3) := by decide +kernel
theorem dX9_copy_79 : decode cX9_copy 79 = .ok (.iconst 0, 1) := by decide +kernel
theorem dX9_copy_80 : decode cX9_copy 80 = .ok (.aload_n 0, 1) := by decide +kernel
theorem dX9_copy_81 : decode cX9_copy 81 = .ok (.getfield 34, 3) := by decide +kernel
theorem dX9_copy_84 : decode cX9_copy 84 = .ok (.iconst 0, 1) := by decide +kernel
theorem dX9_copy_85 : decode cX9_copy 85 = .ok (.iconst 3, 1) := by decide +kernel
theorem dX9_copy_86 : decode cX9_copy 86 = .ok (.invokestatic 75, 3) := by decide +kernel
theorem dX9_copy_89 : decode cX9_copy 89 = .ok (.aload_n 1, 1) := by decide +kernel
theorem dX9_copy_90 : decode cX9_copy 90 = .ok (.getfield 37, 3) := by decide +kernel
theorem dX9_copy_93 : decode cX9_copy 93 = .ok (.iconst 0, 1) := by decide +kernel
theorem dX9_copy_94 : decode cX9_copy 94 = .ok (.aload_n 0, 1) := by decide +kernel
theorem dX9_copy_95 : decode cX9_copy 95 = .ok (.getfield 37, 3) := by decide +kernel
theorem dX9_copy_98 : decode cX9_copy 98 = .ok (.iconst 0, 1) := by decide +kernel
theorem dX9_copy_99 : decode cX9_copy 99 = .ok (.iconst 3, 1) := by decide +kernel
theorem dX9_copy_100 : decode cX9_copy 100 = .ok (.invokestatic 75, 3) := by decide +kernel
theorem dX9_copy_103 : decode cX9_copy 103 = .ok (.aload_n 0, 1) := by decide +kernel
theorem dX9_copy_104 : decode cX9_copy 104 = .ok (.aload_n 1, 1) := by decide +kernel
theorem dX9_copy_105 : decode cX9_copy 105 = .ok (.getfield 40, 3) := by decide +kernel
theorem dX9_copy_108 : decode cX9_copy 108 = .ok (.putfield 40, 3) := by decide +kernel
theorem dX9_copy_111 : decode cX9_copy 111 = .ok (.aload_n 0, 1) := by decide +kernel
theorem dX9_copy_112 : decode cX9_copy 112 = .ok (.aload_n 1, 1) := by decide +kernel
theorem dX9_copy_113 : decode cX9_copy 113 = .ok (.getfield 44, 3) := by decide +kernel
theorem dX9_copy_116 : decode cX9_copy 116 = .ok (.putfield 44, 3) := by decide +kernel
theorem dX9_copy_119 : decode cX9_copy 119 = .ok (.aload_n 0, 1) := by decide +kernel
theorem dX9_copy_120 : decode cX9_copy 120 = .ok (.aload_n 1, 1) := by decide +kernel
theorem dX9_copy_121 : decode cX9_copy 121 = .ok (.getfield 53, 3) := by decide +kernel
theorem dX9_copy_124 : decode cX9_copy 124 = .ok (.putfield 53, 3) := by decide +kernel
theorem dX9_copy_127 : decode cX9_copy 127 = .ok (.aload_n 0, 1) := by decide +kernel
theorem dX9_copy_128 : decode cX9_copy 128 = .ok (.aload_n 1, 1) := by decide +kernel
theorem dX9_copy_129 : decode cX9_copy 129 = .ok (.getfield 56, 3) := by decide +kernel
theorem dX9_copy_132 : decode cX9_copy 132 = .ok (.putfield 56, 3) := by decide +kernel
theorem dX9_copy_135 : decode cX9_copy 135 = .ok (.return_, 1) := by decide +kernel
theorem dX5_copy_0 : decode cX5_copy 0 = .ok (.aload_n 0, 1) := by decide +kernel
theorem dX5_copy_1 : decode cX5_copy 1 = .ok (.aload_n 1, 1) := by decide +kernel
theorem dX5_copy_2 : decode cX5_copy 2 = .ok (.getfield 27, 3) := by decide +kernel
theorem dX5_copy_5 : decode cX5_copy 5 = .ok (.putfield 27, 3) := by decide +kernel
theorem dX5_copy_8 : decode cX5_copy 8 = .ok (.aload_n 0, 1) := by decide +kernel
theorem dX5_copy_9 : decode cX5_copy 9 = .ok (.aload_n 1, 1) := by decide +kernel
theorem dX5_copy_10 : decode cX5_copy 10 = .ok (.getfield 31, 3) := by decide +kernel
theorem dX5_copy_13 : decode cX5_copy 13 = .ok (.putfield 31, 3) := by decide +kernel
theorem dX5_copy_16 : decode cX5_copy 16 = .ok (.iconst 0, 1) := by decide +kernel
theorem dX5_copy_17 : decode cX5_copy 17 = .ok (.istore_n 2, 1) := by decide +kernel
theorem dX5_copy_18 : decode cX5_copy 18 = .ok (.iload_n 2, 1) := by decide +kernel
theorem dX5_copy_19 : decode cX5_copy 19 = .ok (.aload_n 0, 1) := by decide +kernel
theorem dX5_copy_20 : decode cX5_copy 20 = .ok (.getfield 27, 3) := by decide +kernel
theorem dX5_copy_23 : decode cX5_copy 23 = .ok (.if_icmp .ge 45, 3) := by decide +kernel
theorem dX5_copy_68 : decode cX5_copy 68 = .ok (.return_, 1) := by decide +kernel
theorem dX1_keep_0 : decode cX1_keep 0 = .ok (.aload_n 0, 1) := by decide +kernel
theorem dX1_keep_1 : decode cX1_keep 1 = .ok (.getfield 10, 3) := by decide +kernel
theorem dX1_keep_4 : decode cX1_keep 4 = .ok (.aload_n 1, 1) := by decide +kernel
theorem dX1_keep_5 : decode cX1_keep 5 = .ok (.invokevirtual 34, 3) := by decide +kernel
theorem G1347 : Cond.code ⟨"HookedCity$Town", "copy", "(LHookedCity$Town;)V"⟩ prog_11_method_3_code 2 none ∈ GW := gw_i 1347 (by decide +kernel) rfl
theorem G1344 : Cond.methodLink "HookedCity$Image" 34 ⟨"HookedCity$Town", "copy", "(LHookedCity$Town;)V"⟩ ∈ GW := gw_i 1344 (by decide +kernel) rfl
theorem V_HookedCity_Image_34 : VL "HookedCity$Image" 34 yX9_copy cX9_copy 2 none 1 := ⟨G1347, G1344, G128, by decide +kernel, by decide +kernel, by decide +kernel⟩
theorem G1345 : Cond.instanceMethod ⟨"HookedCity$Town", "copy", "(LHookedCity$Town;)V"⟩ ∈ GW := gw_i 1345 (by decide +kernel) rfl
theorem G1346 : Cond.selects "HookedCity$Town" ⟨"HookedCity$Town", "copy", "(LHookedCity$Town;)V"⟩ ⟨"HookedCity$Town", "copy", "(LHookedCity$Town;)V"⟩ ∈ GW := gw_i 1346 (by decide +kernel) rfl
theorem dX1_keep_8 : decode cX1_keep 8 = .ok (.aload_n 0, 1) := by decide +kernel
theorem dX1_keep_9 : decode cX1_keep 9 = .ok (.getfield 19, 3) := by decide +kernel
theorem dX1_keep_12 : decode cX1_keep 12 = .ok (.aload_n 2, 1) := by decide +kernel
theorem dX1_keep_13 : decode cX1_keep 13 = .ok (.invokevirtual 38, 3) := by decide +kernel
theorem G1349 : Cond.methodLink "HookedCity$Image" 38 ⟨"HookedCity$State", "copy", "(LHookedCity$State;)V"⟩ ∈ GW := gw_i 1349 (by decide +kernel) rfl
theorem V_HookedCity_Image_38 : VL "HookedCity$Image" 38 yX7_copy cX7_copy 2 none 1 := ⟨G866, G1349, G121, by decide +kernel, by decide +kernel, by decide +kernel⟩
theorem dX1_keep_16 : decode cX1_keep 16 = .ok (.aload_n 0, 1) := by decide +kernel
theorem dX1_keep_17 : decode cX1_keep 17 = .ok (.getfield 26, 3) := by decide +kernel
theorem dX1_keep_20 : decode cX1_keep 20 = .ok (.aload_n 3, 1) := by decide +kernel
theorem dX1_keep_21 : decode cX1_keep 21 = .ok (.invokevirtual 41, 3) := by decide +kernel
theorem G1353 : Cond.code ⟨"HookedCity$Sentence", "copy", "(LHookedCity$Sentence;)V"⟩ prog_7_method_4_code 3 none ∈ GW := gw_i 1353 (by decide +kernel) rfl
theorem G1350 : Cond.methodLink "HookedCity$Image" 41 ⟨"HookedCity$Sentence", "copy", "(LHookedCity$Sentence;)V"⟩ ∈ GW := gw_i 1350 (by decide +kernel) rfl
theorem V_HookedCity_Image_41 : VL "HookedCity$Image" 41 yX5_copy cX5_copy 3 none 1 := ⟨G1353, G1350, G129, by decide +kernel, by decide +kernel, by decide +kernel⟩
theorem G1351 : Cond.instanceMethod ⟨"HookedCity$Sentence", "copy", "(LHookedCity$Sentence;)V"⟩ ∈ GW := gw_i 1351 (by decide +kernel) rfl
theorem G1352 : Cond.selects "HookedCity$Sentence" ⟨"HookedCity$Sentence", "copy", "(LHookedCity$Sentence;)V"⟩ ⟨"HookedCity$Sentence", "copy", "(LHookedCity$Sentence;)V"⟩ ∈ GW := gw_i 1352 (by decide +kernel) rfl
theorem dX1_keep_24 : decode cX1_keep 24 = .ok (.aload_n 0, 1) := by decide +kernel
theorem dX1_keep_25 : decode cX1_keep 25 = .ok (.iconst 1, 1) := by decide +kernel
theorem dX1_keep_26 : decode cX1_keep 26 = .ok (.putfield 30, 3) := by decide +kernel
theorem dX1_keep_29 : decode cX1_keep 29 = .ok (.return_, 1) := by decide +kernel
theorem dX11_image_0 : decode cX11_image 0 = .ok (.iload_n 1, 1) := by decide +kernel
theorem dX11_image_1 : decode cX11_image 1 = .ok (.ifCond .lt 8, 3) := by decide +kernel
theorem dX11_image_9 : decode cX11_image 9 = .ok (.iconst 0, 1) := by decide +kernel
theorem dX11_image_10 : decode cX11_image 10 = .ok (.ireturn, 1) := by decide +kernel
theorem dX11_image_4 : decode cX11_image 4 = .ok (.iload_n 1, 1) := by decide +kernel
theorem dX11_image_5 : decode cX11_image 5 = .ok (.iconst 2, 1) := by decide +kernel
theorem dX11_image_6 : decode cX11_image 6 = .ok (.if_icmp .lt 5, 3) := by decide +kernel
theorem dX11_image_11 : decode cX11_image 11 = .ok (.aload_n 0, 1) := by decide +kernel
theorem dX11_image_12 : decode cX11_image 12 = .ok (.getfield 67, 3) := by decide +kernel
theorem dX11_image_15 : decode cX11_image 15 = .ok (.iload_n 1, 1) := by decide +kernel
theorem dX11_image_16 : decode cX11_image 16 = .ok (.aaload, 1) := by decide +kernel
theorem dX11_image_17 : decode cX11_image 17 = .ok (.aload_n 0, 1) := by decide +kernel
theorem dX11_image_18 : decode cX11_image 18 = .ok (.getfield 74, 3) := by decide +kernel
theorem dX11_image_21 : decode cX11_image 21 = .ok (.aload_n 0, 1) := by decide +kernel
theorem dX11_image_22 : decode cX11_image 22 = .ok (.getfield 19, 3) := by decide +kernel
theorem dX11_image_25 : decode cX11_image 25 = .ok (.aload_n 0, 1) := by decide +kernel
theorem dX11_image_26 : decode cX11_image 26 = .ok (.getfield 84, 3) := by decide +kernel
theorem dX11_image_29 : decode cX11_image 29 = .ok (.invokevirtual 330, 3) := by decide +kernel
theorem G1343 : Cond.code ⟨"HookedCity$Image", "keep", "(LHookedCity$Town;LHookedCity$State;LHookedCity$Sentence;)V"⟩ prog_3_method_2_code 4 none ∈ GW := gw_i 1343 (by decide +kernel) rfl
theorem G1340 : Cond.methodLink "HookedCity" 330 ⟨"HookedCity$Image", "keep", "(LHookedCity$Town;LHookedCity$State;LHookedCity$Sentence;)V"⟩ ∈ GW := gw_i 1340 (by decide +kernel) rfl
theorem V_HookedCity_330 : VL "HookedCity" 330 yX1_keep cX1_keep 4 none 3 := ⟨G1343, G1340, G130, by decide +kernel, by decide +kernel, by decide +kernel⟩
theorem G1341 : Cond.instanceMethod ⟨"HookedCity$Image", "keep", "(LHookedCity$Town;LHookedCity$State;LHookedCity$Sentence;)V"⟩ ∈ GW := gw_i 1341 (by decide +kernel) rfl
theorem G1342 : Cond.selects "HookedCity$Image" ⟨"HookedCity$Image", "keep", "(LHookedCity$Town;LHookedCity$State;LHookedCity$Sentence;)V"⟩ ⟨"HookedCity$Image", "keep", "(LHookedCity$Town;LHookedCity$State;LHookedCity$Sentence;)V"⟩ ∈ GW := gw_i 1342 (by decide +kernel) rfl
theorem dX11_image_32 : decode cX11_image 32 = .ok (.iconst 1, 1) := by decide +kernel
theorem dX11_image_33 : decode cX11_image 33 = .ok (.ireturn, 1) := by decide +kernel
def cn108 : Nat → Int32 := (upd (fun _ => 0) (Int32.toNatClampNeg (0 : Int32)) (1 : Int32))
def cn109 : Nat → Int32 := (upd (fun _ => 0) (Int32.toNatClampNeg (1 : Int32)) (1 : Int32))
theorem dX12_image_0 : decode cX12_image 0 = .ok (.aload_n 0, 1) := by decide +kernel
theorem dX12_image_1 : decode cX12_image 1 = .ok (.iconst 0, 1) := by decide +kernel
theorem dX12_image_2 : decode cX12_image 2 = .ok (.putfield 1, 3) := by decide +kernel
theorem dX12_image_5 : decode cX12_image 5 = .ok (.iload_n 1, 1) := by decide +kernel
theorem dX12_image_6 : decode cX12_image 6 = .ok (.iconst 0, 1) := by decide +kernel
theorem dX12_image_7 : decode cX12_image 7 = .ok (.iconst 1, 1) := by decide +kernel
theorem dX12_image_8 : decode cX12_image 8 = .ok (.invokestatic 75, 3) := by decide +kernel
theorem dX12_image_11 : decode cX12_image 11 = .ok (.ifCond .ne 5, 3) := by decide +kernel
theorem dX12_image_14 : decode cX12_image 14 = .ok (.iconst 0, 1) := by decide +kernel
theorem dX12_image_15 : decode cX12_image 15 = .ok (.ireturn, 1) := by decide +kernel
theorem dX12_image_16 : decode cX12_image 16 = .ok (.iconst 0, 1) := by decide +kernel
theorem dX12_image_17 : decode cX12_image 17 = .ok (.istore_n 2, 1) := by decide +kernel
theorem dX12_image_18 : decode cX12_image 18 = .ok (.iload_n 2, 1) := by decide +kernel
theorem dX12_image_19 : decode cX12_image 19 = .ok (.sipush 329, 3) := by decide +kernel
theorem dX12_image_22 : decode cX12_image 22 = .ok (.if_icmp .ge 27, 3) := by decide +kernel
theorem dX12_image_49 : decode cX12_image 49 = .ok (.iconst 0, 1) := by decide +kernel
theorem dX12_image_50 : decode cX12_image 50 = .ok (.istore_n 2, 1) := by decide +kernel
theorem dX12_image_51 : decode cX12_image 51 = .ok (.iload_n 2, 1) := by decide +kernel
theorem dX12_image_52 : decode cX12_image 52 = .ok (.bipush 12, 2) := by decide +kernel
theorem dX12_image_54 : decode cX12_image 54 = .ok (.if_icmp .ge 26, 3) := by decide +kernel
theorem dX12_image_80 : decode cX12_image 80 = .ok (.aload_n 0, 1) := by decide +kernel
theorem dX12_image_81 : decode cX12_image 81 = .ok (.getfield 123, 3) := by decide +kernel
theorem dX12_image_84 : decode cX12_image 84 = .ok (.iload_n 1, 1) := by decide +kernel
theorem dX12_image_85 : decode cX12_image 85 = .ok (.iconst 1, 1) := by decide +kernel
theorem dX12_image_86 : decode cX12_image 86 = .ok (.bastore, 1) := by decide +kernel
theorem dX12_image_87 : decode cX12_image 87 = .ok (.iconst 1, 1) := by decide +kernel
theorem dX12_image_88 : decode cX12_image 88 = .ok (.ireturn, 1) := by decide +kernel
theorem dX12_image_57 : decode cX12_image 57 = .ok (.aload_n 0, 1) := by decide +kernel
theorem dX12_image_58 : decode cX12_image 58 = .ok (.getfield 120, 3) := by decide +kernel
theorem dX12_image_61 : decode cX12_image 61 = .ok (.bipush 12, 2) := by decide +kernel
theorem dX12_image_63 : decode cX12_image 63 = .ok (.iload_n 1, 1) := by decide +kernel
theorem dX12_image_64 : decode cX12_image 64 = .ok (.imul, 1) := by decide +kernel
theorem dX12_image_65 : decode cX12_image 65 = .ok (.iload_n 2, 1) := by decide +kernel
theorem dX12_image_66 : decode cX12_image 66 = .ok (.iadd, 1) := by decide +kernel
theorem dX12_image_67 : decode cX12_image 67 = .ok (.aload_n 0, 1) := by decide +kernel
theorem dX12_image_68 : decode cX12_image 68 = .ok (.getfield 113, 3) := by decide +kernel
theorem dX12_image_71 : decode cX12_image 71 = .ok (.iload_n 2, 1) := by decide +kernel
theorem dX12_image_72 : decode cX12_image 72 = .ok (.laload, 1) := by decide +kernel
theorem dX12_image_73 : decode cX12_image 73 = .ok (.lastore, 1) := by decide +kernel
theorem dX12_image_74 : decode cX12_image 74 = .ok (.iinc 2 1, 3) := by decide +kernel
theorem dX12_image_77 : decode cX12_image 77 = .ok (.goto (-26), 3) := by decide +kernel
theorem dX12_image_25 : decode cX12_image 25 = .ok (.aload_n 0, 1) := by decide +kernel
theorem dX12_image_26 : decode cX12_image 26 = .ok (.getfield 104, 3) := by decide +kernel
theorem dX12_image_29 : decode cX12_image 29 = .ok (.sipush 329, 3) := by decide +kernel
theorem dX12_image_32 : decode cX12_image 32 = .ok (.iload_n 1, 1) := by decide +kernel
theorem dX12_image_33 : decode cX12_image 33 = .ok (.imul, 1) := by decide +kernel
theorem dX12_image_34 : decode cX12_image 34 = .ok (.iload_n 2, 1) := by decide +kernel
theorem dX12_image_35 : decode cX12_image 35 = .ok (.iadd, 1) := by decide +kernel
theorem dX12_image_36 : decode cX12_image 36 = .ok (.aload_n 0, 1) := by decide +kernel
theorem dX12_image_37 : decode cX12_image 37 = .ok (.getfield 98, 3) := by decide +kernel
theorem dX12_image_40 : decode cX12_image 40 = .ok (.iload_n 2, 1) := by decide +kernel
theorem dX12_image_41 : decode cX12_image 41 = .ok (.iaload, 1) := by decide +kernel
theorem dX12_image_42 : decode cX12_image 42 = .ok (.iastore, 1) := by decide +kernel
theorem dX12_image_43 : decode cX12_image 43 = .ok (.iinc 2 1, 3) := by decide +kernel
theorem dX12_image_46 : decode cX12_image 46 = .ok (.goto (-28), 3) := by decide +kernel
theorem dX11_restore_0 : decode cX11_restore 0 = .ok (.iload_n 1, 1) := by decide +kernel
theorem dX11_restore_1 : decode cX11_restore 1 = .ok (.ifCond .lt 20, 3) := by decide +kernel
theorem dX11_restore_21 : decode cX11_restore 21 = .ok (.iconst 0, 1) := by decide +kernel
theorem dX11_restore_22 : decode cX11_restore 22 = .ok (.ireturn, 1) := by decide +kernel
theorem dX11_restore_4 : decode cX11_restore 4 = .ok (.iload_n 1, 1) := by decide +kernel
theorem dX11_restore_5 : decode cX11_restore 5 = .ok (.iconst 2, 1) := by decide +kernel
theorem dX11_restore_6 : decode cX11_restore 6 = .ok (.if_icmp .ge 15, 3) := by decide +kernel
theorem dX11_restore_9 : decode cX11_restore 9 = .ok (.aload_n 0, 1) := by decide +kernel
theorem dX11_restore_10 : decode cX11_restore 10 = .ok (.getfield 67, 3) := by decide +kernel
theorem dX11_restore_13 : decode cX11_restore 13 = .ok (.iload_n 1, 1) := by decide +kernel
theorem dX11_restore_14 : decode cX11_restore 14 = .ok (.aaload, 1) := by decide +kernel
theorem dX11_restore_15 : decode cX11_restore 15 = .ok (.getfield 334, 3) := by decide +kernel
theorem N487 : Cond.fieldLinkNest "HookedCity" 334 "HookedCity$Image" "full" "Z" "HookedCity" ∈ lw_tbl := List.mem_of_getElem? (i := 487) (by decide +kernel)
theorem dX11_restore_18 : decode cX11_restore 18 = .ok (.ifCond .ne 5, 3) := by decide +kernel
theorem dX12_restore_0 : decode cX12_restore 0 = .ok (.aload_n 0, 1) := by decide +kernel
theorem dX12_restore_1 : decode cX12_restore 1 = .ok (.iconst 0, 1) := by decide +kernel
theorem dX12_restore_2 : decode cX12_restore 2 = .ok (.putfield 1, 3) := by decide +kernel
theorem dX12_restore_5 : decode cX12_restore 5 = .ok (.iload_n 1, 1) := by decide +kernel
theorem dX12_restore_6 : decode cX12_restore 6 = .ok (.iconst 0, 1) := by decide +kernel
theorem dX12_restore_7 : decode cX12_restore 7 = .ok (.iconst 1, 1) := by decide +kernel
theorem dX12_restore_8 : decode cX12_restore 8 = .ok (.invokestatic 75, 3) := by decide +kernel
theorem dX12_restore_11 : decode cX12_restore 11 = .ok (.ifCond .eq 12, 3) := by decide +kernel
theorem dX12_restore_23 : decode cX12_restore 23 = .ok (.iconst 0, 1) := by decide +kernel
theorem dX12_restore_24 : decode cX12_restore 24 = .ok (.ireturn, 1) := by decide +kernel
theorem dX12_restore_14 : decode cX12_restore 14 = .ok (.aload_n 0, 1) := by decide +kernel
theorem dX12_restore_15 : decode cX12_restore 15 = .ok (.getfield 123, 3) := by decide +kernel
theorem dX12_restore_18 : decode cX12_restore 18 = .ok (.iload_n 1, 1) := by decide +kernel
theorem dX12_restore_19 : decode cX12_restore 19 = .ok (.baload, 1) := by decide +kernel
theorem dX12_restore_20 : decode cX12_restore 20 = .ok (.ifCond .ne 5, 3) := by decide +kernel
theorem dX11_count_0 : decode cX11_count 0 = .ok (.iload_n 1, 1) := by decide +kernel
theorem dX11_count_1 : decode cX11_count 1 = .ok (.tableswitch 75 0 4 #[35, 43, 51, 59, 67], 35) := by decide +kernel
theorem dX11_count_36 : decode cX11_count 36 = .ok (.aload_n 0, 1) := by decide +kernel
theorem dX11_count_37 : decode cX11_count 37 = .ok (.getfield 74, 3) := by decide +kernel
theorem dX11_count_40 : decode cX11_count 40 = .ok (.getfield 257, 3) := by decide +kernel
theorem dX11_count_43 : decode cX11_count 43 = .ok (.ireturn, 1) := by decide +kernel
theorem dX11_count_44 : decode cX11_count 44 = .ok (.aload_n 0, 1) := by decide +kernel
theorem dX11_count_45 : decode cX11_count 45 = .ok (.getfield 74, 3) := by decide +kernel
theorem dX11_count_48 : decode cX11_count 48 = .ok (.getfield 295, 3) := by decide +kernel
theorem dX11_count_51 : decode cX11_count 51 = .ok (.ireturn, 1) := by decide +kernel
theorem dX11_count_52 : decode cX11_count 52 = .ok (.aload_n 0, 1) := by decide +kernel
theorem dX11_count_53 : decode cX11_count 53 = .ok (.getfield 74, 3) := by decide +kernel
theorem dX11_count_56 : decode cX11_count 56 = .ok (.getfield 340, 3) := by decide +kernel
theorem N401 : Cond.fieldLinkNest "HookedCity" 340 "HookedCity$Town" "year" "I" "HookedCity" ∈ lw_tbl := List.mem_of_getElem? (i := 401) (by decide +kernel)
theorem dX11_count_59 : decode cX11_count 59 = .ok (.ireturn, 1) := by decide +kernel
theorem dX11_count_60 : decode cX11_count 60 = .ok (.aload_n 0, 1) := by decide +kernel
theorem dX11_count_61 : decode cX11_count 61 = .ok (.getfield 74, 3) := by decide +kernel
theorem dX11_count_64 : decode cX11_count 64 = .ok (.getfield 343, 3) := by decide +kernel
theorem N403 : Cond.fieldLinkNest "HookedCity" 343 "HookedCity$Town" "july" "I" "HookedCity" ∈ lw_tbl := List.mem_of_getElem? (i := 403) (by decide +kernel)
theorem dX11_count_67 : decode cX11_count 67 = .ok (.ireturn, 1) := by decide +kernel
theorem dX11_count_68 : decode cX11_count 68 = .ok (.aload_n 0, 1) := by decide +kernel
theorem dX11_count_69 : decode cX11_count 69 = .ok (.getfield 10, 3) := by decide +kernel
theorem dX11_count_72 : decode cX11_count 72 = .ok (.getfield 346, 3) := by decide +kernel
theorem N164 : Cond.fieldLinkNest "HookedCity" 346 "HookedCity$Tape" "length" "I" "HookedCity" ∈ lw_tbl := List.mem_of_getElem? (i := 164) (by decide +kernel)
theorem dX11_count_75 : decode cX11_count 75 = .ok (.ireturn, 1) := by decide +kernel
theorem dX11_count_76 : decode cX11_count 76 = .ok (.iconst (-1), 1) := by decide +kernel
theorem dX11_count_77 : decode cX11_count 77 = .ok (.ireturn, 1) := by decide +kernel
theorem dX12_count_0 : decode cX12_count 0 = .ok (.aload_n 0, 1) := by decide +kernel
theorem dX12_count_1 : decode cX12_count 1 = .ok (.iconst 0, 1) := by decide +kernel
theorem dX12_count_2 : decode cX12_count 2 = .ok (.putfield 1, 3) := by decide +kernel
theorem dX12_count_5 : decode cX12_count 5 = .ok (.iload_n 1, 1) := by decide +kernel
theorem dX12_count_6 : decode cX12_count 6 = .ok (.tableswitch 67 0 4 #[34, 41, 48, 55, 62], 34) := by decide +kernel
theorem dX12_count_40 : decode cX12_count 40 = .ok (.aload_n 0, 1) := by decide +kernel
theorem dX12_count_41 : decode cX12_count 41 = .ok (.getfield 98, 3) := by decide +kernel
theorem dX12_count_44 : decode cX12_count 44 = .ok (.iconst 0, 1) := by decide +kernel
theorem dX12_count_45 : decode cX12_count 45 = .ok (.iaload, 1) := by decide +kernel
theorem dX12_count_46 : decode cX12_count 46 = .ok (.ireturn, 1) := by decide +kernel
theorem dX12_count_47 : decode cX12_count 47 = .ok (.aload_n 0, 1) := by decide +kernel
theorem dX12_count_48 : decode cX12_count 48 = .ok (.getfield 98, 3) := by decide +kernel
theorem dX12_count_51 : decode cX12_count 51 = .ok (.iconst 1, 1) := by decide +kernel
theorem dX12_count_52 : decode cX12_count 52 = .ok (.iaload, 1) := by decide +kernel
theorem dX12_count_53 : decode cX12_count 53 = .ok (.ireturn, 1) := by decide +kernel
theorem dX12_count_54 : decode cX12_count 54 = .ok (.aload_n 0, 1) := by decide +kernel
theorem dX12_count_55 : decode cX12_count 55 = .ok (.getfield 98, 3) := by decide +kernel
theorem dX12_count_58 : decode cX12_count 58 = .ok (.iconst 3, 1) := by decide +kernel
theorem dX12_count_59 : decode cX12_count 59 = .ok (.iaload, 1) := by decide +kernel
theorem dX12_count_60 : decode cX12_count 60 = .ok (.ireturn, 1) := by decide +kernel
theorem dX12_count_61 : decode cX12_count 61 = .ok (.aload_n 0, 1) := by decide +kernel
theorem dX12_count_62 : decode cX12_count 62 = .ok (.getfield 98, 3) := by decide +kernel
theorem dX12_count_65 : decode cX12_count 65 = .ok (.iconst 4, 1) := by decide +kernel
theorem dX12_count_66 : decode cX12_count 66 = .ok (.iaload, 1) := by decide +kernel
theorem dX12_count_67 : decode cX12_count 67 = .ok (.ireturn, 1) := by decide +kernel
theorem dX12_count_68 : decode cX12_count 68 = .ok (.aload_n 0, 1) := by decide +kernel
theorem dX12_count_69 : decode cX12_count 69 = .ok (.getfield 11, 3) := by decide +kernel
theorem dX12_count_72 : decode cX12_count 72 = .ok (.ireturn, 1) := by decide +kernel
theorem dX12_count_73 : decode cX12_count 73 = .ok (.iconst (-1), 1) := by decide +kernel
theorem dX12_count_74 : decode cX12_count 74 = .ok (.ireturn, 1) := by decide +kernel
set_option maxRecDepth 100000 in
set_option maxHeartbeats 4000000 in
theorem c177_X9_copy (l : Launch) (D : va_G) (T : Nat → ClassId) (sz : Nat) (a0 a1 a2 a3 a4 a5 a6 a7 a8 a9 a10 a11 a12 a13 a14 a15 a16 a17 a18 a19 : Nat) : Met l yX9_copy (Cond.code yX9_copy cX9_copy 2 none :: GW) (Rm 1 0 0) (cPre [.ref a0, .ref a1] D T [(a0, .inr (9, [.ref a2, .ref a3, .ref a4, .ref a5, .ref a6, .ref a7, .ref a8, .ref a9, .ref a10, .int 0, .int 0, .int 0, .int 0, .int 12, .int 1, .int 0, .int 0, .int 0])), (a1, .inr (9, [.ref a11, .ref a12, .ref a13, .ref a14, .ref a15, .ref a16, .ref a17, .ref a18, .ref a19, .int 0, .int 0, .int 0, .int 0, .int 12, .int 1, .int 0, .int 0, .int 0])), (a2, .inl (T 1, 9, .inr (.inl (fun _ => 0)))), (a3, .inl (T 0, 9, .inl (fun _ => 0))), (a4, .inl (T 0, 9, .inl (fun _ => 0))), (a5, .inl (T 0, 9, .inl (fun _ => 0))), (a6, .inl (T 0, 9, .inl (fun _ => 0))), (a9, .inl (T 1, 3, .inr (.inl (fun _ => 0)))), (a10, .inl (T 0, 3, .inl (fun _ => 0))), (a11, .inl (T 1, 9, .inr (.inl (fun _ => 0)))), (a12, .inl (T 0, 9, .inl (fun _ => 0))), (a13, .inl (T 0, 9, .inl (fun _ => 0))), (a14, .inl (T 0, 9, .inl (fun _ => 0))), (a15, .inl (T 0, 9, .inl (fun _ => 0))), (a18, .inl (T 1, 3, .inr (.inl (fun _ => 0)))), (a19, .inl (T 0, 3, .inl (fun _ => 0)))] sz) (qV D [(a0, .inr (9, [.ref a2, .ref a3, .ref a4, .ref a5, .ref a6, .ref a7, .ref a8, .ref a9, .ref a10, .int 0, .int 0, .int 0, .int 0, .int 12, .int 1, .int 0, .int 0, .int 0])), (a1, .inr (9, [.ref a11, .ref a12, .ref a13, .ref a14, .ref a15, .ref a16, .ref a17, .ref a18, .ref a19, .int 0, .int 0, .int 0, .int 0, .int 12, .int 1, .int 0, .int 0, .int 0])), (a2, .inl (T 1, 9, .inr (.inl (fun _ => 0)))), (a3, .inl (T 0, 9, .inl (fun _ => 0))), (a4, .inl (T 0, 9, .inl (fun _ => 0))), (a5, .inl (T 0, 9, .inl (fun _ => 0))), (a6, .inl (T 0, 9, .inl (fun _ => 0))), (a9, .inl (T 1, 3, .inr (.inl (fun _ => 0)))), (a10, .inl (T 0, 3, .inl (fun _ => 0))), (a11, .inl (T 1, 9, .inr (.inl (fun _ => 0)))), (a12, .inl (T 0, 9, .inl (fun _ => 0))), (a13, .inl (T 0, 9, .inl (fun _ => 0))), (a14, .inl (T 0, 9, .inl (fun _ => 0))), (a15, .inl (T 0, 9, .inl (fun _ => 0))), (a18, .inl (T 1, 3, .inr (.inl (fun _ => 0)))), (a19, .inl (T 0, 3, .inl (fun _ => 0)))] sz (fun (u : Unit) => True) (fun u => [(a0, .inr (9, [.ref a2, .ref a3, .ref a4, .ref a5, .ref a6, .ref a7, .ref a8, .ref a9, .ref a10, .int 0, .int 0, .int 0, .int 0, .int 12, .int 1, .int 0, .int 0, .int 0])), (a1, .inr (9, [.ref a11, .ref a12, .ref a13, .ref a14, .ref a15, .ref a16, .ref a17, .ref a18, .ref a19, .int 0, .int 0, .int 0, .int 0, .int 12, .int 1, .int 0, .int 0, .int 0])), (a2, .inl (T 1, 9, .inr (.inl cn106))), (a3, .inl (T 0, 9, .inl cn47)), (a4, .inl (T 0, 9, .inl cn47)), (a5, .inl (T 0, 9, .inl cn47)), (a6, .inl (T 0, 9, .inl cn47)), (a9, .inl (T 1, 3, .inr (.inl cn107))), (a10, .inl (T 0, 3, .inl cn93)), (a11, .inl (T 1, 9, .inr (.inl (fun _ => 0)))), (a12, .inl (T 0, 9, .inl (fun _ => 0))), (a13, .inl (T 0, 9, .inl (fun _ => 0))), (a14, .inl (T 0, 9, .inl (fun _ => 0))), (a15, .inl (T 0, 9, .inl (fun _ => 0))), (a18, .inl (T 1, 3, .inr (.inl (fun _ => 0)))), (a19, .inl (T 0, 3, .inl (fun _ => 0)))])) 0 0 (va_A [(a0, .inr (9, [.ref a2, .ref a3, .ref a4, .ref a5, .ref a6, .ref a7, .ref a8, .ref a9, .ref a10, .int 0, .int 0, .int 0, .int 0, .int 12, .int 1, .int 0, .int 0, .int 0])), (a1, .inr (9, [.ref a11, .ref a12, .ref a13, .ref a14, .ref a15, .ref a16, .ref a17, .ref a18, .ref a19, .int 0, .int 0, .int 0, .int 0, .int 12, .int 1, .int 0, .int 0, .int 0])), (a2, .inl (T 1, 9, .inr (.inl (fun _ => 0)))), (a3, .inl (T 0, 9, .inl (fun _ => 0))), (a4, .inl (T 0, 9, .inl (fun _ => 0))), (a5, .inl (T 0, 9, .inl (fun _ => 0))), (a6, .inl (T 0, 9, .inl (fun _ => 0))), (a9, .inl (T 1, 3, .inr (.inl (fun _ => 0)))), (a10, .inl (T 0, 3, .inl (fun _ => 0))), (a11, .inl (T 1, 9, .inr (.inl (fun _ => 0)))), (a12, .inl (T 0, 9, .inl (fun _ => 0))), (a13, .inl (T 0, 9, .inl (fun _ => 0))), (a14, .inl (T 0, 9, .inl (fun _ => 0))), (a15, .inl (T 0, 9, .inl (fun _ => 0))), (a18, .inl (T 1, 3, .inr (.inl (fun _ => 0)))), (a19, .inl (T 0, 3, .inl (fun _ => 0)))] sz) := by
  refine e_V (by decide) (Nat.le_of_ble_eq_true rfl) ?_
  intro p e s m args below meth c A Q ls M hin w ret hl
  have hx := M.1.1
  have hb := M.1.2.1
  have hl : lv_has ls 2 [(0, .ref a0), (1, .ref a1)] := hl
  refine lv_aload_n hx hb dX9_copy_0 rfl (lv_at hl 1 rfl) ?_
  refine r_get (v := .ref a11) M w 1 0 clX9 rfl (by decide) G366 rfl rfl dX9_copy_1 ?_
  refine lv_iconst (v := 0) hx hb dX9_copy_4 (by decide) ?_
  refine lv_aload_n hx hb dX9_copy_5 rfl (lv_at hl 0 rfl) ?_
  refine r_get (v := .ref a2) M w 0 0 clX9 rfl (by decide) G366 rfl rfl dX9_copy_6 ?_
  refine lv_iconst (v := 0) hx hb dX9_copy_9 (by decide) ?_
  refine lv_bipush (v := 9) hx hb dX9_copy_10 (by decide) ?_
  refine r_copyl (ws' := [(a0, .inr (9, [.ref a2, .ref a3, .ref a4, .ref a5, .ref a6, .ref a7, .ref a8, .ref a9, .ref a10, .int 0, .int 0, .int 0, .int 0, .int 12, .int 1, .int 0, .int 0, .int 0])), (a1, .inr (9, [.ref a11, .ref a12, .ref a13, .ref a14, .ref a15, .ref a16, .ref a17, .ref a18, .ref a19, .int 0, .int 0, .int 0, .int 0, .int 12, .int 1, .int 0, .int 0, .int 0])), (a2, .inl (T 1, 9, .inr (.inl cn106))), (a3, .inl (T 0, 9, .inl (fun _ => 0))), (a4, .inl (T 0, 9, .inl (fun _ => 0))), (a5, .inl (T 0, 9, .inl (fun _ => 0))), (a6, .inl (T 0, 9, .inl (fun _ => 0))), (a9, .inl (T 1, 3, .inr (.inl (fun _ => 0)))), (a10, .inl (T 0, 3, .inl (fun _ => 0))), (a11, .inl (T 1, 9, .inr (.inl (fun _ => 0)))), (a12, .inl (T 0, 9, .inl (fun _ => 0))), (a13, .inl (T 0, 9, .inl (fun _ => 0))), (a14, .inl (T 0, 9, .inl (fun _ => 0))), (a15, .inl (T 0, 9, .inl (fun _ => 0))), (a18, .inl (T 1, 3, .inr (.inl (fun _ => 0)))), (a19, .inl (T 0, 3, .inl (fun _ => 0)))]) M w 9 2 G1348 G796 G795 G140 hl.1 rfl rfl (by decide) (by decide) (by decide) (by decide +kernel) (by decide +kernel) (by decide) (Nat.le_of_ble_eq_true rfl) rfl dX9_copy_12 (fun H locs w => ?_)
  refine lv_aload_n hx hb dX9_copy_15 rfl (lv_at hl 1 rfl) ?_
  refine r_get (v := .ref a12) M w 1 1 clX9 rfl (by decide) G368 rfl rfl dX9_copy_16 ?_
  refine lv_iconst (v := 0) hx hb dX9_copy_19 (by decide) ?_
  refine lv_aload_n hx hb dX9_copy_20 rfl (lv_at hl 0 rfl) ?_
  refine r_get (v := .ref a3) M w 0 1 clX9 rfl (by decide) G368 rfl rfl dX9_copy_21 ?_
  refine lv_iconst (v := 0) hx hb dX9_copy_24 (by decide) ?_
  refine lv_bipush (v := 9) hx hb dX9_copy_25 (by decide) ?_
  refine r_copyi (ws' := [(a0, .inr (9, [.ref a2, .ref a3, .ref a4, .ref a5, .ref a6, .ref a7, .ref a8, .ref a9, .ref a10, .int 0, .int 0, .int 0, .int 0, .int 12, .int 1, .int 0, .int 0, .int 0])), (a1, .inr (9, [.ref a11, .ref a12, .ref a13, .ref a14, .ref a15, .ref a16, .ref a17, .ref a18, .ref a19, .int 0, .int 0, .int 0, .int 0, .int 12, .int 1, .int 0, .int 0, .int 0])), (a2, .inl (T 1, 9, .inr (.inl cn106))), (a3, .inl (T 0, 9, .inl cn47)), (a4, .inl (T 0, 9, .inl (fun _ => 0))), (a5, .inl (T 0, 9, .inl (fun _ => 0))), (a6, .inl (T 0, 9, .inl (fun _ => 0))), (a9, .inl (T 1, 3, .inr (.inl (fun _ => 0)))), (a10, .inl (T 0, 3, .inl (fun _ => 0))), (a11, .inl (T 1, 9, .inr (.inl (fun _ => 0)))), (a12, .inl (T 0, 9, .inl (fun _ => 0))), (a13, .inl (T 0, 9, .inl (fun _ => 0))), (a14, .inl (T 0, 9, .inl (fun _ => 0))), (a15, .inl (T 0, 9, .inl (fun _ => 0))), (a18, .inl (T 1, 3, .inr (.inl (fun _ => 0)))), (a19, .inl (T 0, 3, .inl (fun _ => 0)))]) M w 10 3 G1348 G796 G795 G140 hl.1 rfl rfl (by decide) (by decide) (by decide) (by decide +kernel) (by decide +kernel) (by decide) (Nat.le_of_ble_eq_true rfl) rfl dX9_copy_27 (fun H locs w => ?_)
  refine lv_aload_n hx hb dX9_copy_30 rfl (lv_at hl 1 rfl) ?_
  refine r_get (v := .ref a13) M w 1 2 clX9 rfl (by decide) G370 rfl rfl dX9_copy_31 ?_
  refine lv_iconst (v := 0) hx hb dX9_copy_34 (by decide) ?_
  refine lv_aload_n hx hb dX9_copy_35 rfl (lv_at hl 0 rfl) ?_
  refine r_get (v := .ref a4) M w 0 2 clX9 rfl (by decide) G370 rfl rfl dX9_copy_36 ?_
  refine lv_iconst (v := 0) hx hb dX9_copy_39 (by decide) ?_
  refine lv_bipush (v := 9) hx hb dX9_copy_40 (by decide) ?_
  refine r_copyi (ws' := [(a0, .inr (9, [.ref a2, .ref a3, .ref a4, .ref a5, .ref a6, .ref a7, .ref a8, .ref a9, .ref a10, .int 0, .int 0, .int 0, .int 0, .int 12, .int 1, .int 0, .int 0, .int 0])), (a1, .inr (9, [.ref a11, .ref a12, .ref a13, .ref a14, .ref a15, .ref a16, .ref a17, .ref a18, .ref a19, .int 0, .int 0, .int 0, .int 0, .int 12, .int 1, .int 0, .int 0, .int 0])), (a2, .inl (T 1, 9, .inr (.inl cn106))), (a3, .inl (T 0, 9, .inl cn47)), (a4, .inl (T 0, 9, .inl cn47)), (a5, .inl (T 0, 9, .inl (fun _ => 0))), (a6, .inl (T 0, 9, .inl (fun _ => 0))), (a9, .inl (T 1, 3, .inr (.inl (fun _ => 0)))), (a10, .inl (T 0, 3, .inl (fun _ => 0))), (a11, .inl (T 1, 9, .inr (.inl (fun _ => 0)))), (a12, .inl (T 0, 9, .inl (fun _ => 0))), (a13, .inl (T 0, 9, .inl (fun _ => 0))), (a14, .inl (T 0, 9, .inl (fun _ => 0))), (a15, .inl (T 0, 9, .inl (fun _ => 0))), (a18, .inl (T 1, 3, .inr (.inl (fun _ => 0)))), (a19, .inl (T 0, 3, .inl (fun _ => 0)))]) M w 11 4 G1348 G796 G795 G140 hl.1 rfl rfl (by decide) (by decide) (by decide) (by decide +kernel) (by decide +kernel) (by decide) (Nat.le_of_ble_eq_true rfl) rfl dX9_copy_42 (fun H locs w => ?_)
  refine lv_aload_n hx hb dX9_copy_45 rfl (lv_at hl 1 rfl) ?_
  refine r_get (v := .ref a14) M w 1 3 clX9 rfl (by decide) G372 rfl rfl dX9_copy_46 ?_
  refine lv_iconst (v := 0) hx hb dX9_copy_49 (by decide) ?_
  refine lv_aload_n hx hb dX9_copy_50 rfl (lv_at hl 0 rfl) ?_
  refine r_get (v := .ref a5) M w 0 3 clX9 rfl (by decide) G372 rfl rfl dX9_copy_51 ?_
  refine lv_iconst (v := 0) hx hb dX9_copy_54 (by decide) ?_
  refine lv_bipush (v := 9) hx hb dX9_copy_55 (by decide) ?_
  refine r_copyi (ws' := [(a0, .inr (9, [.ref a2, .ref a3, .ref a4, .ref a5, .ref a6, .ref a7, .ref a8, .ref a9, .ref a10, .int 0, .int 0, .int 0, .int 0, .int 12, .int 1, .int 0, .int 0, .int 0])), (a1, .inr (9, [.ref a11, .ref a12, .ref a13, .ref a14, .ref a15, .ref a16, .ref a17, .ref a18, .ref a19, .int 0, .int 0, .int 0, .int 0, .int 12, .int 1, .int 0, .int 0, .int 0])), (a2, .inl (T 1, 9, .inr (.inl cn106))), (a3, .inl (T 0, 9, .inl cn47)), (a4, .inl (T 0, 9, .inl cn47)), (a5, .inl (T 0, 9, .inl cn47)), (a6, .inl (T 0, 9, .inl (fun _ => 0))), (a9, .inl (T 1, 3, .inr (.inl (fun _ => 0)))), (a10, .inl (T 0, 3, .inl (fun _ => 0))), (a11, .inl (T 1, 9, .inr (.inl (fun _ => 0)))), (a12, .inl (T 0, 9, .inl (fun _ => 0))), (a13, .inl (T 0, 9, .inl (fun _ => 0))), (a14, .inl (T 0, 9, .inl (fun _ => 0))), (a15, .inl (T 0, 9, .inl (fun _ => 0))), (a18, .inl (T 1, 3, .inr (.inl (fun _ => 0)))), (a19, .inl (T 0, 3, .inl (fun _ => 0)))]) M w 12 5 G1348 G796 G795 G140 hl.1 rfl rfl (by decide) (by decide) (by decide) (by decide +kernel) (by decide +kernel) (by decide) (Nat.le_of_ble_eq_true rfl) rfl dX9_copy_57 (fun H locs w => ?_)
  refine lv_aload_n hx hb dX9_copy_60 rfl (lv_at hl 1 rfl) ?_
  refine r_get (v := .ref a15) M w 1 4 clX9 rfl (by decide) G375 rfl rfl dX9_copy_61 ?_
  refine lv_iconst (v := 0) hx hb dX9_copy_64 (by decide) ?_
  refine lv_aload_n hx hb dX9_copy_65 rfl (lv_at hl 0 rfl) ?_
  refine r_get (v := .ref a6) M w 0 4 clX9 rfl (by decide) G375 rfl rfl dX9_copy_66 ?_
  refine lv_iconst (v := 0) hx hb dX9_copy_69 (by decide) ?_
  refine lv_bipush (v := 9) hx hb dX9_copy_70 (by decide) ?_
  refine r_copyi (ws' := [(a0, .inr (9, [.ref a2, .ref a3, .ref a4, .ref a5, .ref a6, .ref a7, .ref a8, .ref a9, .ref a10, .int 0, .int 0, .int 0, .int 0, .int 12, .int 1, .int 0, .int 0, .int 0])), (a1, .inr (9, [.ref a11, .ref a12, .ref a13, .ref a14, .ref a15, .ref a16, .ref a17, .ref a18, .ref a19, .int 0, .int 0, .int 0, .int 0, .int 12, .int 1, .int 0, .int 0, .int 0])), (a2, .inl (T 1, 9, .inr (.inl cn106))), (a3, .inl (T 0, 9, .inl cn47)), (a4, .inl (T 0, 9, .inl cn47)), (a5, .inl (T 0, 9, .inl cn47)), (a6, .inl (T 0, 9, .inl cn47)), (a9, .inl (T 1, 3, .inr (.inl (fun _ => 0)))), (a10, .inl (T 0, 3, .inl (fun _ => 0))), (a11, .inl (T 1, 9, .inr (.inl (fun _ => 0)))), (a12, .inl (T 0, 9, .inl (fun _ => 0))), (a13, .inl (T 0, 9, .inl (fun _ => 0))), (a14, .inl (T 0, 9, .inl (fun _ => 0))), (a15, .inl (T 0, 9, .inl (fun _ => 0))), (a18, .inl (T 1, 3, .inr (.inl (fun _ => 0)))), (a19, .inl (T 0, 3, .inl (fun _ => 0)))]) M w 13 6 G1348 G796 G795 G140 hl.1 rfl rfl (by decide) (by decide) (by decide) (by decide +kernel) (by decide +kernel) (by decide) (Nat.le_of_ble_eq_true rfl) rfl dX9_copy_72 (fun H locs w => ?_)
  refine lv_aload_n hx hb dX9_copy_75 rfl (lv_at hl 1 rfl) ?_
  refine r_get (v := .ref a18) M w 1 7 clX9 rfl (by decide) G383 rfl rfl dX9_copy_76 ?_
  refine lv_iconst (v := 0) hx hb dX9_copy_79 (by decide) ?_
  refine lv_aload_n hx hb dX9_copy_80 rfl (lv_at hl 0 rfl) ?_
  refine r_get (v := .ref a9) M w 0 7 clX9 rfl (by decide) G383 rfl rfl dX9_copy_81 ?_
  refine lv_iconst (v := 0) hx hb dX9_copy_84 (by decide) ?_
  refine lv_iconst (v := 3) hx hb dX9_copy_85 (by decide) ?_
  refine r_copyl (ws' := [(a0, .inr (9, [.ref a2, .ref a3, .ref a4, .ref a5, .ref a6, .ref a7, .ref a8, .ref a9, .ref a10, .int 0, .int 0, .int 0, .int 0, .int 12, .int 1, .int 0, .int 0, .int 0])), (a1, .inr (9, [.ref a11, .ref a12, .ref a13, .ref a14, .ref a15, .ref a16, .ref a17, .ref a18, .ref a19, .int 0, .int 0, .int 0, .int 0, .int 12, .int 1, .int 0, .int 0, .int 0])), (a2, .inl (T 1, 9, .inr (.inl cn106))), (a3, .inl (T 0, 9, .inl cn47)), (a4, .inl (T 0, 9, .inl cn47)), (a5, .inl (T 0, 9, .inl cn47)), (a6, .inl (T 0, 9, .inl cn47)), (a9, .inl (T 1, 3, .inr (.inl cn107))), (a10, .inl (T 0, 3, .inl (fun _ => 0))), (a11, .inl (T 1, 9, .inr (.inl (fun _ => 0)))), (a12, .inl (T 0, 9, .inl (fun _ => 0))), (a13, .inl (T 0, 9, .inl (fun _ => 0))), (a14, .inl (T 0, 9, .inl (fun _ => 0))), (a15, .inl (T 0, 9, .inl (fun _ => 0))), (a18, .inl (T 1, 3, .inr (.inl (fun _ => 0)))), (a19, .inl (T 0, 3, .inl (fun _ => 0)))]) M w 14 7 G1348 G796 G795 G140 hl.1 rfl rfl (by decide) (by decide) (by decide) (by decide +kernel) (by decide +kernel) (by decide) (Nat.le_of_ble_eq_true rfl) rfl dX9_copy_86 (fun H locs w => ?_)
  refine lv_aload_n hx hb dX9_copy_89 rfl (lv_at hl 1 rfl) ?_
  refine r_get (v := .ref a19) M w 1 8 clX9 rfl (by decide) G384 rfl rfl dX9_copy_90 ?_
  refine lv_iconst (v := 0) hx hb dX9_copy_93 (by decide) ?_
  refine lv_aload_n hx hb dX9_copy_94 rfl (lv_at hl 0 rfl) ?_
  refine r_get (v := .ref a10) M w 0 8 clX9 rfl (by decide) G384 rfl rfl dX9_copy_95 ?_
  refine lv_iconst (v := 0) hx hb dX9_copy_98 (by decide) ?_
  refine lv_iconst (v := 3) hx hb dX9_copy_99 (by decide) ?_
  refine r_copyi (ws' := [(a0, .inr (9, [.ref a2, .ref a3, .ref a4, .ref a5, .ref a6, .ref a7, .ref a8, .ref a9, .ref a10, .int 0, .int 0, .int 0, .int 0, .int 12, .int 1, .int 0, .int 0, .int 0])), (a1, .inr (9, [.ref a11, .ref a12, .ref a13, .ref a14, .ref a15, .ref a16, .ref a17, .ref a18, .ref a19, .int 0, .int 0, .int 0, .int 0, .int 12, .int 1, .int 0, .int 0, .int 0])), (a2, .inl (T 1, 9, .inr (.inl cn106))), (a3, .inl (T 0, 9, .inl cn47)), (a4, .inl (T 0, 9, .inl cn47)), (a5, .inl (T 0, 9, .inl cn47)), (a6, .inl (T 0, 9, .inl cn47)), (a9, .inl (T 1, 3, .inr (.inl cn107))), (a10, .inl (T 0, 3, .inl cn93)), (a11, .inl (T 1, 9, .inr (.inl (fun _ => 0)))), (a12, .inl (T 0, 9, .inl (fun _ => 0))), (a13, .inl (T 0, 9, .inl (fun _ => 0))), (a14, .inl (T 0, 9, .inl (fun _ => 0))), (a15, .inl (T 0, 9, .inl (fun _ => 0))), (a18, .inl (T 1, 3, .inr (.inl (fun _ => 0)))), (a19, .inl (T 0, 3, .inl (fun _ => 0)))]) M w 15 8 G1348 G796 G795 G140 hl.1 rfl rfl (by decide) (by decide) (by decide) (by decide +kernel) (by decide +kernel) (by decide) (Nat.le_of_ble_eq_true rfl) rfl dX9_copy_100 (fun H locs w => ?_)
  refine lv_aload_n hx hb dX9_copy_103 rfl (lv_at hl 0 rfl) ?_
  refine lv_aload_n hx hb dX9_copy_104 rfl (lv_at hl 1 rfl) ?_
  refine r_get (v := .int 0) M w 1 9 clX9 rfl (by decide) G387 rfl rfl dX9_copy_105 ?_
  refine r_put (ws' := [(a0, .inr (9, [.ref a2, .ref a3, .ref a4, .ref a5, .ref a6, .ref a7, .ref a8, .ref a9, .ref a10, .int 0, .int 0, .int 0, .int 0, .int 12, .int 1, .int 0, .int 0, .int 0])), (a1, .inr (9, [.ref a11, .ref a12, .ref a13, .ref a14, .ref a15, .ref a16, .ref a17, .ref a18, .ref a19, .int 0, .int 0, .int 0, .int 0, .int 12, .int 1, .int 0, .int 0, .int 0])), (a2, .inl (T 1, 9, .inr (.inl cn106))), (a3, .inl (T 0, 9, .inl cn47)), (a4, .inl (T 0, 9, .inl cn47)), (a5, .inl (T 0, 9, .inl cn47)), (a6, .inl (T 0, 9, .inl cn47)), (a9, .inl (T 1, 3, .inr (.inl cn107))), (a10, .inl (T 0, 3, .inl cn93)), (a11, .inl (T 1, 9, .inr (.inl (fun _ => 0)))), (a12, .inl (T 0, 9, .inl (fun _ => 0))), (a13, .inl (T 0, 9, .inl (fun _ => 0))), (a14, .inl (T 0, 9, .inl (fun _ => 0))), (a15, .inl (T 0, 9, .inl (fun _ => 0))), (a18, .inl (T 1, 3, .inr (.inl (fun _ => 0)))), (a19, .inl (T 0, 3, .inl (fun _ => 0)))]) M w 0 9 clX9 rfl (by decide) G387 rfl rfl rfl rfl (Nat.le_of_ble_eq_true rfl) rfl dX9_copy_108 (fun H locs w => ?_)
  refine lv_aload_n hx hb dX9_copy_111 rfl (lv_at hl 0 rfl) ?_
  refine lv_aload_n hx hb dX9_copy_112 rfl (lv_at hl 1 rfl) ?_
  refine r_get (v := .int 0) M w 1 10 clX9 rfl (by decide) G393 rfl rfl dX9_copy_113 ?_
  refine r_put (ws' := [(a0, .inr (9, [.ref a2, .ref a3, .ref a4, .ref a5, .ref a6, .ref a7, .ref a8, .ref a9, .ref a10, .int 0, .int 0, .int 0, .int 0, .int 12, .int 1, .int 0, .int 0, .int 0])), (a1, .inr (9, [.ref a11, .ref a12, .ref a13, .ref a14, .ref a15, .ref a16, .ref a17, .ref a18, .ref a19, .int 0, .int 0, .int 0, .int 0, .int 12, .int 1, .int 0, .int 0, .int 0])), (a2, .inl (T 1, 9, .inr (.inl cn106))), (a3, .inl (T 0, 9, .inl cn47)), (a4, .inl (T 0, 9, .inl cn47)), (a5, .inl (T 0, 9, .inl cn47)), (a6, .inl (T 0, 9, .inl cn47)), (a9, .inl (T 1, 3, .inr (.inl cn107))), (a10, .inl (T 0, 3, .inl cn93)), (a11, .inl (T 1, 9, .inr (.inl (fun _ => 0)))), (a12, .inl (T 0, 9, .inl (fun _ => 0))), (a13, .inl (T 0, 9, .inl (fun _ => 0))), (a14, .inl (T 0, 9, .inl (fun _ => 0))), (a15, .inl (T 0, 9, .inl (fun _ => 0))), (a18, .inl (T 1, 3, .inr (.inl (fun _ => 0)))), (a19, .inl (T 0, 3, .inl (fun _ => 0)))]) M w 0 10 clX9 rfl (by decide) G393 rfl rfl rfl rfl (Nat.le_of_ble_eq_true rfl) rfl dX9_copy_116 (fun H locs w => ?_)
  refine lv_aload_n hx hb dX9_copy_119 rfl (lv_at hl 0 rfl) ?_
  refine lv_aload_n hx hb dX9_copy_120 rfl (lv_at hl 1 rfl) ?_
  refine r_get (v := .int 12) M w 1 13 clX9 rfl (by decide) G400 rfl rfl dX9_copy_121 ?_
  refine r_put (ws' := [(a0, .inr (9, [.ref a2, .ref a3, .ref a4, .ref a5, .ref a6, .ref a7, .ref a8, .ref a9, .ref a10, .int 0, .int 0, .int 0, .int 0, .int 12, .int 1, .int 0, .int 0, .int 0])), (a1, .inr (9, [.ref a11, .ref a12, .ref a13, .ref a14, .ref a15, .ref a16, .ref a17, .ref a18, .ref a19, .int 0, .int 0, .int 0, .int 0, .int 12, .int 1, .int 0, .int 0, .int 0])), (a2, .inl (T 1, 9, .inr (.inl cn106))), (a3, .inl (T 0, 9, .inl cn47)), (a4, .inl (T 0, 9, .inl cn47)), (a5, .inl (T 0, 9, .inl cn47)), (a6, .inl (T 0, 9, .inl cn47)), (a9, .inl (T 1, 3, .inr (.inl cn107))), (a10, .inl (T 0, 3, .inl cn93)), (a11, .inl (T 1, 9, .inr (.inl (fun _ => 0)))), (a12, .inl (T 0, 9, .inl (fun _ => 0))), (a13, .inl (T 0, 9, .inl (fun _ => 0))), (a14, .inl (T 0, 9, .inl (fun _ => 0))), (a15, .inl (T 0, 9, .inl (fun _ => 0))), (a18, .inl (T 1, 3, .inr (.inl (fun _ => 0)))), (a19, .inl (T 0, 3, .inl (fun _ => 0)))]) M w 0 13 clX9 rfl (by decide) G400 rfl rfl rfl rfl (Nat.le_of_ble_eq_true rfl) rfl dX9_copy_124 (fun H locs w => ?_)
  refine lv_aload_n hx hb dX9_copy_127 rfl (lv_at hl 0 rfl) ?_
  refine lv_aload_n hx hb dX9_copy_128 rfl (lv_at hl 1 rfl) ?_
  refine r_get (v := .int 1) M w 1 14 clX9 rfl (by decide) G402 rfl rfl dX9_copy_129 ?_
  refine r_put (ws' := [(a0, .inr (9, [.ref a2, .ref a3, .ref a4, .ref a5, .ref a6, .ref a7, .ref a8, .ref a9, .ref a10, .int 0, .int 0, .int 0, .int 0, .int 12, .int 1, .int 0, .int 0, .int 0])), (a1, .inr (9, [.ref a11, .ref a12, .ref a13, .ref a14, .ref a15, .ref a16, .ref a17, .ref a18, .ref a19, .int 0, .int 0, .int 0, .int 0, .int 12, .int 1, .int 0, .int 0, .int 0])), (a2, .inl (T 1, 9, .inr (.inl cn106))), (a3, .inl (T 0, 9, .inl cn47)), (a4, .inl (T 0, 9, .inl cn47)), (a5, .inl (T 0, 9, .inl cn47)), (a6, .inl (T 0, 9, .inl cn47)), (a9, .inl (T 1, 3, .inr (.inl cn107))), (a10, .inl (T 0, 3, .inl cn93)), (a11, .inl (T 1, 9, .inr (.inl (fun _ => 0)))), (a12, .inl (T 0, 9, .inl (fun _ => 0))), (a13, .inl (T 0, 9, .inl (fun _ => 0))), (a14, .inl (T 0, 9, .inl (fun _ => 0))), (a15, .inl (T 0, 9, .inl (fun _ => 0))), (a18, .inl (T 1, 3, .inr (.inl (fun _ => 0)))), (a19, .inl (T 0, 3, .inl (fun _ => 0)))]) M w 0 14 clX9 rfl (by decide) G402 rfl rfl rfl rfl (Nat.le_of_ble_eq_true rfl) rfl dX9_copy_132 (fun H locs w => ?_)
  exact ret () _ _ _ _ _ [0, 1, 2, 3, 4, 5, 6, 7, 8, 9, 10, 11, 12, 13, 14, 15] dX9_copy_135 trivial w (by decide) rfl
set_option maxRecDepth 100000 in
set_option maxHeartbeats 4000000 in
theorem c178_X5_copy (l : Launch) (D : va_G) (T : Nat → ClassId) (sz : Nat) (a0 a1 a2 a3 a4 a5 a6 a7 a8 a9 : Nat) : Met l yX5_copy (Cond.code yX5_copy cX5_copy 3 none :: GW) (Rm 0 0 0) (cPre [.ref a0, .ref a1] D T [(a0, .inr (5, [.ref a2, .ref a3, .ref a4, .ref a5, .int 0, .int 0])), (a1, .inr (5, [.ref a6, .ref a7, .ref a8, .ref a9, .int 0, .int 0]))] sz) (qV D [(a0, .inr (5, [.ref a2, .ref a3, .ref a4, .ref a5, .int 0, .int 0])), (a1, .inr (5, [.ref a6, .ref a7, .ref a8, .ref a9, .int 0, .int 0]))] sz (fun (u : Unit) => True) (fun u => [(a0, .inr (5, [.ref a2, .ref a3, .ref a4, .ref a5, .int 0, .int 0])), (a1, .inr (5, [.ref a6, .ref a7, .ref a8, .ref a9, .int 0, .int 0]))])) 0 0 (va_A [(a0, .inr (5, [.ref a2, .ref a3, .ref a4, .ref a5, .int 0, .int 0])), (a1, .inr (5, [.ref a6, .ref a7, .ref a8, .ref a9, .int 0, .int 0]))] sz) := by
  refine e_V (by decide) (Nat.le_of_ble_eq_true rfl) ?_
  intro p e s m args below meth c A Q ls M hin w ret hl
  have hx := M.1.1
  have hb := M.1.2.1
  have hl : lv_has ls 3 [(0, .ref a0), (1, .ref a1)] := hl
  refine lv_aload_n hx hb dX5_copy_0 rfl (lv_at hl 0 rfl) ?_
  refine lv_aload_n hx hb dX5_copy_1 rfl (lv_at hl 1 rfl) ?_
  refine r_get (v := .int 0) M w 1 4 clX5 rfl (by decide) G456 rfl rfl dX5_copy_2 ?_
  refine r_put (ws' := [(a0, .inr (5, [.ref a2, .ref a3, .ref a4, .ref a5, .int 0, .int 0])), (a1, .inr (5, [.ref a6, .ref a7, .ref a8, .ref a9, .int 0, .int 0]))]) M w 0 4 clX5 rfl (by decide) G456 rfl rfl rfl rfl (Nat.le_of_ble_eq_true rfl) rfl dX5_copy_5 (fun H locs w => ?_)
  refine lv_aload_n hx hb dX5_copy_8 rfl (lv_at hl 0 rfl) ?_
  refine lv_aload_n hx hb dX5_copy_9 rfl (lv_at hl 1 rfl) ?_
  refine r_get (v := .int 0) M w 1 5 clX5 rfl (by decide) G457 rfl rfl dX5_copy_10 ?_
  refine r_put (ws' := [(a0, .inr (5, [.ref a2, .ref a3, .ref a4, .ref a5, .int 0, .int 0])), (a1, .inr (5, [.ref a6, .ref a7, .ref a8, .ref a9, .int 0, .int 0]))]) M w 0 5 clX5 rfl (by decide) G457 rfl rfl rfl rfl (Nat.le_of_ble_eq_true rfl) rfl dX5_copy_13 (fun H locs w => ?_)
  refine lv_iconst (v := 0) hx hb dX5_copy_16 (by decide) ?_
  refine lv_istore_n (lv' := [(2, .int 0), (0, .ref a0), (1, .ref a1)]) hx hb dX5_copy_17 rfl hl (by decide) rfl (fun ls hl => ?_)
  refine lv_iload_n hx hb dX5_copy_18 rfl (lv_at hl 0 rfl) ?_
  refine lv_aload_n hx hb dX5_copy_19 rfl (lv_at hl 1 rfl) ?_
  refine r_get (v := .int 0) M w 0 4 clX5 rfl (by decide) G456 rfl rfl dX5_copy_20 ?_
  refine lv_icmp_ge (tgt := 68) hx hb dX5_copy_23 (by decide) (fun _ => ?_) (fun c => absurd (by decide +kernel) c)
  exact ret () _ _ _ _ _ [0, 1] dX5_copy_68 trivial w (by decide) rfl
set_option maxRecDepth 100000 in
set_option maxHeartbeats 4000000 in
theorem c179_X1_keep (l : Launch) (D : va_G) (T : Nat → ClassId) (sz : Nat) (a0 a1 a2 a3 a4 a5 a6 a7 a8 a9 a10 a11 a12 a13 a14 a15 a16 a17 a18 a19 a20 a21 a22 a23 a24 a25 a26 a27 a28 a29 a30 a31 a32 a33 a34 a35 a36 a37 a38 a39 a40 : Nat) : Met l yX1_keep (Cond.code yX1_keep cX1_keep 4 none :: GW) (Rm 2 0 0) (cPre [.ref a0, .ref a1, .ref a2, .ref a3] D T [(a0, .inr (1, [.ref a4, .ref a5, .ref a6, .int 0])), (a1, .inr (9, [.ref a7, .ref a8, .ref a9, .ref a10, .ref a11, .ref a12, .ref a13, .ref a14, .ref a15, .int 0, .int 0, .int 0, .int 0, .int 12, .int 1, .int 0, .int 0, .int 0])), (a2, .inr (7, [.ref a16, .ref a17, .ref a18, .ref a19, .int 0, .int 0, .int 0, .int 0])), (a3, .inr (5, [.ref a20, .ref a21, .ref a22, .ref a23, .int 0, .int 0])), (a4, .inr (9, [.ref a24, .ref a25, .ref a26, .ref a27, .ref a28, .ref a29, .ref a30, .ref a31, .ref a32, .int 0, .int 0, .int 0, .int 0, .int 12, .int 1, .int 0, .int 0, .int 0])), (a5, .inr (7, [.ref a33, .ref a34, .ref a35, .ref a36, .int 0, .int 0, .int 0, .int 0])), (a6, .inr (5, [.ref a37, .ref a38, .ref a39, .ref a40, .int 0, .int 0])), (a7, .inl (T 1, 9, .inr (.inl (fun _ => 0)))), (a8, .inl (T 0, 9, .inl (fun _ => 0))), (a9, .inl (T 0, 9, .inl (fun _ => 0))), (a10, .inl (T 0, 9, .inl (fun _ => 0))), (a11, .inl (T 0, 9, .inl (fun _ => 0))), (a14, .inl (T 1, 3, .inr (.inl (fun _ => 0)))), (a15, .inl (T 0, 3, .inl (fun _ => 0))), (a16, .inl (T 0, 9, .inl (fun _ => 0))), (a17, .inl (T 0, 9, .inl (fun _ => 0))), (a18, .inl (T 0, 9, .inl (fun _ => 0))), (a19, .inl (T 0, 3, .inl (fun _ => 0))), (a24, .inl (T 1, 9, .inr (.inl (fun _ => 0)))), (a25, .inl (T 0, 9, .inl (fun _ => 0))), (a26, .inl (T 0, 9, .inl (fun _ => 0))), (a27, .inl (T 0, 9, .inl (fun _ => 0))), (a28, .inl (T 0, 9, .inl (fun _ => 0))), (a31, .inl (T 1, 3, .inr (.inl (fun _ => 0)))), (a32, .inl (T 0, 3, .inl (fun _ => 0))), (a33, .inl (T 0, 9, .inl (fun _ => 0))), (a34, .inl (T 0, 9, .inl (fun _ => 0))), (a35, .inl (T 0, 9, .inl (fun _ => 0))), (a36, .inl (T 0, 3, .inl (fun _ => 0)))] sz) (qV D [(a0, .inr (1, [.ref a4, .ref a5, .ref a6, .int 0])), (a1, .inr (9, [.ref a7, .ref a8, .ref a9, .ref a10, .ref a11, .ref a12, .ref a13, .ref a14, .ref a15, .int 0, .int 0, .int 0, .int 0, .int 12, .int 1, .int 0, .int 0, .int 0])), (a2, .inr (7, [.ref a16, .ref a17, .ref a18, .ref a19, .int 0, .int 0, .int 0, .int 0])), (a3, .inr (5, [.ref a20, .ref a21, .ref a22, .ref a23, .int 0, .int 0])), (a4, .inr (9, [.ref a24, .ref a25, .ref a26, .ref a27, .ref a28, .ref a29, .ref a30, .ref a31, .ref a32, .int 0, .int 0, .int 0, .int 0, .int 12, .int 1, .int 0, .int 0, .int 0])), (a5, .inr (7, [.ref a33, .ref a34, .ref a35, .ref a36, .int 0, .int 0, .int 0, .int 0])), (a6, .inr (5, [.ref a37, .ref a38, .ref a39, .ref a40, .int 0, .int 0])), (a7, .inl (T 1, 9, .inr (.inl (fun _ => 0)))), (a8, .inl (T 0, 9, .inl (fun _ => 0))), (a9, .inl (T 0, 9, .inl (fun _ => 0))), (a10, .inl (T 0, 9, .inl (fun _ => 0))), (a11, .inl (T 0, 9, .inl (fun _ => 0))), (a14, .inl (T 1, 3, .inr (.inl (fun _ => 0)))), (a15, .inl (T 0, 3, .inl (fun _ => 0))), (a16, .inl (T 0, 9, .inl (fun _ => 0))), (a17, .inl (T 0, 9, .inl (fun _ => 0))), (a18, .inl (T 0, 9, .inl (fun _ => 0))), (a19, .inl (T 0, 3, .inl (fun _ => 0))), (a24, .inl (T 1, 9, .inr (.inl (fun _ => 0)))), (a25, .inl (T 0, 9, .inl (fun _ => 0))), (a26, .inl (T 0, 9, .inl (fun _ => 0))), (a27, .inl (T 0, 9, .inl (fun _ => 0))), (a28, .inl (T 0, 9, .inl (fun _ => 0))), (a31, .inl (T 1, 3, .inr (.inl (fun _ => 0)))), (a32, .inl (T 0, 3, .inl (fun _ => 0))), (a33, .inl (T 0, 9, .inl (fun _ => 0))), (a34, .inl (T 0, 9, .inl (fun _ => 0))), (a35, .inl (T 0, 9, .inl (fun _ => 0))), (a36, .inl (T 0, 3, .inl (fun _ => 0)))] sz (fun (u : Unit) => True) (fun u => [(a0, .inr (1, [.ref a4, .ref a5, .ref a6, .int 1])), (a1, .inr (9, [.ref a7, .ref a8, .ref a9, .ref a10, .ref a11, .ref a12, .ref a13, .ref a14, .ref a15, .int 0, .int 0, .int 0, .int 0, .int 12, .int 1, .int 0, .int 0, .int 0])), (a2, .inr (7, [.ref a16, .ref a17, .ref a18, .ref a19, .int 0, .int 0, .int 0, .int 0])), (a3, .inr (5, [.ref a20, .ref a21, .ref a22, .ref a23, .int 0, .int 0])), (a4, .inr (9, [.ref a24, .ref a25, .ref a26, .ref a27, .ref a28, .ref a29, .ref a30, .ref a31, .ref a32, .int 0, .int 0, .int 0, .int 0, .int 12, .int 1, .int 0, .int 0, .int 0])), (a5, .inr (7, [.ref a33, .ref a34, .ref a35, .ref a36, .int 0, .int 0, .int 0, .int 0])), (a6, .inr (5, [.ref a37, .ref a38, .ref a39, .ref a40, .int 0, .int 0])), (a7, .inl (T 1, 9, .inr (.inl (fun _ => 0)))), (a8, .inl (T 0, 9, .inl (fun _ => 0))), (a9, .inl (T 0, 9, .inl (fun _ => 0))), (a10, .inl (T 0, 9, .inl (fun _ => 0))), (a11, .inl (T 0, 9, .inl (fun _ => 0))), (a14, .inl (T 1, 3, .inr (.inl (fun _ => 0)))), (a15, .inl (T 0, 3, .inl (fun _ => 0))), (a16, .inl (T 0, 9, .inl (fun _ => 0))), (a17, .inl (T 0, 9, .inl (fun _ => 0))), (a18, .inl (T 0, 9, .inl (fun _ => 0))), (a19, .inl (T 0, 3, .inl (fun _ => 0))), (a24, .inl (T 1, 9, .inr (.inl cn106))), (a25, .inl (T 0, 9, .inl cn47)), (a26, .inl (T 0, 9, .inl cn47)), (a27, .inl (T 0, 9, .inl cn47)), (a28, .inl (T 0, 9, .inl cn47)), (a31, .inl (T 1, 3, .inr (.inl cn107))), (a32, .inl (T 0, 3, .inl cn93)), (a33, .inl (T 0, 9, .inl cn47)), (a34, .inl (T 0, 9, .inl cn47)), (a35, .inl (T 0, 9, .inl cn47)), (a36, .inl (T 0, 3, .inl cn93))])) 0 0 (va_A [(a0, .inr (1, [.ref a4, .ref a5, .ref a6, .int 0])), (a1, .inr (9, [.ref a7, .ref a8, .ref a9, .ref a10, .ref a11, .ref a12, .ref a13, .ref a14, .ref a15, .int 0, .int 0, .int 0, .int 0, .int 12, .int 1, .int 0, .int 0, .int 0])), (a2, .inr (7, [.ref a16, .ref a17, .ref a18, .ref a19, .int 0, .int 0, .int 0, .int 0])), (a3, .inr (5, [.ref a20, .ref a21, .ref a22, .ref a23, .int 0, .int 0])), (a4, .inr (9, [.ref a24, .ref a25, .ref a26, .ref a27, .ref a28, .ref a29, .ref a30, .ref a31, .ref a32, .int 0, .int 0, .int 0, .int 0, .int 12, .int 1, .int 0, .int 0, .int 0])), (a5, .inr (7, [.ref a33, .ref a34, .ref a35, .ref a36, .int 0, .int 0, .int 0, .int 0])), (a6, .inr (5, [.ref a37, .ref a38, .ref a39, .ref a40, .int 0, .int 0])), (a7, .inl (T 1, 9, .inr (.inl (fun _ => 0)))), (a8, .inl (T 0, 9, .inl (fun _ => 0))), (a9, .inl (T 0, 9, .inl (fun _ => 0))), (a10, .inl (T 0, 9, .inl (fun _ => 0))), (a11, .inl (T 0, 9, .inl (fun _ => 0))), (a14, .inl (T 1, 3, .inr (.inl (fun _ => 0)))), (a15, .inl (T 0, 3, .inl (fun _ => 0))), (a16, .inl (T 0, 9, .inl (fun _ => 0))), (a17, .inl (T 0, 9, .inl (fun _ => 0))), (a18, .inl (T 0, 9, .inl (fun _ => 0))), (a19, .inl (T 0, 3, .inl (fun _ => 0))), (a24, .inl (T 1, 9, .inr (.inl (fun _ => 0)))), (a25, .inl (T 0, 9, .inl (fun _ => 0))), (a26, .inl (T 0, 9, .inl (fun _ => 0))), (a27, .inl (T 0, 9, .inl (fun _ => 0))), (a28, .inl (T 0, 9, .inl (fun _ => 0))), (a31, .inl (T 1, 3, .inr (.inl (fun _ => 0)))), (a32, .inl (T 0, 3, .inl (fun _ => 0))), (a33, .inl (T 0, 9, .inl (fun _ => 0))), (a34, .inl (T 0, 9, .inl (fun _ => 0))), (a35, .inl (T 0, 9, .inl (fun _ => 0))), (a36, .inl (T 0, 3, .inl (fun _ => 0)))] sz) := by
  refine e_V (by decide) (Nat.le_of_ble_eq_true rfl) ?_
  intro p e s m args below meth c A Q ls M hin w ret hl
  have hx := M.1.1
  have hb := M.1.2.1
  have hl : lv_has ls 4 [(0, .ref a0), (1, .ref a1), (2, .ref a2), (3, .ref a3)] := hl
  refine lv_aload_n hx hb dX1_keep_0 rfl (lv_at hl 0 rfl) ?_
  refine r_get (v := .ref a4) M w 0 0 clX1 rfl (by decide) G483 rfl rfl dX1_keep_1 ?_
  refine lv_aload_n hx hb dX1_keep_4 rfl (lv_at hl 1 rfl) ?_
  refine k_V (ce := 0) (sl := 0) (rest := []) (wr := [(a0, .inr (1, [.ref a4, .ref a5, .ref a6, .int 0])), (a2, .inr (7, [.ref a16, .ref a17, .ref a18, .ref a19, .int 0, .int 0, .int 0, .int 0])), (a3, .inr (5, [.ref a20, .ref a21, .ref a22, .ref a23, .int 0, .int 0])), (a5, .inr (7, [.ref a33, .ref a34, .ref a35, .ref a36, .int 0, .int 0, .int 0, .int 0])), (a6, .inr (5, [.ref a37, .ref a38, .ref a39, .ref a40, .int 0, .int 0])), (a16, .inl (T 0, 9, .inl (fun _ => 0))), (a17, .inl (T 0, 9, .inl (fun _ => 0))), (a18, .inl (T 0, 9, .inl (fun _ => 0))), (a19, .inl (T 0, 3, .inl (fun _ => 0))), (a33, .inl (T 0, 9, .inl (fun _ => 0))), (a34, .inl (T 0, 9, .inl (fun _ => 0))), (a35, .inl (T 0, 9, .inl (fun _ => 0))), (a36, .inl (T 0, 3, .inl (fun _ => 0)))]) (r_V (f := 1) [4, 1, 18, 19, 20, 21, 22, 23, 24, 7, 8, 9, 10, 11, 12, 13] M w V_HookedCity_Image_34 G1345 G1346 (c177_X9_copy l D T _ a4 a1 a24 a25 a26 a27 a28 a29 a30 a31 a32 a7 a8 a9 a10 a11 a12 a13 a14 a15) 4 clX9 rfl rfl (by decide) rfl hl.1 rfl (Nat.le_of_ble_eq_true rfl) dX1_keep_5 (by decide) (by decide) (by decide) (by decide)) w [4, 1, 18, 19, 20, 21, 22, 23, 24, 7, 8, 9, 10, 11, 12, 13] [0, 2, 3, 5, 6, 14, 15, 16, 17, 25, 26, 27, 28] rfl rfl (by decide) (by decide) rfl rfl (fun _ H locs hp w => ?_)
  have w : WD D A s.heap [(a0, .inr (1, [.ref a4, .ref a5, .ref a6, .int 0])), (a2, .inr (7, [.ref a16, .ref a17, .ref a18, .ref a19, .int 0, .int 0, .int 0, .int 0])), (a3, .inr (5, [.ref a20, .ref a21, .ref a22, .ref a23, .int 0, .int 0])), (a5, .inr (7, [.ref a33, .ref a34, .ref a35, .ref a36, .int 0, .int 0, .int 0, .int 0])), (a6, .inr (5, [.ref a37, .ref a38, .ref a39, .ref a40, .int 0, .int 0])), (a16, .inl (T 0, 9, .inl (fun _ => 0))), (a17, .inl (T 0, 9, .inl (fun _ => 0))), (a18, .inl (T 0, 9, .inl (fun _ => 0))), (a19, .inl (T 0, 3, .inl (fun _ => 0))), (a33, .inl (T 0, 9, .inl (fun _ => 0))), (a34, .inl (T 0, 9, .inl (fun _ => 0))), (a35, .inl (T 0, 9, .inl (fun _ => 0))), (a36, .inl (T 0, 3, .inl (fun _ => 0))), (a4, .inr (9, [.ref a24, .ref a25, .ref a26, .ref a27, .ref a28, .ref a29, .ref a30, .ref a31, .ref a32, .int 0, .int 0, .int 0, .int 0, .int 12, .int 1, .int 0, .int 0, .int 0])), (a1, .inr (9, [.ref a7, .ref a8, .ref a9, .ref a10, .ref a11, .ref a12, .ref a13, .ref a14, .ref a15, .int 0, .int 0, .int 0, .int 0, .int 12, .int 1, .int 0, .int 0, .int 0])), (a24, .inl (T 1, 9, .inr (.inl cn106))), (a25, .inl (T 0, 9, .inl cn47)), (a26, .inl (T 0, 9, .inl cn47)), (a27, .inl (T 0, 9, .inl cn47)), (a28, .inl (T 0, 9, .inl cn47)), (a31, .inl (T 1, 3, .inr (.inl cn107))), (a32, .inl (T 0, 3, .inl cn93)), (a7, .inl (T 1, 9, .inr (.inl (fun _ => 0)))), (a8, .inl (T 0, 9, .inl (fun _ => 0))), (a9, .inl (T 0, 9, .inl (fun _ => 0))), (a10, .inl (T 0, 9, .inl (fun _ => 0))), (a11, .inl (T 0, 9, .inl (fun _ => 0))), (a14, .inl (T 1, 3, .inr (.inl (fun _ => 0)))), (a15, .inl (T 0, 3, .inl (fun _ => 0)))] H locs := w
  refine lv_aload_n hx hb dX1_keep_8 rfl (lv_at hl 0 rfl) ?_
  refine r_get (v := .ref a5) M w 0 1 clX1 rfl (by decide) G484 rfl rfl dX1_keep_9 ?_
  refine lv_aload_n hx hb dX1_keep_12 rfl (lv_at hl 2 rfl) ?_
  refine k_V (ce := 0) (sl := 0) (rest := []) (wr := [(a0, .inr (1, [.ref a4, .ref a5, .ref a6, .int 0])), (a3, .inr (5, [.ref a20, .ref a21, .ref a22, .ref a23, .int 0, .int 0])), (a6, .inr (5, [.ref a37, .ref a38, .ref a39, .ref a40, .int 0, .int 0])), (a4, .inr (9, [.ref a24, .ref a25, .ref a26, .ref a27, .ref a28, .ref a29, .ref a30, .ref a31, .ref a32, .int 0, .int 0, .int 0, .int 0, .int 12, .int 1, .int 0, .int 0, .int 0])), (a1, .inr (9, [.ref a7, .ref a8, .ref a9, .ref a10, .ref a11, .ref a12, .ref a13, .ref a14, .ref a15, .int 0, .int 0, .int 0, .int 0, .int 12, .int 1, .int 0, .int 0, .int 0])), (a24, .inl (T 1, 9, .inr (.inl cn106))), (a25, .inl (T 0, 9, .inl cn47)), (a26, .inl (T 0, 9, .inl cn47)), (a27, .inl (T 0, 9, .inl cn47)), (a28, .inl (T 0, 9, .inl cn47)), (a31, .inl (T 1, 3, .inr (.inl cn107))), (a32, .inl (T 0, 3, .inl cn93)), (a7, .inl (T 1, 9, .inr (.inl (fun _ => 0)))), (a8, .inl (T 0, 9, .inl (fun _ => 0))), (a9, .inl (T 0, 9, .inl (fun _ => 0))), (a10, .inl (T 0, 9, .inl (fun _ => 0))), (a11, .inl (T 0, 9, .inl (fun _ => 0))), (a14, .inl (T 1, 3, .inr (.inl (fun _ => 0)))), (a15, .inl (T 0, 3, .inl (fun _ => 0)))]) (r_V (f := 1) [3, 1, 9, 10, 11, 12, 5, 6, 7, 8] M w V_HookedCity_Image_38 G864 G865 (c130_X7_copy l D T _ a5 a2 a33 a34 a35 a36 a16 a17 a18 a19) 3 clX7 rfl rfl (by decide) rfl hl.1 rfl (Nat.le_of_ble_eq_true rfl) dX1_keep_13 (by decide) (by decide) (by decide) (by decide)) w [3, 1, 9, 10, 11, 12, 5, 6, 7, 8] [0, 2, 4, 13, 14, 15, 16, 17, 18, 19, 20, 21, 22, 23, 24, 25, 26, 27, 28] rfl rfl (by decide) (by decide) rfl rfl (fun _ H locs hp w => ?_)
  have w : WD D A s.heap [(a0, .inr (1, [.ref a4, .ref a5, .ref a6, .int 0])), (a3, .inr (5, [.ref a20, .ref a21, .ref a22, .ref a23, .int 0, .int 0])), (a6, .inr (5, [.ref a37, .ref a38, .ref a39, .ref a40, .int 0, .int 0])), (a4, .inr (9, [.ref a24, .ref a25, .ref a26, .ref a27, .ref a28, .ref a29, .ref a30, .ref a31, .ref a32, .int 0, .int 0, .int 0, .int 0, .int 12, .int 1, .int 0, .int 0, .int 0])), (a1, .inr (9, [.ref a7, .ref a8, .ref a9, .ref a10, .ref a11, .ref a12, .ref a13, .ref a14, .ref a15, .int 0, .int 0, .int 0, .int 0, .int 12, .int 1, .int 0, .int 0, .int 0])), (a24, .inl (T 1, 9, .inr (.inl cn106))), (a25, .inl (T 0, 9, .inl cn47)), (a26, .inl (T 0, 9, .inl cn47)), (a27, .inl (T 0, 9, .inl cn47)), (a28, .inl (T 0, 9, .inl cn47)), (a31, .inl (T 1, 3, .inr (.inl cn107))), (a32, .inl (T 0, 3, .inl cn93)), (a7, .inl (T 1, 9, .inr (.inl (fun _ => 0)))), (a8, .inl (T 0, 9, .inl (fun _ => 0))), (a9, .inl (T 0, 9, .inl (fun _ => 0))), (a10, .inl (T 0, 9, .inl (fun _ => 0))), (a11, .inl (T 0, 9, .inl (fun _ => 0))), (a14, .inl (T 1, 3, .inr (.inl (fun _ => 0)))), (a15, .inl (T 0, 3, .inl (fun _ => 0))), (a5, .inr (7, [.ref a33, .ref a34, .ref a35, .ref a36, .int 0, .int 0, .int 0, .int 0])), (a2, .inr (7, [.ref a16, .ref a17, .ref a18, .ref a19, .int 0, .int 0, .int 0, .int 0])), (a33, .inl (T 0, 9, .inl cn47)), (a34, .inl (T 0, 9, .inl cn47)), (a35, .inl (T 0, 9, .inl cn47)), (a36, .inl (T 0, 3, .inl cn93)), (a16, .inl (T 0, 9, .inl (fun _ => 0))), (a17, .inl (T 0, 9, .inl (fun _ => 0))), (a18, .inl (T 0, 9, .inl (fun _ => 0))), (a19, .inl (T 0, 3, .inl (fun _ => 0)))] H locs := w
  refine lv_aload_n hx hb dX1_keep_16 rfl (lv_at hl 0 rfl) ?_
  refine r_get (v := .ref a6) M w 0 2 clX1 rfl (by decide) G485 rfl rfl dX1_keep_17 ?_
  refine lv_aload_n hx hb dX1_keep_20 rfl (lv_at hl 3 rfl) ?_
  refine k_V (ce := 0) (sl := 0) (rest := []) (wr := [(a0, .inr (1, [.ref a4, .ref a5, .ref a6, .int 0])), (a4, .inr (9, [.ref a24, .ref a25, .ref a26, .ref a27, .ref a28, .ref a29, .ref a30, .ref a31, .ref a32, .int 0, .int 0, .int 0, .int 0, .int 12, .int 1, .int 0, .int 0, .int 0])), (a1, .inr (9, [.ref a7, .ref a8, .ref a9, .ref a10, .ref a11, .ref a12, .ref a13, .ref a14, .ref a15, .int 0, .int 0, .int 0, .int 0, .int 12, .int 1, .int 0, .int 0, .int 0])), (a24, .inl (T 1, 9, .inr (.inl cn106))), (a25, .inl (T 0, 9, .inl cn47)), (a26, .inl (T 0, 9, .inl cn47)), (a27, .inl (T 0, 9, .inl cn47)), (a28, .inl (T 0, 9, .inl cn47)), (a31, .inl (T 1, 3, .inr (.inl cn107))), (a32, .inl (T 0, 3, .inl cn93)), (a7, .inl (T 1, 9, .inr (.inl (fun _ => 0)))), (a8, .inl (T 0, 9, .inl (fun _ => 0))), (a9, .inl (T 0, 9, .inl (fun _ => 0))), (a10, .inl (T 0, 9, .inl (fun _ => 0))), (a11, .inl (T 0, 9, .inl (fun _ => 0))), (a14, .inl (T 1, 3, .inr (.inl (fun _ => 0)))), (a15, .inl (T 0, 3, .inl (fun _ => 0))), (a5, .inr (7, [.ref a33, .ref a34, .ref a35, .ref a36, .int 0, .int 0, .int 0, .int 0])), (a2, .inr (7, [.ref a16, .ref a17, .ref a18, .ref a19, .int 0, .int 0, .int 0, .int 0])), (a33, .inl (T 0, 9, .inl cn47)), (a34, .inl (T 0, 9, .inl cn47)), (a35, .inl (T 0, 9, .inl cn47)), (a36, .inl (T 0, 3, .inl cn93)), (a16, .inl (T 0, 9, .inl (fun _ => 0))), (a17, .inl (T 0, 9, .inl (fun _ => 0))), (a18, .inl (T 0, 9, .inl (fun _ => 0))), (a19, .inl (T 0, 3, .inl (fun _ => 0)))]) (r_V (f := 0) [2, 1] M w V_HookedCity_Image_41 G1351 G1352 (c178_X5_copy l D T _ a6 a3 a37 a38 a39 a40 a20 a21 a22 a23) 2 clX5 rfl rfl (by decide) rfl hl.1 rfl (Nat.le_of_ble_eq_true rfl) dX1_keep_21 (by decide) (by decide) (by decide) (by decide)) w [2, 1] [0, 3, 4, 5, 6, 7, 8, 9, 10, 11, 12, 13, 14, 15, 16, 17, 18, 19, 20, 21, 22, 23, 24, 25, 26, 27, 28] rfl rfl (by decide) (by decide) rfl rfl (fun _ H locs hp w => ?_)
  have w : WD D A s.heap [(a0, .inr (1, [.ref a4, .ref a5, .ref a6, .int 0])), (a4, .inr (9, [.ref a24, .ref a25, .ref a26, .ref a27, .ref a28, .ref a29, .ref a30, .ref a31, .ref a32, .int 0, .int 0, .int 0, .int 0, .int 12, .int 1, .int 0, .int 0, .int 0])), (a1, .inr (9, [.ref a7, .ref a8, .ref a9, .ref a10, .ref a11, .ref a12, .ref a13, .ref a14, .ref a15, .int 0, .int 0, .int 0, .int 0, .int 12, .int 1, .int 0, .int 0, .int 0])), (a24, .inl (T 1, 9, .inr (.inl cn106))), (a25, .inl (T 0, 9, .inl cn47)), (a26, .inl (T 0, 9, .inl cn47)), (a27, .inl (T 0, 9, .inl cn47)), (a28, .inl (T 0, 9, .inl cn47)), (a31, .inl (T 1, 3, .inr (.inl cn107))), (a32, .inl (T 0, 3, .inl cn93)), (a7, .inl (T 1, 9, .inr (.inl (fun _ => 0)))), (a8, .inl (T 0, 9, .inl (fun _ => 0))), (a9, .inl (T 0, 9, .inl (fun _ => 0))), (a10, .inl (T 0, 9, .inl (fun _ => 0))), (a11, .inl (T 0, 9, .inl (fun _ => 0))), (a14, .inl (T 1, 3, .inr (.inl (fun _ => 0)))), (a15, .inl (T 0, 3, .inl (fun _ => 0))), (a5, .inr (7, [.ref a33, .ref a34, .ref a35, .ref a36, .int 0, .int 0, .int 0, .int 0])), (a2, .inr (7, [.ref a16, .ref a17, .ref a18, .ref a19, .int 0, .int 0, .int 0, .int 0])), (a33, .inl (T 0, 9, .inl cn47)), (a34, .inl (T 0, 9, .inl cn47)), (a35, .inl (T 0, 9, .inl cn47)), (a36, .inl (T 0, 3, .inl cn93)), (a16, .inl (T 0, 9, .inl (fun _ => 0))), (a17, .inl (T 0, 9, .inl (fun _ => 0))), (a18, .inl (T 0, 9, .inl (fun _ => 0))), (a19, .inl (T 0, 3, .inl (fun _ => 0))), (a6, .inr (5, [.ref a37, .ref a38, .ref a39, .ref a40, .int 0, .int 0])), (a3, .inr (5, [.ref a20, .ref a21, .ref a22, .ref a23, .int 0, .int 0]))] H locs := w
  refine lv_aload_n hx hb dX1_keep_24 rfl (lv_at hl 0 rfl) ?_
  refine lv_iconst (v := 1) hx hb dX1_keep_25 (by decide) ?_
  refine r_put (ws' := [(a0, .inr (1, [.ref a4, .ref a5, .ref a6, .int 1])), (a4, .inr (9, [.ref a24, .ref a25, .ref a26, .ref a27, .ref a28, .ref a29, .ref a30, .ref a31, .ref a32, .int 0, .int 0, .int 0, .int 0, .int 12, .int 1, .int 0, .int 0, .int 0])), (a1, .inr (9, [.ref a7, .ref a8, .ref a9, .ref a10, .ref a11, .ref a12, .ref a13, .ref a14, .ref a15, .int 0, .int 0, .int 0, .int 0, .int 12, .int 1, .int 0, .int 0, .int 0])), (a24, .inl (T 1, 9, .inr (.inl cn106))), (a25, .inl (T 0, 9, .inl cn47)), (a26, .inl (T 0, 9, .inl cn47)), (a27, .inl (T 0, 9, .inl cn47)), (a28, .inl (T 0, 9, .inl cn47)), (a31, .inl (T 1, 3, .inr (.inl cn107))), (a32, .inl (T 0, 3, .inl cn93)), (a7, .inl (T 1, 9, .inr (.inl (fun _ => 0)))), (a8, .inl (T 0, 9, .inl (fun _ => 0))), (a9, .inl (T 0, 9, .inl (fun _ => 0))), (a10, .inl (T 0, 9, .inl (fun _ => 0))), (a11, .inl (T 0, 9, .inl (fun _ => 0))), (a14, .inl (T 1, 3, .inr (.inl (fun _ => 0)))), (a15, .inl (T 0, 3, .inl (fun _ => 0))), (a5, .inr (7, [.ref a33, .ref a34, .ref a35, .ref a36, .int 0, .int 0, .int 0, .int 0])), (a2, .inr (7, [.ref a16, .ref a17, .ref a18, .ref a19, .int 0, .int 0, .int 0, .int 0])), (a33, .inl (T 0, 9, .inl cn47)), (a34, .inl (T 0, 9, .inl cn47)), (a35, .inl (T 0, 9, .inl cn47)), (a36, .inl (T 0, 3, .inl cn93)), (a16, .inl (T 0, 9, .inl (fun _ => 0))), (a17, .inl (T 0, 9, .inl (fun _ => 0))), (a18, .inl (T 0, 9, .inl (fun _ => 0))), (a19, .inl (T 0, 3, .inl (fun _ => 0))), (a6, .inr (5, [.ref a37, .ref a38, .ref a39, .ref a40, .int 0, .int 0])), (a3, .inr (5, [.ref a20, .ref a21, .ref a22, .ref a23, .int 0, .int 0]))]) M w 0 3 clX1 rfl (by decide) G486 rfl rfl (by decide +kernel) (by decide +kernel) (Nat.le_of_ble_eq_true rfl) rfl dX1_keep_26 (fun H locs w => ?_)
  exact ret () _ _ _ _ _ [0, 2, 18, 28, 1, 17, 27, 10, 11, 12, 13, 14, 15, 16, 23, 24, 25, 26, 3, 4, 5, 6, 7, 8, 9, 19, 20, 21, 22] dX1_keep_29 trivial w (by decide) rfl
set_option maxRecDepth 100000 in
set_option maxHeartbeats 4000000 in
theorem c180_X11_image (l : Launch) (D : va_G) (T : Nat → ClassId) (sz : Nat) (a0 a1 a2 a3 a4 a5 a6 a7 a8 a9 a10 a11 a12 a13 a14 a15 a16 a17 a18 a20 a19 a21 a22 a23 a24 a25 a26 a27 a28 a29 a30 a31 a32 a33 a34 a35 a36 a37 a38 a39 a40 a41 a42 a43 a44 a45 a46 a47 a48 a49 a50 a51 a52 a53 a54 a55 a56 a57 a58 a59 a60 a61 a62 a63 a64 a65 a66 a67 a68 a69 a70 a71 a72 a73 : Nat) (x0 : Int32) : Met l yX11_image (Cond.code yX11_image cX11_image 2 (some .boolean) :: GW) (Rm 3 0 0) (cPre [.ref a0, .int x0] D T [(a0, .inr (10, [.ref a1, .ref a2, .ref a3, .ref a4, .ref a5, .ref a6, .ref a7, .ref a8, .ref a9, .ref a10, .ref a11, .ref a12, .ref a13, .ref a14, .int 0, .int 0, .int 0])), (a2, .inr (7, [.ref a15, .ref a16, .ref a17, .ref a18, .int 0, .int 0, .int 0, .int 0])), (a10, .inl (T 4, 2, .inr (.inr (.inr (.inr (va_up (va_up (fun _ => none) (Int32.toNatClampNeg (0 : Int32)) (some a19)) (Int32.toNatClampNeg (1 : Int32)) (some a20))))))), (a11, .inr (9, [.ref a21, .ref a22, .ref a23, .ref a24, .ref a25, .ref a26, .ref a27, .ref a28, .ref a29, .int 0, .int 0, .int 0, .int 0, .int 12, .int 1, .int 0, .int 0, .int 0])), (a13, .inr (5, [.ref a30, .ref a31, .ref a32, .ref a33, .int 0, .int 0])), (a15, .inl (T 0, 9, .inl (fun _ => 0))), (a16, .inl (T 0, 9, .inl (fun _ => 0))), (a17, .inl (T 0, 9, .inl (fun _ => 0))), (a18, .inl (T 0, 3, .inl (fun _ => 0))), (a20, .inr (1, [.ref a34, .ref a35, .ref a36, .int 0])), (a19, .inr (1, [.ref a37, .ref a38, .ref a39, .int 0])), (a21, .inl (T 1, 9, .inr (.inl (fun _ => 0)))), (a22, .inl (T 0, 9, .inl (fun _ => 0))), (a23, .inl (T 0, 9, .inl (fun _ => 0))), (a24, .inl (T 0, 9, .inl (fun _ => 0))), (a25, .inl (T 0, 9, .inl (fun _ => 0))), (a28, .inl (T 1, 3, .inr (.inl (fun _ => 0)))), (a29, .inl (T 0, 3, .inl (fun _ => 0))), (a34, .inr (9, [.ref a40, .ref a41, .ref a42, .ref a43, .ref a44, .ref a45, .ref a46, .ref a47, .ref a48, .int 0, .int 0, .int 0, .int 0, .int 12, .int 1, .int 0, .int 0, .int 0])), (a35, .inr (7, [.ref a49, .ref a50, .ref a51, .ref a52, .int 0, .int 0, .int 0, .int 0])), (a36, .inr (5, [.ref a53, .ref a54, .ref a55, .ref a56, .int 0, .int 0])), (a37, .inr (9, [.ref a57, .ref a58, .ref a59, .ref a60, .ref a61, .ref a62, .ref a63, .ref a64, .ref a65, .int 0, .int 0, .int 0, .int 0, .int 12, .int 1, .int 0, .int 0, .int 0])), (a38, .inr (7, [.ref a66, .ref a67, .ref a68, .ref a69, .int 0, .int 0, .int 0, .int 0])), (a39, .inr (5, [.ref a70, .ref a71, .ref a72, .ref a73, .int 0, .int 0])), (a40, .inl (T 1, 9, .inr (.inl (fun _ => 0)))), (a41, .inl (T 0, 9, .inl (fun _ => 0))), (a42, .inl (T 0, 9, .inl (fun _ => 0))), (a43, .inl (T 0, 9, .inl (fun _ => 0))), (a44, .inl (T 0, 9, .inl (fun _ => 0))), (a47, .inl (T 1, 3, .inr (.inl (fun _ => 0)))), (a48, .inl (T 0, 3, .inl (fun _ => 0))), (a49, .inl (T 0, 9, .inl (fun _ => 0))), (a50, .inl (T 0, 9, .inl (fun _ => 0))), (a51, .inl (T 0, 9, .inl (fun _ => 0))), (a52, .inl (T 0, 3, .inl (fun _ => 0))), (a57, .inl (T 1, 9, .inr (.inl (fun _ => 0)))), (a58, .inl (T 0, 9, .inl (fun _ => 0))), (a59, .inl (T 0, 9, .inl (fun _ => 0))), (a60, .inl (T 0, 9, .inl (fun _ => 0))), (a61, .inl (T 0, 9, .inl (fun _ => 0))), (a64, .inl (T 1, 3, .inr (.inl (fun _ => 0)))), (a65, .inl (T 0, 3, .inl (fun _ => 0))), (a66, .inl (T 0, 9, .inl (fun _ => 0))), (a67, .inl (T 0, 9, .inl (fun _ => 0))), (a68, .inl (T 0, 9, .inl (fun _ => 0))), (a69, .inl (T 0, 3, .inl (fun _ => 0)))] sz) (qI D [(a0, .inr (10, [.ref a1, .ref a2, .ref a3, .ref a4, .ref a5, .ref a6, .ref a7, .ref a8, .ref a9, .ref a10, .ref a11, .ref a12, .ref a13, .ref a14, .int 0, .int 0, .int 0])), (a2, .inr (7, [.ref a15, .ref a16, .ref a17, .ref a18, .int 0, .int 0, .int 0, .int 0])), (a10, .inl (T 4, 2, .inr (.inr (.inr (.inr (va_up (va_up (fun _ => none) (Int32.toNatClampNeg (0 : Int32)) (some a19)) (Int32.toNatClampNeg (1 : Int32)) (some a20))))))), (a11, .inr (9, [.ref a21, .ref a22, .ref a23, .ref a24, .ref a25, .ref a26, .ref a27, .ref a28, .ref a29, .int 0, .int 0, .int 0, .int 0, .int 12, .int 1, .int 0, .int 0, .int 0])), (a13, .inr (5, [.ref a30, .ref a31, .ref a32, .ref a33, .int 0, .int 0])), (a15, .inl (T 0, 9, .inl (fun _ => 0))), (a16, .inl (T 0, 9, .inl (fun _ => 0))), (a17, .inl (T 0, 9, .inl (fun _ => 0))), (a18, .inl (T 0, 3, .inl (fun _ => 0))), (a20, .inr (1, [.ref a34, .ref a35, .ref a36, .int 0])), (a19, .inr (1, [.ref a37, .ref a38, .ref a39, .int 0])), (a21, .inl (T 1, 9, .inr (.inl (fun _ => 0)))), (a22, .inl (T 0, 9, .inl (fun _ => 0))), (a23, .inl (T 0, 9, .inl (fun _ => 0))), (a24, .inl (T 0, 9, .inl (fun _ => 0))), (a25, .inl (T 0, 9, .inl (fun _ => 0))), (a28, .inl (T 1, 3, .inr (.inl (fun _ => 0)))), (a29, .inl (T 0, 3, .inl (fun _ => 0))), (a34, .inr (9, [.ref a40, .ref a41, .ref a42, .ref a43, .ref a44, .ref a45, .ref a46, .ref a47, .ref a48, .int 0, .int 0, .int 0, .int 0, .int 12, .int 1, .int 0, .int 0, .int 0])), (a35, .inr (7, [.ref a49, .ref a50, .ref a51, .ref a52, .int 0, .int 0, .int 0, .int 0])), (a36, .inr (5, [.ref a53, .ref a54, .ref a55, .ref a56, .int 0, .int 0])), (a37, .inr (9, [.ref a57, .ref a58, .ref a59, .ref a60, .ref a61, .ref a62, .ref a63, .ref a64, .ref a65, .int 0, .int 0, .int 0, .int 0, .int 12, .int 1, .int 0, .int 0, .int 0])), (a38, .inr (7, [.ref a66, .ref a67, .ref a68, .ref a69, .int 0, .int 0, .int 0, .int 0])), (a39, .inr (5, [.ref a70, .ref a71, .ref a72, .ref a73, .int 0, .int 0])), (a40, .inl (T 1, 9, .inr (.inl (fun _ => 0)))), (a41, .inl (T 0, 9, .inl (fun _ => 0))), (a42, .inl (T 0, 9, .inl (fun _ => 0))), (a43, .inl (T 0, 9, .inl (fun _ => 0))), (a44, .inl (T 0, 9, .inl (fun _ => 0))), (a47, .inl (T 1, 3, .inr (.inl (fun _ => 0)))), (a48, .inl (T 0, 3, .inl (fun _ => 0))), (a49, .inl (T 0, 9, .inl (fun _ => 0))), (a50, .inl (T 0, 9, .inl (fun _ => 0))), (a51, .inl (T 0, 9, .inl (fun _ => 0))), (a52, .inl (T 0, 3, .inl (fun _ => 0))), (a57, .inl (T 1, 9, .inr (.inl (fun _ => 0)))), (a58, .inl (T 0, 9, .inl (fun _ => 0))), (a59, .inl (T 0, 9, .inl (fun _ => 0))), (a60, .inl (T 0, 9, .inl (fun _ => 0))), (a61, .inl (T 0, 9, .inl (fun _ => 0))), (a64, .inl (T 1, 3, .inr (.inl (fun _ => 0)))), (a65, .inl (T 0, 3, .inl (fun _ => 0))), (a66, .inl (T 0, 9, .inl (fun _ => 0))), (a67, .inl (T 0, 9, .inl (fun _ => 0))), (a68, .inl (T 0, 9, .inl (fun _ => 0))), (a69, .inl (T 0, 3, .inl (fun _ => 0)))] sz (fun (v : Int32) (u : Unit) => (x0 < (0 : Int32) ∧ (0 : Int32) = v) ∨ (¬ x0 < (0 : Int32) ∧ ¬ x0 < (2 : Int32) ∧ (0 : Int32) = v) ∨ (¬ x0 < (0 : Int32) ∧ x0 < (2 : Int32) ∧ x0 = (0 : Int32) ∧ (1 : Int32) = v) ∨ (¬ x0 < (0 : Int32) ∧ x0 < (2 : Int32) ∧ x0 = (1 : Int32) ∧ (1 : Int32) = v)) (fun u => [])) 0 0 (va_A [(a0, .inr (10, [.ref a1, .ref a2, .ref a3, .ref a4, .ref a5, .ref a6, .ref a7, .ref a8, .ref a9, .ref a10, .ref a11, .ref a12, .ref a13, .ref a14, .int 0, .int 0, .int 0])), (a2, .inr (7, [.ref a15, .ref a16, .ref a17, .ref a18, .int 0, .int 0, .int 0, .int 0])), (a10, .inl (T 4, 2, .inr (.inr (.inr (.inr (va_up (va_up (fun _ => none) (Int32.toNatClampNeg (0 : Int32)) (some a19)) (Int32.toNatClampNeg (1 : Int32)) (some a20))))))), (a11, .inr (9, [.ref a21, .ref a22, .ref a23, .ref a24, .ref a25, .ref a26, .ref a27, .ref a28, .ref a29, .int 0, .int 0, .int 0, .int 0, .int 12, .int 1, .int 0, .int 0, .int 0])), (a13, .inr (5, [.ref a30, .ref a31, .ref a32, .ref a33, .int 0, .int 0])), (a15, .inl (T 0, 9, .inl (fun _ => 0))), (a16, .inl (T 0, 9, .inl (fun _ => 0))), (a17, .inl (T 0, 9, .inl (fun _ => 0))), (a18, .inl (T 0, 3, .inl (fun _ => 0))), (a20, .inr (1, [.ref a34, .ref a35, .ref a36, .int 0])), (a19, .inr (1, [.ref a37, .ref a38, .ref a39, .int 0])), (a21, .inl (T 1, 9, .inr (.inl (fun _ => 0)))), (a22, .inl (T 0, 9, .inl (fun _ => 0))), (a23, .inl (T 0, 9, .inl (fun _ => 0))), (a24, .inl (T 0, 9, .inl (fun _ => 0))), (a25, .inl (T 0, 9, .inl (fun _ => 0))), (a28, .inl (T 1, 3, .inr (.inl (fun _ => 0)))), (a29, .inl (T 0, 3, .inl (fun _ => 0))), (a34, .inr (9, [.ref a40, .ref a41, .ref a42, .ref a43, .ref a44, .ref a45, .ref a46, .ref a47, .ref a48, .int 0, .int 0, .int 0, .int 0, .int 12, .int 1, .int 0, .int 0, .int 0])), (a35, .inr (7, [.ref a49, .ref a50, .ref a51, .ref a52, .int 0, .int 0, .int 0, .int 0])), (a36, .inr (5, [.ref a53, .ref a54, .ref a55, .ref a56, .int 0, .int 0])), (a37, .inr (9, [.ref a57, .ref a58, .ref a59, .ref a60, .ref a61, .ref a62, .ref a63, .ref a64, .ref a65, .int 0, .int 0, .int 0, .int 0, .int 12, .int 1, .int 0, .int 0, .int 0])), (a38, .inr (7, [.ref a66, .ref a67, .ref a68, .ref a69, .int 0, .int 0, .int 0, .int 0])), (a39, .inr (5, [.ref a70, .ref a71, .ref a72, .ref a73, .int 0, .int 0])), (a40, .inl (T 1, 9, .inr (.inl (fun _ => 0)))), (a41, .inl (T 0, 9, .inl (fun _ => 0))), (a42, .inl (T 0, 9, .inl (fun _ => 0))), (a43, .inl (T 0, 9, .inl (fun _ => 0))), (a44, .inl (T 0, 9, .inl (fun _ => 0))), (a47, .inl (T 1, 3, .inr (.inl (fun _ => 0)))), (a48, .inl (T 0, 3, .inl (fun _ => 0))), (a49, .inl (T 0, 9, .inl (fun _ => 0))), (a50, .inl (T 0, 9, .inl (fun _ => 0))), (a51, .inl (T 0, 9, .inl (fun _ => 0))), (a52, .inl (T 0, 3, .inl (fun _ => 0))), (a57, .inl (T 1, 9, .inr (.inl (fun _ => 0)))), (a58, .inl (T 0, 9, .inl (fun _ => 0))), (a59, .inl (T 0, 9, .inl (fun _ => 0))), (a60, .inl (T 0, 9, .inl (fun _ => 0))), (a61, .inl (T 0, 9, .inl (fun _ => 0))), (a64, .inl (T 1, 3, .inr (.inl (fun _ => 0)))), (a65, .inl (T 0, 3, .inl (fun _ => 0))), (a66, .inl (T 0, 9, .inl (fun _ => 0))), (a67, .inl (T 0, 9, .inl (fun _ => 0))), (a68, .inl (T 0, 9, .inl (fun _ => 0))), (a69, .inl (T 0, 3, .inl (fun _ => 0)))] sz) := by
  refine e_Z (by decide) (Nat.le_of_ble_eq_true rfl) ?_
  intro p e s m args below meth c A Q ls M hin w ret hl
  have hx := M.1.1
  have hb := M.1.2.1
  have hl : lv_has ls 2 [(0, .ref a0), (1, .int x0)] := hl
  refine lv_iload_n hx hb dX11_image_0 rfl (lv_at hl 1 rfl) ?_
  refine lv_if_lt (tgt := 9) hx hb dX11_image_1 (by decide) (fun c_1 => ?_) (fun c_1 => ?_)
  · refine lv_iconst (v := 0) hx hb dX11_image_9 (by decide) ?_
    exact ret _ () _ _ _ _ _ [] dX11_image_10 (by decide +kernel) (Or.inl ⟨c_1, rfl⟩) w (by decide) rfl
  · refine lv_iload_n hx hb dX11_image_4 rfl (lv_at hl 1 rfl) ?_
    refine lv_iconst (v := 2) hx hb dX11_image_5 (by decide) ?_
    refine lv_icmp_lt (tgt := 11) hx hb dX11_image_6 (by decide) (fun c_2 => ?_) (fun c_2 => ?_)
    · refine lv_aload_n hx hb dX11_image_11 rfl (lv_at hl 0 rfl) ?_
      refine r_get (v := .ref a10) M w 0 9 clX11 rfl (by decide) G506 rfl rfl dX11_image_12 ?_
      refine lv_iload_n hx hb dX11_image_15 rfl (lv_at hl 1 rfl) ?_
      have h3 : x0 = (0 : Int32) ∨ x0 = (1 : Int32) := by
        simp only [fa_lt, fa_le, fa_eq] at c_1 c_2 ⊢
        have e0 : (0 : Int32).toInt = 0 := (by decide)
        have e1 : (1 : Int32).toInt = 1 := (by decide)
        have e2 : (2 : Int32).toInt = 2 := (by decide)
        omega
      rcases h3 with rfl | rfl
      · refine r_aald (v := .ref a19) (C := "HookedCity$Image") M w 2 4 rfl rfl (vin (by decide +kernel)) rfl dX11_image_16 ?_
        refine lv_aload_n hx hb dX11_image_17 rfl (lv_at hl 0 rfl) ?_
        refine r_get (v := .ref a11) M w 0 10 clX11 rfl (by decide) G507 rfl rfl dX11_image_18 ?_
        refine lv_aload_n hx hb dX11_image_21 rfl (lv_at hl 0 rfl) ?_
        refine r_get (v := .ref a2) M w 0 1 clX11 rfl (by decide) G498 rfl rfl dX11_image_22 ?_
        refine lv_aload_n hx hb dX11_image_25 rfl (lv_at hl 0 rfl) ?_
        refine r_get (v := .ref a13) M w 0 12 clX11 rfl (by decide) G509 rfl rfl dX11_image_26 ?_
        refine k_V (ce := 0) (sl := 0) (rest := []) (wr := [(a0, .inr (10, [.ref a1, .ref a2, .ref a3, .ref a4, .ref a5, .ref a6, .ref a7, .ref a8, .ref a9, .ref a10, .ref a11, .ref a12, .ref a13, .ref a14, .int 0, .int 0, .int 0])), (a10, .inl (T 4, 2, .inr (.inr (.inr (.inr (va_up (va_up (fun _ => none) (Int32.toNatClampNeg (0 : Int32)) (some a19)) (Int32.toNatClampNeg (1 : Int32)) (some a20))))))), (a20, .inr (1, [.ref a34, .ref a35, .ref a36, .int 0])), (a34, .inr (9, [.ref a40, .ref a41, .ref a42, .ref a43, .ref a44, .ref a45, .ref a46, .ref a47, .ref a48, .int 0, .int 0, .int 0, .int 0, .int 12, .int 1, .int 0, .int 0, .int 0])), (a35, .inr (7, [.ref a49, .ref a50, .ref a51, .ref a52, .int 0, .int 0, .int 0, .int 0])), (a36, .inr (5, [.ref a53, .ref a54, .ref a55, .ref a56, .int 0, .int 0])), (a40, .inl (T 1, 9, .inr (.inl (fun _ => 0)))), (a41, .inl (T 0, 9, .inl (fun _ => 0))), (a42, .inl (T 0, 9, .inl (fun _ => 0))), (a43, .inl (T 0, 9, .inl (fun _ => 0))), (a44, .inl (T 0, 9, .inl (fun _ => 0))), (a47, .inl (T 1, 3, .inr (.inl (fun _ => 0)))), (a48, .inl (T 0, 3, .inl (fun _ => 0))), (a49, .inl (T 0, 9, .inl (fun _ => 0))), (a50, .inl (T 0, 9, .inl (fun _ => 0))), (a51, .inl (T 0, 9, .inl (fun _ => 0))), (a52, .inl (T 0, 3, .inl (fun _ => 0)))]) (r_V (f := 2) [10, 3, 1, 4, 21, 22, 23, 11, 12, 13, 14, 15, 16, 17, 5, 6, 7, 8, 35, 36, 37, 38, 39, 40, 41, 42, 43, 44, 45] M w V_HookedCity_330 G1341 G1342 (c179_X1_keep l D T _ a19 a11 a2 a13 a37 a38 a39 a21 a22 a23 a24 a25 a26 a27 a28 a29 a15 a16 a17 a18 a30 a31 a32 a33 a57 a58 a59 a60 a61 a62 a63 a64 a65 a66 a67 a68 a69 a70 a71 a72 a73) 10 clX1 rfl rfl (by decide) rfl hl.1 rfl (Nat.le_of_ble_eq_true rfl) dX11_image_29 (by decide) (by decide) (by decide) (by decide)) w [10, 3, 1, 4, 21, 22, 23, 11, 12, 13, 14, 15, 16, 17, 5, 6, 7, 8, 35, 36, 37, 38, 39, 40, 41, 42, 43, 44, 45] [0, 2, 9, 18, 19, 20, 24, 25, 26, 27, 28, 29, 30, 31, 32, 33, 34] rfl rfl (by decide) (by decide) rfl rfl (fun _ H locs hp w => ?_)
        have w : WD D A s.heap [(a0, .inr (10, [.ref a1, .ref a2, .ref a3, .ref a4, .ref a5, .ref a6, .ref a7, .ref a8, .ref a9, .ref a10, .ref a11, .ref a12, .ref a13, .ref a14, .int 0, .int 0, .int 0])), (a10, .inl (T 4, 2, .inr (.inr (.inr (.inr (va_up (va_up (fun _ => none) (Int32.toNatClampNeg (0 : Int32)) (some a19)) (Int32.toNatClampNeg (1 : Int32)) (some a20))))))), (a20, .inr (1, [.ref a34, .ref a35, .ref a36, .int 0])), (a34, .inr (9, [.ref a40, .ref a41, .ref a42, .ref a43, .ref a44, .ref a45, .ref a46, .ref a47, .ref a48, .int 0, .int 0, .int 0, .int 0, .int 12, .int 1, .int 0, .int 0, .int 0])), (a35, .inr (7, [.ref a49, .ref a50, .ref a51, .ref a52, .int 0, .int 0, .int 0, .int 0])), (a36, .inr (5, [.ref a53, .ref a54, .ref a55, .ref a56, .int 0, .int 0])), (a40, .inl (T 1, 9, .inr (.inl (fun _ => 0)))), (a41, .inl (T 0, 9, .inl (fun _ => 0))), (a42, .inl (T 0, 9, .inl (fun _ => 0))), (a43, .inl (T 0, 9, .inl (fun _ => 0))), (a44, .inl (T 0, 9, .inl (fun _ => 0))), (a47, .inl (T 1, 3, .inr (.inl (fun _ => 0)))), (a48, .inl (T 0, 3, .inl (fun _ => 0))), (a49, .inl (T 0, 9, .inl (fun _ => 0))), (a50, .inl (T 0, 9, .inl (fun _ => 0))), (a51, .inl (T 0, 9, .inl (fun _ => 0))), (a52, .inl (T 0, 3, .inl (fun _ => 0))), (a19, .inr (1, [.ref a37, .ref a38, .ref a39, .int 1])), (a11, .inr (9, [.ref a21, .ref a22, .ref a23, .ref a24, .ref a25, .ref a26, .ref a27, .ref a28, .ref a29, .int 0, .int 0, .int 0, .int 0, .int 12, .int 1, .int 0, .int 0, .int 0])), (a2, .inr (7, [.ref a15, .ref a16, .ref a17, .ref a18, .int 0, .int 0, .int 0, .int 0])), (a13, .inr (5, [.ref a30, .ref a31, .ref a32, .ref a33, .int 0, .int 0])), (a37, .inr (9, [.ref a57, .ref a58, .ref a59, .ref a60, .ref a61, .ref a62, .ref a63, .ref a64, .ref a65, .int 0, .int 0, .int 0, .int 0, .int 12, .int 1, .int 0, .int 0, .int 0])), (a38, .inr (7, [.ref a66, .ref a67, .ref a68, .ref a69, .int 0, .int 0, .int 0, .int 0])), (a39, .inr (5, [.ref a70, .ref a71, .ref a72, .ref a73, .int 0, .int 0])), (a21, .inl (T 1, 9, .inr (.inl (fun _ => 0)))), (a22, .inl (T 0, 9, .inl (fun _ => 0))), (a23, .inl (T 0, 9, .inl (fun _ => 0))), (a24, .inl (T 0, 9, .inl (fun _ => 0))), (a25, .inl (T 0, 9, .inl (fun _ => 0))), (a28, .inl (T 1, 3, .inr (.inl (fun _ => 0)))), (a29, .inl (T 0, 3, .inl (fun _ => 0))), (a15, .inl (T 0, 9, .inl (fun _ => 0))), (a16, .inl (T 0, 9, .inl (fun _ => 0))), (a17, .inl (T 0, 9, .inl (fun _ => 0))), (a18, .inl (T 0, 3, .inl (fun _ => 0))), (a57, .inl (T 1, 9, .inr (.inl cn106))), (a58, .inl (T 0, 9, .inl cn47)), (a59, .inl (T 0, 9, .inl cn47)), (a60, .inl (T 0, 9, .inl cn47)), (a61, .inl (T 0, 9, .inl cn47)), (a64, .inl (T 1, 3, .inr (.inl cn107))), (a65, .inl (T 0, 3, .inl cn93)), (a66, .inl (T 0, 9, .inl cn47)), (a67, .inl (T 0, 9, .inl cn47)), (a68, .inl (T 0, 9, .inl cn47)), (a69, .inl (T 0, 3, .inl cn93))] H locs := w
        refine lv_iconst (v := 1) hx hb dX11_image_32 (by decide) ?_
        exact ret _ () _ _ _ _ _ [] dX11_image_33 (by decide +kernel) (Or.inr (Or.inr (Or.inl ⟨c_1, c_2, rfl, rfl⟩))) w (by decide) rfl
      · refine r_aald (v := .ref a20) (C := "HookedCity$Image") M w 2 4 rfl rfl (vin (by decide +kernel)) rfl dX11_image_16 ?_
        refine lv_aload_n hx hb dX11_image_17 rfl (lv_at hl 0 rfl) ?_
        refine r_get (v := .ref a11) M w 0 10 clX11 rfl (by decide) G507 rfl rfl dX11_image_18 ?_
        refine lv_aload_n hx hb dX11_image_21 rfl (lv_at hl 0 rfl) ?_
        refine r_get (v := .ref a2) M w 0 1 clX11 rfl (by decide) G498 rfl rfl dX11_image_22 ?_
        refine lv_aload_n hx hb dX11_image_25 rfl (lv_at hl 0 rfl) ?_
        refine r_get (v := .ref a13) M w 0 12 clX11 rfl (by decide) G509 rfl rfl dX11_image_26 ?_
        refine k_V (ce := 0) (sl := 0) (rest := []) (wr := [(a0, .inr (10, [.ref a1, .ref a2, .ref a3, .ref a4, .ref a5, .ref a6, .ref a7, .ref a8, .ref a9, .ref a10, .ref a11, .ref a12, .ref a13, .ref a14, .int 0, .int 0, .int 0])), (a10, .inl (T 4, 2, .inr (.inr (.inr (.inr (va_up (va_up (fun _ => none) (Int32.toNatClampNeg (0 : Int32)) (some a19)) (Int32.toNatClampNeg (1 : Int32)) (some a20))))))), (a19, .inr (1, [.ref a37, .ref a38, .ref a39, .int 0])), (a37, .inr (9, [.ref a57, .ref a58, .ref a59, .ref a60, .ref a61, .ref a62, .ref a63, .ref a64, .ref a65, .int 0, .int 0, .int 0, .int 0, .int 12, .int 1, .int 0, .int 0, .int 0])), (a38, .inr (7, [.ref a66, .ref a67, .ref a68, .ref a69, .int 0, .int 0, .int 0, .int 0])), (a39, .inr (5, [.ref a70, .ref a71, .ref a72, .ref a73, .int 0, .int 0])), (a57, .inl (T 1, 9, .inr (.inl (fun _ => 0)))), (a58, .inl (T 0, 9, .inl (fun _ => 0))), (a59, .inl (T 0, 9, .inl (fun _ => 0))), (a60, .inl (T 0, 9, .inl (fun _ => 0))), (a61, .inl (T 0, 9, .inl (fun _ => 0))), (a64, .inl (T 1, 3, .inr (.inl (fun _ => 0)))), (a65, .inl (T 0, 3, .inl (fun _ => 0))), (a66, .inl (T 0, 9, .inl (fun _ => 0))), (a67, .inl (T 0, 9, .inl (fun _ => 0))), (a68, .inl (T 0, 9, .inl (fun _ => 0))), (a69, .inl (T 0, 3, .inl (fun _ => 0)))]) (r_V (f := 2) [9, 3, 1, 4, 18, 19, 20, 11, 12, 13, 14, 15, 16, 17, 5, 6, 7, 8, 24, 25, 26, 27, 28, 29, 30, 31, 32, 33, 34] M w V_HookedCity_330 G1341 G1342 (c179_X1_keep l D T _ a20 a11 a2 a13 a34 a35 a36 a21 a22 a23 a24 a25 a26 a27 a28 a29 a15 a16 a17 a18 a30 a31 a32 a33 a40 a41 a42 a43 a44 a45 a46 a47 a48 a49 a50 a51 a52 a53 a54 a55 a56) 9 clX1 rfl rfl (by decide) rfl hl.1 rfl (Nat.le_of_ble_eq_true rfl) dX11_image_29 (by decide) (by decide) (by decide) (by decide)) w [9, 3, 1, 4, 18, 19, 20, 11, 12, 13, 14, 15, 16, 17, 5, 6, 7, 8, 24, 25, 26, 27, 28, 29, 30, 31, 32, 33, 34] [0, 2, 10, 21, 22, 23, 35, 36, 37, 38, 39, 40, 41, 42, 43, 44, 45] rfl rfl (by decide) (by decide) rfl rfl (fun _ H locs hp w => ?_)
        have w : WD D A s.heap [(a0, .inr (10, [.ref a1, .ref a2, .ref a3, .ref a4, .ref a5, .ref a6, .ref a7, .ref a8, .ref a9, .ref a10, .ref a11, .ref a12, .ref a13, .ref a14, .int 0, .int 0, .int 0])), (a10, .inl (T 4, 2, .inr (.inr (.inr (.inr (va_up (va_up (fun _ => none) (Int32.toNatClampNeg (0 : Int32)) (some a19)) (Int32.toNatClampNeg (1 : Int32)) (some a20))))))), (a19, .inr (1, [.ref a37, .ref a38, .ref a39, .int 0])), (a37, .inr (9, [.ref a57, .ref a58, .ref a59, .ref a60, .ref a61, .ref a62, .ref a63, .ref a64, .ref a65, .int 0, .int 0, .int 0, .int 0, .int 12, .int 1, .int 0, .int 0, .int 0])), (a38, .inr (7, [.ref a66, .ref a67, .ref a68, .ref a69, .int 0, .int 0, .int 0, .int 0])), (a39, .inr (5, [.ref a70, .ref a71, .ref a72, .ref a73, .int 0, .int 0])), (a57, .inl (T 1, 9, .inr (.inl (fun _ => 0)))), (a58, .inl (T 0, 9, .inl (fun _ => 0))), (a59, .inl (T 0, 9, .inl (fun _ => 0))), (a60, .inl (T 0, 9, .inl (fun _ => 0))), (a61, .inl (T 0, 9, .inl (fun _ => 0))), (a64, .inl (T 1, 3, .inr (.inl (fun _ => 0)))), (a65, .inl (T 0, 3, .inl (fun _ => 0))), (a66, .inl (T 0, 9, .inl (fun _ => 0))), (a67, .inl (T 0, 9, .inl (fun _ => 0))), (a68, .inl (T 0, 9, .inl (fun _ => 0))), (a69, .inl (T 0, 3, .inl (fun _ => 0))), (a20, .inr (1, [.ref a34, .ref a35, .ref a36, .int 1])), (a11, .inr (9, [.ref a21, .ref a22, .ref a23, .ref a24, .ref a25, .ref a26, .ref a27, .ref a28, .ref a29, .int 0, .int 0, .int 0, .int 0, .int 12, .int 1, .int 0, .int 0, .int 0])), (a2, .inr (7, [.ref a15, .ref a16, .ref a17, .ref a18, .int 0, .int 0, .int 0, .int 0])), (a13, .inr (5, [.ref a30, .ref a31, .ref a32, .ref a33, .int 0, .int 0])), (a34, .inr (9, [.ref a40, .ref a41, .ref a42, .ref a43, .ref a44, .ref a45, .ref a46, .ref a47, .ref a48, .int 0, .int 0, .int 0, .int 0, .int 12, .int 1, .int 0, .int 0, .int 0])), (a35, .inr (7, [.ref a49, .ref a50, .ref a51, .ref a52, .int 0, .int 0, .int 0, .int 0])), (a36, .inr (5, [.ref a53, .ref a54, .ref a55, .ref a56, .int 0, .int 0])), (a21, .inl (T 1, 9, .inr (.inl (fun _ => 0)))), (a22, .inl (T 0, 9, .inl (fun _ => 0))), (a23, .inl (T 0, 9, .inl (fun _ => 0))), (a24, .inl (T 0, 9, .inl (fun _ => 0))), (a25, .inl (T 0, 9, .inl (fun _ => 0))), (a28, .inl (T 1, 3, .inr (.inl (fun _ => 0)))), (a29, .inl (T 0, 3, .inl (fun _ => 0))), (a15, .inl (T 0, 9, .inl (fun _ => 0))), (a16, .inl (T 0, 9, .inl (fun _ => 0))), (a17, .inl (T 0, 9, .inl (fun _ => 0))), (a18, .inl (T 0, 3, .inl (fun _ => 0))), (a40, .inl (T 1, 9, .inr (.inl cn106))), (a41, .inl (T 0, 9, .inl cn47)), (a42, .inl (T 0, 9, .inl cn47)), (a43, .inl (T 0, 9, .inl cn47)), (a44, .inl (T 0, 9, .inl cn47)), (a47, .inl (T 1, 3, .inr (.inl cn107))), (a48, .inl (T 0, 3, .inl cn93)), (a49, .inl (T 0, 9, .inl cn47)), (a50, .inl (T 0, 9, .inl cn47)), (a51, .inl (T 0, 9, .inl cn47)), (a52, .inl (T 0, 3, .inl cn93))] H locs := w
        refine lv_iconst (v := 1) hx hb dX11_image_32 (by decide) ?_
        exact ret _ () _ _ _ _ _ [] dX11_image_33 (by decide +kernel) (Or.inr (Or.inr (Or.inr (⟨c_1, c_2, rfl, rfl⟩)))) w (by decide) rfl
    · refine lv_iconst (v := 0) hx hb dX11_image_9 (by decide) ?_
      exact ret _ () _ _ _ _ _ [] dX11_image_10 (by decide +kernel) (Or.inr (Or.inl ⟨c_1, c_2, rfl⟩)) w (by decide) rfl
set_option maxRecDepth 100000 in
set_option maxHeartbeats 4000000 in
theorem c181_X12_image (l : Launch) (D : va_G) (T : Nat → ClassId) (sz : Nat) (a0 a1 a2 a3 a4 a5 a6 a7 a8 a9 a10 a11 a12 a13 a14 a15 a16 a17 a18 a19 a20 a21 a22 : Nat) (x0 : Int32) : Met l yX12_image (Cond.code yX12_image cX12_image 3 (some .boolean) :: GW) (Rm 1 0 0) (cPre [.ref a0, .int x0] D T [(a0, .inr (11, [.int 0, .ref a1, .int 0, .int 0, .int 0, .int 0, .int 0, .int 0, .int 0, .int 0, .int 0, .int 0, .long 0, .int 0, .ref a2, .ref a3, .ref a4, .ref a5, .ref a6, .ref a7, .ref a8, .ref a9, .ref a10, .ref a11, .int 0, .ref a12, .ref a13, .ref a14, .ref a15, .int 0, .int 0, .int 0, .ref a16, .int (-1), .int (-1), .ref a17, .ref a18, .int 0, .ref a19, .int 0, .int 0, .ref a20, .ref a21, .int 0, .int 0, .ref a22, .int 0, .int 0, .int 0, .int 0])), (a2, .inl (T 0, 329, .inl cn45)), (a4, .inl (T 0, 658, .inl (fun _ => 0))), (a7, .inl (T 1, 12, .inr (.inl (fun _ => 0)))), (a9, .inl (T 1, 24, .inr (.inl (fun _ => 0)))), (a10, .inl (T 2, 2, .inl (fun _ => 0)))] sz) (qI D [(a0, .inr (11, [.int 0, .ref a1, .int 0, .int 0, .int 0, .int 0, .int 0, .int 0, .int 0, .int 0, .int 0, .int 0, .long 0, .int 0, .ref a2, .ref a3, .ref a4, .ref a5, .ref a6, .ref a7, .ref a8, .ref a9, .ref a10, .ref a11, .int 0, .ref a12, .ref a13, .ref a14, .ref a15, .int 0, .int 0, .int 0, .ref a16, .int (-1), .int (-1), .ref a17, .ref a18, .int 0, .ref a19, .int 0, .int 0, .ref a20, .ref a21, .int 0, .int 0, .ref a22, .int 0, .int 0, .int 0, .int 0])), (a2, .inl (T 0, 329, .inl cn45)), (a4, .inl (T 0, 658, .inl (fun _ => 0))), (a7, .inl (T 1, 12, .inr (.inl (fun _ => 0)))), (a9, .inl (T 1, 24, .inr (.inl (fun _ => 0)))), (a10, .inl (T 2, 2, .inl (fun _ => 0)))] sz (fun (v : Int32) (u : Unit) => (x0 < (0 : Int32) ∧ (0 : Int32) = v) ∨ (¬ x0 < (0 : Int32) ∧ (1 : Int32) < x0 ∧ (0 : Int32) = v) ∨ (¬ x0 < (0 : Int32) ∧ ¬ (1 : Int32) < x0 ∧ x0 = (0 : Int32) ∧ (1 : Int32) = v) ∨ (¬ x0 < (0 : Int32) ∧ ¬ (1 : Int32) < x0 ∧ x0 = (1 : Int32) ∧ (1 : Int32) = v)) (fun u => [])) 0 0 (va_A [(a0, .inr (11, [.int 0, .ref a1, .int 0, .int 0, .int 0, .int 0, .int 0, .int 0, .int 0, .int 0, .int 0, .int 0, .long 0, .int 0, .ref a2, .ref a3, .ref a4, .ref a5, .ref a6, .ref a7, .ref a8, .ref a9, .ref a10, .ref a11, .int 0, .ref a12, .ref a13, .ref a14, .ref a15, .int 0, .int 0, .int 0, .ref a16, .int (-1), .int (-1), .ref a17, .ref a18, .int 0, .ref a19, .int 0, .int 0, .ref a20, .ref a21, .int 0, .int 0, .ref a22, .int 0, .int 0, .int 0, .int 0])), (a2, .inl (T 0, 329, .inl cn45)), (a4, .inl (T 0, 658, .inl (fun _ => 0))), (a7, .inl (T 1, 12, .inr (.inl (fun _ => 0)))), (a9, .inl (T 1, 24, .inr (.inl (fun _ => 0)))), (a10, .inl (T 2, 2, .inl (fun _ => 0)))] sz) := by
  refine e_Z (by decide) (Nat.le_of_ble_eq_true rfl) ?_
  intro p e s m args below meth c A Q ls M hin w ret hl
  have hx := M.1.1
  have hb := M.1.2.1
  have hl : lv_has ls 3 [(0, .ref a0), (1, .int x0)] := hl
  refine lv_aload_n hx hb dX12_image_0 rfl (lv_at hl 0 rfl) ?_
  refine lv_iconst (v := 0) hx hb dX12_image_1 (by decide) ?_
  refine r_put (ws' := [(a0, .inr (11, [.int 0, .ref a1, .int 0, .int 0, .int 0, .int 0, .int 0, .int 0, .int 0, .int 0, .int 0, .int 0, .long 0, .int 0, .ref a2, .ref a3, .ref a4, .ref a5, .ref a6, .ref a7, .ref a8, .ref a9, .ref a10, .ref a11, .int 0, .ref a12, .ref a13, .ref a14, .ref a15, .int 0, .int 0, .int 0, .ref a16, .int (-1), .int (-1), .ref a17, .ref a18, .int 0, .ref a19, .int 0, .int 0, .ref a20, .ref a21, .int 0, .int 0, .ref a22, .int 0, .int 0, .int 0, .int 0])), (a2, .inl (T 0, 329, .inl cn45)), (a4, .inl (T 0, 658, .inl (fun _ => 0))), (a7, .inl (T 1, 12, .inr (.inl (fun _ => 0)))), (a9, .inl (T 1, 24, .inr (.inl (fun _ => 0)))), (a10, .inl (T 2, 2, .inl (fun _ => 0)))]) M w 0 0 clX12 rfl (by decide) G1467 rfl rfl rfl rfl (Nat.le_of_ble_eq_true rfl) rfl dX12_image_2 (fun H locs w => ?_)
  refine lv_iload_n hx hb dX12_image_5 rfl (lv_at hl 1 rfl) ?_
  refine lv_iconst (v := 0) hx hb dX12_image_6 (by decide) ?_
  refine lv_iconst (v := 1) hx hb dX12_image_7 (by decide) ?_
  refine k_I (ce := 0) (sl := 0) (rest := []) (wr := [(a0, .inr (11, [.int 0, .ref a1, .int 0, .int 0, .int 0, .int 0, .int 0, .int 0, .int 0, .int 0, .int 0, .int 0, .long 0, .int 0, .ref a2, .ref a3, .ref a4, .ref a5, .ref a6, .ref a7, .ref a8, .ref a9, .ref a10, .ref a11, .int 0, .ref a12, .ref a13, .ref a14, .ref a15, .int 0, .int 0, .int 0, .ref a16, .int (-1), .int (-1), .ref a17, .ref a18, .int 0, .ref a19, .int 0, .int 0, .ref a20, .ref a21, .int 0, .int 0, .ref a22, .int 0, .int 0, .int 0, .int 0])), (a2, .inl (T 0, 329, .inl cn45)), (a4, .inl (T 0, 658, .inl (fun _ => 0))), (a7, .inl (T 1, 12, .inr (.inl (fun _ => 0)))), (a9, .inl (T 1, 24, .inr (.inl (fun _ => 0)))), (a10, .inl (T 2, 2, .inl (fun _ => 0)))]) (r_S (f := 0) [] M w V_HookedCityModel_75 G1697 (c135_X12_isIn l D T _ x0) rfl (by decide) rfl hl.1 rfl (Nat.le_of_ble_eq_true rfl) dX12_image_8 (by decide) (by decide) (by decide) (by decide)) w [] [0, 1, 2, 3, 4, 5] rfl rfl (by decide) (by decide) rfl rfl (fun v _ H locs hp w => ?_)
  try dsimp only at hp
  rcases hp with ⟨c_1, hp⟩ | ⟨c_2, c_3, hp⟩ | ⟨c_4, c_5, hp⟩
  · have hp : (0 : Int32) = v := hp
    subst hp
    have w : WD D A s.heap [(a0, .inr (11, [.int 0, .ref a1, .int 0, .int 0, .int 0, .int 0, .int 0, .int 0, .int 0, .int 0, .int 0, .int 0, .long 0, .int 0, .ref a2, .ref a3, .ref a4, .ref a5, .ref a6, .ref a7, .ref a8, .ref a9, .ref a10, .ref a11, .int 0, .ref a12, .ref a13, .ref a14, .ref a15, .int 0, .int 0, .int 0, .ref a16, .int (-1), .int (-1), .ref a17, .ref a18, .int 0, .ref a19, .int 0, .int 0, .ref a20, .ref a21, .int 0, .int 0, .ref a22, .int 0, .int 0, .int 0, .int 0])), (a2, .inl (T 0, 329, .inl cn45)), (a4, .inl (T 0, 658, .inl (fun _ => 0))), (a7, .inl (T 1, 12, .inr (.inl (fun _ => 0)))), (a9, .inl (T 1, 24, .inr (.inl (fun _ => 0)))), (a10, .inl (T 2, 2, .inl (fun _ => 0)))] H locs := w
    refine lv_if_ne (tgt := 16) hx hb dX12_image_11 (by decide) (fun c => absurd (by decide +kernel) c) (fun _ => ?_)
    refine lv_iconst (v := 0) hx hb dX12_image_14 (by decide) ?_
    exact ret _ () _ _ _ _ _ [] dX12_image_15 (by decide +kernel) (Or.inl ⟨c_1, rfl⟩) w (by decide) rfl
  · have hp : (0 : Int32) = v := hp
    subst hp
    have w : WD D A s.heap [(a0, .inr (11, [.int 0, .ref a1, .int 0, .int 0, .int 0, .int 0, .int 0, .int 0, .int 0, .int 0, .int 0, .int 0, .long 0, .int 0, .ref a2, .ref a3, .ref a4, .ref a5, .ref a6, .ref a7, .ref a8, .ref a9, .ref a10, .ref a11, .int 0, .ref a12, .ref a13, .ref a14, .ref a15, .int 0, .int 0, .int 0, .ref a16, .int (-1), .int (-1), .ref a17, .ref a18, .int 0, .ref a19, .int 0, .int 0, .ref a20, .ref a21, .int 0, .int 0, .ref a22, .int 0, .int 0, .int 0, .int 0])), (a2, .inl (T 0, 329, .inl cn45)), (a4, .inl (T 0, 658, .inl (fun _ => 0))), (a7, .inl (T 1, 12, .inr (.inl (fun _ => 0)))), (a9, .inl (T 1, 24, .inr (.inl (fun _ => 0)))), (a10, .inl (T 2, 2, .inl (fun _ => 0)))] H locs := w
    refine lv_if_ne (tgt := 16) hx hb dX12_image_11 (by decide) (fun c => absurd (by decide +kernel) c) (fun _ => ?_)
    refine lv_iconst (v := 0) hx hb dX12_image_14 (by decide) ?_
    exact ret _ () _ _ _ _ _ [] dX12_image_15 (by decide +kernel) (Or.inr (Or.inl ⟨c_2, c_3, rfl⟩)) w (by decide) rfl
  · have hp : (1 : Int32) = v := hp
    subst hp
    have w : WD D A s.heap [(a0, .inr (11, [.int 0, .ref a1, .int 0, .int 0, .int 0, .int 0, .int 0, .int 0, .int 0, .int 0, .int 0, .int 0, .long 0, .int 0, .ref a2, .ref a3, .ref a4, .ref a5, .ref a6, .ref a7, .ref a8, .ref a9, .ref a10, .ref a11, .int 0, .ref a12, .ref a13, .ref a14, .ref a15, .int 0, .int 0, .int 0, .ref a16, .int (-1), .int (-1), .ref a17, .ref a18, .int 0, .ref a19, .int 0, .int 0, .ref a20, .ref a21, .int 0, .int 0, .ref a22, .int 0, .int 0, .int 0, .int 0])), (a2, .inl (T 0, 329, .inl cn45)), (a4, .inl (T 0, 658, .inl (fun _ => 0))), (a7, .inl (T 1, 12, .inr (.inl (fun _ => 0)))), (a9, .inl (T 1, 24, .inr (.inl (fun _ => 0)))), (a10, .inl (T 2, 2, .inl (fun _ => 0)))] H locs := w
    refine lv_if_ne (tgt := 16) hx hb dX12_image_11 (by decide) (fun _ => ?_) (fun c => absurd c (by decide +kernel))
    have h6 : x0 = (0 : Int32) ∨ x0 = (1 : Int32) := by
      simp only [fa_lt, fa_le, fa_eq] at c_4 c_5 ⊢
      have e0 : (0 : Int32).toInt = 0 := (by decide)
      have e1 : (1 : Int32).toInt = 1 := (by decide)
      omega
    rcases h6 with rfl | rfl
    · refine lv_iconst (v := 0) hx hb dX12_image_16 (by decide) ?_
      refine lv_istore_n (lv' := [(2, .int 0), (0, .ref a0), (1, .int 0)]) hx hb dX12_image_17 rfl hl (by decide) rfl (fun ls hl => ?_)
      have loop : ∀ (k i : Nat) (f7 : Nat → Int32) (H : Heap) (locs : List Loc) (ls : Array Slot), 0 ≤ i → i ≤ 329 → 329 < i + k → WD D A s.heap [(a0, .inr (11, [.int 0, .ref a1, .int 0, .int 0, .int 0, .int 0, .int 0, .int 0, .int 0, .int 0, .int 0, .int 0, .long 0, .int 0, .ref a2, .ref a3, .ref a4, .ref a5, .ref a6, .ref a7, .ref a8, .ref a9, .ref a10, .ref a11, .int 0, .ref a12, .ref a13, .ref a14, .ref a15, .int 0, .int 0, .int 0, .ref a16, .int (-1), .int (-1), .ref a17, .ref a18, .int 0, .ref a19, .int 0, .int 0, .ref a20, .ref a21, .int 0, .int 0, .ref a22, .int 0, .int 0, .int 0, .int 0])), (a2, .inl (T 0, 329, .inl cn45)), (a4, .inl (T 0, 658, .inl f7)), (a7, .inl (T 1, 12, .inr (.inl (fun _ => 0)))), (a9, .inl (T 1, 24, .inr (.inl (fun _ => 0)))), (a10, .inl (T 2, 2, .inl (fun _ => 0)))] H locs → lv_has ls 3 [(2, .int (nI i)), (0, .ref a0), (1, .int 0)] → W p l e (Rm 1 0 0) s m args below meth c H locs 0 0 Q (F0 m 18 ls []) := by
        intro k
        induction k with
        | zero => intro i f7 H locs ls h0 h1 h2; exact absurd h2 (by omega)
        | succ k ih =>
          intro i f7 H locs ls hi0 hi1 hi2 w hl
          refine lv_iload_n hx hb dX12_image_18 rfl (lv_at hl 0 rfl) ?_
          refine lv_sipush (v := 329) hx hb dX12_image_19 (by decide) ?_
          refine lv_icmp_ge (tgt := 49) hx hb dX12_image_22 (by decide) (fun c_8 => ?_) (fun c_8 => ?_)
          · have hi2 : 329 ≤ i := ix_exit (n := 329) (by decide) (by omega) (by decide) c_8
            obtain rfl : i = 329 := by omega
            have w : WD D A s.heap [(a0, .inr (11, [.int 0, .ref a1, .int 0, .int 0, .int 0, .int 0, .int 0, .int 0, .int 0, .int 0, .int 0, .int 0, .long 0, .int 0, .ref a2, .ref a3, .ref a4, .ref a5, .ref a6, .ref a7, .ref a8, .ref a9, .ref a10, .ref a11, .int 0, .ref a12, .ref a13, .ref a14, .ref a15, .int 0, .int 0, .int 0, .ref a16, .int (-1), .int (-1), .ref a17, .ref a18, .int 0, .ref a19, .int 0, .int 0, .ref a20, .ref a21, .int 0, .int 0, .ref a22, .int 0, .int 0, .int 0, .int 0])), (a2, .inl (T 0, 329, .inl cn45)), (a4, .inl (T 0, 658, .inl f7)), (a7, .inl (T 1, 12, .inr (.inl (fun _ => 0)))), (a9, .inl (T 1, 24, .inr (.inl (fun _ => 0)))), (a10, .inl (T 2, 2, .inl (fun _ => 0)))] H locs := w
            have hl : lv_has ls 3 [(2, .int 329), (0, .ref a0), (1, .int 0)] := hl
            refine lv_iconst (v := 0) hx hb dX12_image_49 (by decide) ?_
            refine lv_istore_n (lv' := [(2, .int 0), (0, .ref a0), (1, .int 0)]) hx hb dX12_image_50 rfl hl (by decide) rfl (fun ls hl => ?_)
            have loop : ∀ (k i : Nat) (f9 : Nat → Int64) (H : Heap) (locs : List Loc) (ls : Array Slot), 0 ≤ i → i ≤ 12 → 12 < i + k → WD D A s.heap [(a0, .inr (11, [.int 0, .ref a1, .int 0, .int 0, .int 0, .int 0, .int 0, .int 0, .int 0, .int 0, .int 0, .int 0, .long 0, .int 0, .ref a2, .ref a3, .ref a4, .ref a5, .ref a6, .ref a7, .ref a8, .ref a9, .ref a10, .ref a11, .int 0, .ref a12, .ref a13, .ref a14, .ref a15, .int 0, .int 0, .int 0, .ref a16, .int (-1), .int (-1), .ref a17, .ref a18, .int 0, .ref a19, .int 0, .int 0, .ref a20, .ref a21, .int 0, .int 0, .ref a22, .int 0, .int 0, .int 0, .int 0])), (a2, .inl (T 0, 329, .inl cn45)), (a4, .inl (T 0, 658, .inl f7)), (a7, .inl (T 1, 12, .inr (.inl (fun _ => 0)))), (a9, .inl (T 1, 24, .inr (.inl f9))), (a10, .inl (T 2, 2, .inl (fun _ => 0)))] H locs → lv_has ls 3 [(2, .int (nI i)), (0, .ref a0), (1, .int 0)] → W p l e (Rm 1 0 0) s m args below meth c H locs 0 0 Q (F0 m 51 ls []) := by
              intro k
              induction k with
              | zero => intro i f9 H locs ls h0 h1 h2; exact absurd h2 (by omega)
              | succ k ih =>
                intro i f9 H locs ls hi0 hi1 hi2 w hl
                refine lv_iload_n hx hb dX12_image_51 rfl (lv_at hl 0 rfl) ?_
                refine lv_bipush (v := 12) hx hb dX12_image_52 (by decide) ?_
                refine lv_icmp_ge (tgt := 80) hx hb dX12_image_54 (by decide) (fun c_10 => ?_) (fun c_10 => ?_)
                · have hi2 : 12 ≤ i := ix_exit (n := 12) (by decide) (by omega) (by decide) c_10
                  obtain rfl : i = 12 := by omega
                  have w : WD D A s.heap [(a0, .inr (11, [.int 0, .ref a1, .int 0, .int 0, .int 0, .int 0, .int 0, .int 0, .int 0, .int 0, .int 0, .int 0, .long 0, .int 0, .ref a2, .ref a3, .ref a4, .ref a5, .ref a6, .ref a7, .ref a8, .ref a9, .ref a10, .ref a11, .int 0, .ref a12, .ref a13, .ref a14, .ref a15, .int 0, .int 0, .int 0, .ref a16, .int (-1), .int (-1), .ref a17, .ref a18, .int 0, .ref a19, .int 0, .int 0, .ref a20, .ref a21, .int 0, .int 0, .ref a22, .int 0, .int 0, .int 0, .int 0])), (a2, .inl (T 0, 329, .inl cn45)), (a4, .inl (T 0, 658, .inl f7)), (a7, .inl (T 1, 12, .inr (.inl (fun _ => 0)))), (a9, .inl (T 1, 24, .inr (.inl f9))), (a10, .inl (T 2, 2, .inl (fun _ => 0)))] H locs := w
                  have hl : lv_has ls 3 [(2, .int 12), (0, .ref a0), (1, .int 0)] := hl
                  refine lv_aload_n hx hb dX12_image_80 rfl (lv_at hl 1 rfl) ?_
                  refine r_get (v := .ref a10) M w 0 22 clX12 rfl (by decide) G1489 rfl rfl dX12_image_81 ?_
                  refine lv_iload_n hx hb dX12_image_84 rfl (lv_at hl 2 rfl) ?_
                  refine lv_iconst (v := 1) hx hb dX12_image_85 (by decide) ?_
                  refine r_zast (x2 := (1 : Int32)) (ws' := [(a0, .inr (11, [.int 0, .ref a1, .int 0, .int 0, .int 0, .int 0, .int 0, .int 0, .int 0, .int 0, .int 0, .int 0, .long 0, .int 0, .ref a2, .ref a3, .ref a4, .ref a5, .ref a6, .ref a7, .ref a8, .ref a9, .ref a10, .ref a11, .int 0, .ref a12, .ref a13, .ref a14, .ref a15, .int 0, .int 0, .int 0, .ref a16, .int (-1), .int (-1), .ref a17, .ref a18, .int 0, .ref a19, .int 0, .int 0, .ref a20, .ref a21, .int 0, .int 0, .ref a22, .int 0, .int 0, .int 0, .int 0])), (a2, .inl (T 0, 329, .inl cn45)), (a4, .inl (T 0, 658, .inl f7)), (a7, .inl (T 1, 12, .inr (.inl (fun _ => 0)))), (a9, .inl (T 1, 24, .inr (.inl f9))), (a10, .inl (T 2, 2, .inl cn108))]) M w 5 rfl (vin (by decide +kernel)) (by decide +kernel) rfl dX12_image_86 (fun H locs w => ?_)
                  refine lv_iconst (v := 1) hx hb dX12_image_87 (by decide) ?_
                  exact ret _ () _ _ _ _ _ [] dX12_image_88 (by decide +kernel) (Or.inr (Or.inr (Or.inl ⟨c_4, c_5, rfl, rfl⟩))) w (by decide) rfl
                · have hi2 : i < 12 := ix_in2 (n := 12) (by decide) (by omega) (by decide) c_10
                  refine lv_aload_n hx hb dX12_image_57 rfl (lv_at hl 1 rfl) ?_
                  refine r_get (v := .ref a9) M w 0 21 clX12 rfl (by decide) G1488 rfl rfl dX12_image_58 ?_
                  refine lv_bipush (v := 12) hx hb dX12_image_61 (by decide) ?_
                  refine lv_iload_n hx hb dX12_image_63 rfl (lv_at hl 2 rfl) ?_
                  refine r_imul (v := (0 : Int32)) M (by decide +kernel) dX12_image_64 ?_
                  refine lv_iload_n hx hb dX12_image_65 rfl (lv_at hl 0 rfl) ?_
                  refine r_iadd (v := (nI i)) M (ix_addl (k := 0) (by decide) (by omega)) dX12_image_66 ?_
                  refine lv_aload_n hx hb dX12_image_67 rfl (lv_at hl 1 rfl) ?_
                  refine r_get (v := .ref a7) M w 0 19 clX12 rfl (by decide) G1486 rfl rfl dX12_image_68 ?_
                  refine lv_iload_n hx hb dX12_image_71 rfl (lv_at hl 0 rfl) ?_
                  refine r_lald (v := ((fun _ => 0) (Int32.toNatClampNeg (nI i)))) M w 3 rfl (ix_in (by omega) (by decide)) rfl dX12_image_72 ?_
                  refine r_last (ws' := [(a0, .inr (11, [.int 0, .ref a1, .int 0, .int 0, .int 0, .int 0, .int 0, .int 0, .int 0, .int 0, .int 0, .int 0, .long 0, .int 0, .ref a2, .ref a3, .ref a4, .ref a5, .ref a6, .ref a7, .ref a8, .ref a9, .ref a10, .ref a11, .int 0, .ref a12, .ref a13, .ref a14, .ref a15, .int 0, .int 0, .int 0, .ref a16, .int (-1), .int (-1), .ref a17, .ref a18, .int 0, .ref a19, .int 0, .int 0, .ref a20, .ref a21, .int 0, .int 0, .ref a22, .int 0, .int 0, .int 0, .int 0])), (a2, .inl (T 0, 329, .inl cn45)), (a4, .inl (T 0, 658, .inl f7)), (a7, .inl (T 1, 12, .inr (.inl (fun _ => 0)))), (a9, .inl (T 1, 24, .inr (.inl (vp_updL f9 (Int32.toNatClampNeg (nI i)) ((fun _ => 0) (Int32.toNatClampNeg (nI i))))))), (a10, .inl (T 2, 2, .inl (fun _ => 0)))]) M w 4 rfl (ix_in (by omega) (by decide)) rfl dX12_image_73 (fun H locs w => ?_)
                  refine lv_iinc (v := (nI (i + 1))) (lv' := [(2, .int (nI (i + 1))), (0, .ref a0), (1, .int 0)]) hx hb dX12_image_74 hl (k := 0) rfl (ix_add (k := 1) (by decide) (by omega)) (by decide) rfl (fun ls hl => ?_)
                  refine lv_goto (tgt := 51) hx hb dX12_image_77 (by decide) ?_
                  exact ih (i + 1) (vp_updL f9 (Int32.toNatClampNeg (nI i)) ((fun _ => 0) (Int32.toNatClampNeg (nI i)))) _ _ _ (by omega) (by omega) (by omega) w (lv_sub hl [0, 1, 2] rfl)
            exact loop 13 0 (fun _ => 0) _ _ _ (by decide) (by decide) (by decide) w hl
          · have hi2 : i < 329 := ix_in2 (n := 329) (by decide) (by omega) (by decide) c_8
            refine lv_aload_n hx hb dX12_image_25 rfl (lv_at hl 1 rfl) ?_
            refine r_get (v := .ref a4) M w 0 16 clX12 rfl (by decide) G1483 rfl rfl dX12_image_26 ?_
            refine lv_sipush (v := 329) hx hb dX12_image_29 (by decide) ?_
            refine lv_iload_n hx hb dX12_image_32 rfl (lv_at hl 2 rfl) ?_
            refine r_imul (v := (0 : Int32)) M (by decide +kernel) dX12_image_33 ?_
            refine lv_iload_n hx hb dX12_image_34 rfl (lv_at hl 0 rfl) ?_
            refine r_iadd (v := (nI i)) M (ix_addl (k := 0) (by decide) (by omega)) dX12_image_35 ?_
            refine lv_aload_n hx hb dX12_image_36 rfl (lv_at hl 1 rfl) ?_
            refine r_get (v := .ref a2) M w 0 14 clX12 rfl (by decide) G1481 rfl rfl dX12_image_37 ?_
            refine lv_iload_n hx hb dX12_image_40 rfl (lv_at hl 0 rfl) ?_
            refine r_iald (v := (cn45 (Int32.toNatClampNeg (nI i)))) M w 1 rfl (ix_in (by omega) (by decide)) rfl dX12_image_41 ?_
            refine r_iast (ws' := [(a0, .inr (11, [.int 0, .ref a1, .int 0, .int 0, .int 0, .int 0, .int 0, .int 0, .int 0, .int 0, .int 0, .int 0, .long 0, .int 0, .ref a2, .ref a3, .ref a4, .ref a5, .ref a6, .ref a7, .ref a8, .ref a9, .ref a10, .ref a11, .int 0, .ref a12, .ref a13, .ref a14, .ref a15, .int 0, .int 0, .int 0, .ref a16, .int (-1), .int (-1), .ref a17, .ref a18, .int 0, .ref a19, .int 0, .int 0, .ref a20, .ref a21, .int 0, .int 0, .ref a22, .int 0, .int 0, .int 0, .int 0])), (a2, .inl (T 0, 329, .inl cn45)), (a4, .inl (T 0, 658, .inl (upd f7 (Int32.toNatClampNeg (nI i)) (cn45 (Int32.toNatClampNeg (nI i)))))), (a7, .inl (T 1, 12, .inr (.inl (fun _ => 0)))), (a9, .inl (T 1, 24, .inr (.inl (fun _ => 0)))), (a10, .inl (T 2, 2, .inl (fun _ => 0)))]) M w 2 rfl (ix_in (by omega) (by decide)) rfl dX12_image_42 (fun H locs w => ?_)
            refine lv_iinc (v := (nI (i + 1))) (lv' := [(2, .int (nI (i + 1))), (0, .ref a0), (1, .int 0)]) hx hb dX12_image_43 hl (k := 0) rfl (ix_add (k := 1) (by decide) (by omega)) (by decide) rfl (fun ls hl => ?_)
            refine lv_goto (tgt := 18) hx hb dX12_image_46 (by decide) ?_
            exact ih (i + 1) (upd f7 (Int32.toNatClampNeg (nI i)) (cn45 (Int32.toNatClampNeg (nI i)))) _ _ _ (by omega) (by omega) (by omega) w (lv_sub hl [0, 1, 2] rfl)
      exact loop 330 0 (fun _ => 0) _ _ _ (by decide) (by decide) (by decide) w hl
    · refine lv_iconst (v := 0) hx hb dX12_image_16 (by decide) ?_
      refine lv_istore_n (lv' := [(2, .int 0), (0, .ref a0), (1, .int 1)]) hx hb dX12_image_17 rfl hl (by decide) rfl (fun ls hl => ?_)
      have loop : ∀ (k i : Nat) (f11 : Nat → Int32) (H : Heap) (locs : List Loc) (ls : Array Slot), 0 ≤ i → i ≤ 329 → 329 < i + k → WD D A s.heap [(a0, .inr (11, [.int 0, .ref a1, .int 0, .int 0, .int 0, .int 0, .int 0, .int 0, .int 0, .int 0, .int 0, .int 0, .long 0, .int 0, .ref a2, .ref a3, .ref a4, .ref a5, .ref a6, .ref a7, .ref a8, .ref a9, .ref a10, .ref a11, .int 0, .ref a12, .ref a13, .ref a14, .ref a15, .int 0, .int 0, .int 0, .ref a16, .int (-1), .int (-1), .ref a17, .ref a18, .int 0, .ref a19, .int 0, .int 0, .ref a20, .ref a21, .int 0, .int 0, .ref a22, .int 0, .int 0, .int 0, .int 0])), (a2, .inl (T 0, 329, .inl cn45)), (a4, .inl (T 0, 658, .inl f11)), (a7, .inl (T 1, 12, .inr (.inl (fun _ => 0)))), (a9, .inl (T 1, 24, .inr (.inl (fun _ => 0)))), (a10, .inl (T 2, 2, .inl (fun _ => 0)))] H locs → lv_has ls 3 [(2, .int (nI i)), (0, .ref a0), (1, .int 1)] → W p l e (Rm 1 0 0) s m args below meth c H locs 0 0 Q (F0 m 18 ls []) := by
        intro k
        induction k with
        | zero => intro i f11 H locs ls h0 h1 h2; exact absurd h2 (by omega)
        | succ k ih =>
          intro i f11 H locs ls hi0 hi1 hi2 w hl
          refine lv_iload_n hx hb dX12_image_18 rfl (lv_at hl 0 rfl) ?_
          refine lv_sipush (v := 329) hx hb dX12_image_19 (by decide) ?_
          refine lv_icmp_ge (tgt := 49) hx hb dX12_image_22 (by decide) (fun c_12 => ?_) (fun c_12 => ?_)
          · have hi2 : 329 ≤ i := ix_exit (n := 329) (by decide) (by omega) (by decide) c_12
            obtain rfl : i = 329 := by omega
            have w : WD D A s.heap [(a0, .inr (11, [.int 0, .ref a1, .int 0, .int 0, .int 0, .int 0, .int 0, .int 0, .int 0, .int 0, .int 0, .int 0, .long 0, .int 0, .ref a2, .ref a3, .ref a4, .ref a5, .ref a6, .ref a7, .ref a8, .ref a9, .ref a10, .ref a11, .int 0, .ref a12, .ref a13, .ref a14, .ref a15, .int 0, .int 0, .int 0, .ref a16, .int (-1), .int (-1), .ref a17, .ref a18, .int 0, .ref a19, .int 0, .int 0, .ref a20, .ref a21, .int 0, .int 0, .ref a22, .int 0, .int 0, .int 0, .int 0])), (a2, .inl (T 0, 329, .inl cn45)), (a4, .inl (T 0, 658, .inl f11)), (a7, .inl (T 1, 12, .inr (.inl (fun _ => 0)))), (a9, .inl (T 1, 24, .inr (.inl (fun _ => 0)))), (a10, .inl (T 2, 2, .inl (fun _ => 0)))] H locs := w
            have hl : lv_has ls 3 [(2, .int 329), (0, .ref a0), (1, .int 1)] := hl
            refine lv_iconst (v := 0) hx hb dX12_image_49 (by decide) ?_
            refine lv_istore_n (lv' := [(2, .int 0), (0, .ref a0), (1, .int 1)]) hx hb dX12_image_50 rfl hl (by decide) rfl (fun ls hl => ?_)
            have loop : ∀ (k i : Nat) (f13 : Nat → Int64) (H : Heap) (locs : List Loc) (ls : Array Slot), 0 ≤ i → i ≤ 12 → 12 < i + k → WD D A s.heap [(a0, .inr (11, [.int 0, .ref a1, .int 0, .int 0, .int 0, .int 0, .int 0, .int 0, .int 0, .int 0, .int 0, .int 0, .long 0, .int 0, .ref a2, .ref a3, .ref a4, .ref a5, .ref a6, .ref a7, .ref a8, .ref a9, .ref a10, .ref a11, .int 0, .ref a12, .ref a13, .ref a14, .ref a15, .int 0, .int 0, .int 0, .ref a16, .int (-1), .int (-1), .ref a17, .ref a18, .int 0, .ref a19, .int 0, .int 0, .ref a20, .ref a21, .int 0, .int 0, .ref a22, .int 0, .int 0, .int 0, .int 0])), (a2, .inl (T 0, 329, .inl cn45)), (a4, .inl (T 0, 658, .inl f11)), (a7, .inl (T 1, 12, .inr (.inl (fun _ => 0)))), (a9, .inl (T 1, 24, .inr (.inl f13))), (a10, .inl (T 2, 2, .inl (fun _ => 0)))] H locs → lv_has ls 3 [(2, .int (nI i)), (0, .ref a0), (1, .int 1)] → W p l e (Rm 1 0 0) s m args below meth c H locs 0 0 Q (F0 m 51 ls []) := by
              intro k
              induction k with
              | zero => intro i f13 H locs ls h0 h1 h2; exact absurd h2 (by omega)
              | succ k ih =>
                intro i f13 H locs ls hi0 hi1 hi2 w hl
                refine lv_iload_n hx hb dX12_image_51 rfl (lv_at hl 0 rfl) ?_
                refine lv_bipush (v := 12) hx hb dX12_image_52 (by decide) ?_
                refine lv_icmp_ge (tgt := 80) hx hb dX12_image_54 (by decide) (fun c_14 => ?_) (fun c_14 => ?_)
                · have hi2 : 12 ≤ i := ix_exit (n := 12) (by decide) (by omega) (by decide) c_14
                  obtain rfl : i = 12 := by omega
                  have w : WD D A s.heap [(a0, .inr (11, [.int 0, .ref a1, .int 0, .int 0, .int 0, .int 0, .int 0, .int 0, .int 0, .int 0, .int 0, .int 0, .long 0, .int 0, .ref a2, .ref a3, .ref a4, .ref a5, .ref a6, .ref a7, .ref a8, .ref a9, .ref a10, .ref a11, .int 0, .ref a12, .ref a13, .ref a14, .ref a15, .int 0, .int 0, .int 0, .ref a16, .int (-1), .int (-1), .ref a17, .ref a18, .int 0, .ref a19, .int 0, .int 0, .ref a20, .ref a21, .int 0, .int 0, .ref a22, .int 0, .int 0, .int 0, .int 0])), (a2, .inl (T 0, 329, .inl cn45)), (a4, .inl (T 0, 658, .inl f11)), (a7, .inl (T 1, 12, .inr (.inl (fun _ => 0)))), (a9, .inl (T 1, 24, .inr (.inl f13))), (a10, .inl (T 2, 2, .inl (fun _ => 0)))] H locs := w
                  have hl : lv_has ls 3 [(2, .int 12), (0, .ref a0), (1, .int 1)] := hl
                  refine lv_aload_n hx hb dX12_image_80 rfl (lv_at hl 1 rfl) ?_
                  refine r_get (v := .ref a10) M w 0 22 clX12 rfl (by decide) G1489 rfl rfl dX12_image_81 ?_
                  refine lv_iload_n hx hb dX12_image_84 rfl (lv_at hl 2 rfl) ?_
                  refine lv_iconst (v := 1) hx hb dX12_image_85 (by decide) ?_
                  refine r_zast (x2 := (1 : Int32)) (ws' := [(a0, .inr (11, [.int 0, .ref a1, .int 0, .int 0, .int 0, .int 0, .int 0, .int 0, .int 0, .int 0, .int 0, .int 0, .long 0, .int 0, .ref a2, .ref a3, .ref a4, .ref a5, .ref a6, .ref a7, .ref a8, .ref a9, .ref a10, .ref a11, .int 0, .ref a12, .ref a13, .ref a14, .ref a15, .int 0, .int 0, .int 0, .ref a16, .int (-1), .int (-1), .ref a17, .ref a18, .int 0, .ref a19, .int 0, .int 0, .ref a20, .ref a21, .int 0, .int 0, .ref a22, .int 0, .int 0, .int 0, .int 0])), (a2, .inl (T 0, 329, .inl cn45)), (a4, .inl (T 0, 658, .inl f11)), (a7, .inl (T 1, 12, .inr (.inl (fun _ => 0)))), (a9, .inl (T 1, 24, .inr (.inl f13))), (a10, .inl (T 2, 2, .inl cn109))]) M w 5 rfl (vin (by decide +kernel)) (by decide +kernel) rfl dX12_image_86 (fun H locs w => ?_)
                  refine lv_iconst (v := 1) hx hb dX12_image_87 (by decide) ?_
                  exact ret _ () _ _ _ _ _ [] dX12_image_88 (by decide +kernel) (Or.inr (Or.inr (Or.inr (⟨c_4, c_5, rfl, rfl⟩)))) w (by decide) rfl
                · have hi2 : i < 12 := ix_in2 (n := 12) (by decide) (by omega) (by decide) c_14
                  refine lv_aload_n hx hb dX12_image_57 rfl (lv_at hl 1 rfl) ?_
                  refine r_get (v := .ref a9) M w 0 21 clX12 rfl (by decide) G1488 rfl rfl dX12_image_58 ?_
                  refine lv_bipush (v := 12) hx hb dX12_image_61 (by decide) ?_
                  refine lv_iload_n hx hb dX12_image_63 rfl (lv_at hl 2 rfl) ?_
                  refine r_imul (v := (12 : Int32)) M (by decide +kernel) dX12_image_64 ?_
                  refine lv_iload_n hx hb dX12_image_65 rfl (lv_at hl 0 rfl) ?_
                  refine r_iadd (v := (nI (i + 12))) M (ix_addl (k := 12) (by decide) (by omega)) dX12_image_66 ?_
                  refine lv_aload_n hx hb dX12_image_67 rfl (lv_at hl 1 rfl) ?_
                  refine r_get (v := .ref a7) M w 0 19 clX12 rfl (by decide) G1486 rfl rfl dX12_image_68 ?_
                  refine lv_iload_n hx hb dX12_image_71 rfl (lv_at hl 0 rfl) ?_
                  refine r_lald (v := ((fun _ => 0) (Int32.toNatClampNeg (nI i)))) M w 3 rfl (ix_in (by omega) (by decide)) rfl dX12_image_72 ?_
                  refine r_last (ws' := [(a0, .inr (11, [.int 0, .ref a1, .int 0, .int 0, .int 0, .int 0, .int 0, .int 0, .int 0, .int 0, .int 0, .int 0, .long 0, .int 0, .ref a2, .ref a3, .ref a4, .ref a5, .ref a6, .ref a7, .ref a8, .ref a9, .ref a10, .ref a11, .int 0, .ref a12, .ref a13, .ref a14, .ref a15, .int 0, .int 0, .int 0, .ref a16, .int (-1), .int (-1), .ref a17, .ref a18, .int 0, .ref a19, .int 0, .int 0, .ref a20, .ref a21, .int 0, .int 0, .ref a22, .int 0, .int 0, .int 0, .int 0])), (a2, .inl (T 0, 329, .inl cn45)), (a4, .inl (T 0, 658, .inl f11)), (a7, .inl (T 1, 12, .inr (.inl (fun _ => 0)))), (a9, .inl (T 1, 24, .inr (.inl (vp_updL f13 (Int32.toNatClampNeg (nI (i + 12))) ((fun _ => 0) (Int32.toNatClampNeg (nI i))))))), (a10, .inl (T 2, 2, .inl (fun _ => 0)))]) M w 4 rfl (ix_in (by omega) (by decide)) rfl dX12_image_73 (fun H locs w => ?_)
                  refine lv_iinc (v := (nI (i + 1))) (lv' := [(2, .int (nI (i + 1))), (0, .ref a0), (1, .int 1)]) hx hb dX12_image_74 hl (k := 0) rfl (ix_add (k := 1) (by decide) (by omega)) (by decide) rfl (fun ls hl => ?_)
                  refine lv_goto (tgt := 51) hx hb dX12_image_77 (by decide) ?_
                  exact ih (i + 1) (vp_updL f13 (Int32.toNatClampNeg (nI (i + 12))) ((fun _ => 0) (Int32.toNatClampNeg (nI i)))) _ _ _ (by omega) (by omega) (by omega) w (lv_sub hl [0, 1, 2] rfl)
            exact loop 13 0 (fun _ => 0) _ _ _ (by decide) (by decide) (by decide) w hl
          · have hi2 : i < 329 := ix_in2 (n := 329) (by decide) (by omega) (by decide) c_12
            refine lv_aload_n hx hb dX12_image_25 rfl (lv_at hl 1 rfl) ?_
            refine r_get (v := .ref a4) M w 0 16 clX12 rfl (by decide) G1483 rfl rfl dX12_image_26 ?_
            refine lv_sipush (v := 329) hx hb dX12_image_29 (by decide) ?_
            refine lv_iload_n hx hb dX12_image_32 rfl (lv_at hl 2 rfl) ?_
            refine r_imul (v := (329 : Int32)) M (by decide +kernel) dX12_image_33 ?_
            refine lv_iload_n hx hb dX12_image_34 rfl (lv_at hl 0 rfl) ?_
            refine r_iadd (v := (nI (i + 329))) M (ix_addl (k := 329) (by decide) (by omega)) dX12_image_35 ?_
            refine lv_aload_n hx hb dX12_image_36 rfl (lv_at hl 1 rfl) ?_
            refine r_get (v := .ref a2) M w 0 14 clX12 rfl (by decide) G1481 rfl rfl dX12_image_37 ?_
            refine lv_iload_n hx hb dX12_image_40 rfl (lv_at hl 0 rfl) ?_
            refine r_iald (v := (cn45 (Int32.toNatClampNeg (nI i)))) M w 1 rfl (ix_in (by omega) (by decide)) rfl dX12_image_41 ?_
            refine r_iast (ws' := [(a0, .inr (11, [.int 0, .ref a1, .int 0, .int 0, .int 0, .int 0, .int 0, .int 0, .int 0, .int 0, .int 0, .int 0, .long 0, .int 0, .ref a2, .ref a3, .ref a4, .ref a5, .ref a6, .ref a7, .ref a8, .ref a9, .ref a10, .ref a11, .int 0, .ref a12, .ref a13, .ref a14, .ref a15, .int 0, .int 0, .int 0, .ref a16, .int (-1), .int (-1), .ref a17, .ref a18, .int 0, .ref a19, .int 0, .int 0, .ref a20, .ref a21, .int 0, .int 0, .ref a22, .int 0, .int 0, .int 0, .int 0])), (a2, .inl (T 0, 329, .inl cn45)), (a4, .inl (T 0, 658, .inl (upd f11 (Int32.toNatClampNeg (nI (i + 329))) (cn45 (Int32.toNatClampNeg (nI i)))))), (a7, .inl (T 1, 12, .inr (.inl (fun _ => 0)))), (a9, .inl (T 1, 24, .inr (.inl (fun _ => 0)))), (a10, .inl (T 2, 2, .inl (fun _ => 0)))]) M w 2 rfl (ix_in (by omega) (by decide)) rfl dX12_image_42 (fun H locs w => ?_)
            refine lv_iinc (v := (nI (i + 1))) (lv' := [(2, .int (nI (i + 1))), (0, .ref a0), (1, .int 1)]) hx hb dX12_image_43 hl (k := 0) rfl (ix_add (k := 1) (by decide) (by omega)) (by decide) rfl (fun ls hl => ?_)
            refine lv_goto (tgt := 18) hx hb dX12_image_46 (by decide) ?_
            exact ih (i + 1) (upd f11 (Int32.toNatClampNeg (nI (i + 329))) (cn45 (Int32.toNatClampNeg (nI i)))) _ _ _ (by omega) (by omega) (by omega) w (lv_sub hl [0, 1, 2] rfl)
      exact loop 330 0 (fun _ => 0) _ _ _ (by decide) (by decide) (by decide) w hl
set_option maxRecDepth 100000 in
set_option maxHeartbeats 4000000 in
theorem c182_X11_restore (l : Launch) (D : va_G) (T : Nat → ClassId) (sz : Nat) (a0 a1 a2 a3 a4 a5 a6 a7 a8 a9 a10 a11 a12 a13 a14 a16 a15 a17 a18 a19 a20 a21 a22 : Nat) (x0 : Int32) : Met l yX11_restore (Cond.code yX11_restore cX11_restore 2 (some .boolean) :: GW) (Rm 0 0 0) (cPre [.ref a0, .int x0] D T [(a0, .inr (10, [.ref a1, .ref a2, .ref a3, .ref a4, .ref a5, .ref a6, .ref a7, .ref a8, .ref a9, .ref a10, .ref a11, .ref a12, .ref a13, .ref a14, .int 0, .int 0, .int 0])), (a10, .inl (T 4, 2, .inr (.inr (.inr (.inr (va_up (va_up (fun _ => none) (Int32.toNatClampNeg (0 : Int32)) (some a15)) (Int32.toNatClampNeg (1 : Int32)) (some a16))))))), (a16, .inr (1, [.ref a17, .ref a18, .ref a19, .int 0])), (a15, .inr (1, [.ref a20, .ref a21, .ref a22, .int 0]))] sz) (qI D [(a0, .inr (10, [.ref a1, .ref a2, .ref a3, .ref a4, .ref a5, .ref a6, .ref a7, .ref a8, .ref a9, .ref a10, .ref a11, .ref a12, .ref a13, .ref a14, .int 0, .int 0, .int 0])), (a10, .inl (T 4, 2, .inr (.inr (.inr (.inr (va_up (va_up (fun _ => none) (Int32.toNatClampNeg (0 : Int32)) (some a15)) (Int32.toNatClampNeg (1 : Int32)) (some a16))))))), (a16, .inr (1, [.ref a17, .ref a18, .ref a19, .int 0])), (a15, .inr (1, [.ref a20, .ref a21, .ref a22, .int 0]))] sz (fun (v : Int32) (u : Unit) => (0 : Int32) = v) (fun u => [])) 0 0 (va_A [(a0, .inr (10, [.ref a1, .ref a2, .ref a3, .ref a4, .ref a5, .ref a6, .ref a7, .ref a8, .ref a9, .ref a10, .ref a11, .ref a12, .ref a13, .ref a14, .int 0, .int 0, .int 0])), (a10, .inl (T 4, 2, .inr (.inr (.inr (.inr (va_up (va_up (fun _ => none) (Int32.toNatClampNeg (0 : Int32)) (some a15)) (Int32.toNatClampNeg (1 : Int32)) (some a16))))))), (a16, .inr (1, [.ref a17, .ref a18, .ref a19, .int 0])), (a15, .inr (1, [.ref a20, .ref a21, .ref a22, .int 0]))] sz) := by
  refine e_Z (by decide) (Nat.le_of_ble_eq_true rfl) ?_
  intro p e s m args below meth c A Q ls M hin w ret hl
  have hx := M.1.1
  have hb := M.1.2.1
  have hl : lv_has ls 2 [(0, .ref a0), (1, .int x0)] := hl
  refine lv_iload_n hx hb dX11_restore_0 rfl (lv_at hl 1 rfl) ?_
  refine lv_if_lt (tgt := 21) hx hb dX11_restore_1 (by decide) (fun c_1 => ?_) (fun c_1 => ?_)
  · refine lv_iconst (v := 0) hx hb dX11_restore_21 (by decide) ?_
    exact ret _ () _ _ _ _ _ [] dX11_restore_22 (by decide +kernel) rfl w (by decide) rfl
  · refine lv_iload_n hx hb dX11_restore_4 rfl (lv_at hl 1 rfl) ?_
    refine lv_iconst (v := 2) hx hb dX11_restore_5 (by decide) ?_
    refine lv_icmp_ge (tgt := 21) hx hb dX11_restore_6 (by decide) (fun c_2 => ?_) (fun c_2 => ?_)
    · refine lv_iconst (v := 0) hx hb dX11_restore_21 (by decide) ?_
      exact ret _ () _ _ _ _ _ [] dX11_restore_22 (by decide +kernel) rfl w (by decide) rfl
    · refine lv_aload_n hx hb dX11_restore_9 rfl (lv_at hl 0 rfl) ?_
      refine r_get (v := .ref a10) M w 0 9 clX11 rfl (by decide) G506 rfl rfl dX11_restore_10 ?_
      refine lv_iload_n hx hb dX11_restore_13 rfl (lv_at hl 1 rfl) ?_
      have h3 : x0 = (0 : Int32) ∨ x0 = (1 : Int32) := by
        simp only [fa_lt, fa_le, fa_eq] at c_1 c_2 ⊢
        have e0 : (0 : Int32).toInt = 0 := (by decide)
        have e1 : (1 : Int32).toInt = 1 := (by decide)
        have e2 : (2 : Int32).toInt = 2 := (by decide)
        omega
      rcases h3 with rfl | rfl
      · refine r_aald (v := .ref a15) (C := "HookedCity$Image") M w 1 4 rfl rfl (vin (by decide +kernel)) rfl dX11_restore_14 ?_
        refine r_getN (v := .int 0) M w 3 3 clX1 rfl (by decide) N487 rfl rfl dX11_restore_15 ?_
        refine lv_if_ne (tgt := 23) hx hb dX11_restore_18 (by decide) (fun c => absurd (by decide +kernel) c) (fun _ => ?_)
        refine lv_iconst (v := 0) hx hb dX11_restore_21 (by decide) ?_
        exact ret _ () _ _ _ _ _ [] dX11_restore_22 (by decide +kernel) rfl w (by decide) rfl
      · refine r_aald (v := .ref a16) (C := "HookedCity$Image") M w 1 4 rfl rfl (vin (by decide +kernel)) rfl dX11_restore_14 ?_
        refine r_getN (v := .int 0) M w 2 3 clX1 rfl (by decide) N487 rfl rfl dX11_restore_15 ?_
        refine lv_if_ne (tgt := 23) hx hb dX11_restore_18 (by decide) (fun c => absurd (by decide +kernel) c) (fun _ => ?_)
        refine lv_iconst (v := 0) hx hb dX11_restore_21 (by decide) ?_
        exact ret _ () _ _ _ _ _ [] dX11_restore_22 (by decide +kernel) rfl w (by decide) rfl
set_option maxRecDepth 100000 in
set_option maxHeartbeats 4000000 in
theorem c183_X12_restore (l : Launch) (D : va_G) (T : Nat → ClassId) (sz : Nat) (a0 a1 a2 a3 a4 a5 a6 a7 a8 a9 a10 a11 a12 a13 a14 a15 a16 a17 a18 a19 a20 a21 a22 : Nat) (x0 : Int32) : Met l yX12_restore (Cond.code yX12_restore cX12_restore 3 (some .boolean) :: GW) (Rm 1 0 0) (cPre [.ref a0, .int x0] D T [(a0, .inr (11, [.int 0, .ref a1, .int 0, .int 0, .int 0, .int 0, .int 0, .int 0, .int 0, .int 0, .int 0, .int 0, .long 0, .int 0, .ref a2, .ref a3, .ref a4, .ref a5, .ref a6, .ref a7, .ref a8, .ref a9, .ref a10, .ref a11, .int 0, .ref a12, .ref a13, .ref a14, .ref a15, .int 0, .int 0, .int 0, .ref a16, .int (-1), .int (-1), .ref a17, .ref a18, .int 0, .ref a19, .int 0, .int 0, .ref a20, .ref a21, .int 0, .int 0, .ref a22, .int 0, .int 0, .int 0, .int 0])), (a10, .inl (T 2, 2, .inl (fun _ => 0)))] sz) (qI D [(a0, .inr (11, [.int 0, .ref a1, .int 0, .int 0, .int 0, .int 0, .int 0, .int 0, .int 0, .int 0, .int 0, .int 0, .long 0, .int 0, .ref a2, .ref a3, .ref a4, .ref a5, .ref a6, .ref a7, .ref a8, .ref a9, .ref a10, .ref a11, .int 0, .ref a12, .ref a13, .ref a14, .ref a15, .int 0, .int 0, .int 0, .ref a16, .int (-1), .int (-1), .ref a17, .ref a18, .int 0, .ref a19, .int 0, .int 0, .ref a20, .ref a21, .int 0, .int 0, .ref a22, .int 0, .int 0, .int 0, .int 0])), (a10, .inl (T 2, 2, .inl (fun _ => 0)))] sz (fun (v : Int32) (u : Unit) => (0 : Int32) = v) (fun u => [])) 0 0 (va_A [(a0, .inr (11, [.int 0, .ref a1, .int 0, .int 0, .int 0, .int 0, .int 0, .int 0, .int 0, .int 0, .int 0, .int 0, .long 0, .int 0, .ref a2, .ref a3, .ref a4, .ref a5, .ref a6, .ref a7, .ref a8, .ref a9, .ref a10, .ref a11, .int 0, .ref a12, .ref a13, .ref a14, .ref a15, .int 0, .int 0, .int 0, .ref a16, .int (-1), .int (-1), .ref a17, .ref a18, .int 0, .ref a19, .int 0, .int 0, .ref a20, .ref a21, .int 0, .int 0, .ref a22, .int 0, .int 0, .int 0, .int 0])), (a10, .inl (T 2, 2, .inl (fun _ => 0)))] sz) := by
  refine e_Z (by decide) (Nat.le_of_ble_eq_true rfl) ?_
  intro p e s m args below meth c A Q ls M hin w ret hl
  have hx := M.1.1
  have hb := M.1.2.1
  have hl : lv_has ls 3 [(0, .ref a0), (1, .int x0)] := hl
  refine lv_aload_n hx hb dX12_restore_0 rfl (lv_at hl 0 rfl) ?_
  refine lv_iconst (v := 0) hx hb dX12_restore_1 (by decide) ?_
  refine r_put (ws' := [(a0, .inr (11, [.int 0, .ref a1, .int 0, .int 0, .int 0, .int 0, .int 0, .int 0, .int 0, .int 0, .int 0, .int 0, .long 0, .int 0, .ref a2, .ref a3, .ref a4, .ref a5, .ref a6, .ref a7, .ref a8, .ref a9, .ref a10, .ref a11, .int 0, .ref a12, .ref a13, .ref a14, .ref a15, .int 0, .int 0, .int 0, .ref a16, .int (-1), .int (-1), .ref a17, .ref a18, .int 0, .ref a19, .int 0, .int 0, .ref a20, .ref a21, .int 0, .int 0, .ref a22, .int 0, .int 0, .int 0, .int 0])), (a10, .inl (T 2, 2, .inl (fun _ => 0)))]) M w 0 0 clX12 rfl (by decide) G1467 rfl rfl rfl rfl (Nat.le_of_ble_eq_true rfl) rfl dX12_restore_2 (fun H locs w => ?_)
  refine lv_iload_n hx hb dX12_restore_5 rfl (lv_at hl 1 rfl) ?_
  refine lv_iconst (v := 0) hx hb dX12_restore_6 (by decide) ?_
  refine lv_iconst (v := 1) hx hb dX12_restore_7 (by decide) ?_
  refine k_I (ce := 0) (sl := 0) (rest := []) (wr := [(a0, .inr (11, [.int 0, .ref a1, .int 0, .int 0, .int 0, .int 0, .int 0, .int 0, .int 0, .int 0, .int 0, .int 0, .long 0, .int 0, .ref a2, .ref a3, .ref a4, .ref a5, .ref a6, .ref a7, .ref a8, .ref a9, .ref a10, .ref a11, .int 0, .ref a12, .ref a13, .ref a14, .ref a15, .int 0, .int 0, .int 0, .ref a16, .int (-1), .int (-1), .ref a17, .ref a18, .int 0, .ref a19, .int 0, .int 0, .ref a20, .ref a21, .int 0, .int 0, .ref a22, .int 0, .int 0, .int 0, .int 0])), (a10, .inl (T 2, 2, .inl (fun _ => 0)))]) (r_S (f := 0) [] M w V_HookedCityModel_75 G1697 (c135_X12_isIn l D T _ x0) rfl (by decide) rfl hl.1 rfl (Nat.le_of_ble_eq_true rfl) dX12_restore_8 (by decide) (by decide) (by decide) (by decide)) w [] [0, 1] rfl rfl (by decide) (by decide) rfl rfl (fun v _ H locs hp w => ?_)
  try dsimp only at hp
  rcases hp with ⟨c_1, hp⟩ | ⟨c_2, c_3, hp⟩ | ⟨c_4, c_5, hp⟩
  · have hp : (0 : Int32) = v := hp
    subst hp
    have w : WD D A s.heap [(a0, .inr (11, [.int 0, .ref a1, .int 0, .int 0, .int 0, .int 0, .int 0, .int 0, .int 0, .int 0, .int 0, .int 0, .long 0, .int 0, .ref a2, .ref a3, .ref a4, .ref a5, .ref a6, .ref a7, .ref a8, .ref a9, .ref a10, .ref a11, .int 0, .ref a12, .ref a13, .ref a14, .ref a15, .int 0, .int 0, .int 0, .ref a16, .int (-1), .int (-1), .ref a17, .ref a18, .int 0, .ref a19, .int 0, .int 0, .ref a20, .ref a21, .int 0, .int 0, .ref a22, .int 0, .int 0, .int 0, .int 0])), (a10, .inl (T 2, 2, .inl (fun _ => 0)))] H locs := w
    refine lv_if_eq (tgt := 23) hx hb dX12_restore_11 (by decide) (fun _ => ?_) (fun c => absurd (by decide +kernel) c)
    refine lv_iconst (v := 0) hx hb dX12_restore_23 (by decide) ?_
    exact ret _ () _ _ _ _ _ [] dX12_restore_24 (by decide +kernel) rfl w (by decide) rfl
  · have hp : (0 : Int32) = v := hp
    subst hp
    have w : WD D A s.heap [(a0, .inr (11, [.int 0, .ref a1, .int 0, .int 0, .int 0, .int 0, .int 0, .int 0, .int 0, .int 0, .int 0, .int 0, .long 0, .int 0, .ref a2, .ref a3, .ref a4, .ref a5, .ref a6, .ref a7, .ref a8, .ref a9, .ref a10, .ref a11, .int 0, .ref a12, .ref a13, .ref a14, .ref a15, .int 0, .int 0, .int 0, .ref a16, .int (-1), .int (-1), .ref a17, .ref a18, .int 0, .ref a19, .int 0, .int 0, .ref a20, .ref a21, .int 0, .int 0, .ref a22, .int 0, .int 0, .int 0, .int 0])), (a10, .inl (T 2, 2, .inl (fun _ => 0)))] H locs := w
    refine lv_if_eq (tgt := 23) hx hb dX12_restore_11 (by decide) (fun _ => ?_) (fun c => absurd (by decide +kernel) c)
    refine lv_iconst (v := 0) hx hb dX12_restore_23 (by decide) ?_
    exact ret _ () _ _ _ _ _ [] dX12_restore_24 (by decide +kernel) rfl w (by decide) rfl
  · have hp : (1 : Int32) = v := hp
    subst hp
    have w : WD D A s.heap [(a0, .inr (11, [.int 0, .ref a1, .int 0, .int 0, .int 0, .int 0, .int 0, .int 0, .int 0, .int 0, .int 0, .int 0, .long 0, .int 0, .ref a2, .ref a3, .ref a4, .ref a5, .ref a6, .ref a7, .ref a8, .ref a9, .ref a10, .ref a11, .int 0, .ref a12, .ref a13, .ref a14, .ref a15, .int 0, .int 0, .int 0, .ref a16, .int (-1), .int (-1), .ref a17, .ref a18, .int 0, .ref a19, .int 0, .int 0, .ref a20, .ref a21, .int 0, .int 0, .ref a22, .int 0, .int 0, .int 0, .int 0])), (a10, .inl (T 2, 2, .inl (fun _ => 0)))] H locs := w
    refine lv_if_eq (tgt := 23) hx hb dX12_restore_11 (by decide) (fun c => absurd c (by decide +kernel)) (fun _ => ?_)
    refine lv_aload_n hx hb dX12_restore_14 rfl (lv_at hl 0 rfl) ?_
    refine r_get (v := .ref a10) M w 0 22 clX12 rfl (by decide) G1489 rfl rfl dX12_restore_15 ?_
    refine lv_iload_n hx hb dX12_restore_18 rfl (lv_at hl 1 rfl) ?_
    have h6 : x0 = (0 : Int32) ∨ x0 = (1 : Int32) := by
      simp only [fa_lt, fa_le, fa_eq] at c_4 c_5 ⊢
      have e0 : (0 : Int32).toInt = 0 := (by decide)
      have e1 : (1 : Int32).toInt = 1 := (by decide)
      omega
    rcases h6 with rfl | rfl
    · refine r_zald (v := (0 : Int32)) M w 1 rfl (vin (by decide +kernel)) (by decide +kernel) dX12_restore_19 ?_
      refine lv_if_ne (tgt := 25) hx hb dX12_restore_20 (by decide) (fun c => absurd (by decide +kernel) c) (fun _ => ?_)
      refine lv_iconst (v := 0) hx hb dX12_restore_23 (by decide) ?_
      exact ret _ () _ _ _ _ _ [] dX12_restore_24 (by decide +kernel) rfl w (by decide) rfl
    · refine r_zald (v := (0 : Int32)) M w 1 rfl (vin (by decide +kernel)) (by decide +kernel) dX12_restore_19 ?_
      refine lv_if_ne (tgt := 25) hx hb dX12_restore_20 (by decide) (fun c => absurd (by decide +kernel) c) (fun _ => ?_)
      refine lv_iconst (v := 0) hx hb dX12_restore_23 (by decide) ?_
      exact ret _ () _ _ _ _ _ [] dX12_restore_24 (by decide +kernel) rfl w (by decide) rfl
set_option maxRecDepth 100000 in
set_option maxHeartbeats 4000000 in
theorem c184_X11_count (l : Launch) (D : va_G) (T : Nat → ClassId) (sz : Nat) (a0 a1 a2 a3 a4 a5 a6 a7 a8 a9 a10 a11 a12 a13 a14 a15 a16 a17 a18 a19 a20 a21 a22 a23 a24 : Nat) (x0 : Int32) : Met l yX11_count (Cond.code yX11_count cX11_count 2 (some .int) :: GW) (Rm 0 0 0) (cPre [.ref a0, .int x0] D T [(a0, .inr (10, [.ref a1, .ref a2, .ref a3, .ref a4, .ref a5, .ref a6, .ref a7, .ref a8, .ref a9, .ref a10, .ref a11, .ref a12, .ref a13, .ref a14, .int 0, .int 0, .int 0])), (a1, .inr (8, [.ref a15, .int 0, .int 0, .int 0, .int 0, .int 0, .null, .long 0, .int 0, .int 0, .int 0, .int 0])), (a11, .inr (9, [.ref a16, .ref a17, .ref a18, .ref a19, .ref a20, .ref a21, .ref a22, .ref a23, .ref a24, .int 0, .int 0, .int 0, .int 0, .int 12, .int 1, .int 0, .int 0, .int 0]))] sz) (qI D [(a0, .inr (10, [.ref a1, .ref a2, .ref a3, .ref a4, .ref a5, .ref a6, .ref a7, .ref a8, .ref a9, .ref a10, .ref a11, .ref a12, .ref a13, .ref a14, .int 0, .int 0, .int 0])), (a1, .inr (8, [.ref a15, .int 0, .int 0, .int 0, .int 0, .int 0, .null, .long 0, .int 0, .int 0, .int 0, .int 0])), (a11, .inr (9, [.ref a16, .ref a17, .ref a18, .ref a19, .ref a20, .ref a21, .ref a22, .ref a23, .ref a24, .int 0, .int 0, .int 0, .int 0, .int 12, .int 1, .int 0, .int 0, .int 0]))] sz (fun (v : Int32) (u : Unit) => (x0 = (0 : Int32) ∧ (0 : Int32) = v) ∨ (¬ x0 = (0 : Int32) ∧ x0 = (1 : Int32) ∧ (0 : Int32) = v) ∨ (¬ x0 = (0 : Int32) ∧ ¬ x0 = (1 : Int32) ∧ ¬ x0 = (2 : Int32) ∧ ¬ x0 = (3 : Int32) ∧ x0 = (4 : Int32) ∧ (0 : Int32) = v) ∨ (¬ x0 = (0 : Int32) ∧ ¬ x0 = (1 : Int32) ∧ x0 = (2 : Int32) ∧ (12 : Int32) = v) ∨ (¬ x0 = (0 : Int32) ∧ ¬ x0 = (1 : Int32) ∧ ¬ x0 = (2 : Int32) ∧ x0 = (3 : Int32) ∧ (1 : Int32) = v) ∨ (¬ x0 = (0 : Int32) ∧ ¬ x0 = (1 : Int32) ∧ ¬ x0 = (2 : Int32) ∧ ¬ x0 = (3 : Int32) ∧ ¬ x0 = (4 : Int32) ∧ (-1 : Int32) = v)) (fun u => [])) 0 0 (va_A [(a0, .inr (10, [.ref a1, .ref a2, .ref a3, .ref a4, .ref a5, .ref a6, .ref a7, .ref a8, .ref a9, .ref a10, .ref a11, .ref a12, .ref a13, .ref a14, .int 0, .int 0, .int 0])), (a1, .inr (8, [.ref a15, .int 0, .int 0, .int 0, .int 0, .int 0, .null, .long 0, .int 0, .int 0, .int 0, .int 0])), (a11, .inr (9, [.ref a16, .ref a17, .ref a18, .ref a19, .ref a20, .ref a21, .ref a22, .ref a23, .ref a24, .int 0, .int 0, .int 0, .int 0, .int 12, .int 1, .int 0, .int 0, .int 0]))] sz) := by
  refine e_I (by decide) (Nat.le_of_ble_eq_true rfl) ?_
  intro p e s m args below meth c A Q ls M hin w ret hl
  have hx := M.1.1
  have hb := M.1.2.1
  have hl : lv_has ls 2 [(0, .ref a0), (1, .int x0)] := hl
  refine lv_iload_n hx hb dX11_count_0 rfl (lv_at hl 1 rfl) ?_
  by_cases c_1 : x0 = (0 : Int32)
  · refine lv_tableIn (off := 35) (tgt := 36) hx hb dX11_count_1 (by rw [c_1]; decide) (by rw [c_1]; decide) (by rw [c_1]; decide +kernel) (by decide) ?_
    refine lv_aload_n hx hb dX11_count_36 rfl (lv_at hl 0 rfl) ?_
    refine r_get (v := .ref a11) M w 0 10 clX11 rfl (by decide) G507 rfl rfl dX11_count_37 ?_
    refine r_getN (v := .int 0) M w 2 9 clX9 rfl (by decide) N392 rfl rfl dX11_count_40 ?_
    exact ret _ () _ _ _ _ _ [] dX11_count_43 (Or.inl ⟨c_1, rfl⟩) w (by decide) rfl
  by_cases c_2 : x0 = (1 : Int32)
  · refine lv_tableIn (off := 43) (tgt := 44) hx hb dX11_count_1 (by rw [c_2]; decide) (by rw [c_2]; decide) (by rw [c_2]; decide +kernel) (by decide) ?_
    refine lv_aload_n hx hb dX11_count_44 rfl (lv_at hl 0 rfl) ?_
    refine r_get (v := .ref a11) M w 0 10 clX11 rfl (by decide) G507 rfl rfl dX11_count_45 ?_
    refine r_getN (v := .int 0) M w 2 10 clX9 rfl (by decide) N395 rfl rfl dX11_count_48 ?_
    exact ret _ () _ _ _ _ _ [] dX11_count_51 (Or.inr (Or.inl ⟨c_1, c_2, rfl⟩)) w (by decide) rfl
  by_cases c_3 : x0 = (2 : Int32)
  · refine lv_tableIn (off := 51) (tgt := 52) hx hb dX11_count_1 (by rw [c_3]; decide) (by rw [c_3]; decide) (by rw [c_3]; decide +kernel) (by decide) ?_
    refine lv_aload_n hx hb dX11_count_52 rfl (lv_at hl 0 rfl) ?_
    refine r_get (v := .ref a11) M w 0 10 clX11 rfl (by decide) G507 rfl rfl dX11_count_53 ?_
    refine r_getN (v := .int 12) M w 2 13 clX9 rfl (by decide) N401 rfl rfl dX11_count_56 ?_
    exact ret _ () _ _ _ _ _ [] dX11_count_59 (Or.inr (Or.inr (Or.inr (Or.inl ⟨c_1, c_2, c_3, rfl⟩)))) w (by decide) rfl
  by_cases c_4 : x0 = (3 : Int32)
  · refine lv_tableIn (off := 59) (tgt := 60) hx hb dX11_count_1 (by rw [c_4]; decide) (by rw [c_4]; decide) (by rw [c_4]; decide +kernel) (by decide) ?_
    refine lv_aload_n hx hb dX11_count_60 rfl (lv_at hl 0 rfl) ?_
    refine r_get (v := .ref a11) M w 0 10 clX11 rfl (by decide) G507 rfl rfl dX11_count_61 ?_
    refine r_getN (v := .int 1) M w 2 14 clX9 rfl (by decide) N403 rfl rfl dX11_count_64 ?_
    exact ret _ () _ _ _ _ _ [] dX11_count_67 (Or.inr (Or.inr (Or.inr (Or.inr (Or.inl ⟨c_1, c_2, c_3, c_4, rfl⟩))))) w (by decide) rfl
  by_cases c_5 : x0 = (4 : Int32)
  · refine lv_tableIn (off := 67) (tgt := 68) hx hb dX11_count_1 (by rw [c_5]; decide) (by rw [c_5]; decide) (by rw [c_5]; decide +kernel) (by decide) ?_
    refine lv_aload_n hx hb dX11_count_68 rfl (lv_at hl 0 rfl) ?_
    refine r_get (v := .ref a1) M w 0 0 clX11 rfl (by decide) G497 rfl rfl dX11_count_69 ?_
    refine r_getN (v := .int 0) M w 1 1 clX8 rfl (by decide) N164 rfl rfl dX11_count_72 ?_
    exact ret _ () _ _ _ _ _ [] dX11_count_75 (Or.inr (Or.inr (Or.inl ⟨c_1, c_2, c_3, c_4, c_5, rfl⟩))) w (by decide) rfl
  have h6 : (x0).toInt < 0 ∨ 4 < (x0).toInt := by
    have nc_1 : ¬ (x0).toInt = 0 := fun h => c_1 ((fa_eq _ _).mpr (h.trans (by decide)))
    have nc_2 : ¬ (x0).toInt = 1 := fun h => c_2 ((fa_eq _ _).mpr (h.trans (by decide)))
    have nc_3 : ¬ (x0).toInt = 2 := fun h => c_3 ((fa_eq _ _).mpr (h.trans (by decide)))
    have nc_4 : ¬ (x0).toInt = 3 := fun h => c_4 ((fa_eq _ _).mpr (h.trans (by decide)))
    have nc_5 : ¬ (x0).toInt = 4 := fun h => c_5 ((fa_eq _ _).mpr (h.trans (by decide)))
    omega
  refine lv_tableOut (tgt := 76) hx hb dX11_count_1 h6 (by decide) ?_
  refine lv_iconst (v := (-1)) hx hb dX11_count_76 (by decide) ?_
  exact ret _ () _ _ _ _ _ [] dX11_count_77 (Or.inr (Or.inr (Or.inr (Or.inr (Or.inr (⟨c_1, c_2, c_3, c_4, c_5, rfl⟩)))))) w (by decide) rfl
set_option maxRecDepth 100000 in
set_option maxHeartbeats 4000000 in
theorem c185_X12_count (l : Launch) (D : va_G) (T : Nat → ClassId) (sz : Nat) (a0 a1 a2 a3 a4 a5 a6 a7 a8 a9 a10 a11 a12 a13 a14 a15 a16 a17 a18 a19 a20 a21 a22 : Nat) (x0 : Int32) : Met l yX12_count (Cond.code yX12_count cX12_count 2 (some .int) :: GW) (Rm 0 0 0) (cPre [.ref a0, .int x0] D T [(a0, .inr (11, [.int 0, .ref a1, .int 0, .int 0, .int 0, .int 0, .int 0, .int 0, .int 0, .int 0, .int 0, .int 0, .long 0, .int 0, .ref a2, .ref a3, .ref a4, .ref a5, .ref a6, .ref a7, .ref a8, .ref a9, .ref a10, .ref a11, .int 0, .ref a12, .ref a13, .ref a14, .ref a15, .int 0, .int 0, .int 0, .ref a16, .int (-1), .int (-1), .ref a17, .ref a18, .int 0, .ref a19, .int 0, .int 0, .ref a20, .ref a21, .int 0, .int 0, .ref a22, .int 0, .int 0, .int 0, .int 0])), (a2, .inl (T 0, 329, .inl cn45))] sz) (qI D [(a0, .inr (11, [.int 0, .ref a1, .int 0, .int 0, .int 0, .int 0, .int 0, .int 0, .int 0, .int 0, .int 0, .int 0, .long 0, .int 0, .ref a2, .ref a3, .ref a4, .ref a5, .ref a6, .ref a7, .ref a8, .ref a9, .ref a10, .ref a11, .int 0, .ref a12, .ref a13, .ref a14, .ref a15, .int 0, .int 0, .int 0, .ref a16, .int (-1), .int (-1), .ref a17, .ref a18, .int 0, .ref a19, .int 0, .int 0, .ref a20, .ref a21, .int 0, .int 0, .ref a22, .int 0, .int 0, .int 0, .int 0])), (a2, .inl (T 0, 329, .inl cn45))] sz (fun (v : Int32) (u : Unit) => (x0 = (0 : Int32) ∧ (0 : Int32) = v) ∨ (¬ x0 = (0 : Int32) ∧ x0 = (1 : Int32) ∧ (0 : Int32) = v) ∨ (¬ x0 = (0 : Int32) ∧ ¬ x0 = (1 : Int32) ∧ ¬ x0 = (2 : Int32) ∧ ¬ x0 = (3 : Int32) ∧ x0 = (4 : Int32) ∧ (0 : Int32) = v) ∨ (¬ x0 = (0 : Int32) ∧ ¬ x0 = (1 : Int32) ∧ x0 = (2 : Int32) ∧ (12 : Int32) = v) ∨ (¬ x0 = (0 : Int32) ∧ ¬ x0 = (1 : Int32) ∧ ¬ x0 = (2 : Int32) ∧ x0 = (3 : Int32) ∧ (1 : Int32) = v) ∨ (¬ x0 = (0 : Int32) ∧ ¬ x0 = (1 : Int32) ∧ ¬ x0 = (2 : Int32) ∧ ¬ x0 = (3 : Int32) ∧ ¬ x0 = (4 : Int32) ∧ (-1 : Int32) = v)) (fun u => [])) 0 0 (va_A [(a0, .inr (11, [.int 0, .ref a1, .int 0, .int 0, .int 0, .int 0, .int 0, .int 0, .int 0, .int 0, .int 0, .int 0, .long 0, .int 0, .ref a2, .ref a3, .ref a4, .ref a5, .ref a6, .ref a7, .ref a8, .ref a9, .ref a10, .ref a11, .int 0, .ref a12, .ref a13, .ref a14, .ref a15, .int 0, .int 0, .int 0, .ref a16, .int (-1), .int (-1), .ref a17, .ref a18, .int 0, .ref a19, .int 0, .int 0, .ref a20, .ref a21, .int 0, .int 0, .ref a22, .int 0, .int 0, .int 0, .int 0])), (a2, .inl (T 0, 329, .inl cn45))] sz) := by
  refine e_I (by decide) (Nat.le_of_ble_eq_true rfl) ?_
  intro p e s m args below meth c A Q ls M hin w ret hl
  have hx := M.1.1
  have hb := M.1.2.1
  have hl : lv_has ls 2 [(0, .ref a0), (1, .int x0)] := hl
  refine lv_aload_n hx hb dX12_count_0 rfl (lv_at hl 0 rfl) ?_
  refine lv_iconst (v := 0) hx hb dX12_count_1 (by decide) ?_
  refine r_put (ws' := [(a0, .inr (11, [.int 0, .ref a1, .int 0, .int 0, .int 0, .int 0, .int 0, .int 0, .int 0, .int 0, .int 0, .int 0, .long 0, .int 0, .ref a2, .ref a3, .ref a4, .ref a5, .ref a6, .ref a7, .ref a8, .ref a9, .ref a10, .ref a11, .int 0, .ref a12, .ref a13, .ref a14, .ref a15, .int 0, .int 0, .int 0, .ref a16, .int (-1), .int (-1), .ref a17, .ref a18, .int 0, .ref a19, .int 0, .int 0, .ref a20, .ref a21, .int 0, .int 0, .ref a22, .int 0, .int 0, .int 0, .int 0])), (a2, .inl (T 0, 329, .inl cn45))]) M w 0 0 clX12 rfl (by decide) G1467 rfl rfl rfl rfl (Nat.le_of_ble_eq_true rfl) rfl dX12_count_2 (fun H locs w => ?_)
  refine lv_iload_n hx hb dX12_count_5 rfl (lv_at hl 1 rfl) ?_
  by_cases c_1 : x0 = (0 : Int32)
  · refine lv_tableIn (off := 34) (tgt := 40) hx hb dX12_count_6 (by rw [c_1]; decide) (by rw [c_1]; decide) (by rw [c_1]; decide +kernel) (by decide) ?_
    refine lv_aload_n hx hb dX12_count_40 rfl (lv_at hl 0 rfl) ?_
    refine r_get (v := .ref a2) M w 0 14 clX12 rfl (by decide) G1481 rfl rfl dX12_count_41 ?_
    refine lv_iconst (v := 0) hx hb dX12_count_44 (by decide) ?_
    refine r_iald (v := (0 : Int32)) M w 1 rfl (vin (by decide +kernel)) (by decide +kernel) dX12_count_45 ?_
    exact ret _ () _ _ _ _ _ [] dX12_count_46 (Or.inl ⟨c_1, rfl⟩) w (by decide) rfl
  by_cases c_2 : x0 = (1 : Int32)
  · refine lv_tableIn (off := 41) (tgt := 47) hx hb dX12_count_6 (by rw [c_2]; decide) (by rw [c_2]; decide) (by rw [c_2]; decide +kernel) (by decide) ?_
    refine lv_aload_n hx hb dX12_count_47 rfl (lv_at hl 0 rfl) ?_
    refine r_get (v := .ref a2) M w 0 14 clX12 rfl (by decide) G1481 rfl rfl dX12_count_48 ?_
    refine lv_iconst (v := 1) hx hb dX12_count_51 (by decide) ?_
    refine r_iald (v := (0 : Int32)) M w 1 rfl (vin (by decide +kernel)) (by decide +kernel) dX12_count_52 ?_
    exact ret _ () _ _ _ _ _ [] dX12_count_53 (Or.inr (Or.inl ⟨c_1, c_2, rfl⟩)) w (by decide) rfl
  by_cases c_3 : x0 = (2 : Int32)
  · refine lv_tableIn (off := 48) (tgt := 54) hx hb dX12_count_6 (by rw [c_3]; decide) (by rw [c_3]; decide) (by rw [c_3]; decide +kernel) (by decide) ?_
    refine lv_aload_n hx hb dX12_count_54 rfl (lv_at hl 0 rfl) ?_
    refine r_get (v := .ref a2) M w 0 14 clX12 rfl (by decide) G1481 rfl rfl dX12_count_55 ?_
    refine lv_iconst (v := 3) hx hb dX12_count_58 (by decide) ?_
    refine r_iald (v := (12 : Int32)) M w 1 rfl (vin (by decide +kernel)) (by decide +kernel) dX12_count_59 ?_
    exact ret _ () _ _ _ _ _ [] dX12_count_60 (Or.inr (Or.inr (Or.inr (Or.inl ⟨c_1, c_2, c_3, rfl⟩)))) w (by decide) rfl
  by_cases c_4 : x0 = (3 : Int32)
  · refine lv_tableIn (off := 55) (tgt := 61) hx hb dX12_count_6 (by rw [c_4]; decide) (by rw [c_4]; decide) (by rw [c_4]; decide +kernel) (by decide) ?_
    refine lv_aload_n hx hb dX12_count_61 rfl (lv_at hl 0 rfl) ?_
    refine r_get (v := .ref a2) M w 0 14 clX12 rfl (by decide) G1481 rfl rfl dX12_count_62 ?_
    refine lv_iconst (v := 4) hx hb dX12_count_65 (by decide) ?_
    refine r_iald (v := (1 : Int32)) M w 1 rfl (vin (by decide +kernel)) (by decide +kernel) dX12_count_66 ?_
    exact ret _ () _ _ _ _ _ [] dX12_count_67 (Or.inr (Or.inr (Or.inr (Or.inr (Or.inl ⟨c_1, c_2, c_3, c_4, rfl⟩))))) w (by decide) rfl
  by_cases c_5 : x0 = (4 : Int32)
  · refine lv_tableIn (off := 62) (tgt := 68) hx hb dX12_count_6 (by rw [c_5]; decide) (by rw [c_5]; decide) (by rw [c_5]; decide +kernel) (by decide) ?_
    refine lv_aload_n hx hb dX12_count_68 rfl (lv_at hl 0 rfl) ?_
    refine r_get (v := .int 0) M w 0 2 clX12 rfl (by decide) G1469 rfl rfl dX12_count_69 ?_
    exact ret _ () _ _ _ _ _ [] dX12_count_72 (Or.inr (Or.inr (Or.inl ⟨c_1, c_2, c_3, c_4, c_5, rfl⟩))) w (by decide) rfl
  have h6 : (x0).toInt < 0 ∨ 4 < (x0).toInt := by
    have nc_1 : ¬ (x0).toInt = 0 := fun h => c_1 ((fa_eq _ _).mpr (h.trans (by decide)))
    have nc_2 : ¬ (x0).toInt = 1 := fun h => c_2 ((fa_eq _ _).mpr (h.trans (by decide)))
    have nc_3 : ¬ (x0).toInt = 2 := fun h => c_3 ((fa_eq _ _).mpr (h.trans (by decide)))
    have nc_4 : ¬ (x0).toInt = 3 := fun h => c_4 ((fa_eq _ _).mpr (h.trans (by decide)))
    have nc_5 : ¬ (x0).toInt = 4 := fun h => c_5 ((fa_eq _ _).mpr (h.trans (by decide)))
    omega
  refine lv_tableOut (tgt := 73) hx hb dX12_count_6 h6 (by decide) ?_
  refine lv_iconst (v := (-1)) hx hb dX12_count_73 (by decide) ?_
  exact ret _ () _ _ _ _ _ [] dX12_count_74 (Or.inr (Or.inr (Or.inr (Or.inr (Or.inr (⟨c_1, c_2, c_3, c_4, c_5, rfl⟩)))))) w (by decide) rfl
