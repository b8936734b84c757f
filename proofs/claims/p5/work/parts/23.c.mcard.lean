theorem dX12_write_0 : decode cX12_write 0 = .ok (.aload_n 0, 1) := by decide +kernel
theorem dX12_write_1 : decode cX12_write 1 = .ok (.getfield 157, 3) := by decide +kernel
theorem dX12_write_4 : decode cX12_write 4 = .ok (.aload_n 0, 1) := by decide +kernel
theorem dX12_write_5 : decode cX12_write 5 = .ok (.getfield 338, 3) := by decide +kernel
theorem dX12_write_8 : decode cX12_write 8 = .ok (.iload_n 1, 1) := by decide +kernel
theorem dX12_write_9 : decode cX12_write 9 = .ok (.iastore, 1) := by decide +kernel
theorem dX12_write_10 : decode cX12_write 10 = .ok (.aload_n 0, 1) := by decide +kernel
theorem dX12_write_11 : decode cX12_write 11 = .ok (.dup, 1) := by decide +kernel
theorem dX12_write_12 : decode cX12_write 12 = .ok (.getfield 338, 3) := by decide +kernel
theorem dX12_write_15 : decode cX12_write 15 = .ok (.iconst 1, 1) := by decide +kernel
theorem dX12_write_16 : decode cX12_write 16 = .ok (.iadd, 1) := by decide +kernel
theorem dX12_write_17 : decode cX12_write 17 = .ok (.putfield 338, 3) := by decide +kernel
theorem dX12_write_20 : decode cX12_write 20 = .ok (.return_, 1) := by decide +kernel
theorem dX12_writeWord_0 : decode cX12_writeWord 0 = .ok (.lload_n 1, 1) := by decide +kernel
theorem dX12_writeWord_1 : decode cX12_writeWord 1 = .ok (.ldc2_w 54, 3) := by decide +kernel
theorem dX12_writeWord_4 : decode cX12_writeWord 4 = .ok (.lcmp, 1) := by decide +kernel
theorem dX12_writeWord_5 : decode cX12_writeWord 5 = .ok (.ifCond .lt 12, 3) := by decide +kernel
theorem dX12_writeWord_17 : decode cX12_writeWord 17 = .ok (.aload_n 0, 1) := by decide +kernel
theorem dX12_writeWord_18 : decode cX12_writeWord 18 = .ok (.bipush 96, 2) := by decide +kernel
theorem dX12_writeWord_20 : decode cX12_writeWord 20 = .ok (.lload_n 1, 1) := by decide +kernel
theorem dX12_writeWord_21 : decode cX12_writeWord 21 = .ok (.ldc2_w 54, 3) := by decide +kernel
theorem dX12_writeWord_24 : decode cX12_writeWord 24 = .ok (.lrem, 1) := by decide +kernel
theorem dX12_writeWord_25 : decode cX12_writeWord 25 = .ok (.l2i, 1) := by decide +kernel
theorem dX12_writeWord_26 : decode cX12_writeWord 26 = .ok (.iadd, 1) := by decide +kernel
theorem dX12_writeWord_27 : decode cX12_writeWord 27 = .ok (.invokevirtual 345, 3) := by decide +kernel
theorem G1941 : Cond.code ⟨"HookedCityModel", "write", "(I)V"⟩ prog_14_method_91_code 2 none ∈ GW := gw_i 1941 (by decide +kernel) rfl
theorem G1938 : Cond.methodLink "HookedCityModel" 345 ⟨"HookedCityModel", "write", "(I)V"⟩ ∈ GW := gw_i 1938 (by decide +kernel) rfl
theorem V_HookedCityModel_345 : VL "HookedCityModel" 345 yX12_write cX12_write 2 none 1 := ⟨G1941, G1938, G131, by decide +kernel, by decide +kernel, by decide +kernel⟩
theorem G1940 : Cond.instanceMethod ⟨"HookedCityModel", "write", "(I)V"⟩ ∈ GW := gw_i 1940 (by decide +kernel) rfl
theorem G96 : Cond.selects "HookedCityModel" ⟨"HookedCityModel", "write", "(I)V"⟩ ⟨"HookedCityModel", "write", "(I)V"⟩ ∈ GW := gw_i 96 (by decide +kernel) rfl
theorem dX12_writeWord_30 : decode cX12_writeWord 30 = .ok (.return_, 1) := by decide +kernel
theorem dX12_writeWord_8 : decode cX12_writeWord 8 = .ok (.aload_n 0, 1) := by decide +kernel
theorem dX12_writeWord_9 : decode cX12_writeWord 9 = .ok (.lload_n 1, 1) := by decide +kernel
theorem dX12_writeWord_10 : decode cX12_writeWord 10 = .ok (.ldc2_w 54, 3) := by decide +kernel
theorem dX12_writeWord_13 : decode cX12_writeWord 13 = .ok (.ldiv, 1) := by decide +kernel
theorem dX12_writeWord_14 : decode cX12_writeWord 14 = .ok (.invokevirtual 341, 3) := by decide +kernel
theorem G1937 : Cond.code ⟨"HookedCityModel", "writeWord", "(J)V"⟩ prog_14_method_92_code 3 none ∈ GW := gw_i 1937 (by decide +kernel) rfl
theorem G1934 : Cond.methodLink "HookedCityModel" 341 ⟨"HookedCityModel", "writeWord", "(J)V"⟩ ∈ GW := gw_i 1934 (by decide +kernel) rfl
theorem V_HookedCityModel_341 : VL "HookedCityModel" 341 yX12_writeWord cX12_writeWord 3 none 1 := ⟨G1937, G1934, G131, by decide +kernel, by decide +kernel, by decide +kernel⟩
theorem G1936 : Cond.instanceMethod ⟨"HookedCityModel", "writeWord", "(J)V"⟩ ∈ GW := gw_i 1936 (by decide +kernel) rfl
theorem G95 : Cond.selects "HookedCityModel" ⟨"HookedCityModel", "writeWord", "(J)V"⟩ ⟨"HookedCityModel", "writeWord", "(J)V"⟩ ∈ GW := gw_i 95 (by decide +kernel) rfl
theorem dX12_writeNext_0 : decode cX12_writeNext 0 = .ok (.aload_n 0, 1) := by decide +kernel
theorem dX12_writeNext_1 : decode cX12_writeNext 1 = .ok (.bipush 32, 2) := by decide +kernel
theorem dX12_writeNext_3 : decode cX12_writeNext 3 = .ok (.invokevirtual 345, 3) := by decide +kernel
theorem dX12_writeNext_6 : decode cX12_writeNext 6 = .ok (.aload_n 0, 1) := by decide +kernel
theorem dX12_writeNext_7 : decode cX12_writeNext 7 = .ok (.lload_n 1, 1) := by decide +kernel
theorem dX12_writeNext_8 : decode cX12_writeNext 8 = .ok (.invokevirtual 341, 3) := by decide +kernel
theorem dX12_writeNext_11 : decode cX12_writeNext 11 = .ok (.return_, 1) := by decide +kernel
theorem dX12_card_0 : decode cX12_card 0 = .ok (.aload_n 0, 1) := by decide +kernel
theorem dX12_card_1 : decode cX12_card 1 = .ok (.iconst 0, 1) := by decide +kernel
theorem dX12_card_2 : decode cX12_card 2 = .ok (.putfield 1, 3) := by decide +kernel
theorem dX12_card_5 : decode cX12_card 5 = .ok (.aload_n 0, 1) := by decide +kernel
theorem dX12_card_6 : decode cX12_card 6 = .ok (.iload_n 1, 1) := by decide +kernel
theorem dX12_card_7 : decode cX12_card 7 = .ok (.invokevirtual 240, 3) := by decide +kernel
theorem dX12_card_10 : decode cX12_card 10 = .ok (.ifCond .ne 5, 3) := by decide +kernel
theorem dX12_card_15 : decode cX12_card 15 = .ok (.aload_n 0, 1) := by decide +kernel
theorem dX12_card_16 : decode cX12_card 16 = .ok (.iconst 0, 1) := by decide +kernel
theorem dX12_card_17 : decode cX12_card 17 = .ok (.putfield 338, 3) := by decide +kernel
theorem dX12_card_20 : decode cX12_card 20 = .ok (.aload_n 0, 1) := by decide +kernel
theorem dX12_card_21 : decode cX12_card 21 = .ok (.aload_n 0, 1) := by decide +kernel
theorem dX12_card_22 : decode cX12_card 22 = .ok (.getfield 113, 3) := by decide +kernel
theorem dX12_card_25 : decode cX12_card 25 = .ok (.iload_n 1, 1) := by decide +kernel
theorem dX12_card_26 : decode cX12_card 26 = .ok (.laload, 1) := by decide +kernel
theorem dX12_card_27 : decode cX12_card 27 = .ok (.invokevirtual 341, 3) := by decide +kernel
theorem dX12_card_30 : decode cX12_card 30 = .ok (.aload_n 0, 1) := by decide +kernel
theorem dX12_card_31 : decode cX12_card 31 = .ok (.iload_n 1, 1) := by decide +kernel
theorem dX12_card_32 : decode cX12_card 32 = .ok (.invokevirtual 255, 3) := by decide +kernel
theorem dX12_card_35 : decode cX12_card 35 = .ok (.ifCond .eq 15, 3) := by decide +kernel
theorem dX12_card_50 : decode cX12_card 50 = .ok (.aload_n 0, 1) := by decide +kernel
theorem dX12_card_51 : decode cX12_card 51 = .ok (.bipush 105, 2) := by decide +kernel
theorem dX12_card_53 : decode cX12_card 53 = .ok (.bipush 110, 2) := by decide +kernel
theorem dX12_card_55 : decode cX12_card 55 = .ok (.iconst 0, 1) := by decide +kernel
theorem dX12_card_56 : decode cX12_card 56 = .ok (.iconst 0, 1) := by decide +kernel
theorem dX12_card_57 : decode cX12_card 57 = .ok (.iconst 0, 1) := by decide +kernel
theorem dX12_card_58 : decode cX12_card 58 = .ok (.iconst 0, 1) := by decide +kernel
theorem dX12_card_59 : decode cX12_card 59 = .ok (.iconst 0, 1) := by decide +kernel
theorem dX12_card_60 : decode cX12_card 60 = .ok (.invokestatic 58, 3) := by decide +kernel
theorem dX12_card_63 : decode cX12_card 63 = .ok (.invokevirtual 348, 3) := by decide +kernel
theorem G1945 : Cond.code ⟨"HookedCityModel", "writeNext", "(J)V"⟩ prog_14_method_93_code 3 none ∈ GW := gw_i 1945 (by decide +kernel) rfl
theorem G1942 : Cond.methodLink "HookedCityModel" 348 ⟨"HookedCityModel", "writeNext", "(J)V"⟩ ∈ GW := gw_i 1942 (by decide +kernel) rfl
theorem V_HookedCityModel_348 : VL "HookedCityModel" 348 yX12_writeNext cX12_writeNext 3 none 1 := ⟨G1945, G1942, G131, by decide +kernel, by decide +kernel, by decide +kernel⟩
theorem G1944 : Cond.instanceMethod ⟨"HookedCityModel", "writeNext", "(J)V"⟩ ∈ GW := gw_i 1944 (by decide +kernel) rfl
theorem G97 : Cond.selects "HookedCityModel" ⟨"HookedCityModel", "writeNext", "(J)V"⟩ ⟨"HookedCityModel", "writeNext", "(J)V"⟩ ∈ GW := gw_i 97 (by decide +kernel) rfl
theorem dX12_card_66 : decode cX12_card 66 = .ok (.aload_n 0, 1) := by decide +kernel
theorem dX12_card_67 : decode cX12_card 67 = .ok (.aload_n 0, 1) := by decide +kernel
theorem dX12_card_68 : decode cX12_card 68 = .ok (.getfield 113, 3) := by decide +kernel
theorem dX12_card_71 : decode cX12_card 71 = .ok (.aload_n 0, 1) := by decide +kernel
theorem dX12_card_72 : decode cX12_card 72 = .ok (.getfield 98, 3) := by decide +kernel
theorem dX12_card_75 : decode cX12_card 75 = .ok (.bipush 57, 2) := by decide +kernel
theorem dX12_card_77 : decode cX12_card 77 = .ok (.iload_n 1, 1) := by decide +kernel
theorem dX12_card_78 : decode cX12_card 78 = .ok (.iadd, 1) := by decide +kernel
theorem dX12_card_79 : decode cX12_card 79 = .ok (.iaload, 1) := by decide +kernel
theorem dX12_card_80 : decode cX12_card 80 = .ok (.laload, 1) := by decide +kernel
theorem dX12_card_81 : decode cX12_card 81 = .ok (.invokevirtual 348, 3) := by decide +kernel
theorem dX12_card_84 : decode cX12_card 84 = .ok (.aload_n 0, 1) := by decide +kernel
theorem dX12_card_85 : decode cX12_card 85 = .ok (.iload_n 1, 1) := by decide +kernel
theorem dX12_card_86 : decode cX12_card 86 = .ok (.invokevirtual 264, 3) := by decide +kernel
theorem dX12_card_89 : decode cX12_card 89 = .ok (.ifCond .eq 15, 3) := by decide +kernel
theorem dX12_card_104 : decode cX12_card 104 = .ok (.aload_n 0, 1) := by decide +kernel
theorem dX12_card_105 : decode cX12_card 105 = .ok (.iload_n 1, 1) := by decide +kernel
theorem dX12_card_106 : decode cX12_card 106 = .ok (.invokevirtual 261, 3) := by decide +kernel
theorem dX12_card_109 : decode cX12_card 109 = .ok (.ifCond .eq 12, 3) := by decide +kernel
theorem dX12_card_121 : decode cX12_card 121 = .ok (.aload_n 0, 1) := by decide +kernel
theorem dX12_card_122 : decode cX12_card 122 = .ok (.getfield 338, 3) := by decide +kernel
theorem dX12_card_125 : decode cX12_card 125 = .ok (.ireturn, 1) := by decide +kernel
theorem dX12_card_112 : decode cX12_card 112 = .ok (.aload_n 0, 1) := by decide +kernel
theorem dX12_card_113 : decode cX12_card 113 = .ok (.bipush 19, 2) := by decide +kernel
theorem dX12_card_115 : decode cX12_card 115 = .ok (.invokestatic 62, 3) := by decide +kernel
theorem dX12_card_118 : decode cX12_card 118 = .ok (.invokevirtual 348, 3) := by decide +kernel
theorem dX12_card_92 : decode cX12_card 92 = .ok (.aload_n 0, 1) := by decide +kernel
theorem dX12_card_93 : decode cX12_card 93 = .ok (.bipush 20, 2) := by decide +kernel
theorem dX12_card_95 : decode cX12_card 95 = .ok (.invokestatic 62, 3) := by decide +kernel
theorem dX12_card_98 : decode cX12_card 98 = .ok (.invokevirtual 348, 3) := by decide +kernel
theorem dX12_card_101 : decode cX12_card 101 = .ok (.goto 20, 3) := by decide +kernel
theorem dX12_card_38 : decode cX12_card 38 = .ok (.aload_n 0, 1) := by decide +kernel
theorem dX12_card_39 : decode cX12_card 39 = .ok (.bipush 18, 2) := by decide +kernel
theorem dX12_card_41 : decode cX12_card 41 = .ok (.invokestatic 62, 3) := by decide +kernel
theorem dX12_card_44 : decode cX12_card 44 = .ok (.invokevirtual 348, 3) := by decide +kernel
theorem dX12_card_47 : decode cX12_card 47 = .ok (.goto 37, 3) := by decide +kernel
theorem dX12_card_13 : decode cX12_card 13 = .ok (.iconst (-1), 1) := by decide +kernel
theorem dX12_card_14 : decode cX12_card 14 = .ok (.ireturn, 1) := by decide +kernel
set_option maxRecDepth 100000 in
set_option maxHeartbeats 4000000 in
theorem c151_X12_write (l : Launch) (D : va_G) (T : Nat → ClassId) (sz : Nat) (a0 : Nat) (x0 : Int) (r0 : Int32) (a1 : Nat) (x1 : Int) (x2 : Int) (x3 : Int) (x4 : Int) (x5 : Int) (x6 : Int) (r1 : Int32) (x7 : Int) (x8 : Int) (x9 : Int) (y0 : Int64) (x10 : Int) (a2 : Nat) (a3 : Nat) (a4 : Nat) (a5 : Nat) (a6 : Nat) (a7 : Nat) (a8 : Nat) (a9 : Nat) (a10 : Nat) (a11 : Nat) (x11 : Int) (a12 : Nat) (a13 : Nat) (a14 : Nat) (a15 : Nat) (x12 : Int) (r2 : Int32) (r3 : Int32) (a16 : Nat) (x13 : Int) (x14 : Int) (a17 : Nat) (a18 : Nat) (x15 : Int) (a19 : Nat) (x16 : Int) (r4 : Int32) (a20 : Nat) (a21 : Nat) (x17 : Int) (r5 : Int32) (a22 : Nat) (x18 : Int) (x19 : Int) (x20 : Int) (x21 : Int) (f0 : Nat → Int32) (x0_a : (-2147483648) ≤ x0) (x0_b : x0 ≤ 2147483647) (x1_a : 0 ≤ x1) (x1_b : x1 ≤ 940) (x2_a : 0 ≤ x2) (x2_b : x2 ≤ 940) (x3_a : 0 ≤ x3) (x3_b : x3 ≤ 940) (x4_a : 0 ≤ x4) (x4_b : x4 ≤ 940) (x5_a : 0 ≤ x5) (x5_b : x5 ≤ 940) (x6_a : 0 ≤ x6) (x6_b : x6 ≤ 4) (x7_a : (-2147483648) ≤ x7) (x7_b : x7 ≤ 2147483647) (x8_a : (-2147483648) ≤ x8) (x8_b : x8 ≤ 2147483647) (x9_a : 0 ≤ x9) (x9_b : x9 ≤ 940) (x10_a : (-2147483648) ≤ x10) (x10_b : x10 ≤ 2147483647) (x11_a : 0 ≤ x11) (x11_b : x11 ≤ 8) (x12_a : 0 ≤ x12) (x12_b : x12 ≤ 9) (x13_a : (-1) ≤ x13) (x13_b : x13 ≤ 9) (x14_a : (-1) ≤ x14) (x14_b : x14 ≤ 8) (x15_a : 0 ≤ x15) (x15_b : x15 ≤ 9) (x16_a : 0 ≤ x16) (x16_b : x16 ≤ 63) (x17_a : 0 ≤ x17) (x17_b : x17 ≤ 40) (x18_a : 0 ≤ x18) (x18_b : x18 ≤ 40) (x19_a : 0 ≤ x19) (x19_b : x19 ≤ 20) (x20_a : 0 ≤ x20) (x20_b : x20 ≤ 8) (x21_a : 0 ≤ x21) (x21_b : x21 ≤ 39) : Met l yX12_write (Cond.code yX12_write cX12_write 2 none :: GW) (Rm 0 0 0) (cPre [.ref a0, .int (iI x0)] D T [(a0, .inr (11, [.int r0, .ref a1, .int (iI x1), .int (iI x2), .int (iI x3), .int (iI x4), .int (iI x5), .int (iI x6), .int r1, .int (iI x7), .int (iI x8), .int (iI x9), .long y0, .int (iI x10), .ref a2, .ref a3, .ref a4, .ref a5, .ref a6, .ref a7, .ref a8, .ref a9, .ref a10, .ref a11, .int (iI x11), .ref a12, .ref a13, .ref a14, .ref a15, .int (iI x12), .int r2, .int r3, .ref a16, .int (iI x13), .int (iI x14), .ref a17, .ref a18, .int (iI x15), .ref a19, .int (iI x16), .int r4, .ref a20, .ref a21, .int (iI x17), .int r5, .ref a22, .int (iI x18), .int (iI x19), .int (iI x20), .int (iI x21)])), (a19, .inl (T 0, 64, .inl f0))] sz) (qV D [(a0, .inr (11, [.int r0, .ref a1, .int (iI x1), .int (iI x2), .int (iI x3), .int (iI x4), .int (iI x5), .int (iI x6), .int r1, .int (iI x7), .int (iI x8), .int (iI x9), .long y0, .int (iI x10), .ref a2, .ref a3, .ref a4, .ref a5, .ref a6, .ref a7, .ref a8, .ref a9, .ref a10, .ref a11, .int (iI x11), .ref a12, .ref a13, .ref a14, .ref a15, .int (iI x12), .int r2, .int r3, .ref a16, .int (iI x13), .int (iI x14), .ref a17, .ref a18, .int (iI x15), .ref a19, .int (iI x16), .int r4, .ref a20, .ref a21, .int (iI x17), .int r5, .ref a22, .int (iI x18), .int (iI x19), .int (iI x20), .int (iI x21)])), (a19, .inl (T 0, 64, .inl f0))] sz (fun (u : Int × (Nat → Int32)) => 0 ≤ u.1 ∧ u.1 ≤ 64 ∧ 0 ≤ ((u.1 - x16) - 1) ∧ 0 ≤ ((x16 + 1) - u.1)) (fun u => [(a0, .inr (11, [.int r0, .ref a1, .int (iI x1), .int (iI x2), .int (iI x3), .int (iI x4), .int (iI x5), .int (iI x6), .int r1, .int (iI x7), .int (iI x8), .int (iI x9), .long y0, .int (iI x10), .ref a2, .ref a3, .ref a4, .ref a5, .ref a6, .ref a7, .ref a8, .ref a9, .ref a10, .ref a11, .int (iI x11), .ref a12, .ref a13, .ref a14, .ref a15, .int (iI x12), .int r2, .int r3, .ref a16, .int (iI x13), .int (iI x14), .ref a17, .ref a18, .int (iI x15), .ref a19, .int (iI u.1), .int r4, .ref a20, .ref a21, .int (iI x17), .int r5, .ref a22, .int (iI x18), .int (iI x19), .int (iI x20), .int (iI x21)])), (a19, .inl (T 0, 64, .inl u.2))])) 0 0 (va_A [(a0, .inr (11, [.int r0, .ref a1, .int (iI x1), .int (iI x2), .int (iI x3), .int (iI x4), .int (iI x5), .int (iI x6), .int r1, .int (iI x7), .int (iI x8), .int (iI x9), .long y0, .int (iI x10), .ref a2, .ref a3, .ref a4, .ref a5, .ref a6, .ref a7, .ref a8, .ref a9, .ref a10, .ref a11, .int (iI x11), .ref a12, .ref a13, .ref a14, .ref a15, .int (iI x12), .int r2, .int r3, .ref a16, .int (iI x13), .int (iI x14), .ref a17, .ref a18, .int (iI x15), .ref a19, .int (iI x16), .int r4, .ref a20, .ref a21, .int (iI x17), .int r5, .ref a22, .int (iI x18), .int (iI x19), .int (iI x20), .int (iI x21)])), (a19, .inl (T 0, 64, .inl f0))] sz) := by
  refine e_V (by decide) (Nat.le_of_ble_eq_true rfl) ?_
  intro p e s m args below meth c A Q ls M hin w ret hl
  have hx := M.1.1
  have hb := M.1.2.1
  have hl : lv_has ls 2 [(0, .ref a0), (1, .int (iI x0))] := hl
  refine lv_aload_n hx hb dX12_write_0 rfl (lv_at hl 0 rfl) ?_
  refine r_get (v := .ref a19) M w 0 38 clX12 rfl (by decide) G1501 rfl rfl dX12_write_1 ?_
  refine lv_aload_n hx hb dX12_write_4 rfl (lv_at hl 0 rfl) ?_
  refine r_get (v := .int (iI x16)) M w 0 39 clX12 rfl (by decide) G1502 rfl rfl dX12_write_5 ?_
  refine lv_iload_n hx hb dX12_write_8 rfl (lv_at hl 1 rfl) ?_
  refine r_iast (ws' := [(a0, .inr (11, [.int r0, .ref a1, .int (iI x1), .int (iI x2), .int (iI x3), .int (iI x4), .int (iI x5), .int (iI x6), .int r1, .int (iI x7), .int (iI x8), .int (iI x9), .long y0, .int (iI x10), .ref a2, .ref a3, .ref a4, .ref a5, .ref a6, .ref a7, .ref a8, .ref a9, .ref a10, .ref a11, .int (iI x11), .ref a12, .ref a13, .ref a14, .ref a15, .int (iI x12), .int r2, .int r3, .ref a16, .int (iI x13), .int (iI x14), .ref a17, .ref a18, .int (iI x15), .ref a19, .int (iI x16), .int r4, .ref a20, .ref a21, .int (iI x17), .int r5, .ref a22, .int (iI x18), .int (iI x19), .int (iI x20), .int (iI x21)])), (a19, .inl (T 0, 64, .inl (upd f0 (Int32.toNatClampNeg (iI x16)) (iI x0))))]) M w 1 rfl (iI_in (by omega) (by omega) (by decide)) rfl dX12_write_9 (fun H locs w => ?_)
  refine lv_aload_n hx hb dX12_write_10 rfl (lv_at hl 0 rfl) ?_
  refine lv_dup hx hb dX12_write_11 rfl ?_
  refine r_get (v := .int (iI x16)) M w 0 39 clX12 rfl (by decide) G1502 rfl rfl dX12_write_12 ?_
  refine lv_iconst (v := iI 1) hx hb dX12_write_15 (by decide +kernel) ?_
  refine r_iadd (v := iI (x16 + 1)) M (iI_add _ _) dX12_write_16 ?_
  refine r_put (ws' := [(a0, .inr (11, [.int r0, .ref a1, .int (iI x1), .int (iI x2), .int (iI x3), .int (iI x4), .int (iI x5), .int (iI x6), .int r1, .int (iI x7), .int (iI x8), .int (iI x9), .long y0, .int (iI x10), .ref a2, .ref a3, .ref a4, .ref a5, .ref a6, .ref a7, .ref a8, .ref a9, .ref a10, .ref a11, .int (iI x11), .ref a12, .ref a13, .ref a14, .ref a15, .int (iI x12), .int r2, .int r3, .ref a16, .int (iI x13), .int (iI x14), .ref a17, .ref a18, .int (iI x15), .ref a19, .int (iI (x16 + 1)), .int r4, .ref a20, .ref a21, .int (iI x17), .int r5, .ref a22, .int (iI x18), .int (iI x19), .int (iI x20), .int (iI x21)])), (a19, .inl (T 0, 64, .inl (upd f0 (Int32.toNatClampNeg (iI x16)) (iI x0))))]) M w 0 39 clX12 rfl (by decide) G1502 rfl rfl rfl rfl (Nat.le_of_ble_eq_true rfl) rfl dX12_write_17 (fun H locs w => ?_)
  exact ret ((x16 + 1), (upd f0 (Int32.toNatClampNeg (iI x16)) (iI x0))) _ _ _ _ _ [0, 1] dX12_write_20 ⟨(show 0 ≤ (x16 + 1) from by omega), (show (x16 + 1) ≤ 64 from by omega), (show 0 ≤ (((x16 + 1) - x16) - 1) from by omega), (show 0 ≤ ((x16 + 1) - (x16 + 1)) from by omega)⟩ w (by decide) rfl
set_option maxRecDepth 100000 in
set_option maxHeartbeats 4000000 in
theorem c152_X12_writeWord (l : Launch) (D : va_G) (T : Nat → ClassId) (sz : Nat) (a0 : Nat) (y0 : Int64) (r0 : Int32) (a1 : Nat) (x0 : Int) (x1 : Int) (x2 : Int) (x3 : Int) (x4 : Int) (x5 : Int) (r1 : Int32) (x6 : Int) (x7 : Int) (x8 : Int) (y1 : Int64) (x9 : Int) (a2 : Nat) (a3 : Nat) (a4 : Nat) (a5 : Nat) (a6 : Nat) (a7 : Nat) (a8 : Nat) (a9 : Nat) (a10 : Nat) (a11 : Nat) (x10 : Int) (a12 : Nat) (a13 : Nat) (a14 : Nat) (a15 : Nat) (x11 : Int) (r2 : Int32) (r3 : Int32) (a16 : Nat) (x12 : Int) (x13 : Int) (a17 : Nat) (a18 : Nat) (x14 : Int) (a19 : Nat) (x15 : Int) (r4 : Int32) (a20 : Nat) (a21 : Nat) (x16 : Int) (r5 : Int32) (a22 : Nat) (x17 : Int) (x18 : Int) (x19 : Int) (x20 : Int) (f0 : Nat → Int32) (x0_a : 0 ≤ x0) (x0_b : x0 ≤ 940) (x1_a : 0 ≤ x1) (x1_b : x1 ≤ 940) (x2_a : 0 ≤ x2) (x2_b : x2 ≤ 940) (x3_a : 0 ≤ x3) (x3_b : x3 ≤ 940) (x4_a : 0 ≤ x4) (x4_b : x4 ≤ 940) (x5_a : 0 ≤ x5) (x5_b : x5 ≤ 4) (x6_a : (-2147483648) ≤ x6) (x6_b : x6 ≤ 2147483647) (x7_a : (-2147483648) ≤ x7) (x7_b : x7 ≤ 2147483647) (x8_a : 0 ≤ x8) (x8_b : x8 ≤ 940) (x9_a : (-2147483648) ≤ x9) (x9_b : x9 ≤ 2147483647) (x10_a : 0 ≤ x10) (x10_b : x10 ≤ 8) (x11_a : 0 ≤ x11) (x11_b : x11 ≤ 9) (x12_a : (-1) ≤ x12) (x12_b : x12 ≤ 9) (x13_a : (-1) ≤ x13) (x13_b : x13 ≤ 8) (x14_a : 0 ≤ x14) (x14_b : x14 ≤ 9) (x15_a : 0 ≤ x15) (x15_b : x15 ≤ 64) (x16_a : 0 ≤ x16) (x16_b : x16 ≤ 40) (x17_a : 0 ≤ x17) (x17_b : x17 ≤ 40) (x18_a : 0 ≤ x18) (x18_b : x18 ≤ 20) (x19_a : 0 ≤ x19) (x19_b : x19 ≤ 8) (x20_a : 0 ≤ x20) (x20_b : x20 ≤ 39) (pp_w : (y0).toInt < 27) (pr_0 : 0 ≤ (63 - x15)) : Met l yX12_writeWord (Cond.code yX12_writeWord cX12_writeWord 3 none :: GW) (Rm 1 0 0) (cPre [.ref a0, .long y0] D T [(a0, .inr (11, [.int r0, .ref a1, .int (iI x0), .int (iI x1), .int (iI x2), .int (iI x3), .int (iI x4), .int (iI x5), .int r1, .int (iI x6), .int (iI x7), .int (iI x8), .long y1, .int (iI x9), .ref a2, .ref a3, .ref a4, .ref a5, .ref a6, .ref a7, .ref a8, .ref a9, .ref a10, .ref a11, .int (iI x10), .ref a12, .ref a13, .ref a14, .ref a15, .int (iI x11), .int r2, .int r3, .ref a16, .int (iI x12), .int (iI x13), .ref a17, .ref a18, .int (iI x14), .ref a19, .int (iI x15), .int r4, .ref a20, .ref a21, .int (iI x16), .int r5, .ref a22, .int (iI x17), .int (iI x18), .int (iI x19), .int (iI x20)])), (a19, .inl (T 0, 64, .inl f0))] sz) (qV D [(a0, .inr (11, [.int r0, .ref a1, .int (iI x0), .int (iI x1), .int (iI x2), .int (iI x3), .int (iI x4), .int (iI x5), .int r1, .int (iI x6), .int (iI x7), .int (iI x8), .long y1, .int (iI x9), .ref a2, .ref a3, .ref a4, .ref a5, .ref a6, .ref a7, .ref a8, .ref a9, .ref a10, .ref a11, .int (iI x10), .ref a12, .ref a13, .ref a14, .ref a15, .int (iI x11), .int r2, .int r3, .ref a16, .int (iI x12), .int (iI x13), .ref a17, .ref a18, .int (iI x14), .ref a19, .int (iI x15), .int r4, .ref a20, .ref a21, .int (iI x16), .int r5, .ref a22, .int (iI x17), .int (iI x18), .int (iI x19), .int (iI x20)])), (a19, .inl (T 0, 64, .inl f0))] sz (fun (u : Int × (Nat → Int32)) => 0 ≤ u.1 ∧ u.1 ≤ 64 ∧ 0 ≤ ((x15 + 1) - u.1) ∧ 0 ≤ (u.1 - x15)) (fun u => [(a0, .inr (11, [.int r0, .ref a1, .int (iI x0), .int (iI x1), .int (iI x2), .int (iI x3), .int (iI x4), .int (iI x5), .int r1, .int (iI x6), .int (iI x7), .int (iI x8), .long y1, .int (iI x9), .ref a2, .ref a3, .ref a4, .ref a5, .ref a6, .ref a7, .ref a8, .ref a9, .ref a10, .ref a11, .int (iI x10), .ref a12, .ref a13, .ref a14, .ref a15, .int (iI x11), .int r2, .int r3, .ref a16, .int (iI x12), .int (iI x13), .ref a17, .ref a18, .int (iI x14), .ref a19, .int (iI u.1), .int r4, .ref a20, .ref a21, .int (iI x16), .int r5, .ref a22, .int (iI x17), .int (iI x18), .int (iI x19), .int (iI x20)])), (a19, .inl (T 0, 64, .inl u.2))])) 0 0 (va_A [(a0, .inr (11, [.int r0, .ref a1, .int (iI x0), .int (iI x1), .int (iI x2), .int (iI x3), .int (iI x4), .int (iI x5), .int r1, .int (iI x6), .int (iI x7), .int (iI x8), .long y1, .int (iI x9), .ref a2, .ref a3, .ref a4, .ref a5, .ref a6, .ref a7, .ref a8, .ref a9, .ref a10, .ref a11, .int (iI x10), .ref a12, .ref a13, .ref a14, .ref a15, .int (iI x11), .int r2, .int r3, .ref a16, .int (iI x12), .int (iI x13), .ref a17, .ref a18, .int (iI x14), .ref a19, .int (iI x15), .int r4, .ref a20, .ref a21, .int (iI x16), .int r5, .ref a22, .int (iI x17), .int (iI x18), .int (iI x19), .int (iI x20)])), (a19, .inl (T 0, 64, .inl f0))] sz) := by
  refine e_V (by decide) (Nat.le_of_ble_eq_true rfl) ?_
  intro p e s m args below meth c A Q ls M hin w ret hl
  have hx := M.1.1
  have hb := M.1.2.1
  have hl : lv_has ls 3 [(0, .ref a0), (1, .long y0)] := hl
  refine lv_lload_n hx hb dX12_writeWord_0 rfl (lv_at hl 1 rfl) ?_
  refine lv_ldc2 (v := 27) hx hb M.1.2.2.2.1 (M.1.2.2.2.2 _ G1641) dX12_writeWord_1 ?_
  refine r_lcmp (v := lg_cmp y0 27) M rfl dX12_writeWord_4 ?_
  refine lv_if_lt (tgt := 17) hx hb dX12_writeWord_5 (by decide) (fun c_1 => ?_) (fun c_1 => ?_)
  · refine lv_aload_n hx hb dX12_writeWord_17 rfl (lv_at hl 0 rfl) ?_
    refine lv_bipush (v := iI 96) hx hb dX12_writeWord_18 (by decide +kernel) ?_
    refine lv_lload_n hx hb dX12_writeWord_20 rfl (lv_at hl 1 rfl) ?_
    refine lv_ldc2 (v := 27) hx hb M.1.2.2.2.1 (M.1.2.2.2.2 _ G1641) dX12_writeWord_21 ?_
    refine r_lrem (v := _) M rfl (by decide) dX12_writeWord_24 ?_
    refine b_anyl (fun fy2 => ?_)
    refine lv_l2i (v := _) hx hb dX12_writeWord_25 rfl ?_
    refine b_any (fun z3 z3_a z3_b => ?_)
    refine r_iadd (v := _) M rfl dX12_writeWord_26 ?_
    refine b_any (fun z4 z4_a z4_b => ?_)
    refine k_V (ce := 0) (sl := 0) (rest := []) (wr := []) (r_V (f := 0) [0, 1] M w V_HookedCityModel_345 G1940 G96 (c151_X12_write l D T _ a0 z4 r0 a1 x0 x1 x2 x3 x4 x5 r1 x6 x7 x8 y1 x9 a2 a3 a4 a5 a6 a7 a8 a9 a10 a11 x10 a12 a13 a14 a15 x11 r2 r3 a16 x12 x13 a17 a18 x14 a19 x15 r4 a20 a21 x16 r5 a22 x17 x18 x19 x20 f0 z4_a z4_b x0_a x0_b x1_a x1_b x2_a x2_b x3_a x3_b x4_a x4_b x5_a x5_b x6_a x6_b x7_a x7_b x8_a x8_b x9_a x9_b x10_a x10_b x11_a x11_b x12_a x12_b x13_a x13_b x14_a x14_b (by omega) (by omega) x16_a x16_b x17_a x17_b x18_a x18_b x19_a x19_b x20_a x20_b) 0 clX12 rfl rfl (by decide) rfl hl.1 rfl (Nat.le_of_ble_eq_true rfl) dX12_writeWord_27 (by decide) (by decide) (by decide) (by decide)) w [0, 1] [] rfl rfl (by decide) (by decide) rfl rfl (fun u H locs hp w => ?_)
    obtain ⟨z5, ff6⟩ := u
    have z5_a : 0 ≤ z5 := hp.1
    have z5_b : z5 ≤ 64 := hp.2.1
    have ee7 : 0 ≤ ((z5 - x15) - 1) := hp.2.2.1
    have ee8 : 0 ≤ ((x15 + 1) - z5) := hp.2.2.2
    have w : WD D A s.heap [(a0, .inr (11, [.int r0, .ref a1, .int (iI x0), .int (iI x1), .int (iI x2), .int (iI x3), .int (iI x4), .int (iI x5), .int r1, .int (iI x6), .int (iI x7), .int (iI x8), .long y1, .int (iI x9), .ref a2, .ref a3, .ref a4, .ref a5, .ref a6, .ref a7, .ref a8, .ref a9, .ref a10, .ref a11, .int (iI x10), .ref a12, .ref a13, .ref a14, .ref a15, .int (iI x11), .int r2, .int r3, .ref a16, .int (iI x12), .int (iI x13), .ref a17, .ref a18, .int (iI x14), .ref a19, .int (iI z5), .int r4, .ref a20, .ref a21, .int (iI x16), .int r5, .ref a22, .int (iI x17), .int (iI x18), .int (iI x19), .int (iI x20)])), (a19, .inl (T 0, 64, .inl ff6))] H locs := w
    exact ret (z5, ff6) _ _ _ _ _ [0, 1] dX12_writeWord_30 ⟨z5_a, z5_b, (show 0 ≤ ((x15 + 1) - z5) from by omega), (show 0 ≤ (z5 - x15) from by omega)⟩ w (by decide) rfl
  · exfalso; have e9 := l27n c_1; omega
set_option maxRecDepth 100000 in
set_option maxHeartbeats 4000000 in
theorem c153_X12_writeWord (l : Launch) (D : va_G) (T : Nat → ClassId) (sz : Nat) (a0 : Nat) (y0 : Int64) (r0 : Int32) (a1 : Nat) (x0 : Int) (x1 : Int) (x2 : Int) (x3 : Int) (x4 : Int) (x5 : Int) (r1 : Int32) (x6 : Int) (x7 : Int) (x8 : Int) (y1 : Int64) (x9 : Int) (a2 : Nat) (a3 : Nat) (a4 : Nat) (a5 : Nat) (a6 : Nat) (a7 : Nat) (a8 : Nat) (a9 : Nat) (a10 : Nat) (a11 : Nat) (x10 : Int) (a12 : Nat) (a13 : Nat) (a14 : Nat) (a15 : Nat) (x11 : Int) (r2 : Int32) (r3 : Int32) (a16 : Nat) (x12 : Int) (x13 : Int) (a17 : Nat) (a18 : Nat) (x14 : Int) (a19 : Nat) (x15 : Int) (r4 : Int32) (a20 : Nat) (a21 : Nat) (x16 : Int) (r5 : Int32) (a22 : Nat) (x17 : Int) (x18 : Int) (x19 : Int) (x20 : Int) (f0 : Nat → Int32) (x0_a : 0 ≤ x0) (x0_b : x0 ≤ 940) (x1_a : 0 ≤ x1) (x1_b : x1 ≤ 940) (x2_a : 0 ≤ x2) (x2_b : x2 ≤ 940) (x3_a : 0 ≤ x3) (x3_b : x3 ≤ 940) (x4_a : 0 ≤ x4) (x4_b : x4 ≤ 940) (x5_a : 0 ≤ x5) (x5_b : x5 ≤ 4) (x6_a : (-2147483648) ≤ x6) (x6_b : x6 ≤ 2147483647) (x7_a : (-2147483648) ≤ x7) (x7_b : x7 ≤ 2147483647) (x8_a : 0 ≤ x8) (x8_b : x8 ≤ 940) (x9_a : (-2147483648) ≤ x9) (x9_b : x9 ≤ 2147483647) (x10_a : 0 ≤ x10) (x10_b : x10 ≤ 8) (x11_a : 0 ≤ x11) (x11_b : x11 ≤ 9) (x12_a : (-1) ≤ x12) (x12_b : x12 ≤ 9) (x13_a : (-1) ≤ x13) (x13_b : x13 ≤ 8) (x14_a : 0 ≤ x14) (x14_b : x14 ≤ 9) (x15_a : 0 ≤ x15) (x15_b : x15 ≤ 64) (x16_a : 0 ≤ x16) (x16_b : x16 ≤ 40) (x17_a : 0 ≤ x17) (x17_b : x17 ≤ 40) (x18_a : 0 ≤ x18) (x18_b : x18 ≤ 20) (x19_a : 0 ≤ x19) (x19_b : x19 ≤ 8) (x20_a : 0 ≤ x20) (x20_b : x20 ≤ 39) (pp_w : (y0).toInt < 729) (pr_0 : 0 ≤ (62 - x15)) : Met l yX12_writeWord (Cond.code yX12_writeWord cX12_writeWord 3 none :: GW) (Rm 2 0 0) (cPre [.ref a0, .long y0] D T [(a0, .inr (11, [.int r0, .ref a1, .int (iI x0), .int (iI x1), .int (iI x2), .int (iI x3), .int (iI x4), .int (iI x5), .int r1, .int (iI x6), .int (iI x7), .int (iI x8), .long y1, .int (iI x9), .ref a2, .ref a3, .ref a4, .ref a5, .ref a6, .ref a7, .ref a8, .ref a9, .ref a10, .ref a11, .int (iI x10), .ref a12, .ref a13, .ref a14, .ref a15, .int (iI x11), .int r2, .int r3, .ref a16, .int (iI x12), .int (iI x13), .ref a17, .ref a18, .int (iI x14), .ref a19, .int (iI x15), .int r4, .ref a20, .ref a21, .int (iI x16), .int r5, .ref a22, .int (iI x17), .int (iI x18), .int (iI x19), .int (iI x20)])), (a19, .inl (T 0, 64, .inl f0))] sz) (qV D [(a0, .inr (11, [.int r0, .ref a1, .int (iI x0), .int (iI x1), .int (iI x2), .int (iI x3), .int (iI x4), .int (iI x5), .int r1, .int (iI x6), .int (iI x7), .int (iI x8), .long y1, .int (iI x9), .ref a2, .ref a3, .ref a4, .ref a5, .ref a6, .ref a7, .ref a8, .ref a9, .ref a10, .ref a11, .int (iI x10), .ref a12, .ref a13, .ref a14, .ref a15, .int (iI x11), .int r2, .int r3, .ref a16, .int (iI x12), .int (iI x13), .ref a17, .ref a18, .int (iI x14), .ref a19, .int (iI x15), .int r4, .ref a20, .ref a21, .int (iI x16), .int r5, .ref a22, .int (iI x17), .int (iI x18), .int (iI x19), .int (iI x20)])), (a19, .inl (T 0, 64, .inl f0))] sz (fun (u : Int × (Nat → Int32)) => 0 ≤ u.1 ∧ u.1 ≤ 64 ∧ 0 ≤ ((x15 + 2) - u.1) ∧ 0 ≤ (u.1 - x15)) (fun u => [(a0, .inr (11, [.int r0, .ref a1, .int (iI x0), .int (iI x1), .int (iI x2), .int (iI x3), .int (iI x4), .int (iI x5), .int r1, .int (iI x6), .int (iI x7), .int (iI x8), .long y1, .int (iI x9), .ref a2, .ref a3, .ref a4, .ref a5, .ref a6, .ref a7, .ref a8, .ref a9, .ref a10, .ref a11, .int (iI x10), .ref a12, .ref a13, .ref a14, .ref a15, .int (iI x11), .int r2, .int r3, .ref a16, .int (iI x12), .int (iI x13), .ref a17, .ref a18, .int (iI x14), .ref a19, .int (iI u.1), .int r4, .ref a20, .ref a21, .int (iI x16), .int r5, .ref a22, .int (iI x17), .int (iI x18), .int (iI x19), .int (iI x20)])), (a19, .inl (T 0, 64, .inl u.2))])) 0 0 (va_A [(a0, .inr (11, [.int r0, .ref a1, .int (iI x0), .int (iI x1), .int (iI x2), .int (iI x3), .int (iI x4), .int (iI x5), .int r1, .int (iI x6), .int (iI x7), .int (iI x8), .long y1, .int (iI x9), .ref a2, .ref a3, .ref a4, .ref a5, .ref a6, .ref a7, .ref a8, .ref a9, .ref a10, .ref a11, .int (iI x10), .ref a12, .ref a13, .ref a14, .ref a15, .int (iI x11), .int r2, .int r3, .ref a16, .int (iI x12), .int (iI x13), .ref a17, .ref a18, .int (iI x14), .ref a19, .int (iI x15), .int r4, .ref a20, .ref a21, .int (iI x16), .int r5, .ref a22, .int (iI x17), .int (iI x18), .int (iI x19), .int (iI x20)])), (a19, .inl (T 0, 64, .inl f0))] sz) := by
  refine e_V (by decide) (Nat.le_of_ble_eq_true rfl) ?_
  intro p e s m args below meth c A Q ls M hin w ret hl
  have hx := M.1.1
  have hb := M.1.2.1
  have hl : lv_has ls 3 [(0, .ref a0), (1, .long y0)] := hl
  refine lv_lload_n hx hb dX12_writeWord_0 rfl (lv_at hl 1 rfl) ?_
  refine lv_ldc2 (v := 27) hx hb M.1.2.2.2.1 (M.1.2.2.2.2 _ G1641) dX12_writeWord_1 ?_
  refine r_lcmp (v := lg_cmp y0 27) M rfl dX12_writeWord_4 ?_
  refine lv_if_lt (tgt := 17) hx hb dX12_writeWord_5 (by decide) (fun c_1 => ?_) (fun c_1 => ?_)
  · refine lv_aload_n hx hb dX12_writeWord_17 rfl (lv_at hl 0 rfl) ?_
    refine lv_bipush (v := iI 96) hx hb dX12_writeWord_18 (by decide +kernel) ?_
    refine lv_lload_n hx hb dX12_writeWord_20 rfl (lv_at hl 1 rfl) ?_
    refine lv_ldc2 (v := 27) hx hb M.1.2.2.2.1 (M.1.2.2.2.2 _ G1641) dX12_writeWord_21 ?_
    refine r_lrem (v := _) M rfl (by decide) dX12_writeWord_24 ?_
    refine b_anyl (fun fy2 => ?_)
    refine lv_l2i (v := _) hx hb dX12_writeWord_25 rfl ?_
    refine b_any (fun z3 z3_a z3_b => ?_)
    refine r_iadd (v := _) M rfl dX12_writeWord_26 ?_
    refine b_any (fun z4 z4_a z4_b => ?_)
    refine k_V (ce := 0) (sl := 0) (rest := []) (wr := []) (r_V (f := 0) [0, 1] M w V_HookedCityModel_345 G1940 G96 (c151_X12_write l D T _ a0 z4 r0 a1 x0 x1 x2 x3 x4 x5 r1 x6 x7 x8 y1 x9 a2 a3 a4 a5 a6 a7 a8 a9 a10 a11 x10 a12 a13 a14 a15 x11 r2 r3 a16 x12 x13 a17 a18 x14 a19 x15 r4 a20 a21 x16 r5 a22 x17 x18 x19 x20 f0 z4_a z4_b x0_a x0_b x1_a x1_b x2_a x2_b x3_a x3_b x4_a x4_b x5_a x5_b x6_a x6_b x7_a x7_b x8_a x8_b x9_a x9_b x10_a x10_b x11_a x11_b x12_a x12_b x13_a x13_b x14_a x14_b (by omega) (by omega) x16_a x16_b x17_a x17_b x18_a x18_b x19_a x19_b x20_a x20_b) 0 clX12 rfl rfl (by decide) rfl hl.1 rfl (Nat.le_of_ble_eq_true rfl) dX12_writeWord_27 (by decide) (by decide) (by decide) (by decide)) w [0, 1] [] rfl rfl (by decide) (by decide) rfl rfl (fun u H locs hp w => ?_)
    obtain ⟨z5, ff6⟩ := u
    have z5_a : 0 ≤ z5 := hp.1
    have z5_b : z5 ≤ 64 := hp.2.1
    have ee7 : 0 ≤ ((z5 - x15) - 1) := hp.2.2.1
    have ee8 : 0 ≤ ((x15 + 1) - z5) := hp.2.2.2
    have w : WD D A s.heap [(a0, .inr (11, [.int r0, .ref a1, .int (iI x0), .int (iI x1), .int (iI x2), .int (iI x3), .int (iI x4), .int (iI x5), .int r1, .int (iI x6), .int (iI x7), .int (iI x8), .long y1, .int (iI x9), .ref a2, .ref a3, .ref a4, .ref a5, .ref a6, .ref a7, .ref a8, .ref a9, .ref a10, .ref a11, .int (iI x10), .ref a12, .ref a13, .ref a14, .ref a15, .int (iI x11), .int r2, .int r3, .ref a16, .int (iI x12), .int (iI x13), .ref a17, .ref a18, .int (iI x14), .ref a19, .int (iI z5), .int r4, .ref a20, .ref a21, .int (iI x16), .int r5, .ref a22, .int (iI x17), .int (iI x18), .int (iI x19), .int (iI x20)])), (a19, .inl (T 0, 64, .inl ff6))] H locs := w
    exact ret (z5, ff6) _ _ _ _ _ [0, 1] dX12_writeWord_30 ⟨z5_a, z5_b, (show 0 ≤ ((x15 + 2) - z5) from by omega), (show 0 ≤ (z5 - x15) from by omega)⟩ w (by decide) rfl
  · refine lv_aload_n hx hb dX12_writeWord_8 rfl (lv_at hl 0 rfl) ?_
    refine lv_lload_n hx hb dX12_writeWord_9 rfl (lv_at hl 1 rfl) ?_
    refine lv_ldc2 (v := 27) hx hb M.1.2.2.2.1 (M.1.2.2.2.2 _ G1641) dX12_writeWord_10 ?_
    refine r_ldiv (v := y0 / 27) M rfl (by decide) dX12_writeWord_13 ?_
    refine k_V (ce := 0) (sl := 0) (rest := []) (wr := []) (r_V (f := 1) [0, 1] M w V_HookedCityModel_341 G1936 G95 (c152_X12_writeWord l D T _ a0 (y0 / 27) r0 a1 x0 x1 x2 x3 x4 x5 r1 x6 x7 x8 y1 x9 a2 a3 a4 a5 a6 a7 a8 a9 a10 a11 x10 a12 a13 a14 a15 x11 r2 r3 a16 x12 x13 a17 a18 x14 a19 x15 r4 a20 a21 x16 r5 a22 x17 x18 x19 x20 f0 x0_a x0_b x1_a x1_b x2_a x2_b x3_a x3_b x4_a x4_b x5_a x5_b x6_a x6_b x7_a x7_b x8_a x8_b x9_a x9_b x10_a x10_b x11_a x11_b x12_a x12_b x13_a x13_b x14_a x14_b x15_a x15_b x16_a x16_b x17_a x17_b x18_a x18_b x19_a x19_b x20_a x20_b (l27 c_1 (by omega)) (by omega)) 0 clX12 rfl rfl (by decide) rfl hl.1 rfl (Nat.le_of_ble_eq_true rfl) dX12_writeWord_14 (by decide) (by decide) (by decide) (by decide)) w [0, 1] [] rfl rfl (by decide) (by decide) rfl rfl (fun u H locs hp w => ?_)
    obtain ⟨z9, ff10⟩ := u
    have z9_a : 0 ≤ z9 := hp.1
    have z9_b : z9 ≤ 64 := hp.2.1
    have ee11 : 0 ≤ ((x15 + 1) - z9) := hp.2.2.1
    have ee12 : 0 ≤ (z9 - x15) := hp.2.2.2
    have w : WD D A s.heap [(a0, .inr (11, [.int r0, .ref a1, .int (iI x0), .int (iI x1), .int (iI x2), .int (iI x3), .int (iI x4), .int (iI x5), .int r1, .int (iI x6), .int (iI x7), .int (iI x8), .long y1, .int (iI x9), .ref a2, .ref a3, .ref a4, .ref a5, .ref a6, .ref a7, .ref a8, .ref a9, .ref a10, .ref a11, .int (iI x10), .ref a12, .ref a13, .ref a14, .ref a15, .int (iI x11), .int r2, .int r3, .ref a16, .int (iI x12), .int (iI x13), .ref a17, .ref a18, .int (iI x14), .ref a19, .int (iI z9), .int r4, .ref a20, .ref a21, .int (iI x16), .int r5, .ref a22, .int (iI x17), .int (iI x18), .int (iI x19), .int (iI x20)])), (a19, .inl (T 0, 64, .inl ff10))] H locs := w
    refine lv_aload_n hx hb dX12_writeWord_17 rfl (lv_at hl 0 rfl) ?_
    refine lv_bipush (v := iI 96) hx hb dX12_writeWord_18 (by decide +kernel) ?_
    refine lv_lload_n hx hb dX12_writeWord_20 rfl (lv_at hl 1 rfl) ?_
    refine lv_ldc2 (v := 27) hx hb M.1.2.2.2.1 (M.1.2.2.2.2 _ G1641) dX12_writeWord_21 ?_
    refine r_lrem (v := _) M rfl (by decide) dX12_writeWord_24 ?_
    refine b_anyl (fun fy13 => ?_)
    refine lv_l2i (v := _) hx hb dX12_writeWord_25 rfl ?_
    refine b_any (fun z14 z14_a z14_b => ?_)
    refine r_iadd (v := _) M rfl dX12_writeWord_26 ?_
    refine b_any (fun z15 z15_a z15_b => ?_)
    refine k_V (ce := 0) (sl := 0) (rest := []) (wr := []) (r_V (f := 0) [0, 1] M w V_HookedCityModel_345 G1940 G96 (c151_X12_write l D T _ a0 z15 r0 a1 x0 x1 x2 x3 x4 x5 r1 x6 x7 x8 y1 x9 a2 a3 a4 a5 a6 a7 a8 a9 a10 a11 x10 a12 a13 a14 a15 x11 r2 r3 a16 x12 x13 a17 a18 x14 a19 z9 r4 a20 a21 x16 r5 a22 x17 x18 x19 x20 ff10 z15_a z15_b x0_a x0_b x1_a x1_b x2_a x2_b x3_a x3_b x4_a x4_b x5_a x5_b x6_a x6_b x7_a x7_b x8_a x8_b x9_a x9_b x10_a x10_b x11_a x11_b x12_a x12_b x13_a x13_b x14_a x14_b (by omega) (by omega) x16_a x16_b x17_a x17_b x18_a x18_b x19_a x19_b x20_a x20_b) 0 clX12 rfl rfl (by decide) rfl hl.1 rfl (Nat.le_of_ble_eq_true rfl) dX12_writeWord_27 (by decide) (by decide) (by decide) (by decide)) w [0, 1] [] rfl rfl (by decide) (by decide) rfl rfl (fun u H locs hp w => ?_)
    obtain ⟨z16, ff17⟩ := u
    have z16_a : 0 ≤ z16 := hp.1
    have z16_b : z16 ≤ 64 := hp.2.1
    have ee18 : 0 ≤ ((z16 - z9) - 1) := hp.2.2.1
    have ee19 : 0 ≤ ((z9 + 1) - z16) := hp.2.2.2
    have w : WD D A s.heap [(a0, .inr (11, [.int r0, .ref a1, .int (iI x0), .int (iI x1), .int (iI x2), .int (iI x3), .int (iI x4), .int (iI x5), .int r1, .int (iI x6), .int (iI x7), .int (iI x8), .long y1, .int (iI x9), .ref a2, .ref a3, .ref a4, .ref a5, .ref a6, .ref a7, .ref a8, .ref a9, .ref a10, .ref a11, .int (iI x10), .ref a12, .ref a13, .ref a14, .ref a15, .int (iI x11), .int r2, .int r3, .ref a16, .int (iI x12), .int (iI x13), .ref a17, .ref a18, .int (iI x14), .ref a19, .int (iI z16), .int r4, .ref a20, .ref a21, .int (iI x16), .int r5, .ref a22, .int (iI x17), .int (iI x18), .int (iI x19), .int (iI x20)])), (a19, .inl (T 0, 64, .inl ff17))] H locs := w
    exact ret (z16, ff17) _ _ _ _ _ [0, 1] dX12_writeWord_30 ⟨z16_a, z16_b, (show 0 ≤ ((x15 + 2) - z16) from by omega), (show 0 ≤ (z16 - x15) from by omega)⟩ w (by decide) rfl
set_option maxRecDepth 100000 in
set_option maxHeartbeats 4000000 in
theorem c154_X12_writeWord (l : Launch) (D : va_G) (T : Nat → ClassId) (sz : Nat) (a0 : Nat) (y0 : Int64) (r0 : Int32) (a1 : Nat) (x0 : Int) (x1 : Int) (x2 : Int) (x3 : Int) (x4 : Int) (x5 : Int) (r1 : Int32) (x6 : Int) (x7 : Int) (x8 : Int) (y1 : Int64) (x9 : Int) (a2 : Nat) (a3 : Nat) (a4 : Nat) (a5 : Nat) (a6 : Nat) (a7 : Nat) (a8 : Nat) (a9 : Nat) (a10 : Nat) (a11 : Nat) (x10 : Int) (a12 : Nat) (a13 : Nat) (a14 : Nat) (a15 : Nat) (x11 : Int) (r2 : Int32) (r3 : Int32) (a16 : Nat) (x12 : Int) (x13 : Int) (a17 : Nat) (a18 : Nat) (x14 : Int) (a19 : Nat) (x15 : Int) (r4 : Int32) (a20 : Nat) (a21 : Nat) (x16 : Int) (r5 : Int32) (a22 : Nat) (x17 : Int) (x18 : Int) (x19 : Int) (x20 : Int) (f0 : Nat → Int32) (x0_a : 0 ≤ x0) (x0_b : x0 ≤ 940) (x1_a : 0 ≤ x1) (x1_b : x1 ≤ 940) (x2_a : 0 ≤ x2) (x2_b : x2 ≤ 940) (x3_a : 0 ≤ x3) (x3_b : x3 ≤ 940) (x4_a : 0 ≤ x4) (x4_b : x4 ≤ 940) (x5_a : 0 ≤ x5) (x5_b : x5 ≤ 4) (x6_a : (-2147483648) ≤ x6) (x6_b : x6 ≤ 2147483647) (x7_a : (-2147483648) ≤ x7) (x7_b : x7 ≤ 2147483647) (x8_a : 0 ≤ x8) (x8_b : x8 ≤ 940) (x9_a : (-2147483648) ≤ x9) (x9_b : x9 ≤ 2147483647) (x10_a : 0 ≤ x10) (x10_b : x10 ≤ 8) (x11_a : 0 ≤ x11) (x11_b : x11 ≤ 9) (x12_a : (-1) ≤ x12) (x12_b : x12 ≤ 9) (x13_a : (-1) ≤ x13) (x13_b : x13 ≤ 8) (x14_a : 0 ≤ x14) (x14_b : x14 ≤ 9) (x15_a : 0 ≤ x15) (x15_b : x15 ≤ 64) (x16_a : 0 ≤ x16) (x16_b : x16 ≤ 40) (x17_a : 0 ≤ x17) (x17_b : x17 ≤ 40) (x18_a : 0 ≤ x18) (x18_b : x18 ≤ 20) (x19_a : 0 ≤ x19) (x19_b : x19 ≤ 8) (x20_a : 0 ≤ x20) (x20_b : x20 ≤ 39) (pp_w : (y0).toInt < 19683) (pr_0 : 0 ≤ (61 - x15)) : Met l yX12_writeWord (Cond.code yX12_writeWord cX12_writeWord 3 none :: GW) (Rm 3 0 0) (cPre [.ref a0, .long y0] D T [(a0, .inr (11, [.int r0, .ref a1, .int (iI x0), .int (iI x1), .int (iI x2), .int (iI x3), .int (iI x4), .int (iI x5), .int r1, .int (iI x6), .int (iI x7), .int (iI x8), .long y1, .int (iI x9), .ref a2, .ref a3, .ref a4, .ref a5, .ref a6, .ref a7, .ref a8, .ref a9, .ref a10, .ref a11, .int (iI x10), .ref a12, .ref a13, .ref a14, .ref a15, .int (iI x11), .int r2, .int r3, .ref a16, .int (iI x12), .int (iI x13), .ref a17, .ref a18, .int (iI x14), .ref a19, .int (iI x15), .int r4, .ref a20, .ref a21, .int (iI x16), .int r5, .ref a22, .int (iI x17), .int (iI x18), .int (iI x19), .int (iI x20)])), (a19, .inl (T 0, 64, .inl f0))] sz) (qV D [(a0, .inr (11, [.int r0, .ref a1, .int (iI x0), .int (iI x1), .int (iI x2), .int (iI x3), .int (iI x4), .int (iI x5), .int r1, .int (iI x6), .int (iI x7), .int (iI x8), .long y1, .int (iI x9), .ref a2, .ref a3, .ref a4, .ref a5, .ref a6, .ref a7, .ref a8, .ref a9, .ref a10, .ref a11, .int (iI x10), .ref a12, .ref a13, .ref a14, .ref a15, .int (iI x11), .int r2, .int r3, .ref a16, .int (iI x12), .int (iI x13), .ref a17, .ref a18, .int (iI x14), .ref a19, .int (iI x15), .int r4, .ref a20, .ref a21, .int (iI x16), .int r5, .ref a22, .int (iI x17), .int (iI x18), .int (iI x19), .int (iI x20)])), (a19, .inl (T 0, 64, .inl f0))] sz (fun (u : Int × (Nat → Int32)) => 0 ≤ u.1 ∧ u.1 ≤ 64 ∧ 0 ≤ ((x15 + 3) - u.1) ∧ 0 ≤ (u.1 - x15)) (fun u => [(a0, .inr (11, [.int r0, .ref a1, .int (iI x0), .int (iI x1), .int (iI x2), .int (iI x3), .int (iI x4), .int (iI x5), .int r1, .int (iI x6), .int (iI x7), .int (iI x8), .long y1, .int (iI x9), .ref a2, .ref a3, .ref a4, .ref a5, .ref a6, .ref a7, .ref a8, .ref a9, .ref a10, .ref a11, .int (iI x10), .ref a12, .ref a13, .ref a14, .ref a15, .int (iI x11), .int r2, .int r3, .ref a16, .int (iI x12), .int (iI x13), .ref a17, .ref a18, .int (iI x14), .ref a19, .int (iI u.1), .int r4, .ref a20, .ref a21, .int (iI x16), .int r5, .ref a22, .int (iI x17), .int (iI x18), .int (iI x19), .int (iI x20)])), (a19, .inl (T 0, 64, .inl u.2))])) 0 0 (va_A [(a0, .inr (11, [.int r0, .ref a1, .int (iI x0), .int (iI x1), .int (iI x2), .int (iI x3), .int (iI x4), .int (iI x5), .int r1, .int (iI x6), .int (iI x7), .int (iI x8), .long y1, .int (iI x9), .ref a2, .ref a3, .ref a4, .ref a5, .ref a6, .ref a7, .ref a8, .ref a9, .ref a10, .ref a11, .int (iI x10), .ref a12, .ref a13, .ref a14, .ref a15, .int (iI x11), .int r2, .int r3, .ref a16, .int (iI x12), .int (iI x13), .ref a17, .ref a18, .int (iI x14), .ref a19, .int (iI x15), .int r4, .ref a20, .ref a21, .int (iI x16), .int r5, .ref a22, .int (iI x17), .int (iI x18), .int (iI x19), .int (iI x20)])), (a19, .inl (T 0, 64, .inl f0))] sz) := by
  refine e_V (by decide) (Nat.le_of_ble_eq_true rfl) ?_
  intro p e s m args below meth c A Q ls M hin w ret hl
  have hx := M.1.1
  have hb := M.1.2.1
  have hl : lv_has ls 3 [(0, .ref a0), (1, .long y0)] := hl
  refine lv_lload_n hx hb dX12_writeWord_0 rfl (lv_at hl 1 rfl) ?_
  refine lv_ldc2 (v := 27) hx hb M.1.2.2.2.1 (M.1.2.2.2.2 _ G1641) dX12_writeWord_1 ?_
  refine r_lcmp (v := lg_cmp y0 27) M rfl dX12_writeWord_4 ?_
  refine lv_if_lt (tgt := 17) hx hb dX12_writeWord_5 (by decide) (fun c_1 => ?_) (fun c_1 => ?_)
  · refine lv_aload_n hx hb dX12_writeWord_17 rfl (lv_at hl 0 rfl) ?_
    refine lv_bipush (v := iI 96) hx hb dX12_writeWord_18 (by decide +kernel) ?_
    refine lv_lload_n hx hb dX12_writeWord_20 rfl (lv_at hl 1 rfl) ?_
    refine lv_ldc2 (v := 27) hx hb M.1.2.2.2.1 (M.1.2.2.2.2 _ G1641) dX12_writeWord_21 ?_
    refine r_lrem (v := _) M rfl (by decide) dX12_writeWord_24 ?_
    refine b_anyl (fun fy2 => ?_)
    refine lv_l2i (v := _) hx hb dX12_writeWord_25 rfl ?_
    refine b_any (fun z3 z3_a z3_b => ?_)
    refine r_iadd (v := _) M rfl dX12_writeWord_26 ?_
    refine b_any (fun z4 z4_a z4_b => ?_)
    refine k_V (ce := 0) (sl := 0) (rest := []) (wr := []) (r_V (f := 0) [0, 1] M w V_HookedCityModel_345 G1940 G96 (c151_X12_write l D T _ a0 z4 r0 a1 x0 x1 x2 x3 x4 x5 r1 x6 x7 x8 y1 x9 a2 a3 a4 a5 a6 a7 a8 a9 a10 a11 x10 a12 a13 a14 a15 x11 r2 r3 a16 x12 x13 a17 a18 x14 a19 x15 r4 a20 a21 x16 r5 a22 x17 x18 x19 x20 f0 z4_a z4_b x0_a x0_b x1_a x1_b x2_a x2_b x3_a x3_b x4_a x4_b x5_a x5_b x6_a x6_b x7_a x7_b x8_a x8_b x9_a x9_b x10_a x10_b x11_a x11_b x12_a x12_b x13_a x13_b x14_a x14_b (by omega) (by omega) x16_a x16_b x17_a x17_b x18_a x18_b x19_a x19_b x20_a x20_b) 0 clX12 rfl rfl (by decide) rfl hl.1 rfl (Nat.le_of_ble_eq_true rfl) dX12_writeWord_27 (by decide) (by decide) (by decide) (by decide)) w [0, 1] [] rfl rfl (by decide) (by decide) rfl rfl (fun u H locs hp w => ?_)
    obtain ⟨z5, ff6⟩ := u
    have z5_a : 0 ≤ z5 := hp.1
    have z5_b : z5 ≤ 64 := hp.2.1
    have ee7 : 0 ≤ ((z5 - x15) - 1) := hp.2.2.1
    have ee8 : 0 ≤ ((x15 + 1) - z5) := hp.2.2.2
    have w : WD D A s.heap [(a0, .inr (11, [.int r0, .ref a1, .int (iI x0), .int (iI x1), .int (iI x2), .int (iI x3), .int (iI x4), .int (iI x5), .int r1, .int (iI x6), .int (iI x7), .int (iI x8), .long y1, .int (iI x9), .ref a2, .ref a3, .ref a4, .ref a5, .ref a6, .ref a7, .ref a8, .ref a9, .ref a10, .ref a11, .int (iI x10), .ref a12, .ref a13, .ref a14, .ref a15, .int (iI x11), .int r2, .int r3, .ref a16, .int (iI x12), .int (iI x13), .ref a17, .ref a18, .int (iI x14), .ref a19, .int (iI z5), .int r4, .ref a20, .ref a21, .int (iI x16), .int r5, .ref a22, .int (iI x17), .int (iI x18), .int (iI x19), .int (iI x20)])), (a19, .inl (T 0, 64, .inl ff6))] H locs := w
    exact ret (z5, ff6) _ _ _ _ _ [0, 1] dX12_writeWord_30 ⟨z5_a, z5_b, (show 0 ≤ ((x15 + 3) - z5) from by omega), (show 0 ≤ (z5 - x15) from by omega)⟩ w (by decide) rfl
  · refine lv_aload_n hx hb dX12_writeWord_8 rfl (lv_at hl 0 rfl) ?_
    refine lv_lload_n hx hb dX12_writeWord_9 rfl (lv_at hl 1 rfl) ?_
    refine lv_ldc2 (v := 27) hx hb M.1.2.2.2.1 (M.1.2.2.2.2 _ G1641) dX12_writeWord_10 ?_
    refine r_ldiv (v := y0 / 27) M rfl (by decide) dX12_writeWord_13 ?_
    refine k_V (ce := 0) (sl := 0) (rest := []) (wr := []) (r_V (f := 2) [0, 1] M w V_HookedCityModel_341 G1936 G95 (c153_X12_writeWord l D T _ a0 (y0 / 27) r0 a1 x0 x1 x2 x3 x4 x5 r1 x6 x7 x8 y1 x9 a2 a3 a4 a5 a6 a7 a8 a9 a10 a11 x10 a12 a13 a14 a15 x11 r2 r3 a16 x12 x13 a17 a18 x14 a19 x15 r4 a20 a21 x16 r5 a22 x17 x18 x19 x20 f0 x0_a x0_b x1_a x1_b x2_a x2_b x3_a x3_b x4_a x4_b x5_a x5_b x6_a x6_b x7_a x7_b x8_a x8_b x9_a x9_b x10_a x10_b x11_a x11_b x12_a x12_b x13_a x13_b x14_a x14_b x15_a x15_b x16_a x16_b x17_a x17_b x18_a x18_b x19_a x19_b x20_a x20_b (l27 c_1 (by omega)) (by omega)) 0 clX12 rfl rfl (by decide) rfl hl.1 rfl (Nat.le_of_ble_eq_true rfl) dX12_writeWord_14 (by decide) (by decide) (by decide) (by decide)) w [0, 1] [] rfl rfl (by decide) (by decide) rfl rfl (fun u H locs hp w => ?_)
    obtain ⟨z9, ff10⟩ := u
    have z9_a : 0 ≤ z9 := hp.1
    have z9_b : z9 ≤ 64 := hp.2.1
    have ee11 : 0 ≤ ((x15 + 2) - z9) := hp.2.2.1
    have ee12 : 0 ≤ (z9 - x15) := hp.2.2.2
    have w : WD D A s.heap [(a0, .inr (11, [.int r0, .ref a1, .int (iI x0), .int (iI x1), .int (iI x2), .int (iI x3), .int (iI x4), .int (iI x5), .int r1, .int (iI x6), .int (iI x7), .int (iI x8), .long y1, .int (iI x9), .ref a2, .ref a3, .ref a4, .ref a5, .ref a6, .ref a7, .ref a8, .ref a9, .ref a10, .ref a11, .int (iI x10), .ref a12, .ref a13, .ref a14, .ref a15, .int (iI x11), .int r2, .int r3, .ref a16, .int (iI x12), .int (iI x13), .ref a17, .ref a18, .int (iI x14), .ref a19, .int (iI z9), .int r4, .ref a20, .ref a21, .int (iI x16), .int r5, .ref a22, .int (iI x17), .int (iI x18), .int (iI x19), .int (iI x20)])), (a19, .inl (T 0, 64, .inl ff10))] H locs := w
    refine lv_aload_n hx hb dX12_writeWord_17 rfl (lv_at hl 0 rfl) ?_
    refine lv_bipush (v := iI 96) hx hb dX12_writeWord_18 (by decide +kernel) ?_
    refine lv_lload_n hx hb dX12_writeWord_20 rfl (lv_at hl 1 rfl) ?_
    refine lv_ldc2 (v := 27) hx hb M.1.2.2.2.1 (M.1.2.2.2.2 _ G1641) dX12_writeWord_21 ?_
    refine r_lrem (v := _) M rfl (by decide) dX12_writeWord_24 ?_
    refine b_anyl (fun fy13 => ?_)
    refine lv_l2i (v := _) hx hb dX12_writeWord_25 rfl ?_
    refine b_any (fun z14 z14_a z14_b => ?_)
    refine r_iadd (v := _) M rfl dX12_writeWord_26 ?_
    refine b_any (fun z15 z15_a z15_b => ?_)
    refine k_V (ce := 0) (sl := 0) (rest := []) (wr := []) (r_V (f := 0) [0, 1] M w V_HookedCityModel_345 G1940 G96 (c151_X12_write l D T _ a0 z15 r0 a1 x0 x1 x2 x3 x4 x5 r1 x6 x7 x8 y1 x9 a2 a3 a4 a5 a6 a7 a8 a9 a10 a11 x10 a12 a13 a14 a15 x11 r2 r3 a16 x12 x13 a17 a18 x14 a19 z9 r4 a20 a21 x16 r5 a22 x17 x18 x19 x20 ff10 z15_a z15_b x0_a x0_b x1_a x1_b x2_a x2_b x3_a x3_b x4_a x4_b x5_a x5_b x6_a x6_b x7_a x7_b x8_a x8_b x9_a x9_b x10_a x10_b x11_a x11_b x12_a x12_b x13_a x13_b x14_a x14_b (by omega) (by omega) x16_a x16_b x17_a x17_b x18_a x18_b x19_a x19_b x20_a x20_b) 0 clX12 rfl rfl (by decide) rfl hl.1 rfl (Nat.le_of_ble_eq_true rfl) dX12_writeWord_27 (by decide) (by decide) (by decide) (by decide)) w [0, 1] [] rfl rfl (by decide) (by decide) rfl rfl (fun u H locs hp w => ?_)
    obtain ⟨z16, ff17⟩ := u
    have z16_a : 0 ≤ z16 := hp.1
    have z16_b : z16 ≤ 64 := hp.2.1
    have ee18 : 0 ≤ ((z16 - z9) - 1) := hp.2.2.1
    have ee19 : 0 ≤ ((z9 + 1) - z16) := hp.2.2.2
    have w : WD D A s.heap [(a0, .inr (11, [.int r0, .ref a1, .int (iI x0), .int (iI x1), .int (iI x2), .int (iI x3), .int (iI x4), .int (iI x5), .int r1, .int (iI x6), .int (iI x7), .int (iI x8), .long y1, .int (iI x9), .ref a2, .ref a3, .ref a4, .ref a5, .ref a6, .ref a7, .ref a8, .ref a9, .ref a10, .ref a11, .int (iI x10), .ref a12, .ref a13, .ref a14, .ref a15, .int (iI x11), .int r2, .int r3, .ref a16, .int (iI x12), .int (iI x13), .ref a17, .ref a18, .int (iI x14), .ref a19, .int (iI z16), .int r4, .ref a20, .ref a21, .int (iI x16), .int r5, .ref a22, .int (iI x17), .int (iI x18), .int (iI x19), .int (iI x20)])), (a19, .inl (T 0, 64, .inl ff17))] H locs := w
    exact ret (z16, ff17) _ _ _ _ _ [0, 1] dX12_writeWord_30 ⟨z16_a, z16_b, (show 0 ≤ ((x15 + 3) - z16) from by omega), (show 0 ≤ (z16 - x15) from by omega)⟩ w (by decide) rfl
set_option maxRecDepth 100000 in
set_option maxHeartbeats 4000000 in
theorem c155_X12_writeWord (l : Launch) (D : va_G) (T : Nat → ClassId) (sz : Nat) (a0 : Nat) (y0 : Int64) (r0 : Int32) (a1 : Nat) (x0 : Int) (x1 : Int) (x2 : Int) (x3 : Int) (x4 : Int) (x5 : Int) (r1 : Int32) (x6 : Int) (x7 : Int) (x8 : Int) (y1 : Int64) (x9 : Int) (a2 : Nat) (a3 : Nat) (a4 : Nat) (a5 : Nat) (a6 : Nat) (a7 : Nat) (a8 : Nat) (a9 : Nat) (a10 : Nat) (a11 : Nat) (x10 : Int) (a12 : Nat) (a13 : Nat) (a14 : Nat) (a15 : Nat) (x11 : Int) (r2 : Int32) (r3 : Int32) (a16 : Nat) (x12 : Int) (x13 : Int) (a17 : Nat) (a18 : Nat) (x14 : Int) (a19 : Nat) (x15 : Int) (r4 : Int32) (a20 : Nat) (a21 : Nat) (x16 : Int) (r5 : Int32) (a22 : Nat) (x17 : Int) (x18 : Int) (x19 : Int) (x20 : Int) (f0 : Nat → Int32) (x0_a : 0 ≤ x0) (x0_b : x0 ≤ 940) (x1_a : 0 ≤ x1) (x1_b : x1 ≤ 940) (x2_a : 0 ≤ x2) (x2_b : x2 ≤ 940) (x3_a : 0 ≤ x3) (x3_b : x3 ≤ 940) (x4_a : 0 ≤ x4) (x4_b : x4 ≤ 940) (x5_a : 0 ≤ x5) (x5_b : x5 ≤ 4) (x6_a : (-2147483648) ≤ x6) (x6_b : x6 ≤ 2147483647) (x7_a : (-2147483648) ≤ x7) (x7_b : x7 ≤ 2147483647) (x8_a : 0 ≤ x8) (x8_b : x8 ≤ 940) (x9_a : (-2147483648) ≤ x9) (x9_b : x9 ≤ 2147483647) (x10_a : 0 ≤ x10) (x10_b : x10 ≤ 8) (x11_a : 0 ≤ x11) (x11_b : x11 ≤ 9) (x12_a : (-1) ≤ x12) (x12_b : x12 ≤ 9) (x13_a : (-1) ≤ x13) (x13_b : x13 ≤ 8) (x14_a : 0 ≤ x14) (x14_b : x14 ≤ 9) (x15_a : 0 ≤ x15) (x15_b : x15 ≤ 64) (x16_a : 0 ≤ x16) (x16_b : x16 ≤ 40) (x17_a : 0 ≤ x17) (x17_b : x17 ≤ 40) (x18_a : 0 ≤ x18) (x18_b : x18 ≤ 20) (x19_a : 0 ≤ x19) (x19_b : x19 ≤ 8) (x20_a : 0 ≤ x20) (x20_b : x20 ≤ 39) (pp_w : (y0).toInt < 531441) (pr_0 : 0 ≤ (60 - x15)) : Met l yX12_writeWord (Cond.code yX12_writeWord cX12_writeWord 3 none :: GW) (Rm 4 0 0) (cPre [.ref a0, .long y0] D T [(a0, .inr (11, [.int r0, .ref a1, .int (iI x0), .int (iI x1), .int (iI x2), .int (iI x3), .int (iI x4), .int (iI x5), .int r1, .int (iI x6), .int (iI x7), .int (iI x8), .long y1, .int (iI x9), .ref a2, .ref a3, .ref a4, .ref a5, .ref a6, .ref a7, .ref a8, .ref a9, .ref a10, .ref a11, .int (iI x10), .ref a12, .ref a13, .ref a14, .ref a15, .int (iI x11), .int r2, .int r3, .ref a16, .int (iI x12), .int (iI x13), .ref a17, .ref a18, .int (iI x14), .ref a19, .int (iI x15), .int r4, .ref a20, .ref a21, .int (iI x16), .int r5, .ref a22, .int (iI x17), .int (iI x18), .int (iI x19), .int (iI x20)])), (a19, .inl (T 0, 64, .inl f0))] sz) (qV D [(a0, .inr (11, [.int r0, .ref a1, .int (iI x0), .int (iI x1), .int (iI x2), .int (iI x3), .int (iI x4), .int (iI x5), .int r1, .int (iI x6), .int (iI x7), .int (iI x8), .long y1, .int (iI x9), .ref a2, .ref a3, .ref a4, .ref a5, .ref a6, .ref a7, .ref a8, .ref a9, .ref a10, .ref a11, .int (iI x10), .ref a12, .ref a13, .ref a14, .ref a15, .int (iI x11), .int r2, .int r3, .ref a16, .int (iI x12), .int (iI x13), .ref a17, .ref a18, .int (iI x14), .ref a19, .int (iI x15), .int r4, .ref a20, .ref a21, .int (iI x16), .int r5, .ref a22, .int (iI x17), .int (iI x18), .int (iI x19), .int (iI x20)])), (a19, .inl (T 0, 64, .inl f0))] sz (fun (u : Int × (Nat → Int32)) => 0 ≤ u.1 ∧ u.1 ≤ 64 ∧ 0 ≤ ((x15 + 4) - u.1) ∧ 0 ≤ (u.1 - x15)) (fun u => [(a0, .inr (11, [.int r0, .ref a1, .int (iI x0), .int (iI x1), .int (iI x2), .int (iI x3), .int (iI x4), .int (iI x5), .int r1, .int (iI x6), .int (iI x7), .int (iI x8), .long y1, .int (iI x9), .ref a2, .ref a3, .ref a4, .ref a5, .ref a6, .ref a7, .ref a8, .ref a9, .ref a10, .ref a11, .int (iI x10), .ref a12, .ref a13, .ref a14, .ref a15, .int (iI x11), .int r2, .int r3, .ref a16, .int (iI x12), .int (iI x13), .ref a17, .ref a18, .int (iI x14), .ref a19, .int (iI u.1), .int r4, .ref a20, .ref a21, .int (iI x16), .int r5, .ref a22, .int (iI x17), .int (iI x18), .int (iI x19), .int (iI x20)])), (a19, .inl (T 0, 64, .inl u.2))])) 0 0 (va_A [(a0, .inr (11, [.int r0, .ref a1, .int (iI x0), .int (iI x1), .int (iI x2), .int (iI x3), .int (iI x4), .int (iI x5), .int r1, .int (iI x6), .int (iI x7), .int (iI x8), .long y1, .int (iI x9), .ref a2, .ref a3, .ref a4, .ref a5, .ref a6, .ref a7, .ref a8, .ref a9, .ref a10, .ref a11, .int (iI x10), .ref a12, .ref a13, .ref a14, .ref a15, .int (iI x11), .int r2, .int r3, .ref a16, .int (iI x12), .int (iI x13), .ref a17, .ref a18, .int (iI x14), .ref a19, .int (iI x15), .int r4, .ref a20, .ref a21, .int (iI x16), .int r5, .ref a22, .int (iI x17), .int (iI x18), .int (iI x19), .int (iI x20)])), (a19, .inl (T 0, 64, .inl f0))] sz) := by
  refine e_V (by decide) (Nat.le_of_ble_eq_true rfl) ?_
  intro p e s m args below meth c A Q ls M hin w ret hl
  have hx := M.1.1
  have hb := M.1.2.1
  have hl : lv_has ls 3 [(0, .ref a0), (1, .long y0)] := hl
  refine lv_lload_n hx hb dX12_writeWord_0 rfl (lv_at hl 1 rfl) ?_
  refine lv_ldc2 (v := 27) hx hb M.1.2.2.2.1 (M.1.2.2.2.2 _ G1641) dX12_writeWord_1 ?_
  refine r_lcmp (v := lg_cmp y0 27) M rfl dX12_writeWord_4 ?_
  refine lv_if_lt (tgt := 17) hx hb dX12_writeWord_5 (by decide) (fun c_1 => ?_) (fun c_1 => ?_)
  · refine lv_aload_n hx hb dX12_writeWord_17 rfl (lv_at hl 0 rfl) ?_
    refine lv_bipush (v := iI 96) hx hb dX12_writeWord_18 (by decide +kernel) ?_
    refine lv_lload_n hx hb dX12_writeWord_20 rfl (lv_at hl 1 rfl) ?_
    refine lv_ldc2 (v := 27) hx hb M.1.2.2.2.1 (M.1.2.2.2.2 _ G1641) dX12_writeWord_21 ?_
    refine r_lrem (v := _) M rfl (by decide) dX12_writeWord_24 ?_
    refine b_anyl (fun fy2 => ?_)
    refine lv_l2i (v := _) hx hb dX12_writeWord_25 rfl ?_
    refine b_any (fun z3 z3_a z3_b => ?_)
    refine r_iadd (v := _) M rfl dX12_writeWord_26 ?_
    refine b_any (fun z4 z4_a z4_b => ?_)
    refine k_V (ce := 0) (sl := 0) (rest := []) (wr := []) (r_V (f := 0) [0, 1] M w V_HookedCityModel_345 G1940 G96 (c151_X12_write l D T _ a0 z4 r0 a1 x0 x1 x2 x3 x4 x5 r1 x6 x7 x8 y1 x9 a2 a3 a4 a5 a6 a7 a8 a9 a10 a11 x10 a12 a13 a14 a15 x11 r2 r3 a16 x12 x13 a17 a18 x14 a19 x15 r4 a20 a21 x16 r5 a22 x17 x18 x19 x20 f0 z4_a z4_b x0_a x0_b x1_a x1_b x2_a x2_b x3_a x3_b x4_a x4_b x5_a x5_b x6_a x6_b x7_a x7_b x8_a x8_b x9_a x9_b x10_a x10_b x11_a x11_b x12_a x12_b x13_a x13_b x14_a x14_b (by omega) (by omega) x16_a x16_b x17_a x17_b x18_a x18_b x19_a x19_b x20_a x20_b) 0 clX12 rfl rfl (by decide) rfl hl.1 rfl (Nat.le_of_ble_eq_true rfl) dX12_writeWord_27 (by decide) (by decide) (by decide) (by decide)) w [0, 1] [] rfl rfl (by decide) (by decide) rfl rfl (fun u H locs hp w => ?_)
    obtain ⟨z5, ff6⟩ := u
    have z5_a : 0 ≤ z5 := hp.1
    have z5_b : z5 ≤ 64 := hp.2.1
    have ee7 : 0 ≤ ((z5 - x15) - 1) := hp.2.2.1
    have ee8 : 0 ≤ ((x15 + 1) - z5) := hp.2.2.2
    have w : WD D A s.heap [(a0, .inr (11, [.int r0, .ref a1, .int (iI x0), .int (iI x1), .int (iI x2), .int (iI x3), .int (iI x4), .int (iI x5), .int r1, .int (iI x6), .int (iI x7), .int (iI x8), .long y1, .int (iI x9), .ref a2, .ref a3, .ref a4, .ref a5, .ref a6, .ref a7, .ref a8, .ref a9, .ref a10, .ref a11, .int (iI x10), .ref a12, .ref a13, .ref a14, .ref a15, .int (iI x11), .int r2, .int r3, .ref a16, .int (iI x12), .int (iI x13), .ref a17, .ref a18, .int (iI x14), .ref a19, .int (iI z5), .int r4, .ref a20, .ref a21, .int (iI x16), .int r5, .ref a22, .int (iI x17), .int (iI x18), .int (iI x19), .int (iI x20)])), (a19, .inl (T 0, 64, .inl ff6))] H locs := w
    exact ret (z5, ff6) _ _ _ _ _ [0, 1] dX12_writeWord_30 ⟨z5_a, z5_b, (show 0 ≤ ((x15 + 4) - z5) from by omega), (show 0 ≤ (z5 - x15) from by omega)⟩ w (by decide) rfl
  · refine lv_aload_n hx hb dX12_writeWord_8 rfl (lv_at hl 0 rfl) ?_
    refine lv_lload_n hx hb dX12_writeWord_9 rfl (lv_at hl 1 rfl) ?_
    refine lv_ldc2 (v := 27) hx hb M.1.2.2.2.1 (M.1.2.2.2.2 _ G1641) dX12_writeWord_10 ?_
    refine r_ldiv (v := y0 / 27) M rfl (by decide) dX12_writeWord_13 ?_
    refine k_V (ce := 0) (sl := 0) (rest := []) (wr := []) (r_V (f := 3) [0, 1] M w V_HookedCityModel_341 G1936 G95 (c154_X12_writeWord l D T _ a0 (y0 / 27) r0 a1 x0 x1 x2 x3 x4 x5 r1 x6 x7 x8 y1 x9 a2 a3 a4 a5 a6 a7 a8 a9 a10 a11 x10 a12 a13 a14 a15 x11 r2 r3 a16 x12 x13 a17 a18 x14 a19 x15 r4 a20 a21 x16 r5 a22 x17 x18 x19 x20 f0 x0_a x0_b x1_a x1_b x2_a x2_b x3_a x3_b x4_a x4_b x5_a x5_b x6_a x6_b x7_a x7_b x8_a x8_b x9_a x9_b x10_a x10_b x11_a x11_b x12_a x12_b x13_a x13_b x14_a x14_b x15_a x15_b x16_a x16_b x17_a x17_b x18_a x18_b x19_a x19_b x20_a x20_b (l27 c_1 (by omega)) (by omega)) 0 clX12 rfl rfl (by decide) rfl hl.1 rfl (Nat.le_of_ble_eq_true rfl) dX12_writeWord_14 (by decide) (by decide) (by decide) (by decide)) w [0, 1] [] rfl rfl (by decide) (by decide) rfl rfl (fun u H locs hp w => ?_)
    obtain ⟨z9, ff10⟩ := u
    have z9_a : 0 ≤ z9 := hp.1
    have z9_b : z9 ≤ 64 := hp.2.1
    have ee11 : 0 ≤ ((x15 + 3) - z9) := hp.2.2.1
    have ee12 : 0 ≤ (z9 - x15) := hp.2.2.2
    have w : WD D A s.heap [(a0, .inr (11, [.int r0, .ref a1, .int (iI x0), .int (iI x1), .int (iI x2), .int (iI x3), .int (iI x4), .int (iI x5), .int r1, .int (iI x6), .int (iI x7), .int (iI x8), .long y1, .int (iI x9), .ref a2, .ref a3, .ref a4, .ref a5, .ref a6, .ref a7, .ref a8, .ref a9, .ref a10, .ref a11, .int (iI x10), .ref a12, .ref a13, .ref a14, .ref a15, .int (iI x11), .int r2, .int r3, .ref a16, .int (iI x12), .int (iI x13), .ref a17, .ref a18, .int (iI x14), .ref a19, .int (iI z9), .int r4, .ref a20, .ref a21, .int (iI x16), .int r5, .ref a22, .int (iI x17), .int (iI x18), .int (iI x19), .int (iI x20)])), (a19, .inl (T 0, 64, .inl ff10))] H locs := w
    refine lv_aload_n hx hb dX12_writeWord_17 rfl (lv_at hl 0 rfl) ?_
    refine lv_bipush (v := iI 96) hx hb dX12_writeWord_18 (by decide +kernel) ?_
    refine lv_lload_n hx hb dX12_writeWord_20 rfl (lv_at hl 1 rfl) ?_
    refine lv_ldc2 (v := 27) hx hb M.1.2.2.2.1 (M.1.2.2.2.2 _ G1641) dX12_writeWord_21 ?_
    refine r_lrem (v := _) M rfl (by decide) dX12_writeWord_24 ?_
    refine b_anyl (fun fy13 => ?_)
    refine lv_l2i (v := _) hx hb dX12_writeWord_25 rfl ?_
    refine b_any (fun z14 z14_a z14_b => ?_)
    refine r_iadd (v := _) M rfl dX12_writeWord_26 ?_
    refine b_any (fun z15 z15_a z15_b => ?_)
    refine k_V (ce := 0) (sl := 0) (rest := []) (wr := []) (r_V (f := 0) [0, 1] M w V_HookedCityModel_345 G1940 G96 (c151_X12_write l D T _ a0 z15 r0 a1 x0 x1 x2 x3 x4 x5 r1 x6 x7 x8 y1 x9 a2 a3 a4 a5 a6 a7 a8 a9 a10 a11 x10 a12 a13 a14 a15 x11 r2 r3 a16 x12 x13 a17 a18 x14 a19 z9 r4 a20 a21 x16 r5 a22 x17 x18 x19 x20 ff10 z15_a z15_b x0_a x0_b x1_a x1_b x2_a x2_b x3_a x3_b x4_a x4_b x5_a x5_b x6_a x6_b x7_a x7_b x8_a x8_b x9_a x9_b x10_a x10_b x11_a x11_b x12_a x12_b x13_a x13_b x14_a x14_b (by omega) (by omega) x16_a x16_b x17_a x17_b x18_a x18_b x19_a x19_b x20_a x20_b) 0 clX12 rfl rfl (by decide) rfl hl.1 rfl (Nat.le_of_ble_eq_true rfl) dX12_writeWord_27 (by decide) (by decide) (by decide) (by decide)) w [0, 1] [] rfl rfl (by decide) (by decide) rfl rfl (fun u H locs hp w => ?_)
    obtain ⟨z16, ff17⟩ := u
    have z16_a : 0 ≤ z16 := hp.1
    have z16_b : z16 ≤ 64 := hp.2.1
    have ee18 : 0 ≤ ((z16 - z9) - 1) := hp.2.2.1
    have ee19 : 0 ≤ ((z9 + 1) - z16) := hp.2.2.2
    have w : WD D A s.heap [(a0, .inr (11, [.int r0, .ref a1, .int (iI x0), .int (iI x1), .int (iI x2), .int (iI x3), .int (iI x4), .int (iI x5), .int r1, .int (iI x6), .int (iI x7), .int (iI x8), .long y1, .int (iI x9), .ref a2, .ref a3, .ref a4, .ref a5, .ref a6, .ref a7, .ref a8, .ref a9, .ref a10, .ref a11, .int (iI x10), .ref a12, .ref a13, .ref a14, .ref a15, .int (iI x11), .int r2, .int r3, .ref a16, .int (iI x12), .int (iI x13), .ref a17, .ref a18, .int (iI x14), .ref a19, .int (iI z16), .int r4, .ref a20, .ref a21, .int (iI x16), .int r5, .ref a22, .int (iI x17), .int (iI x18), .int (iI x19), .int (iI x20)])), (a19, .inl (T 0, 64, .inl ff17))] H locs := w
    exact ret (z16, ff17) _ _ _ _ _ [0, 1] dX12_writeWord_30 ⟨z16_a, z16_b, (show 0 ≤ ((x15 + 4) - z16) from by omega), (show 0 ≤ (z16 - x15) from by omega)⟩ w (by decide) rfl
set_option maxRecDepth 100000 in
set_option maxHeartbeats 4000000 in
theorem c156_X12_writeWord (l : Launch) (D : va_G) (T : Nat → ClassId) (sz : Nat) (a0 : Nat) (y0 : Int64) (r0 : Int32) (a1 : Nat) (x0 : Int) (x1 : Int) (x2 : Int) (x3 : Int) (x4 : Int) (x5 : Int) (r1 : Int32) (x6 : Int) (x7 : Int) (x8 : Int) (y1 : Int64) (x9 : Int) (a2 : Nat) (a3 : Nat) (a4 : Nat) (a5 : Nat) (a6 : Nat) (a7 : Nat) (a8 : Nat) (a9 : Nat) (a10 : Nat) (a11 : Nat) (x10 : Int) (a12 : Nat) (a13 : Nat) (a14 : Nat) (a15 : Nat) (x11 : Int) (r2 : Int32) (r3 : Int32) (a16 : Nat) (x12 : Int) (x13 : Int) (a17 : Nat) (a18 : Nat) (x14 : Int) (a19 : Nat) (x15 : Int) (r4 : Int32) (a20 : Nat) (a21 : Nat) (x16 : Int) (r5 : Int32) (a22 : Nat) (x17 : Int) (x18 : Int) (x19 : Int) (x20 : Int) (f0 : Nat → Int32) (x0_a : 0 ≤ x0) (x0_b : x0 ≤ 940) (x1_a : 0 ≤ x1) (x1_b : x1 ≤ 940) (x2_a : 0 ≤ x2) (x2_b : x2 ≤ 940) (x3_a : 0 ≤ x3) (x3_b : x3 ≤ 940) (x4_a : 0 ≤ x4) (x4_b : x4 ≤ 940) (x5_a : 0 ≤ x5) (x5_b : x5 ≤ 4) (x6_a : (-2147483648) ≤ x6) (x6_b : x6 ≤ 2147483647) (x7_a : (-2147483648) ≤ x7) (x7_b : x7 ≤ 2147483647) (x8_a : 0 ≤ x8) (x8_b : x8 ≤ 940) (x9_a : (-2147483648) ≤ x9) (x9_b : x9 ≤ 2147483647) (x10_a : 0 ≤ x10) (x10_b : x10 ≤ 8) (x11_a : 0 ≤ x11) (x11_b : x11 ≤ 9) (x12_a : (-1) ≤ x12) (x12_b : x12 ≤ 9) (x13_a : (-1) ≤ x13) (x13_b : x13 ≤ 8) (x14_a : 0 ≤ x14) (x14_b : x14 ≤ 9) (x15_a : 0 ≤ x15) (x15_b : x15 ≤ 64) (x16_a : 0 ≤ x16) (x16_b : x16 ≤ 40) (x17_a : 0 ≤ x17) (x17_b : x17 ≤ 40) (x18_a : 0 ≤ x18) (x18_b : x18 ≤ 20) (x19_a : 0 ≤ x19) (x19_b : x19 ≤ 8) (x20_a : 0 ≤ x20) (x20_b : x20 ≤ 39) (pp_w : (y0).toInt < 14348907) (pr_0 : 0 ≤ (59 - x15)) : Met l yX12_writeWord (Cond.code yX12_writeWord cX12_writeWord 3 none :: GW) (Rm 5 0 0) (cPre [.ref a0, .long y0] D T [(a0, .inr (11, [.int r0, .ref a1, .int (iI x0), .int (iI x1), .int (iI x2), .int (iI x3), .int (iI x4), .int (iI x5), .int r1, .int (iI x6), .int (iI x7), .int (iI x8), .long y1, .int (iI x9), .ref a2, .ref a3, .ref a4, .ref a5, .ref a6, .ref a7, .ref a8, .ref a9, .ref a10, .ref a11, .int (iI x10), .ref a12, .ref a13, .ref a14, .ref a15, .int (iI x11), .int r2, .int r3, .ref a16, .int (iI x12), .int (iI x13), .ref a17, .ref a18, .int (iI x14), .ref a19, .int (iI x15), .int r4, .ref a20, .ref a21, .int (iI x16), .int r5, .ref a22, .int (iI x17), .int (iI x18), .int (iI x19), .int (iI x20)])), (a19, .inl (T 0, 64, .inl f0))] sz) (qV D [(a0, .inr (11, [.int r0, .ref a1, .int (iI x0), .int (iI x1), .int (iI x2), .int (iI x3), .int (iI x4), .int (iI x5), .int r1, .int (iI x6), .int (iI x7), .int (iI x8), .long y1, .int (iI x9), .ref a2, .ref a3, .ref a4, .ref a5, .ref a6, .ref a7, .ref a8, .ref a9, .ref a10, .ref a11, .int (iI x10), .ref a12, .ref a13, .ref a14, .ref a15, .int (iI x11), .int r2, .int r3, .ref a16, .int (iI x12), .int (iI x13), .ref a17, .ref a18, .int (iI x14), .ref a19, .int (iI x15), .int r4, .ref a20, .ref a21, .int (iI x16), .int r5, .ref a22, .int (iI x17), .int (iI x18), .int (iI x19), .int (iI x20)])), (a19, .inl (T 0, 64, .inl f0))] sz (fun (u : Int × (Nat → Int32)) => 0 ≤ u.1 ∧ u.1 ≤ 64 ∧ 0 ≤ ((x15 + 5) - u.1) ∧ 0 ≤ (u.1 - x15)) (fun u => [(a0, .inr (11, [.int r0, .ref a1, .int (iI x0), .int (iI x1), .int (iI x2), .int (iI x3), .int (iI x4), .int (iI x5), .int r1, .int (iI x6), .int (iI x7), .int (iI x8), .long y1, .int (iI x9), .ref a2, .ref a3, .ref a4, .ref a5, .ref a6, .ref a7, .ref a8, .ref a9, .ref a10, .ref a11, .int (iI x10), .ref a12, .ref a13, .ref a14, .ref a15, .int (iI x11), .int r2, .int r3, .ref a16, .int (iI x12), .int (iI x13), .ref a17, .ref a18, .int (iI x14), .ref a19, .int (iI u.1), .int r4, .ref a20, .ref a21, .int (iI x16), .int r5, .ref a22, .int (iI x17), .int (iI x18), .int (iI x19), .int (iI x20)])), (a19, .inl (T 0, 64, .inl u.2))])) 0 0 (va_A [(a0, .inr (11, [.int r0, .ref a1, .int (iI x0), .int (iI x1), .int (iI x2), .int (iI x3), .int (iI x4), .int (iI x5), .int r1, .int (iI x6), .int (iI x7), .int (iI x8), .long y1, .int (iI x9), .ref a2, .ref a3, .ref a4, .ref a5, .ref a6, .ref a7, .ref a8, .ref a9, .ref a10, .ref a11, .int (iI x10), .ref a12, .ref a13, .ref a14, .ref a15, .int (iI x11), .int r2, .int r3, .ref a16, .int (iI x12), .int (iI x13), .ref a17, .ref a18, .int (iI x14), .ref a19, .int (iI x15), .int r4, .ref a20, .ref a21, .int (iI x16), .int r5, .ref a22, .int (iI x17), .int (iI x18), .int (iI x19), .int (iI x20)])), (a19, .inl (T 0, 64, .inl f0))] sz) := by
  refine e_V (by decide) (Nat.le_of_ble_eq_true rfl) ?_
  intro p e s m args below meth c A Q ls M hin w ret hl
  have hx := M.1.1
  have hb := M.1.2.1
  have hl : lv_has ls 3 [(0, .ref a0), (1, .long y0)] := hl
  refine lv_lload_n hx hb dX12_writeWord_0 rfl (lv_at hl 1 rfl) ?_
  refine lv_ldc2 (v := 27) hx hb M.1.2.2.2.1 (M.1.2.2.2.2 _ G1641) dX12_writeWord_1 ?_
  refine r_lcmp (v := lg_cmp y0 27) M rfl dX12_writeWord_4 ?_
  refine lv_if_lt (tgt := 17) hx hb dX12_writeWord_5 (by decide) (fun c_1 => ?_) (fun c_1 => ?_)
  · refine lv_aload_n hx hb dX12_writeWord_17 rfl (lv_at hl 0 rfl) ?_
    refine lv_bipush (v := iI 96) hx hb dX12_writeWord_18 (by decide +kernel) ?_
    refine lv_lload_n hx hb dX12_writeWord_20 rfl (lv_at hl 1 rfl) ?_
    refine lv_ldc2 (v := 27) hx hb M.1.2.2.2.1 (M.1.2.2.2.2 _ G1641) dX12_writeWord_21 ?_
    refine r_lrem (v := _) M rfl (by decide) dX12_writeWord_24 ?_
    refine b_anyl (fun fy2 => ?_)
    refine lv_l2i (v := _) hx hb dX12_writeWord_25 rfl ?_
    refine b_any (fun z3 z3_a z3_b => ?_)
    refine r_iadd (v := _) M rfl dX12_writeWord_26 ?_
    refine b_any (fun z4 z4_a z4_b => ?_)
    refine k_V (ce := 0) (sl := 0) (rest := []) (wr := []) (r_V (f := 0) [0, 1] M w V_HookedCityModel_345 G1940 G96 (c151_X12_write l D T _ a0 z4 r0 a1 x0 x1 x2 x3 x4 x5 r1 x6 x7 x8 y1 x9 a2 a3 a4 a5 a6 a7 a8 a9 a10 a11 x10 a12 a13 a14 a15 x11 r2 r3 a16 x12 x13 a17 a18 x14 a19 x15 r4 a20 a21 x16 r5 a22 x17 x18 x19 x20 f0 z4_a z4_b x0_a x0_b x1_a x1_b x2_a x2_b x3_a x3_b x4_a x4_b x5_a x5_b x6_a x6_b x7_a x7_b x8_a x8_b x9_a x9_b x10_a x10_b x11_a x11_b x12_a x12_b x13_a x13_b x14_a x14_b (by omega) (by omega) x16_a x16_b x17_a x17_b x18_a x18_b x19_a x19_b x20_a x20_b) 0 clX12 rfl rfl (by decide) rfl hl.1 rfl (Nat.le_of_ble_eq_true rfl) dX12_writeWord_27 (by decide) (by decide) (by decide) (by decide)) w [0, 1] [] rfl rfl (by decide) (by decide) rfl rfl (fun u H locs hp w => ?_)
    obtain ⟨z5, ff6⟩ := u
    have z5_a : 0 ≤ z5 := hp.1
    have z5_b : z5 ≤ 64 := hp.2.1
    have ee7 : 0 ≤ ((z5 - x15) - 1) := hp.2.2.1
    have ee8 : 0 ≤ ((x15 + 1) - z5) := hp.2.2.2
    have w : WD D A s.heap [(a0, .inr (11, [.int r0, .ref a1, .int (iI x0), .int (iI x1), .int (iI x2), .int (iI x3), .int (iI x4), .int (iI x5), .int r1, .int (iI x6), .int (iI x7), .int (iI x8), .long y1, .int (iI x9), .ref a2, .ref a3, .ref a4, .ref a5, .ref a6, .ref a7, .ref a8, .ref a9, .ref a10, .ref a11, .int (iI x10), .ref a12, .ref a13, .ref a14, .ref a15, .int (iI x11), .int r2, .int r3, .ref a16, .int (iI x12), .int (iI x13), .ref a17, .ref a18, .int (iI x14), .ref a19, .int (iI z5), .int r4, .ref a20, .ref a21, .int (iI x16), .int r5, .ref a22, .int (iI x17), .int (iI x18), .int (iI x19), .int (iI x20)])), (a19, .inl (T 0, 64, .inl ff6))] H locs := w
    exact ret (z5, ff6) _ _ _ _ _ [0, 1] dX12_writeWord_30 ⟨z5_a, z5_b, (show 0 ≤ ((x15 + 5) - z5) from by omega), (show 0 ≤ (z5 - x15) from by omega)⟩ w (by decide) rfl
  · refine lv_aload_n hx hb dX12_writeWord_8 rfl (lv_at hl 0 rfl) ?_
    refine lv_lload_n hx hb dX12_writeWord_9 rfl (lv_at hl 1 rfl) ?_
    refine lv_ldc2 (v := 27) hx hb M.1.2.2.2.1 (M.1.2.2.2.2 _ G1641) dX12_writeWord_10 ?_
    refine r_ldiv (v := y0 / 27) M rfl (by decide) dX12_writeWord_13 ?_
    refine k_V (ce := 0) (sl := 0) (rest := []) (wr := []) (r_V (f := 4) [0, 1] M w V_HookedCityModel_341 G1936 G95 (c155_X12_writeWord l D T _ a0 (y0 / 27) r0 a1 x0 x1 x2 x3 x4 x5 r1 x6 x7 x8 y1 x9 a2 a3 a4 a5 a6 a7 a8 a9 a10 a11 x10 a12 a13 a14 a15 x11 r2 r3 a16 x12 x13 a17 a18 x14 a19 x15 r4 a20 a21 x16 r5 a22 x17 x18 x19 x20 f0 x0_a x0_b x1_a x1_b x2_a x2_b x3_a x3_b x4_a x4_b x5_a x5_b x6_a x6_b x7_a x7_b x8_a x8_b x9_a x9_b x10_a x10_b x11_a x11_b x12_a x12_b x13_a x13_b x14_a x14_b x15_a x15_b x16_a x16_b x17_a x17_b x18_a x18_b x19_a x19_b x20_a x20_b (l27 c_1 (by omega)) (by omega)) 0 clX12 rfl rfl (by decide) rfl hl.1 rfl (Nat.le_of_ble_eq_true rfl) dX12_writeWord_14 (by decide) (by decide) (by decide) (by decide)) w [0, 1] [] rfl rfl (by decide) (by decide) rfl rfl (fun u H locs hp w => ?_)
    obtain ⟨z9, ff10⟩ := u
    have z9_a : 0 ≤ z9 := hp.1
    have z9_b : z9 ≤ 64 := hp.2.1
    have ee11 : 0 ≤ ((x15 + 4) - z9) := hp.2.2.1
    have ee12 : 0 ≤ (z9 - x15) := hp.2.2.2
    have w : WD D A s.heap [(a0, .inr (11, [.int r0, .ref a1, .int (iI x0), .int (iI x1), .int (iI x2), .int (iI x3), .int (iI x4), .int (iI x5), .int r1, .int (iI x6), .int (iI x7), .int (iI x8), .long y1, .int (iI x9), .ref a2, .ref a3, .ref a4, .ref a5, .ref a6, .ref a7, .ref a8, .ref a9, .ref a10, .ref a11, .int (iI x10), .ref a12, .ref a13, .ref a14, .ref a15, .int (iI x11), .int r2, .int r3, .ref a16, .int (iI x12), .int (iI x13), .ref a17, .ref a18, .int (iI x14), .ref a19, .int (iI z9), .int r4, .ref a20, .ref a21, .int (iI x16), .int r5, .ref a22, .int (iI x17), .int (iI x18), .int (iI x19), .int (iI x20)])), (a19, .inl (T 0, 64, .inl ff10))] H locs := w
    refine lv_aload_n hx hb dX12_writeWord_17 rfl (lv_at hl 0 rfl) ?_
    refine lv_bipush (v := iI 96) hx hb dX12_writeWord_18 (by decide +kernel) ?_
    refine lv_lload_n hx hb dX12_writeWord_20 rfl (lv_at hl 1 rfl) ?_
    refine lv_ldc2 (v := 27) hx hb M.1.2.2.2.1 (M.1.2.2.2.2 _ G1641) dX12_writeWord_21 ?_
    refine r_lrem (v := _) M rfl (by decide) dX12_writeWord_24 ?_
    refine b_anyl (fun fy13 => ?_)
    refine lv_l2i (v := _) hx hb dX12_writeWord_25 rfl ?_
    refine b_any (fun z14 z14_a z14_b => ?_)
    refine r_iadd (v := _) M rfl dX12_writeWord_26 ?_
    refine b_any (fun z15 z15_a z15_b => ?_)
    refine k_V (ce := 0) (sl := 0) (rest := []) (wr := []) (r_V (f := 0) [0, 1] M w V_HookedCityModel_345 G1940 G96 (c151_X12_write l D T _ a0 z15 r0 a1 x0 x1 x2 x3 x4 x5 r1 x6 x7 x8 y1 x9 a2 a3 a4 a5 a6 a7 a8 a9 a10 a11 x10 a12 a13 a14 a15 x11 r2 r3 a16 x12 x13 a17 a18 x14 a19 z9 r4 a20 a21 x16 r5 a22 x17 x18 x19 x20 ff10 z15_a z15_b x0_a x0_b x1_a x1_b x2_a x2_b x3_a x3_b x4_a x4_b x5_a x5_b x6_a x6_b x7_a x7_b x8_a x8_b x9_a x9_b x10_a x10_b x11_a x11_b x12_a x12_b x13_a x13_b x14_a x14_b (by omega) (by omega) x16_a x16_b x17_a x17_b x18_a x18_b x19_a x19_b x20_a x20_b) 0 clX12 rfl rfl (by decide) rfl hl.1 rfl (Nat.le_of_ble_eq_true rfl) dX12_writeWord_27 (by decide) (by decide) (by decide) (by decide)) w [0, 1] [] rfl rfl (by decide) (by decide) rfl rfl (fun u H locs hp w => ?_)
    obtain ⟨z16, ff17⟩ := u
    have z16_a : 0 ≤ z16 := hp.1
    have z16_b : z16 ≤ 64 := hp.2.1
    have ee18 : 0 ≤ ((z16 - z9) - 1) := hp.2.2.1
    have ee19 : 0 ≤ ((z9 + 1) - z16) := hp.2.2.2
    have w : WD D A s.heap [(a0, .inr (11, [.int r0, .ref a1, .int (iI x0), .int (iI x1), .int (iI x2), .int (iI x3), .int (iI x4), .int (iI x5), .int r1, .int (iI x6), .int (iI x7), .int (iI x8), .long y1, .int (iI x9), .ref a2, .ref a3, .ref a4, .ref a5, .ref a6, .ref a7, .ref a8, .ref a9, .ref a10, .ref a11, .int (iI x10), .ref a12, .ref a13, .ref a14, .ref a15, .int (iI x11), .int r2, .int r3, .ref a16, .int (iI x12), .int (iI x13), .ref a17, .ref a18, .int (iI x14), .ref a19, .int (iI z16), .int r4, .ref a20, .ref a21, .int (iI x16), .int r5, .ref a22, .int (iI x17), .int (iI x18), .int (iI x19), .int (iI x20)])), (a19, .inl (T 0, 64, .inl ff17))] H locs := w
    exact ret (z16, ff17) _ _ _ _ _ [0, 1] dX12_writeWord_30 ⟨z16_a, z16_b, (show 0 ≤ ((x15 + 5) - z16) from by omega), (show 0 ≤ (z16 - x15) from by omega)⟩ w (by decide) rfl
set_option maxRecDepth 100000 in
set_option maxHeartbeats 4000000 in
theorem c157_X12_writeWord (l : Launch) (D : va_G) (T : Nat → ClassId) (sz : Nat) (a0 : Nat) (y0 : Int64) (r0 : Int32) (a1 : Nat) (x0 : Int) (x1 : Int) (x2 : Int) (x3 : Int) (x4 : Int) (x5 : Int) (r1 : Int32) (x6 : Int) (x7 : Int) (x8 : Int) (y1 : Int64) (x9 : Int) (a2 : Nat) (a3 : Nat) (a4 : Nat) (a5 : Nat) (a6 : Nat) (a7 : Nat) (a8 : Nat) (a9 : Nat) (a10 : Nat) (a11 : Nat) (x10 : Int) (a12 : Nat) (a13 : Nat) (a14 : Nat) (a15 : Nat) (x11 : Int) (r2 : Int32) (r3 : Int32) (a16 : Nat) (x12 : Int) (x13 : Int) (a17 : Nat) (a18 : Nat) (x14 : Int) (a19 : Nat) (x15 : Int) (r4 : Int32) (a20 : Nat) (a21 : Nat) (x16 : Int) (r5 : Int32) (a22 : Nat) (x17 : Int) (x18 : Int) (x19 : Int) (x20 : Int) (f0 : Nat → Int32) (x0_a : 0 ≤ x0) (x0_b : x0 ≤ 940) (x1_a : 0 ≤ x1) (x1_b : x1 ≤ 940) (x2_a : 0 ≤ x2) (x2_b : x2 ≤ 940) (x3_a : 0 ≤ x3) (x3_b : x3 ≤ 940) (x4_a : 0 ≤ x4) (x4_b : x4 ≤ 940) (x5_a : 0 ≤ x5) (x5_b : x5 ≤ 4) (x6_a : (-2147483648) ≤ x6) (x6_b : x6 ≤ 2147483647) (x7_a : (-2147483648) ≤ x7) (x7_b : x7 ≤ 2147483647) (x8_a : 0 ≤ x8) (x8_b : x8 ≤ 940) (x9_a : (-2147483648) ≤ x9) (x9_b : x9 ≤ 2147483647) (x10_a : 0 ≤ x10) (x10_b : x10 ≤ 8) (x11_a : 0 ≤ x11) (x11_b : x11 ≤ 9) (x12_a : (-1) ≤ x12) (x12_b : x12 ≤ 9) (x13_a : (-1) ≤ x13) (x13_b : x13 ≤ 8) (x14_a : 0 ≤ x14) (x14_b : x14 ≤ 9) (x15_a : 0 ≤ x15) (x15_b : x15 ≤ 64) (x16_a : 0 ≤ x16) (x16_b : x16 ≤ 40) (x17_a : 0 ≤ x17) (x17_b : x17 ≤ 40) (x18_a : 0 ≤ x18) (x18_b : x18 ≤ 20) (x19_a : 0 ≤ x19) (x19_b : x19 ≤ 8) (x20_a : 0 ≤ x20) (x20_b : x20 ≤ 39) (pp_w : (y0).toInt < 387420489) (pr_0 : 0 ≤ (58 - x15)) : Met l yX12_writeWord (Cond.code yX12_writeWord cX12_writeWord 3 none :: GW) (Rm 6 0 0) (cPre [.ref a0, .long y0] D T [(a0, .inr (11, [.int r0, .ref a1, .int (iI x0), .int (iI x1), .int (iI x2), .int (iI x3), .int (iI x4), .int (iI x5), .int r1, .int (iI x6), .int (iI x7), .int (iI x8), .long y1, .int (iI x9), .ref a2, .ref a3, .ref a4, .ref a5, .ref a6, .ref a7, .ref a8, .ref a9, .ref a10, .ref a11, .int (iI x10), .ref a12, .ref a13, .ref a14, .ref a15, .int (iI x11), .int r2, .int r3, .ref a16, .int (iI x12), .int (iI x13), .ref a17, .ref a18, .int (iI x14), .ref a19, .int (iI x15), .int r4, .ref a20, .ref a21, .int (iI x16), .int r5, .ref a22, .int (iI x17), .int (iI x18), .int (iI x19), .int (iI x20)])), (a19, .inl (T 0, 64, .inl f0))] sz) (qV D [(a0, .inr (11, [.int r0, .ref a1, .int (iI x0), .int (iI x1), .int (iI x2), .int (iI x3), .int (iI x4), .int (iI x5), .int r1, .int (iI x6), .int (iI x7), .int (iI x8), .long y1, .int (iI x9), .ref a2, .ref a3, .ref a4, .ref a5, .ref a6, .ref a7, .ref a8, .ref a9, .ref a10, .ref a11, .int (iI x10), .ref a12, .ref a13, .ref a14, .ref a15, .int (iI x11), .int r2, .int r3, .ref a16, .int (iI x12), .int (iI x13), .ref a17, .ref a18, .int (iI x14), .ref a19, .int (iI x15), .int r4, .ref a20, .ref a21, .int (iI x16), .int r5, .ref a22, .int (iI x17), .int (iI x18), .int (iI x19), .int (iI x20)])), (a19, .inl (T 0, 64, .inl f0))] sz (fun (u : Int × (Nat → Int32)) => 0 ≤ u.1 ∧ u.1 ≤ 64 ∧ 0 ≤ ((x15 + 6) - u.1) ∧ 0 ≤ (u.1 - x15)) (fun u => [(a0, .inr (11, [.int r0, .ref a1, .int (iI x0), .int (iI x1), .int (iI x2), .int (iI x3), .int (iI x4), .int (iI x5), .int r1, .int (iI x6), .int (iI x7), .int (iI x8), .long y1, .int (iI x9), .ref a2, .ref a3, .ref a4, .ref a5, .ref a6, .ref a7, .ref a8, .ref a9, .ref a10, .ref a11, .int (iI x10), .ref a12, .ref a13, .ref a14, .ref a15, .int (iI x11), .int r2, .int r3, .ref a16, .int (iI x12), .int (iI x13), .ref a17, .ref a18, .int (iI x14), .ref a19, .int (iI u.1), .int r4, .ref a20, .ref a21, .int (iI x16), .int r5, .ref a22, .int (iI x17), .int (iI x18), .int (iI x19), .int (iI x20)])), (a19, .inl (T 0, 64, .inl u.2))])) 0 0 (va_A [(a0, .inr (11, [.int r0, .ref a1, .int (iI x0), .int (iI x1), .int (iI x2), .int (iI x3), .int (iI x4), .int (iI x5), .int r1, .int (iI x6), .int (iI x7), .int (iI x8), .long y1, .int (iI x9), .ref a2, .ref a3, .ref a4, .ref a5, .ref a6, .ref a7, .ref a8, .ref a9, .ref a10, .ref a11, .int (iI x10), .ref a12, .ref a13, .ref a14, .ref a15, .int (iI x11), .int r2, .int r3, .ref a16, .int (iI x12), .int (iI x13), .ref a17, .ref a18, .int (iI x14), .ref a19, .int (iI x15), .int r4, .ref a20, .ref a21, .int (iI x16), .int r5, .ref a22, .int (iI x17), .int (iI x18), .int (iI x19), .int (iI x20)])), (a19, .inl (T 0, 64, .inl f0))] sz) := by
  refine e_V (by decide) (Nat.le_of_ble_eq_true rfl) ?_
  intro p e s m args below meth c A Q ls M hin w ret hl
  have hx := M.1.1
  have hb := M.1.2.1
  have hl : lv_has ls 3 [(0, .ref a0), (1, .long y0)] := hl
  refine lv_lload_n hx hb dX12_writeWord_0 rfl (lv_at hl 1 rfl) ?_
  refine lv_ldc2 (v := 27) hx hb M.1.2.2.2.1 (M.1.2.2.2.2 _ G1641) dX12_writeWord_1 ?_
  refine r_lcmp (v := lg_cmp y0 27) M rfl dX12_writeWord_4 ?_
  refine lv_if_lt (tgt := 17) hx hb dX12_writeWord_5 (by decide) (fun c_1 => ?_) (fun c_1 => ?_)
  · refine lv_aload_n hx hb dX12_writeWord_17 rfl (lv_at hl 0 rfl) ?_
    refine lv_bipush (v := iI 96) hx hb dX12_writeWord_18 (by decide +kernel) ?_
    refine lv_lload_n hx hb dX12_writeWord_20 rfl (lv_at hl 1 rfl) ?_
    refine lv_ldc2 (v := 27) hx hb M.1.2.2.2.1 (M.1.2.2.2.2 _ G1641) dX12_writeWord_21 ?_
    refine r_lrem (v := _) M rfl (by decide) dX12_writeWord_24 ?_
    refine b_anyl (fun fy2 => ?_)
    refine lv_l2i (v := _) hx hb dX12_writeWord_25 rfl ?_
    refine b_any (fun z3 z3_a z3_b => ?_)
    refine r_iadd (v := _) M rfl dX12_writeWord_26 ?_
    refine b_any (fun z4 z4_a z4_b => ?_)
    refine k_V (ce := 0) (sl := 0) (rest := []) (wr := []) (r_V (f := 0) [0, 1] M w V_HookedCityModel_345 G1940 G96 (c151_X12_write l D T _ a0 z4 r0 a1 x0 x1 x2 x3 x4 x5 r1 x6 x7 x8 y1 x9 a2 a3 a4 a5 a6 a7 a8 a9 a10 a11 x10 a12 a13 a14 a15 x11 r2 r3 a16 x12 x13 a17 a18 x14 a19 x15 r4 a20 a21 x16 r5 a22 x17 x18 x19 x20 f0 z4_a z4_b x0_a x0_b x1_a x1_b x2_a x2_b x3_a x3_b x4_a x4_b x5_a x5_b x6_a x6_b x7_a x7_b x8_a x8_b x9_a x9_b x10_a x10_b x11_a x11_b x12_a x12_b x13_a x13_b x14_a x14_b (by omega) (by omega) x16_a x16_b x17_a x17_b x18_a x18_b x19_a x19_b x20_a x20_b) 0 clX12 rfl rfl (by decide) rfl hl.1 rfl (Nat.le_of_ble_eq_true rfl) dX12_writeWord_27 (by decide) (by decide) (by decide) (by decide)) w [0, 1] [] rfl rfl (by decide) (by decide) rfl rfl (fun u H locs hp w => ?_)
    obtain ⟨z5, ff6⟩ := u
    have z5_a : 0 ≤ z5 := hp.1
    have z5_b : z5 ≤ 64 := hp.2.1
    have ee7 : 0 ≤ ((z5 - x15) - 1) := hp.2.2.1
    have ee8 : 0 ≤ ((x15 + 1) - z5) := hp.2.2.2
    have w : WD D A s.heap [(a0, .inr (11, [.int r0, .ref a1, .int (iI x0), .int (iI x1), .int (iI x2), .int (iI x3), .int (iI x4), .int (iI x5), .int r1, .int (iI x6), .int (iI x7), .int (iI x8), .long y1, .int (iI x9), .ref a2, .ref a3, .ref a4, .ref a5, .ref a6, .ref a7, .ref a8, .ref a9, .ref a10, .ref a11, .int (iI x10), .ref a12, .ref a13, .ref a14, .ref a15, .int (iI x11), .int r2, .int r3, .ref a16, .int (iI x12), .int (iI x13), .ref a17, .ref a18, .int (iI x14), .ref a19, .int (iI z5), .int r4, .ref a20, .ref a21, .int (iI x16), .int r5, .ref a22, .int (iI x17), .int (iI x18), .int (iI x19), .int (iI x20)])), (a19, .inl (T 0, 64, .inl ff6))] H locs := w
    exact ret (z5, ff6) _ _ _ _ _ [0, 1] dX12_writeWord_30 ⟨z5_a, z5_b, (show 0 ≤ ((x15 + 6) - z5) from by omega), (show 0 ≤ (z5 - x15) from by omega)⟩ w (by decide) rfl
  · refine lv_aload_n hx hb dX12_writeWord_8 rfl (lv_at hl 0 rfl) ?_
    refine lv_lload_n hx hb dX12_writeWord_9 rfl (lv_at hl 1 rfl) ?_
    refine lv_ldc2 (v := 27) hx hb M.1.2.2.2.1 (M.1.2.2.2.2 _ G1641) dX12_writeWord_10 ?_
    refine r_ldiv (v := y0 / 27) M rfl (by decide) dX12_writeWord_13 ?_
    refine k_V (ce := 0) (sl := 0) (rest := []) (wr := []) (r_V (f := 5) [0, 1] M w V_HookedCityModel_341 G1936 G95 (c156_X12_writeWord l D T _ a0 (y0 / 27) r0 a1 x0 x1 x2 x3 x4 x5 r1 x6 x7 x8 y1 x9 a2 a3 a4 a5 a6 a7 a8 a9 a10 a11 x10 a12 a13 a14 a15 x11 r2 r3 a16 x12 x13 a17 a18 x14 a19 x15 r4 a20 a21 x16 r5 a22 x17 x18 x19 x20 f0 x0_a x0_b x1_a x1_b x2_a x2_b x3_a x3_b x4_a x4_b x5_a x5_b x6_a x6_b x7_a x7_b x8_a x8_b x9_a x9_b x10_a x10_b x11_a x11_b x12_a x12_b x13_a x13_b x14_a x14_b x15_a x15_b x16_a x16_b x17_a x17_b x18_a x18_b x19_a x19_b x20_a x20_b (l27 c_1 (by omega)) (by omega)) 0 clX12 rfl rfl (by decide) rfl hl.1 rfl (Nat.le_of_ble_eq_true rfl) dX12_writeWord_14 (by decide) (by decide) (by decide) (by decide)) w [0, 1] [] rfl rfl (by decide) (by decide) rfl rfl (fun u H locs hp w => ?_)
    obtain ⟨z9, ff10⟩ := u
    have z9_a : 0 ≤ z9 := hp.1
    have z9_b : z9 ≤ 64 := hp.2.1
    have ee11 : 0 ≤ ((x15 + 5) - z9) := hp.2.2.1
    have ee12 : 0 ≤ (z9 - x15) := hp.2.2.2
    have w : WD D A s.heap [(a0, .inr (11, [.int r0, .ref a1, .int (iI x0), .int (iI x1), .int (iI x2), .int (iI x3), .int (iI x4), .int (iI x5), .int r1, .int (iI x6), .int (iI x7), .int (iI x8), .long y1, .int (iI x9), .ref a2, .ref a3, .ref a4, .ref a5, .ref a6, .ref a7, .ref a8, .ref a9, .ref a10, .ref a11, .int (iI x10), .ref a12, .ref a13, .ref a14, .ref a15, .int (iI x11), .int r2, .int r3, .ref a16, .int (iI x12), .int (iI x13), .ref a17, .ref a18, .int (iI x14), .ref a19, .int (iI z9), .int r4, .ref a20, .ref a21, .int (iI x16), .int r5, .ref a22, .int (iI x17), .int (iI x18), .int (iI x19), .int (iI x20)])), (a19, .inl (T 0, 64, .inl ff10))] H locs := w
    refine lv_aload_n hx hb dX12_writeWord_17 rfl (lv_at hl 0 rfl) ?_
    refine lv_bipush (v := iI 96) hx hb dX12_writeWord_18 (by decide +kernel) ?_
    refine lv_lload_n hx hb dX12_writeWord_20 rfl (lv_at hl 1 rfl) ?_
    refine lv_ldc2 (v := 27) hx hb M.1.2.2.2.1 (M.1.2.2.2.2 _ G1641) dX12_writeWord_21 ?_
    refine r_lrem (v := _) M rfl (by decide) dX12_writeWord_24 ?_
    refine b_anyl (fun fy13 => ?_)
    refine lv_l2i (v := _) hx hb dX12_writeWord_25 rfl ?_
    refine b_any (fun z14 z14_a z14_b => ?_)
    refine r_iadd (v := _) M rfl dX12_writeWord_26 ?_
    refine b_any (fun z15 z15_a z15_b => ?_)
    refine k_V (ce := 0) (sl := 0) (rest := []) (wr := []) (r_V (f := 0) [0, 1] M w V_HookedCityModel_345 G1940 G96 (c151_X12_write l D T _ a0 z15 r0 a1 x0 x1 x2 x3 x4 x5 r1 x6 x7 x8 y1 x9 a2 a3 a4 a5 a6 a7 a8 a9 a10 a11 x10 a12 a13 a14 a15 x11 r2 r3 a16 x12 x13 a17 a18 x14 a19 z9 r4 a20 a21 x16 r5 a22 x17 x18 x19 x20 ff10 z15_a z15_b x0_a x0_b x1_a x1_b x2_a x2_b x3_a x3_b x4_a x4_b x5_a x5_b x6_a x6_b x7_a x7_b x8_a x8_b x9_a x9_b x10_a x10_b x11_a x11_b x12_a x12_b x13_a x13_b x14_a x14_b (by omega) (by omega) x16_a x16_b x17_a x17_b x18_a x18_b x19_a x19_b x20_a x20_b) 0 clX12 rfl rfl (by decide) rfl hl.1 rfl (Nat.le_of_ble_eq_true rfl) dX12_writeWord_27 (by decide) (by decide) (by decide) (by decide)) w [0, 1] [] rfl rfl (by decide) (by decide) rfl rfl (fun u H locs hp w => ?_)
    obtain ⟨z16, ff17⟩ := u
    have z16_a : 0 ≤ z16 := hp.1
    have z16_b : z16 ≤ 64 := hp.2.1
    have ee18 : 0 ≤ ((z16 - z9) - 1) := hp.2.2.1
    have ee19 : 0 ≤ ((z9 + 1) - z16) := hp.2.2.2
    have w : WD D A s.heap [(a0, .inr (11, [.int r0, .ref a1, .int (iI x0), .int (iI x1), .int (iI x2), .int (iI x3), .int (iI x4), .int (iI x5), .int r1, .int (iI x6), .int (iI x7), .int (iI x8), .long y1, .int (iI x9), .ref a2, .ref a3, .ref a4, .ref a5, .ref a6, .ref a7, .ref a8, .ref a9, .ref a10, .ref a11, .int (iI x10), .ref a12, .ref a13, .ref a14, .ref a15, .int (iI x11), .int r2, .int r3, .ref a16, .int (iI x12), .int (iI x13), .ref a17, .ref a18, .int (iI x14), .ref a19, .int (iI z16), .int r4, .ref a20, .ref a21, .int (iI x16), .int r5, .ref a22, .int (iI x17), .int (iI x18), .int (iI x19), .int (iI x20)])), (a19, .inl (T 0, 64, .inl ff17))] H locs := w
    exact ret (z16, ff17) _ _ _ _ _ [0, 1] dX12_writeWord_30 ⟨z16_a, z16_b, (show 0 ≤ ((x15 + 6) - z16) from by omega), (show 0 ≤ (z16 - x15) from by omega)⟩ w (by decide) rfl
set_option maxRecDepth 100000 in
set_option maxHeartbeats 4000000 in
theorem c158_X12_writeWord (l : Launch) (D : va_G) (T : Nat → ClassId) (sz : Nat) (a0 : Nat) (y0 : Int64) (r0 : Int32) (a1 : Nat) (x0 : Int) (x1 : Int) (x2 : Int) (x3 : Int) (x4 : Int) (x5 : Int) (r1 : Int32) (x6 : Int) (x7 : Int) (x8 : Int) (y1 : Int64) (x9 : Int) (a2 : Nat) (a3 : Nat) (a4 : Nat) (a5 : Nat) (a6 : Nat) (a7 : Nat) (a8 : Nat) (a9 : Nat) (a10 : Nat) (a11 : Nat) (x10 : Int) (a12 : Nat) (a13 : Nat) (a14 : Nat) (a15 : Nat) (x11 : Int) (r2 : Int32) (r3 : Int32) (a16 : Nat) (x12 : Int) (x13 : Int) (a17 : Nat) (a18 : Nat) (x14 : Int) (a19 : Nat) (x15 : Int) (r4 : Int32) (a20 : Nat) (a21 : Nat) (x16 : Int) (r5 : Int32) (a22 : Nat) (x17 : Int) (x18 : Int) (x19 : Int) (x20 : Int) (f0 : Nat → Int32) (x0_a : 0 ≤ x0) (x0_b : x0 ≤ 940) (x1_a : 0 ≤ x1) (x1_b : x1 ≤ 940) (x2_a : 0 ≤ x2) (x2_b : x2 ≤ 940) (x3_a : 0 ≤ x3) (x3_b : x3 ≤ 940) (x4_a : 0 ≤ x4) (x4_b : x4 ≤ 940) (x5_a : 0 ≤ x5) (x5_b : x5 ≤ 4) (x6_a : (-2147483648) ≤ x6) (x6_b : x6 ≤ 2147483647) (x7_a : (-2147483648) ≤ x7) (x7_b : x7 ≤ 2147483647) (x8_a : 0 ≤ x8) (x8_b : x8 ≤ 940) (x9_a : (-2147483648) ≤ x9) (x9_b : x9 ≤ 2147483647) (x10_a : 0 ≤ x10) (x10_b : x10 ≤ 8) (x11_a : 0 ≤ x11) (x11_b : x11 ≤ 9) (x12_a : (-1) ≤ x12) (x12_b : x12 ≤ 9) (x13_a : (-1) ≤ x13) (x13_b : x13 ≤ 8) (x14_a : 0 ≤ x14) (x14_b : x14 ≤ 9) (x15_a : 0 ≤ x15) (x15_b : x15 ≤ 64) (x16_a : 0 ≤ x16) (x16_b : x16 ≤ 40) (x17_a : 0 ≤ x17) (x17_b : x17 ≤ 40) (x18_a : 0 ≤ x18) (x18_b : x18 ≤ 20) (x19_a : 0 ≤ x19) (x19_b : x19 ≤ 8) (x20_a : 0 ≤ x20) (x20_b : x20 ≤ 39) (pp_w : (y0).toInt < 10460353203) (pr_0 : 0 ≤ (57 - x15)) : Met l yX12_writeWord (Cond.code yX12_writeWord cX12_writeWord 3 none :: GW) (Rm 7 0 0) (cPre [.ref a0, .long y0] D T [(a0, .inr (11, [.int r0, .ref a1, .int (iI x0), .int (iI x1), .int (iI x2), .int (iI x3), .int (iI x4), .int (iI x5), .int r1, .int (iI x6), .int (iI x7), .int (iI x8), .long y1, .int (iI x9), .ref a2, .ref a3, .ref a4, .ref a5, .ref a6, .ref a7, .ref a8, .ref a9, .ref a10, .ref a11, .int (iI x10), .ref a12, .ref a13, .ref a14, .ref a15, .int (iI x11), .int r2, .int r3, .ref a16, .int (iI x12), .int (iI x13), .ref a17, .ref a18, .int (iI x14), .ref a19, .int (iI x15), .int r4, .ref a20, .ref a21, .int (iI x16), .int r5, .ref a22, .int (iI x17), .int (iI x18), .int (iI x19), .int (iI x20)])), (a19, .inl (T 0, 64, .inl f0))] sz) (qV D [(a0, .inr (11, [.int r0, .ref a1, .int (iI x0), .int (iI x1), .int (iI x2), .int (iI x3), .int (iI x4), .int (iI x5), .int r1, .int (iI x6), .int (iI x7), .int (iI x8), .long y1, .int (iI x9), .ref a2, .ref a3, .ref a4, .ref a5, .ref a6, .ref a7, .ref a8, .ref a9, .ref a10, .ref a11, .int (iI x10), .ref a12, .ref a13, .ref a14, .ref a15, .int (iI x11), .int r2, .int r3, .ref a16, .int (iI x12), .int (iI x13), .ref a17, .ref a18, .int (iI x14), .ref a19, .int (iI x15), .int r4, .ref a20, .ref a21, .int (iI x16), .int r5, .ref a22, .int (iI x17), .int (iI x18), .int (iI x19), .int (iI x20)])), (a19, .inl (T 0, 64, .inl f0))] sz (fun (u : Int × (Nat → Int32)) => 0 ≤ u.1 ∧ u.1 ≤ 64 ∧ 0 ≤ ((x15 + 7) - u.1) ∧ 0 ≤ (u.1 - x15)) (fun u => [(a0, .inr (11, [.int r0, .ref a1, .int (iI x0), .int (iI x1), .int (iI x2), .int (iI x3), .int (iI x4), .int (iI x5), .int r1, .int (iI x6), .int (iI x7), .int (iI x8), .long y1, .int (iI x9), .ref a2, .ref a3, .ref a4, .ref a5, .ref a6, .ref a7, .ref a8, .ref a9, .ref a10, .ref a11, .int (iI x10), .ref a12, .ref a13, .ref a14, .ref a15, .int (iI x11), .int r2, .int r3, .ref a16, .int (iI x12), .int (iI x13), .ref a17, .ref a18, .int (iI x14), .ref a19, .int (iI u.1), .int r4, .ref a20, .ref a21, .int (iI x16), .int r5, .ref a22, .int (iI x17), .int (iI x18), .int (iI x19), .int (iI x20)])), (a19, .inl (T 0, 64, .inl u.2))])) 0 0 (va_A [(a0, .inr (11, [.int r0, .ref a1, .int (iI x0), .int (iI x1), .int (iI x2), .int (iI x3), .int (iI x4), .int (iI x5), .int r1, .int (iI x6), .int (iI x7), .int (iI x8), .long y1, .int (iI x9), .ref a2, .ref a3, .ref a4, .ref a5, .ref a6, .ref a7, .ref a8, .ref a9, .ref a10, .ref a11, .int (iI x10), .ref a12, .ref a13, .ref a14, .ref a15, .int (iI x11), .int r2, .int r3, .ref a16, .int (iI x12), .int (iI x13), .ref a17, .ref a18, .int (iI x14), .ref a19, .int (iI x15), .int r4, .ref a20, .ref a21, .int (iI x16), .int r5, .ref a22, .int (iI x17), .int (iI x18), .int (iI x19), .int (iI x20)])), (a19, .inl (T 0, 64, .inl f0))] sz) := by
  refine e_V (by decide) (Nat.le_of_ble_eq_true rfl) ?_
  intro p e s m args below meth c A Q ls M hin w ret hl
  have hx := M.1.1
  have hb := M.1.2.1
  have hl : lv_has ls 3 [(0, .ref a0), (1, .long y0)] := hl
  refine lv_lload_n hx hb dX12_writeWord_0 rfl (lv_at hl 1 rfl) ?_
  refine lv_ldc2 (v := 27) hx hb M.1.2.2.2.1 (M.1.2.2.2.2 _ G1641) dX12_writeWord_1 ?_
  refine r_lcmp (v := lg_cmp y0 27) M rfl dX12_writeWord_4 ?_
  refine lv_if_lt (tgt := 17) hx hb dX12_writeWord_5 (by decide) (fun c_1 => ?_) (fun c_1 => ?_)
  · refine lv_aload_n hx hb dX12_writeWord_17 rfl (lv_at hl 0 rfl) ?_
    refine lv_bipush (v := iI 96) hx hb dX12_writeWord_18 (by decide +kernel) ?_
    refine lv_lload_n hx hb dX12_writeWord_20 rfl (lv_at hl 1 rfl) ?_
    refine lv_ldc2 (v := 27) hx hb M.1.2.2.2.1 (M.1.2.2.2.2 _ G1641) dX12_writeWord_21 ?_
    refine r_lrem (v := _) M rfl (by decide) dX12_writeWord_24 ?_
    refine b_anyl (fun fy2 => ?_)
    refine lv_l2i (v := _) hx hb dX12_writeWord_25 rfl ?_
    refine b_any (fun z3 z3_a z3_b => ?_)
    refine r_iadd (v := _) M rfl dX12_writeWord_26 ?_
    refine b_any (fun z4 z4_a z4_b => ?_)
    refine k_V (ce := 0) (sl := 0) (rest := []) (wr := []) (r_V (f := 0) [0, 1] M w V_HookedCityModel_345 G1940 G96 (c151_X12_write l D T _ a0 z4 r0 a1 x0 x1 x2 x3 x4 x5 r1 x6 x7 x8 y1 x9 a2 a3 a4 a5 a6 a7 a8 a9 a10 a11 x10 a12 a13 a14 a15 x11 r2 r3 a16 x12 x13 a17 a18 x14 a19 x15 r4 a20 a21 x16 r5 a22 x17 x18 x19 x20 f0 z4_a z4_b x0_a x0_b x1_a x1_b x2_a x2_b x3_a x3_b x4_a x4_b x5_a x5_b x6_a x6_b x7_a x7_b x8_a x8_b x9_a x9_b x10_a x10_b x11_a x11_b x12_a x12_b x13_a x13_b x14_a x14_b (by omega) (by omega) x16_a x16_b x17_a x17_b x18_a x18_b x19_a x19_b x20_a x20_b) 0 clX12 rfl rfl (by decide) rfl hl.1 rfl (Nat.le_of_ble_eq_true rfl) dX12_writeWord_27 (by decide) (by decide) (by decide) (by decide)) w [0, 1] [] rfl rfl (by decide) (by decide) rfl rfl (fun u H locs hp w => ?_)
    obtain ⟨z5, ff6⟩ := u
    have z5_a : 0 ≤ z5 := hp.1
    have z5_b : z5 ≤ 64 := hp.2.1
    have ee7 : 0 ≤ ((z5 - x15) - 1) := hp.2.2.1
    have ee8 : 0 ≤ ((x15 + 1) - z5) := hp.2.2.2
    have w : WD D A s.heap [(a0, .inr (11, [.int r0, .ref a1, .int (iI x0), .int (iI x1), .int (iI x2), .int (iI x3), .int (iI x4), .int (iI x5), .int r1, .int (iI x6), .int (iI x7), .int (iI x8), .long y1, .int (iI x9), .ref a2, .ref a3, .ref a4, .ref a5, .ref a6, .ref a7, .ref a8, .ref a9, .ref a10, .ref a11, .int (iI x10), .ref a12, .ref a13, .ref a14, .ref a15, .int (iI x11), .int r2, .int r3, .ref a16, .int (iI x12), .int (iI x13), .ref a17, .ref a18, .int (iI x14), .ref a19, .int (iI z5), .int r4, .ref a20, .ref a21, .int (iI x16), .int r5, .ref a22, .int (iI x17), .int (iI x18), .int (iI x19), .int (iI x20)])), (a19, .inl (T 0, 64, .inl ff6))] H locs := w
    exact ret (z5, ff6) _ _ _ _ _ [0, 1] dX12_writeWord_30 ⟨z5_a, z5_b, (show 0 ≤ ((x15 + 7) - z5) from by omega), (show 0 ≤ (z5 - x15) from by omega)⟩ w (by decide) rfl
  · refine lv_aload_n hx hb dX12_writeWord_8 rfl (lv_at hl 0 rfl) ?_
    refine lv_lload_n hx hb dX12_writeWord_9 rfl (lv_at hl 1 rfl) ?_
    refine lv_ldc2 (v := 27) hx hb M.1.2.2.2.1 (M.1.2.2.2.2 _ G1641) dX12_writeWord_10 ?_
    refine r_ldiv (v := y0 / 27) M rfl (by decide) dX12_writeWord_13 ?_
    refine k_V (ce := 0) (sl := 0) (rest := []) (wr := []) (r_V (f := 6) [0, 1] M w V_HookedCityModel_341 G1936 G95 (c157_X12_writeWord l D T _ a0 (y0 / 27) r0 a1 x0 x1 x2 x3 x4 x5 r1 x6 x7 x8 y1 x9 a2 a3 a4 a5 a6 a7 a8 a9 a10 a11 x10 a12 a13 a14 a15 x11 r2 r3 a16 x12 x13 a17 a18 x14 a19 x15 r4 a20 a21 x16 r5 a22 x17 x18 x19 x20 f0 x0_a x0_b x1_a x1_b x2_a x2_b x3_a x3_b x4_a x4_b x5_a x5_b x6_a x6_b x7_a x7_b x8_a x8_b x9_a x9_b x10_a x10_b x11_a x11_b x12_a x12_b x13_a x13_b x14_a x14_b x15_a x15_b x16_a x16_b x17_a x17_b x18_a x18_b x19_a x19_b x20_a x20_b (l27 c_1 (by omega)) (by omega)) 0 clX12 rfl rfl (by decide) rfl hl.1 rfl (Nat.le_of_ble_eq_true rfl) dX12_writeWord_14 (by decide) (by decide) (by decide) (by decide)) w [0, 1] [] rfl rfl (by decide) (by decide) rfl rfl (fun u H locs hp w => ?_)
    obtain ⟨z9, ff10⟩ := u
    have z9_a : 0 ≤ z9 := hp.1
    have z9_b : z9 ≤ 64 := hp.2.1
    have ee11 : 0 ≤ ((x15 + 6) - z9) := hp.2.2.1
    have ee12 : 0 ≤ (z9 - x15) := hp.2.2.2
    have w : WD D A s.heap [(a0, .inr (11, [.int r0, .ref a1, .int (iI x0), .int (iI x1), .int (iI x2), .int (iI x3), .int (iI x4), .int (iI x5), .int r1, .int (iI x6), .int (iI x7), .int (iI x8), .long y1, .int (iI x9), .ref a2, .ref a3, .ref a4, .ref a5, .ref a6, .ref a7, .ref a8, .ref a9, .ref a10, .ref a11, .int (iI x10), .ref a12, .ref a13, .ref a14, .ref a15, .int (iI x11), .int r2, .int r3, .ref a16, .int (iI x12), .int (iI x13), .ref a17, .ref a18, .int (iI x14), .ref a19, .int (iI z9), .int r4, .ref a20, .ref a21, .int (iI x16), .int r5, .ref a22, .int (iI x17), .int (iI x18), .int (iI x19), .int (iI x20)])), (a19, .inl (T 0, 64, .inl ff10))] H locs := w
    refine lv_aload_n hx hb dX12_writeWord_17 rfl (lv_at hl 0 rfl) ?_
    refine lv_bipush (v := iI 96) hx hb dX12_writeWord_18 (by decide +kernel) ?_
    refine lv_lload_n hx hb dX12_writeWord_20 rfl (lv_at hl 1 rfl) ?_
    refine lv_ldc2 (v := 27) hx hb M.1.2.2.2.1 (M.1.2.2.2.2 _ G1641) dX12_writeWord_21 ?_
    refine r_lrem (v := _) M rfl (by decide) dX12_writeWord_24 ?_
    refine b_anyl (fun fy13 => ?_)
    refine lv_l2i (v := _) hx hb dX12_writeWord_25 rfl ?_
    refine b_any (fun z14 z14_a z14_b => ?_)
    refine r_iadd (v := _) M rfl dX12_writeWord_26 ?_
    refine b_any (fun z15 z15_a z15_b => ?_)
    refine k_V (ce := 0) (sl := 0) (rest := []) (wr := []) (r_V (f := 0) [0, 1] M w V_HookedCityModel_345 G1940 G96 (c151_X12_write l D T _ a0 z15 r0 a1 x0 x1 x2 x3 x4 x5 r1 x6 x7 x8 y1 x9 a2 a3 a4 a5 a6 a7 a8 a9 a10 a11 x10 a12 a13 a14 a15 x11 r2 r3 a16 x12 x13 a17 a18 x14 a19 z9 r4 a20 a21 x16 r5 a22 x17 x18 x19 x20 ff10 z15_a z15_b x0_a x0_b x1_a x1_b x2_a x2_b x3_a x3_b x4_a x4_b x5_a x5_b x6_a x6_b x7_a x7_b x8_a x8_b x9_a x9_b x10_a x10_b x11_a x11_b x12_a x12_b x13_a x13_b x14_a x14_b (by omega) (by omega) x16_a x16_b x17_a x17_b x18_a x18_b x19_a x19_b x20_a x20_b) 0 clX12 rfl rfl (by decide) rfl hl.1 rfl (Nat.le_of_ble_eq_true rfl) dX12_writeWord_27 (by decide) (by decide) (by decide) (by decide)) w [0, 1] [] rfl rfl (by decide) (by decide) rfl rfl (fun u H locs hp w => ?_)
    obtain ⟨z16, ff17⟩ := u
    have z16_a : 0 ≤ z16 := hp.1
    have z16_b : z16 ≤ 64 := hp.2.1
    have ee18 : 0 ≤ ((z16 - z9) - 1) := hp.2.2.1
    have ee19 : 0 ≤ ((z9 + 1) - z16) := hp.2.2.2
    have w : WD D A s.heap [(a0, .inr (11, [.int r0, .ref a1, .int (iI x0), .int (iI x1), .int (iI x2), .int (iI x3), .int (iI x4), .int (iI x5), .int r1, .int (iI x6), .int (iI x7), .int (iI x8), .long y1, .int (iI x9), .ref a2, .ref a3, .ref a4, .ref a5, .ref a6, .ref a7, .ref a8, .ref a9, .ref a10, .ref a11, .int (iI x10), .ref a12, .ref a13, .ref a14, .ref a15, .int (iI x11), .int r2, .int r3, .ref a16, .int (iI x12), .int (iI x13), .ref a17, .ref a18, .int (iI x14), .ref a19, .int (iI z16), .int r4, .ref a20, .ref a21, .int (iI x16), .int r5, .ref a22, .int (iI x17), .int (iI x18), .int (iI x19), .int (iI x20)])), (a19, .inl (T 0, 64, .inl ff17))] H locs := w
    exact ret (z16, ff17) _ _ _ _ _ [0, 1] dX12_writeWord_30 ⟨z16_a, z16_b, (show 0 ≤ ((x15 + 7) - z16) from by omega), (show 0 ≤ (z16 - x15) from by omega)⟩ w (by decide) rfl
set_option maxRecDepth 100000 in
set_option maxHeartbeats 4000000 in
theorem c159_X12_writeWord (l : Launch) (D : va_G) (T : Nat → ClassId) (sz : Nat) (a0 : Nat) (y0 : Int64) (r0 : Int32) (a1 : Nat) (x0 : Int) (x1 : Int) (x2 : Int) (x3 : Int) (x4 : Int) (x5 : Int) (r1 : Int32) (x6 : Int) (x7 : Int) (x8 : Int) (y1 : Int64) (x9 : Int) (a2 : Nat) (a3 : Nat) (a4 : Nat) (a5 : Nat) (a6 : Nat) (a7 : Nat) (a8 : Nat) (a9 : Nat) (a10 : Nat) (a11 : Nat) (x10 : Int) (a12 : Nat) (a13 : Nat) (a14 : Nat) (a15 : Nat) (x11 : Int) (r2 : Int32) (r3 : Int32) (a16 : Nat) (x12 : Int) (x13 : Int) (a17 : Nat) (a18 : Nat) (x14 : Int) (a19 : Nat) (x15 : Int) (r4 : Int32) (a20 : Nat) (a21 : Nat) (x16 : Int) (r5 : Int32) (a22 : Nat) (x17 : Int) (x18 : Int) (x19 : Int) (x20 : Int) (f0 : Nat → Int32) (x0_a : 0 ≤ x0) (x0_b : x0 ≤ 940) (x1_a : 0 ≤ x1) (x1_b : x1 ≤ 940) (x2_a : 0 ≤ x2) (x2_b : x2 ≤ 940) (x3_a : 0 ≤ x3) (x3_b : x3 ≤ 940) (x4_a : 0 ≤ x4) (x4_b : x4 ≤ 940) (x5_a : 0 ≤ x5) (x5_b : x5 ≤ 4) (x6_a : (-2147483648) ≤ x6) (x6_b : x6 ≤ 2147483647) (x7_a : (-2147483648) ≤ x7) (x7_b : x7 ≤ 2147483647) (x8_a : 0 ≤ x8) (x8_b : x8 ≤ 940) (x9_a : (-2147483648) ≤ x9) (x9_b : x9 ≤ 2147483647) (x10_a : 0 ≤ x10) (x10_b : x10 ≤ 8) (x11_a : 0 ≤ x11) (x11_b : x11 ≤ 9) (x12_a : (-1) ≤ x12) (x12_b : x12 ≤ 9) (x13_a : (-1) ≤ x13) (x13_b : x13 ≤ 8) (x14_a : 0 ≤ x14) (x14_b : x14 ≤ 9) (x15_a : 0 ≤ x15) (x15_b : x15 ≤ 64) (x16_a : 0 ≤ x16) (x16_b : x16 ≤ 40) (x17_a : 0 ≤ x17) (x17_b : x17 ≤ 40) (x18_a : 0 ≤ x18) (x18_b : x18 ≤ 20) (x19_a : 0 ≤ x19) (x19_b : x19 ≤ 8) (x20_a : 0 ≤ x20) (x20_b : x20 ≤ 39) (pp_w : (y0).toInt < 282429536481) (pr_0 : 0 ≤ (56 - x15)) : Met l yX12_writeWord (Cond.code yX12_writeWord cX12_writeWord 3 none :: GW) (Rm 8 0 0) (cPre [.ref a0, .long y0] D T [(a0, .inr (11, [.int r0, .ref a1, .int (iI x0), .int (iI x1), .int (iI x2), .int (iI x3), .int (iI x4), .int (iI x5), .int r1, .int (iI x6), .int (iI x7), .int (iI x8), .long y1, .int (iI x9), .ref a2, .ref a3, .ref a4, .ref a5, .ref a6, .ref a7, .ref a8, .ref a9, .ref a10, .ref a11, .int (iI x10), .ref a12, .ref a13, .ref a14, .ref a15, .int (iI x11), .int r2, .int r3, .ref a16, .int (iI x12), .int (iI x13), .ref a17, .ref a18, .int (iI x14), .ref a19, .int (iI x15), .int r4, .ref a20, .ref a21, .int (iI x16), .int r5, .ref a22, .int (iI x17), .int (iI x18), .int (iI x19), .int (iI x20)])), (a19, .inl (T 0, 64, .inl f0))] sz) (qV D [(a0, .inr (11, [.int r0, .ref a1, .int (iI x0), .int (iI x1), .int (iI x2), .int (iI x3), .int (iI x4), .int (iI x5), .int r1, .int (iI x6), .int (iI x7), .int (iI x8), .long y1, .int (iI x9), .ref a2, .ref a3, .ref a4, .ref a5, .ref a6, .ref a7, .ref a8, .ref a9, .ref a10, .ref a11, .int (iI x10), .ref a12, .ref a13, .ref a14, .ref a15, .int (iI x11), .int r2, .int r3, .ref a16, .int (iI x12), .int (iI x13), .ref a17, .ref a18, .int (iI x14), .ref a19, .int (iI x15), .int r4, .ref a20, .ref a21, .int (iI x16), .int r5, .ref a22, .int (iI x17), .int (iI x18), .int (iI x19), .int (iI x20)])), (a19, .inl (T 0, 64, .inl f0))] sz (fun (u : Int × (Nat → Int32)) => 0 ≤ u.1 ∧ u.1 ≤ 64 ∧ 0 ≤ ((x15 + 8) - u.1) ∧ 0 ≤ (u.1 - x15)) (fun u => [(a0, .inr (11, [.int r0, .ref a1, .int (iI x0), .int (iI x1), .int (iI x2), .int (iI x3), .int (iI x4), .int (iI x5), .int r1, .int (iI x6), .int (iI x7), .int (iI x8), .long y1, .int (iI x9), .ref a2, .ref a3, .ref a4, .ref a5, .ref a6, .ref a7, .ref a8, .ref a9, .ref a10, .ref a11, .int (iI x10), .ref a12, .ref a13, .ref a14, .ref a15, .int (iI x11), .int r2, .int r3, .ref a16, .int (iI x12), .int (iI x13), .ref a17, .ref a18, .int (iI x14), .ref a19, .int (iI u.1), .int r4, .ref a20, .ref a21, .int (iI x16), .int r5, .ref a22, .int (iI x17), .int (iI x18), .int (iI x19), .int (iI x20)])), (a19, .inl (T 0, 64, .inl u.2))])) 0 0 (va_A [(a0, .inr (11, [.int r0, .ref a1, .int (iI x0), .int (iI x1), .int (iI x2), .int (iI x3), .int (iI x4), .int (iI x5), .int r1, .int (iI x6), .int (iI x7), .int (iI x8), .long y1, .int (iI x9), .ref a2, .ref a3, .ref a4, .ref a5, .ref a6, .ref a7, .ref a8, .ref a9, .ref a10, .ref a11, .int (iI x10), .ref a12, .ref a13, .ref a14, .ref a15, .int (iI x11), .int r2, .int r3, .ref a16, .int (iI x12), .int (iI x13), .ref a17, .ref a18, .int (iI x14), .ref a19, .int (iI x15), .int r4, .ref a20, .ref a21, .int (iI x16), .int r5, .ref a22, .int (iI x17), .int (iI x18), .int (iI x19), .int (iI x20)])), (a19, .inl (T 0, 64, .inl f0))] sz) := by
  refine e_V (by decide) (Nat.le_of_ble_eq_true rfl) ?_
  intro p e s m args below meth c A Q ls M hin w ret hl
  have hx := M.1.1
  have hb := M.1.2.1
  have hl : lv_has ls 3 [(0, .ref a0), (1, .long y0)] := hl
  refine lv_lload_n hx hb dX12_writeWord_0 rfl (lv_at hl 1 rfl) ?_
  refine lv_ldc2 (v := 27) hx hb M.1.2.2.2.1 (M.1.2.2.2.2 _ G1641) dX12_writeWord_1 ?_
  refine r_lcmp (v := lg_cmp y0 27) M rfl dX12_writeWord_4 ?_
  refine lv_if_lt (tgt := 17) hx hb dX12_writeWord_5 (by decide) (fun c_1 => ?_) (fun c_1 => ?_)
  · refine lv_aload_n hx hb dX12_writeWord_17 rfl (lv_at hl 0 rfl) ?_
    refine lv_bipush (v := iI 96) hx hb dX12_writeWord_18 (by decide +kernel) ?_
    refine lv_lload_n hx hb dX12_writeWord_20 rfl (lv_at hl 1 rfl) ?_
    refine lv_ldc2 (v := 27) hx hb M.1.2.2.2.1 (M.1.2.2.2.2 _ G1641) dX12_writeWord_21 ?_
    refine r_lrem (v := _) M rfl (by decide) dX12_writeWord_24 ?_
    refine b_anyl (fun fy2 => ?_)
    refine lv_l2i (v := _) hx hb dX12_writeWord_25 rfl ?_
    refine b_any (fun z3 z3_a z3_b => ?_)
    refine r_iadd (v := _) M rfl dX12_writeWord_26 ?_
    refine b_any (fun z4 z4_a z4_b => ?_)
    refine k_V (ce := 0) (sl := 0) (rest := []) (wr := []) (r_V (f := 0) [0, 1] M w V_HookedCityModel_345 G1940 G96 (c151_X12_write l D T _ a0 z4 r0 a1 x0 x1 x2 x3 x4 x5 r1 x6 x7 x8 y1 x9 a2 a3 a4 a5 a6 a7 a8 a9 a10 a11 x10 a12 a13 a14 a15 x11 r2 r3 a16 x12 x13 a17 a18 x14 a19 x15 r4 a20 a21 x16 r5 a22 x17 x18 x19 x20 f0 z4_a z4_b x0_a x0_b x1_a x1_b x2_a x2_b x3_a x3_b x4_a x4_b x5_a x5_b x6_a x6_b x7_a x7_b x8_a x8_b x9_a x9_b x10_a x10_b x11_a x11_b x12_a x12_b x13_a x13_b x14_a x14_b (by omega) (by omega) x16_a x16_b x17_a x17_b x18_a x18_b x19_a x19_b x20_a x20_b) 0 clX12 rfl rfl (by decide) rfl hl.1 rfl (Nat.le_of_ble_eq_true rfl) dX12_writeWord_27 (by decide) (by decide) (by decide) (by decide)) w [0, 1] [] rfl rfl (by decide) (by decide) rfl rfl (fun u H locs hp w => ?_)
    obtain ⟨z5, ff6⟩ := u
    have z5_a : 0 ≤ z5 := hp.1
    have z5_b : z5 ≤ 64 := hp.2.1
    have ee7 : 0 ≤ ((z5 - x15) - 1) := hp.2.2.1
    have ee8 : 0 ≤ ((x15 + 1) - z5) := hp.2.2.2
    have w : WD D A s.heap [(a0, .inr (11, [.int r0, .ref a1, .int (iI x0), .int (iI x1), .int (iI x2), .int (iI x3), .int (iI x4), .int (iI x5), .int r1, .int (iI x6), .int (iI x7), .int (iI x8), .long y1, .int (iI x9), .ref a2, .ref a3, .ref a4, .ref a5, .ref a6, .ref a7, .ref a8, .ref a9, .ref a10, .ref a11, .int (iI x10), .ref a12, .ref a13, .ref a14, .ref a15, .int (iI x11), .int r2, .int r3, .ref a16, .int (iI x12), .int (iI x13), .ref a17, .ref a18, .int (iI x14), .ref a19, .int (iI z5), .int r4, .ref a20, .ref a21, .int (iI x16), .int r5, .ref a22, .int (iI x17), .int (iI x18), .int (iI x19), .int (iI x20)])), (a19, .inl (T 0, 64, .inl ff6))] H locs := w
    exact ret (z5, ff6) _ _ _ _ _ [0, 1] dX12_writeWord_30 ⟨z5_a, z5_b, (show 0 ≤ ((x15 + 8) - z5) from by omega), (show 0 ≤ (z5 - x15) from by omega)⟩ w (by decide) rfl
  · refine lv_aload_n hx hb dX12_writeWord_8 rfl (lv_at hl 0 rfl) ?_
    refine lv_lload_n hx hb dX12_writeWord_9 rfl (lv_at hl 1 rfl) ?_
    refine lv_ldc2 (v := 27) hx hb M.1.2.2.2.1 (M.1.2.2.2.2 _ G1641) dX12_writeWord_10 ?_
    refine r_ldiv (v := y0 / 27) M rfl (by decide) dX12_writeWord_13 ?_
    refine k_V (ce := 0) (sl := 0) (rest := []) (wr := []) (r_V (f := 7) [0, 1] M w V_HookedCityModel_341 G1936 G95 (c158_X12_writeWord l D T _ a0 (y0 / 27) r0 a1 x0 x1 x2 x3 x4 x5 r1 x6 x7 x8 y1 x9 a2 a3 a4 a5 a6 a7 a8 a9 a10 a11 x10 a12 a13 a14 a15 x11 r2 r3 a16 x12 x13 a17 a18 x14 a19 x15 r4 a20 a21 x16 r5 a22 x17 x18 x19 x20 f0 x0_a x0_b x1_a x1_b x2_a x2_b x3_a x3_b x4_a x4_b x5_a x5_b x6_a x6_b x7_a x7_b x8_a x8_b x9_a x9_b x10_a x10_b x11_a x11_b x12_a x12_b x13_a x13_b x14_a x14_b x15_a x15_b x16_a x16_b x17_a x17_b x18_a x18_b x19_a x19_b x20_a x20_b (l27 c_1 (by omega)) (by omega)) 0 clX12 rfl rfl (by decide) rfl hl.1 rfl (Nat.le_of_ble_eq_true rfl) dX12_writeWord_14 (by decide) (by decide) (by decide) (by decide)) w [0, 1] [] rfl rfl (by decide) (by decide) rfl rfl (fun u H locs hp w => ?_)
    obtain ⟨z9, ff10⟩ := u
    have z9_a : 0 ≤ z9 := hp.1
    have z9_b : z9 ≤ 64 := hp.2.1
    have ee11 : 0 ≤ ((x15 + 7) - z9) := hp.2.2.1
    have ee12 : 0 ≤ (z9 - x15) := hp.2.2.2
    have w : WD D A s.heap [(a0, .inr (11, [.int r0, .ref a1, .int (iI x0), .int (iI x1), .int (iI x2), .int (iI x3), .int (iI x4), .int (iI x5), .int r1, .int (iI x6), .int (iI x7), .int (iI x8), .long y1, .int (iI x9), .ref a2, .ref a3, .ref a4, .ref a5, .ref a6, .ref a7, .ref a8, .ref a9, .ref a10, .ref a11, .int (iI x10), .ref a12, .ref a13, .ref a14, .ref a15, .int (iI x11), .int r2, .int r3, .ref a16, .int (iI x12), .int (iI x13), .ref a17, .ref a18, .int (iI x14), .ref a19, .int (iI z9), .int r4, .ref a20, .ref a21, .int (iI x16), .int r5, .ref a22, .int (iI x17), .int (iI x18), .int (iI x19), .int (iI x20)])), (a19, .inl (T 0, 64, .inl ff10))] H locs := w
    refine lv_aload_n hx hb dX12_writeWord_17 rfl (lv_at hl 0 rfl) ?_
    refine lv_bipush (v := iI 96) hx hb dX12_writeWord_18 (by decide +kernel) ?_
    refine lv_lload_n hx hb dX12_writeWord_20 rfl (lv_at hl 1 rfl) ?_
    refine lv_ldc2 (v := 27) hx hb M.1.2.2.2.1 (M.1.2.2.2.2 _ G1641) dX12_writeWord_21 ?_
    refine r_lrem (v := _) M rfl (by decide) dX12_writeWord_24 ?_
    refine b_anyl (fun fy13 => ?_)
    refine lv_l2i (v := _) hx hb dX12_writeWord_25 rfl ?_
    refine b_any (fun z14 z14_a z14_b => ?_)
    refine r_iadd (v := _) M rfl dX12_writeWord_26 ?_
    refine b_any (fun z15 z15_a z15_b => ?_)
    refine k_V (ce := 0) (sl := 0) (rest := []) (wr := []) (r_V (f := 0) [0, 1] M w V_HookedCityModel_345 G1940 G96 (c151_X12_write l D T _ a0 z15 r0 a1 x0 x1 x2 x3 x4 x5 r1 x6 x7 x8 y1 x9 a2 a3 a4 a5 a6 a7 a8 a9 a10 a11 x10 a12 a13 a14 a15 x11 r2 r3 a16 x12 x13 a17 a18 x14 a19 z9 r4 a20 a21 x16 r5 a22 x17 x18 x19 x20 ff10 z15_a z15_b x0_a x0_b x1_a x1_b x2_a x2_b x3_a x3_b x4_a x4_b x5_a x5_b x6_a x6_b x7_a x7_b x8_a x8_b x9_a x9_b x10_a x10_b x11_a x11_b x12_a x12_b x13_a x13_b x14_a x14_b (by omega) (by omega) x16_a x16_b x17_a x17_b x18_a x18_b x19_a x19_b x20_a x20_b) 0 clX12 rfl rfl (by decide) rfl hl.1 rfl (Nat.le_of_ble_eq_true rfl) dX12_writeWord_27 (by decide) (by decide) (by decide) (by decide)) w [0, 1] [] rfl rfl (by decide) (by decide) rfl rfl (fun u H locs hp w => ?_)
    obtain ⟨z16, ff17⟩ := u
    have z16_a : 0 ≤ z16 := hp.1
    have z16_b : z16 ≤ 64 := hp.2.1
    have ee18 : 0 ≤ ((z16 - z9) - 1) := hp.2.2.1
    have ee19 : 0 ≤ ((z9 + 1) - z16) := hp.2.2.2
    have w : WD D A s.heap [(a0, .inr (11, [.int r0, .ref a1, .int (iI x0), .int (iI x1), .int (iI x2), .int (iI x3), .int (iI x4), .int (iI x5), .int r1, .int (iI x6), .int (iI x7), .int (iI x8), .long y1, .int (iI x9), .ref a2, .ref a3, .ref a4, .ref a5, .ref a6, .ref a7, .ref a8, .ref a9, .ref a10, .ref a11, .int (iI x10), .ref a12, .ref a13, .ref a14, .ref a15, .int (iI x11), .int r2, .int r3, .ref a16, .int (iI x12), .int (iI x13), .ref a17, .ref a18, .int (iI x14), .ref a19, .int (iI z16), .int r4, .ref a20, .ref a21, .int (iI x16), .int r5, .ref a22, .int (iI x17), .int (iI x18), .int (iI x19), .int (iI x20)])), (a19, .inl (T 0, 64, .inl ff17))] H locs := w
    exact ret (z16, ff17) _ _ _ _ _ [0, 1] dX12_writeWord_30 ⟨z16_a, z16_b, (show 0 ≤ ((x15 + 8) - z16) from by omega), (show 0 ≤ (z16 - x15) from by omega)⟩ w (by decide) rfl
set_option maxRecDepth 100000 in
set_option maxHeartbeats 4000000 in
theorem c160_X12_writeWord (l : Launch) (D : va_G) (T : Nat → ClassId) (sz : Nat) (a0 : Nat) (y0 : Int64) (r0 : Int32) (a1 : Nat) (x0 : Int) (x1 : Int) (x2 : Int) (x3 : Int) (x4 : Int) (x5 : Int) (r1 : Int32) (x6 : Int) (x7 : Int) (x8 : Int) (y1 : Int64) (x9 : Int) (a2 : Nat) (a3 : Nat) (a4 : Nat) (a5 : Nat) (a6 : Nat) (a7 : Nat) (a8 : Nat) (a9 : Nat) (a10 : Nat) (a11 : Nat) (x10 : Int) (a12 : Nat) (a13 : Nat) (a14 : Nat) (a15 : Nat) (x11 : Int) (r2 : Int32) (r3 : Int32) (a16 : Nat) (x12 : Int) (x13 : Int) (a17 : Nat) (a18 : Nat) (x14 : Int) (a19 : Nat) (x15 : Int) (r4 : Int32) (a20 : Nat) (a21 : Nat) (x16 : Int) (r5 : Int32) (a22 : Nat) (x17 : Int) (x18 : Int) (x19 : Int) (x20 : Int) (f0 : Nat → Int32) (x0_a : 0 ≤ x0) (x0_b : x0 ≤ 940) (x1_a : 0 ≤ x1) (x1_b : x1 ≤ 940) (x2_a : 0 ≤ x2) (x2_b : x2 ≤ 940) (x3_a : 0 ≤ x3) (x3_b : x3 ≤ 940) (x4_a : 0 ≤ x4) (x4_b : x4 ≤ 940) (x5_a : 0 ≤ x5) (x5_b : x5 ≤ 4) (x6_a : (-2147483648) ≤ x6) (x6_b : x6 ≤ 2147483647) (x7_a : (-2147483648) ≤ x7) (x7_b : x7 ≤ 2147483647) (x8_a : 0 ≤ x8) (x8_b : x8 ≤ 940) (x9_a : (-2147483648) ≤ x9) (x9_b : x9 ≤ 2147483647) (x10_a : 0 ≤ x10) (x10_b : x10 ≤ 8) (x11_a : 0 ≤ x11) (x11_b : x11 ≤ 9) (x12_a : (-1) ≤ x12) (x12_b : x12 ≤ 9) (x13_a : (-1) ≤ x13) (x13_b : x13 ≤ 8) (x14_a : 0 ≤ x14) (x14_b : x14 ≤ 9) (x15_a : 0 ≤ x15) (x15_b : x15 ≤ 64) (x16_a : 0 ≤ x16) (x16_b : x16 ≤ 40) (x17_a : 0 ≤ x17) (x17_b : x17 ≤ 40) (x18_a : 0 ≤ x18) (x18_b : x18 ≤ 20) (x19_a : 0 ≤ x19) (x19_b : x19 ≤ 8) (x20_a : 0 ≤ x20) (x20_b : x20 ≤ 39) (pp_w : (y0).toInt < 7625597484987) (pr_0 : 0 ≤ (55 - x15)) : Met l yX12_writeWord (Cond.code yX12_writeWord cX12_writeWord 3 none :: GW) (Rm 9 0 0) (cPre [.ref a0, .long y0] D T [(a0, .inr (11, [.int r0, .ref a1, .int (iI x0), .int (iI x1), .int (iI x2), .int (iI x3), .int (iI x4), .int (iI x5), .int r1, .int (iI x6), .int (iI x7), .int (iI x8), .long y1, .int (iI x9), .ref a2, .ref a3, .ref a4, .ref a5, .ref a6, .ref a7, .ref a8, .ref a9, .ref a10, .ref a11, .int (iI x10), .ref a12, .ref a13, .ref a14, .ref a15, .int (iI x11), .int r2, .int r3, .ref a16, .int (iI x12), .int (iI x13), .ref a17, .ref a18, .int (iI x14), .ref a19, .int (iI x15), .int r4, .ref a20, .ref a21, .int (iI x16), .int r5, .ref a22, .int (iI x17), .int (iI x18), .int (iI x19), .int (iI x20)])), (a19, .inl (T 0, 64, .inl f0))] sz) (qV D [(a0, .inr (11, [.int r0, .ref a1, .int (iI x0), .int (iI x1), .int (iI x2), .int (iI x3), .int (iI x4), .int (iI x5), .int r1, .int (iI x6), .int (iI x7), .int (iI x8), .long y1, .int (iI x9), .ref a2, .ref a3, .ref a4, .ref a5, .ref a6, .ref a7, .ref a8, .ref a9, .ref a10, .ref a11, .int (iI x10), .ref a12, .ref a13, .ref a14, .ref a15, .int (iI x11), .int r2, .int r3, .ref a16, .int (iI x12), .int (iI x13), .ref a17, .ref a18, .int (iI x14), .ref a19, .int (iI x15), .int r4, .ref a20, .ref a21, .int (iI x16), .int r5, .ref a22, .int (iI x17), .int (iI x18), .int (iI x19), .int (iI x20)])), (a19, .inl (T 0, 64, .inl f0))] sz (fun (u : Int × (Nat → Int32)) => 0 ≤ u.1 ∧ u.1 ≤ 64 ∧ 0 ≤ ((x15 + 9) - u.1) ∧ 0 ≤ (u.1 - x15)) (fun u => [(a0, .inr (11, [.int r0, .ref a1, .int (iI x0), .int (iI x1), .int (iI x2), .int (iI x3), .int (iI x4), .int (iI x5), .int r1, .int (iI x6), .int (iI x7), .int (iI x8), .long y1, .int (iI x9), .ref a2, .ref a3, .ref a4, .ref a5, .ref a6, .ref a7, .ref a8, .ref a9, .ref a10, .ref a11, .int (iI x10), .ref a12, .ref a13, .ref a14, .ref a15, .int (iI x11), .int r2, .int r3, .ref a16, .int (iI x12), .int (iI x13), .ref a17, .ref a18, .int (iI x14), .ref a19, .int (iI u.1), .int r4, .ref a20, .ref a21, .int (iI x16), .int r5, .ref a22, .int (iI x17), .int (iI x18), .int (iI x19), .int (iI x20)])), (a19, .inl (T 0, 64, .inl u.2))])) 0 0 (va_A [(a0, .inr (11, [.int r0, .ref a1, .int (iI x0), .int (iI x1), .int (iI x2), .int (iI x3), .int (iI x4), .int (iI x5), .int r1, .int (iI x6), .int (iI x7), .int (iI x8), .long y1, .int (iI x9), .ref a2, .ref a3, .ref a4, .ref a5, .ref a6, .ref a7, .ref a8, .ref a9, .ref a10, .ref a11, .int (iI x10), .ref a12, .ref a13, .ref a14, .ref a15, .int (iI x11), .int r2, .int r3, .ref a16, .int (iI x12), .int (iI x13), .ref a17, .ref a18, .int (iI x14), .ref a19, .int (iI x15), .int r4, .ref a20, .ref a21, .int (iI x16), .int r5, .ref a22, .int (iI x17), .int (iI x18), .int (iI x19), .int (iI x20)])), (a19, .inl (T 0, 64, .inl f0))] sz) := by
  refine e_V (by decide) (Nat.le_of_ble_eq_true rfl) ?_
  intro p e s m args below meth c A Q ls M hin w ret hl
  have hx := M.1.1
  have hb := M.1.2.1
  have hl : lv_has ls 3 [(0, .ref a0), (1, .long y0)] := hl
  refine lv_lload_n hx hb dX12_writeWord_0 rfl (lv_at hl 1 rfl) ?_
  refine lv_ldc2 (v := 27) hx hb M.1.2.2.2.1 (M.1.2.2.2.2 _ G1641) dX12_writeWord_1 ?_
  refine r_lcmp (v := lg_cmp y0 27) M rfl dX12_writeWord_4 ?_
  refine lv_if_lt (tgt := 17) hx hb dX12_writeWord_5 (by decide) (fun c_1 => ?_) (fun c_1 => ?_)
  · refine lv_aload_n hx hb dX12_writeWord_17 rfl (lv_at hl 0 rfl) ?_
    refine lv_bipush (v := iI 96) hx hb dX12_writeWord_18 (by decide +kernel) ?_
    refine lv_lload_n hx hb dX12_writeWord_20 rfl (lv_at hl 1 rfl) ?_
    refine lv_ldc2 (v := 27) hx hb M.1.2.2.2.1 (M.1.2.2.2.2 _ G1641) dX12_writeWord_21 ?_
    refine r_lrem (v := _) M rfl (by decide) dX12_writeWord_24 ?_
    refine b_anyl (fun fy2 => ?_)
    refine lv_l2i (v := _) hx hb dX12_writeWord_25 rfl ?_
    refine b_any (fun z3 z3_a z3_b => ?_)
    refine r_iadd (v := _) M rfl dX12_writeWord_26 ?_
    refine b_any (fun z4 z4_a z4_b => ?_)
    refine k_V (ce := 0) (sl := 0) (rest := []) (wr := []) (r_V (f := 0) [0, 1] M w V_HookedCityModel_345 G1940 G96 (c151_X12_write l D T _ a0 z4 r0 a1 x0 x1 x2 x3 x4 x5 r1 x6 x7 x8 y1 x9 a2 a3 a4 a5 a6 a7 a8 a9 a10 a11 x10 a12 a13 a14 a15 x11 r2 r3 a16 x12 x13 a17 a18 x14 a19 x15 r4 a20 a21 x16 r5 a22 x17 x18 x19 x20 f0 z4_a z4_b x0_a x0_b x1_a x1_b x2_a x2_b x3_a x3_b x4_a x4_b x5_a x5_b x6_a x6_b x7_a x7_b x8_a x8_b x9_a x9_b x10_a x10_b x11_a x11_b x12_a x12_b x13_a x13_b x14_a x14_b (by omega) (by omega) x16_a x16_b x17_a x17_b x18_a x18_b x19_a x19_b x20_a x20_b) 0 clX12 rfl rfl (by decide) rfl hl.1 rfl (Nat.le_of_ble_eq_true rfl) dX12_writeWord_27 (by decide) (by decide) (by decide) (by decide)) w [0, 1] [] rfl rfl (by decide) (by decide) rfl rfl (fun u H locs hp w => ?_)
    obtain ⟨z5, ff6⟩ := u
    have z5_a : 0 ≤ z5 := hp.1
    have z5_b : z5 ≤ 64 := hp.2.1
    have ee7 : 0 ≤ ((z5 - x15) - 1) := hp.2.2.1
    have ee8 : 0 ≤ ((x15 + 1) - z5) := hp.2.2.2
    have w : WD D A s.heap [(a0, .inr (11, [.int r0, .ref a1, .int (iI x0), .int (iI x1), .int (iI x2), .int (iI x3), .int (iI x4), .int (iI x5), .int r1, .int (iI x6), .int (iI x7), .int (iI x8), .long y1, .int (iI x9), .ref a2, .ref a3, .ref a4, .ref a5, .ref a6, .ref a7, .ref a8, .ref a9, .ref a10, .ref a11, .int (iI x10), .ref a12, .ref a13, .ref a14, .ref a15, .int (iI x11), .int r2, .int r3, .ref a16, .int (iI x12), .int (iI x13), .ref a17, .ref a18, .int (iI x14), .ref a19, .int (iI z5), .int r4, .ref a20, .ref a21, .int (iI x16), .int r5, .ref a22, .int (iI x17), .int (iI x18), .int (iI x19), .int (iI x20)])), (a19, .inl (T 0, 64, .inl ff6))] H locs := w
    exact ret (z5, ff6) _ _ _ _ _ [0, 1] dX12_writeWord_30 ⟨z5_a, z5_b, (show 0 ≤ ((x15 + 9) - z5) from by omega), (show 0 ≤ (z5 - x15) from by omega)⟩ w (by decide) rfl
  · refine lv_aload_n hx hb dX12_writeWord_8 rfl (lv_at hl 0 rfl) ?_
    refine lv_lload_n hx hb dX12_writeWord_9 rfl (lv_at hl 1 rfl) ?_
    refine lv_ldc2 (v := 27) hx hb M.1.2.2.2.1 (M.1.2.2.2.2 _ G1641) dX12_writeWord_10 ?_
    refine r_ldiv (v := y0 / 27) M rfl (by decide) dX12_writeWord_13 ?_
    refine k_V (ce := 0) (sl := 0) (rest := []) (wr := []) (r_V (f := 8) [0, 1] M w V_HookedCityModel_341 G1936 G95 (c159_X12_writeWord l D T _ a0 (y0 / 27) r0 a1 x0 x1 x2 x3 x4 x5 r1 x6 x7 x8 y1 x9 a2 a3 a4 a5 a6 a7 a8 a9 a10 a11 x10 a12 a13 a14 a15 x11 r2 r3 a16 x12 x13 a17 a18 x14 a19 x15 r4 a20 a21 x16 r5 a22 x17 x18 x19 x20 f0 x0_a x0_b x1_a x1_b x2_a x2_b x3_a x3_b x4_a x4_b x5_a x5_b x6_a x6_b x7_a x7_b x8_a x8_b x9_a x9_b x10_a x10_b x11_a x11_b x12_a x12_b x13_a x13_b x14_a x14_b x15_a x15_b x16_a x16_b x17_a x17_b x18_a x18_b x19_a x19_b x20_a x20_b (l27 c_1 (by omega)) (by omega)) 0 clX12 rfl rfl (by decide) rfl hl.1 rfl (Nat.le_of_ble_eq_true rfl) dX12_writeWord_14 (by decide) (by decide) (by decide) (by decide)) w [0, 1] [] rfl rfl (by decide) (by decide) rfl rfl (fun u H locs hp w => ?_)
    obtain ⟨z9, ff10⟩ := u
    have z9_a : 0 ≤ z9 := hp.1
    have z9_b : z9 ≤ 64 := hp.2.1
    have ee11 : 0 ≤ ((x15 + 8) - z9) := hp.2.2.1
    have ee12 : 0 ≤ (z9 - x15) := hp.2.2.2
    have w : WD D A s.heap [(a0, .inr (11, [.int r0, .ref a1, .int (iI x0), .int (iI x1), .int (iI x2), .int (iI x3), .int (iI x4), .int (iI x5), .int r1, .int (iI x6), .int (iI x7), .int (iI x8), .long y1, .int (iI x9), .ref a2, .ref a3, .ref a4, .ref a5, .ref a6, .ref a7, .ref a8, .ref a9, .ref a10, .ref a11, .int (iI x10), .ref a12, .ref a13, .ref a14, .ref a15, .int (iI x11), .int r2, .int r3, .ref a16, .int (iI x12), .int (iI x13), .ref a17, .ref a18, .int (iI x14), .ref a19, .int (iI z9), .int r4, .ref a20, .ref a21, .int (iI x16), .int r5, .ref a22, .int (iI x17), .int (iI x18), .int (iI x19), .int (iI x20)])), (a19, .inl (T 0, 64, .inl ff10))] H locs := w
    refine lv_aload_n hx hb dX12_writeWord_17 rfl (lv_at hl 0 rfl) ?_
    refine lv_bipush (v := iI 96) hx hb dX12_writeWord_18 (by decide +kernel) ?_
    refine lv_lload_n hx hb dX12_writeWord_20 rfl (lv_at hl 1 rfl) ?_
    refine lv_ldc2 (v := 27) hx hb M.1.2.2.2.1 (M.1.2.2.2.2 _ G1641) dX12_writeWord_21 ?_
    refine r_lrem (v := _) M rfl (by decide) dX12_writeWord_24 ?_
    refine b_anyl (fun fy13 => ?_)
    refine lv_l2i (v := _) hx hb dX12_writeWord_25 rfl ?_
    refine b_any (fun z14 z14_a z14_b => ?_)
    refine r_iadd (v := _) M rfl dX12_writeWord_26 ?_
    refine b_any (fun z15 z15_a z15_b => ?_)
    refine k_V (ce := 0) (sl := 0) (rest := []) (wr := []) (r_V (f := 0) [0, 1] M w V_HookedCityModel_345 G1940 G96 (c151_X12_write l D T _ a0 z15 r0 a1 x0 x1 x2 x3 x4 x5 r1 x6 x7 x8 y1 x9 a2 a3 a4 a5 a6 a7 a8 a9 a10 a11 x10 a12 a13 a14 a15 x11 r2 r3 a16 x12 x13 a17 a18 x14 a19 z9 r4 a20 a21 x16 r5 a22 x17 x18 x19 x20 ff10 z15_a z15_b x0_a x0_b x1_a x1_b x2_a x2_b x3_a x3_b x4_a x4_b x5_a x5_b x6_a x6_b x7_a x7_b x8_a x8_b x9_a x9_b x10_a x10_b x11_a x11_b x12_a x12_b x13_a x13_b x14_a x14_b (by omega) (by omega) x16_a x16_b x17_a x17_b x18_a x18_b x19_a x19_b x20_a x20_b) 0 clX12 rfl rfl (by decide) rfl hl.1 rfl (Nat.le_of_ble_eq_true rfl) dX12_writeWord_27 (by decide) (by decide) (by decide) (by decide)) w [0, 1] [] rfl rfl (by decide) (by decide) rfl rfl (fun u H locs hp w => ?_)
    obtain ⟨z16, ff17⟩ := u
    have z16_a : 0 ≤ z16 := hp.1
    have z16_b : z16 ≤ 64 := hp.2.1
    have ee18 : 0 ≤ ((z16 - z9) - 1) := hp.2.2.1
    have ee19 : 0 ≤ ((z9 + 1) - z16) := hp.2.2.2
    have w : WD D A s.heap [(a0, .inr (11, [.int r0, .ref a1, .int (iI x0), .int (iI x1), .int (iI x2), .int (iI x3), .int (iI x4), .int (iI x5), .int r1, .int (iI x6), .int (iI x7), .int (iI x8), .long y1, .int (iI x9), .ref a2, .ref a3, .ref a4, .ref a5, .ref a6, .ref a7, .ref a8, .ref a9, .ref a10, .ref a11, .int (iI x10), .ref a12, .ref a13, .ref a14, .ref a15, .int (iI x11), .int r2, .int r3, .ref a16, .int (iI x12), .int (iI x13), .ref a17, .ref a18, .int (iI x14), .ref a19, .int (iI z16), .int r4, .ref a20, .ref a21, .int (iI x16), .int r5, .ref a22, .int (iI x17), .int (iI x18), .int (iI x19), .int (iI x20)])), (a19, .inl (T 0, 64, .inl ff17))] H locs := w
    exact ret (z16, ff17) _ _ _ _ _ [0, 1] dX12_writeWord_30 ⟨z16_a, z16_b, (show 0 ≤ ((x15 + 9) - z16) from by omega), (show 0 ≤ (z16 - x15) from by omega)⟩ w (by decide) rfl
set_option maxRecDepth 100000 in
set_option maxHeartbeats 4000000 in
theorem c161_X12_writeWord (l : Launch) (D : va_G) (T : Nat → ClassId) (sz : Nat) (a0 : Nat) (y0 : Int64) (r0 : Int32) (a1 : Nat) (x0 : Int) (x1 : Int) (x2 : Int) (x3 : Int) (x4 : Int) (x5 : Int) (r1 : Int32) (x6 : Int) (x7 : Int) (x8 : Int) (y1 : Int64) (x9 : Int) (a2 : Nat) (a3 : Nat) (a4 : Nat) (a5 : Nat) (a6 : Nat) (a7 : Nat) (a8 : Nat) (a9 : Nat) (a10 : Nat) (a11 : Nat) (x10 : Int) (a12 : Nat) (a13 : Nat) (a14 : Nat) (a15 : Nat) (x11 : Int) (r2 : Int32) (r3 : Int32) (a16 : Nat) (x12 : Int) (x13 : Int) (a17 : Nat) (a18 : Nat) (x14 : Int) (a19 : Nat) (x15 : Int) (r4 : Int32) (a20 : Nat) (a21 : Nat) (x16 : Int) (r5 : Int32) (a22 : Nat) (x17 : Int) (x18 : Int) (x19 : Int) (x20 : Int) (f0 : Nat → Int32) (x0_a : 0 ≤ x0) (x0_b : x0 ≤ 940) (x1_a : 0 ≤ x1) (x1_b : x1 ≤ 940) (x2_a : 0 ≤ x2) (x2_b : x2 ≤ 940) (x3_a : 0 ≤ x3) (x3_b : x3 ≤ 940) (x4_a : 0 ≤ x4) (x4_b : x4 ≤ 940) (x5_a : 0 ≤ x5) (x5_b : x5 ≤ 4) (x6_a : (-2147483648) ≤ x6) (x6_b : x6 ≤ 2147483647) (x7_a : (-2147483648) ≤ x7) (x7_b : x7 ≤ 2147483647) (x8_a : 0 ≤ x8) (x8_b : x8 ≤ 940) (x9_a : (-2147483648) ≤ x9) (x9_b : x9 ≤ 2147483647) (x10_a : 0 ≤ x10) (x10_b : x10 ≤ 8) (x11_a : 0 ≤ x11) (x11_b : x11 ≤ 9) (x12_a : (-1) ≤ x12) (x12_b : x12 ≤ 9) (x13_a : (-1) ≤ x13) (x13_b : x13 ≤ 8) (x14_a : 0 ≤ x14) (x14_b : x14 ≤ 9) (x15_a : 0 ≤ x15) (x15_b : x15 ≤ 64) (x16_a : 0 ≤ x16) (x16_b : x16 ≤ 40) (x17_a : 0 ≤ x17) (x17_b : x17 ≤ 40) (x18_a : 0 ≤ x18) (x18_b : x18 ≤ 20) (x19_a : 0 ≤ x19) (x19_b : x19 ≤ 8) (x20_a : 0 ≤ x20) (x20_b : x20 ≤ 39) (pp_w : (y0).toInt < 205891132094649) (pr_0 : 0 ≤ (54 - x15)) : Met l yX12_writeWord (Cond.code yX12_writeWord cX12_writeWord 3 none :: GW) (Rm 10 0 0) (cPre [.ref a0, .long y0] D T [(a0, .inr (11, [.int r0, .ref a1, .int (iI x0), .int (iI x1), .int (iI x2), .int (iI x3), .int (iI x4), .int (iI x5), .int r1, .int (iI x6), .int (iI x7), .int (iI x8), .long y1, .int (iI x9), .ref a2, .ref a3, .ref a4, .ref a5, .ref a6, .ref a7, .ref a8, .ref a9, .ref a10, .ref a11, .int (iI x10), .ref a12, .ref a13, .ref a14, .ref a15, .int (iI x11), .int r2, .int r3, .ref a16, .int (iI x12), .int (iI x13), .ref a17, .ref a18, .int (iI x14), .ref a19, .int (iI x15), .int r4, .ref a20, .ref a21, .int (iI x16), .int r5, .ref a22, .int (iI x17), .int (iI x18), .int (iI x19), .int (iI x20)])), (a19, .inl (T 0, 64, .inl f0))] sz) (qV D [(a0, .inr (11, [.int r0, .ref a1, .int (iI x0), .int (iI x1), .int (iI x2), .int (iI x3), .int (iI x4), .int (iI x5), .int r1, .int (iI x6), .int (iI x7), .int (iI x8), .long y1, .int (iI x9), .ref a2, .ref a3, .ref a4, .ref a5, .ref a6, .ref a7, .ref a8, .ref a9, .ref a10, .ref a11, .int (iI x10), .ref a12, .ref a13, .ref a14, .ref a15, .int (iI x11), .int r2, .int r3, .ref a16, .int (iI x12), .int (iI x13), .ref a17, .ref a18, .int (iI x14), .ref a19, .int (iI x15), .int r4, .ref a20, .ref a21, .int (iI x16), .int r5, .ref a22, .int (iI x17), .int (iI x18), .int (iI x19), .int (iI x20)])), (a19, .inl (T 0, 64, .inl f0))] sz (fun (u : Int × (Nat → Int32)) => 0 ≤ u.1 ∧ u.1 ≤ 64 ∧ 0 ≤ ((x15 + 10) - u.1) ∧ 0 ≤ (u.1 - x15)) (fun u => [(a0, .inr (11, [.int r0, .ref a1, .int (iI x0), .int (iI x1), .int (iI x2), .int (iI x3), .int (iI x4), .int (iI x5), .int r1, .int (iI x6), .int (iI x7), .int (iI x8), .long y1, .int (iI x9), .ref a2, .ref a3, .ref a4, .ref a5, .ref a6, .ref a7, .ref a8, .ref a9, .ref a10, .ref a11, .int (iI x10), .ref a12, .ref a13, .ref a14, .ref a15, .int (iI x11), .int r2, .int r3, .ref a16, .int (iI x12), .int (iI x13), .ref a17, .ref a18, .int (iI x14), .ref a19, .int (iI u.1), .int r4, .ref a20, .ref a21, .int (iI x16), .int r5, .ref a22, .int (iI x17), .int (iI x18), .int (iI x19), .int (iI x20)])), (a19, .inl (T 0, 64, .inl u.2))])) 0 0 (va_A [(a0, .inr (11, [.int r0, .ref a1, .int (iI x0), .int (iI x1), .int (iI x2), .int (iI x3), .int (iI x4), .int (iI x5), .int r1, .int (iI x6), .int (iI x7), .int (iI x8), .long y1, .int (iI x9), .ref a2, .ref a3, .ref a4, .ref a5, .ref a6, .ref a7, .ref a8, .ref a9, .ref a10, .ref a11, .int (iI x10), .ref a12, .ref a13, .ref a14, .ref a15, .int (iI x11), .int r2, .int r3, .ref a16, .int (iI x12), .int (iI x13), .ref a17, .ref a18, .int (iI x14), .ref a19, .int (iI x15), .int r4, .ref a20, .ref a21, .int (iI x16), .int r5, .ref a22, .int (iI x17), .int (iI x18), .int (iI x19), .int (iI x20)])), (a19, .inl (T 0, 64, .inl f0))] sz) := by
  refine e_V (by decide) (Nat.le_of_ble_eq_true rfl) ?_
  intro p e s m args below meth c A Q ls M hin w ret hl
  have hx := M.1.1
  have hb := M.1.2.1
  have hl : lv_has ls 3 [(0, .ref a0), (1, .long y0)] := hl
  refine lv_lload_n hx hb dX12_writeWord_0 rfl (lv_at hl 1 rfl) ?_
  refine lv_ldc2 (v := 27) hx hb M.1.2.2.2.1 (M.1.2.2.2.2 _ G1641) dX12_writeWord_1 ?_
  refine r_lcmp (v := lg_cmp y0 27) M rfl dX12_writeWord_4 ?_
  refine lv_if_lt (tgt := 17) hx hb dX12_writeWord_5 (by decide) (fun c_1 => ?_) (fun c_1 => ?_)
  · refine lv_aload_n hx hb dX12_writeWord_17 rfl (lv_at hl 0 rfl) ?_
    refine lv_bipush (v := iI 96) hx hb dX12_writeWord_18 (by decide +kernel) ?_
    refine lv_lload_n hx hb dX12_writeWord_20 rfl (lv_at hl 1 rfl) ?_
    refine lv_ldc2 (v := 27) hx hb M.1.2.2.2.1 (M.1.2.2.2.2 _ G1641) dX12_writeWord_21 ?_
    refine r_lrem (v := _) M rfl (by decide) dX12_writeWord_24 ?_
    refine b_anyl (fun fy2 => ?_)
    refine lv_l2i (v := _) hx hb dX12_writeWord_25 rfl ?_
    refine b_any (fun z3 z3_a z3_b => ?_)
    refine r_iadd (v := _) M rfl dX12_writeWord_26 ?_
    refine b_any (fun z4 z4_a z4_b => ?_)
    refine k_V (ce := 0) (sl := 0) (rest := []) (wr := []) (r_V (f := 0) [0, 1] M w V_HookedCityModel_345 G1940 G96 (c151_X12_write l D T _ a0 z4 r0 a1 x0 x1 x2 x3 x4 x5 r1 x6 x7 x8 y1 x9 a2 a3 a4 a5 a6 a7 a8 a9 a10 a11 x10 a12 a13 a14 a15 x11 r2 r3 a16 x12 x13 a17 a18 x14 a19 x15 r4 a20 a21 x16 r5 a22 x17 x18 x19 x20 f0 z4_a z4_b x0_a x0_b x1_a x1_b x2_a x2_b x3_a x3_b x4_a x4_b x5_a x5_b x6_a x6_b x7_a x7_b x8_a x8_b x9_a x9_b x10_a x10_b x11_a x11_b x12_a x12_b x13_a x13_b x14_a x14_b (by omega) (by omega) x16_a x16_b x17_a x17_b x18_a x18_b x19_a x19_b x20_a x20_b) 0 clX12 rfl rfl (by decide) rfl hl.1 rfl (Nat.le_of_ble_eq_true rfl) dX12_writeWord_27 (by decide) (by decide) (by decide) (by decide)) w [0, 1] [] rfl rfl (by decide) (by decide) rfl rfl (fun u H locs hp w => ?_)
    obtain ⟨z5, ff6⟩ := u
    have z5_a : 0 ≤ z5 := hp.1
    have z5_b : z5 ≤ 64 := hp.2.1
    have ee7 : 0 ≤ ((z5 - x15) - 1) := hp.2.2.1
    have ee8 : 0 ≤ ((x15 + 1) - z5) := hp.2.2.2
    have w : WD D A s.heap [(a0, .inr (11, [.int r0, .ref a1, .int (iI x0), .int (iI x1), .int (iI x2), .int (iI x3), .int (iI x4), .int (iI x5), .int r1, .int (iI x6), .int (iI x7), .int (iI x8), .long y1, .int (iI x9), .ref a2, .ref a3, .ref a4, .ref a5, .ref a6, .ref a7, .ref a8, .ref a9, .ref a10, .ref a11, .int (iI x10), .ref a12, .ref a13, .ref a14, .ref a15, .int (iI x11), .int r2, .int r3, .ref a16, .int (iI x12), .int (iI x13), .ref a17, .ref a18, .int (iI x14), .ref a19, .int (iI z5), .int r4, .ref a20, .ref a21, .int (iI x16), .int r5, .ref a22, .int (iI x17), .int (iI x18), .int (iI x19), .int (iI x20)])), (a19, .inl (T 0, 64, .inl ff6))] H locs := w
    exact ret (z5, ff6) _ _ _ _ _ [0, 1] dX12_writeWord_30 ⟨z5_a, z5_b, (show 0 ≤ ((x15 + 10) - z5) from by omega), (show 0 ≤ (z5 - x15) from by omega)⟩ w (by decide) rfl
  · refine lv_aload_n hx hb dX12_writeWord_8 rfl (lv_at hl 0 rfl) ?_
    refine lv_lload_n hx hb dX12_writeWord_9 rfl (lv_at hl 1 rfl) ?_
    refine lv_ldc2 (v := 27) hx hb M.1.2.2.2.1 (M.1.2.2.2.2 _ G1641) dX12_writeWord_10 ?_
    refine r_ldiv (v := y0 / 27) M rfl (by decide) dX12_writeWord_13 ?_
    refine k_V (ce := 0) (sl := 0) (rest := []) (wr := []) (r_V (f := 9) [0, 1] M w V_HookedCityModel_341 G1936 G95 (c160_X12_writeWord l D T _ a0 (y0 / 27) r0 a1 x0 x1 x2 x3 x4 x5 r1 x6 x7 x8 y1 x9 a2 a3 a4 a5 a6 a7 a8 a9 a10 a11 x10 a12 a13 a14 a15 x11 r2 r3 a16 x12 x13 a17 a18 x14 a19 x15 r4 a20 a21 x16 r5 a22 x17 x18 x19 x20 f0 x0_a x0_b x1_a x1_b x2_a x2_b x3_a x3_b x4_a x4_b x5_a x5_b x6_a x6_b x7_a x7_b x8_a x8_b x9_a x9_b x10_a x10_b x11_a x11_b x12_a x12_b x13_a x13_b x14_a x14_b x15_a x15_b x16_a x16_b x17_a x17_b x18_a x18_b x19_a x19_b x20_a x20_b (l27 c_1 (by omega)) (by omega)) 0 clX12 rfl rfl (by decide) rfl hl.1 rfl (Nat.le_of_ble_eq_true rfl) dX12_writeWord_14 (by decide) (by decide) (by decide) (by decide)) w [0, 1] [] rfl rfl (by decide) (by decide) rfl rfl (fun u H locs hp w => ?_)
    obtain ⟨z9, ff10⟩ := u
    have z9_a : 0 ≤ z9 := hp.1
    have z9_b : z9 ≤ 64 := hp.2.1
    have ee11 : 0 ≤ ((x15 + 9) - z9) := hp.2.2.1
    have ee12 : 0 ≤ (z9 - x15) := hp.2.2.2
    have w : WD D A s.heap [(a0, .inr (11, [.int r0, .ref a1, .int (iI x0), .int (iI x1), .int (iI x2), .int (iI x3), .int (iI x4), .int (iI x5), .int r1, .int (iI x6), .int (iI x7), .int (iI x8), .long y1, .int (iI x9), .ref a2, .ref a3, .ref a4, .ref a5, .ref a6, .ref a7, .ref a8, .ref a9, .ref a10, .ref a11, .int (iI x10), .ref a12, .ref a13, .ref a14, .ref a15, .int (iI x11), .int r2, .int r3, .ref a16, .int (iI x12), .int (iI x13), .ref a17, .ref a18, .int (iI x14), .ref a19, .int (iI z9), .int r4, .ref a20, .ref a21, .int (iI x16), .int r5, .ref a22, .int (iI x17), .int (iI x18), .int (iI x19), .int (iI x20)])), (a19, .inl (T 0, 64, .inl ff10))] H locs := w
    refine lv_aload_n hx hb dX12_writeWord_17 rfl (lv_at hl 0 rfl) ?_
    refine lv_bipush (v := iI 96) hx hb dX12_writeWord_18 (by decide +kernel) ?_
    refine lv_lload_n hx hb dX12_writeWord_20 rfl (lv_at hl 1 rfl) ?_
    refine lv_ldc2 (v := 27) hx hb M.1.2.2.2.1 (M.1.2.2.2.2 _ G1641) dX12_writeWord_21 ?_
    refine r_lrem (v := _) M rfl (by decide) dX12_writeWord_24 ?_
    refine b_anyl (fun fy13 => ?_)
    refine lv_l2i (v := _) hx hb dX12_writeWord_25 rfl ?_
    refine b_any (fun z14 z14_a z14_b => ?_)
    refine r_iadd (v := _) M rfl dX12_writeWord_26 ?_
    refine b_any (fun z15 z15_a z15_b => ?_)
    refine k_V (ce := 0) (sl := 0) (rest := []) (wr := []) (r_V (f := 0) [0, 1] M w V_HookedCityModel_345 G1940 G96 (c151_X12_write l D T _ a0 z15 r0 a1 x0 x1 x2 x3 x4 x5 r1 x6 x7 x8 y1 x9 a2 a3 a4 a5 a6 a7 a8 a9 a10 a11 x10 a12 a13 a14 a15 x11 r2 r3 a16 x12 x13 a17 a18 x14 a19 z9 r4 a20 a21 x16 r5 a22 x17 x18 x19 x20 ff10 z15_a z15_b x0_a x0_b x1_a x1_b x2_a x2_b x3_a x3_b x4_a x4_b x5_a x5_b x6_a x6_b x7_a x7_b x8_a x8_b x9_a x9_b x10_a x10_b x11_a x11_b x12_a x12_b x13_a x13_b x14_a x14_b (by omega) (by omega) x16_a x16_b x17_a x17_b x18_a x18_b x19_a x19_b x20_a x20_b) 0 clX12 rfl rfl (by decide) rfl hl.1 rfl (Nat.le_of_ble_eq_true rfl) dX12_writeWord_27 (by decide) (by decide) (by decide) (by decide)) w [0, 1] [] rfl rfl (by decide) (by decide) rfl rfl (fun u H locs hp w => ?_)
    obtain ⟨z16, ff17⟩ := u
    have z16_a : 0 ≤ z16 := hp.1
    have z16_b : z16 ≤ 64 := hp.2.1
    have ee18 : 0 ≤ ((z16 - z9) - 1) := hp.2.2.1
    have ee19 : 0 ≤ ((z9 + 1) - z16) := hp.2.2.2
    have w : WD D A s.heap [(a0, .inr (11, [.int r0, .ref a1, .int (iI x0), .int (iI x1), .int (iI x2), .int (iI x3), .int (iI x4), .int (iI x5), .int r1, .int (iI x6), .int (iI x7), .int (iI x8), .long y1, .int (iI x9), .ref a2, .ref a3, .ref a4, .ref a5, .ref a6, .ref a7, .ref a8, .ref a9, .ref a10, .ref a11, .int (iI x10), .ref a12, .ref a13, .ref a14, .ref a15, .int (iI x11), .int r2, .int r3, .ref a16, .int (iI x12), .int (iI x13), .ref a17, .ref a18, .int (iI x14), .ref a19, .int (iI z16), .int r4, .ref a20, .ref a21, .int (iI x16), .int r5, .ref a22, .int (iI x17), .int (iI x18), .int (iI x19), .int (iI x20)])), (a19, .inl (T 0, 64, .inl ff17))] H locs := w
    exact ret (z16, ff17) _ _ _ _ _ [0, 1] dX12_writeWord_30 ⟨z16_a, z16_b, (show 0 ≤ ((x15 + 10) - z16) from by omega), (show 0 ≤ (z16 - x15) from by omega)⟩ w (by decide) rfl
set_option maxRecDepth 100000 in
set_option maxHeartbeats 4000000 in
theorem c162_X12_writeWord (l : Launch) (D : va_G) (T : Nat → ClassId) (sz : Nat) (a0 : Nat) (y0 : Int64) (r0 : Int32) (a1 : Nat) (x0 : Int) (x1 : Int) (x2 : Int) (x3 : Int) (x4 : Int) (x5 : Int) (r1 : Int32) (x6 : Int) (x7 : Int) (x8 : Int) (y1 : Int64) (x9 : Int) (a2 : Nat) (a3 : Nat) (a4 : Nat) (a5 : Nat) (a6 : Nat) (a7 : Nat) (a8 : Nat) (a9 : Nat) (a10 : Nat) (a11 : Nat) (x10 : Int) (a12 : Nat) (a13 : Nat) (a14 : Nat) (a15 : Nat) (x11 : Int) (r2 : Int32) (r3 : Int32) (a16 : Nat) (x12 : Int) (x13 : Int) (a17 : Nat) (a18 : Nat) (x14 : Int) (a19 : Nat) (x15 : Int) (r4 : Int32) (a20 : Nat) (a21 : Nat) (x16 : Int) (r5 : Int32) (a22 : Nat) (x17 : Int) (x18 : Int) (x19 : Int) (x20 : Int) (f0 : Nat → Int32) (x0_a : 0 ≤ x0) (x0_b : x0 ≤ 940) (x1_a : 0 ≤ x1) (x1_b : x1 ≤ 940) (x2_a : 0 ≤ x2) (x2_b : x2 ≤ 940) (x3_a : 0 ≤ x3) (x3_b : x3 ≤ 940) (x4_a : 0 ≤ x4) (x4_b : x4 ≤ 940) (x5_a : 0 ≤ x5) (x5_b : x5 ≤ 4) (x6_a : (-2147483648) ≤ x6) (x6_b : x6 ≤ 2147483647) (x7_a : (-2147483648) ≤ x7) (x7_b : x7 ≤ 2147483647) (x8_a : 0 ≤ x8) (x8_b : x8 ≤ 940) (x9_a : (-2147483648) ≤ x9) (x9_b : x9 ≤ 2147483647) (x10_a : 0 ≤ x10) (x10_b : x10 ≤ 8) (x11_a : 0 ≤ x11) (x11_b : x11 ≤ 9) (x12_a : (-1) ≤ x12) (x12_b : x12 ≤ 9) (x13_a : (-1) ≤ x13) (x13_b : x13 ≤ 8) (x14_a : 0 ≤ x14) (x14_b : x14 ≤ 9) (x15_a : 0 ≤ x15) (x15_b : x15 ≤ 64) (x16_a : 0 ≤ x16) (x16_b : x16 ≤ 40) (x17_a : 0 ≤ x17) (x17_b : x17 ≤ 40) (x18_a : 0 ≤ x18) (x18_b : x18 ≤ 20) (x19_a : 0 ≤ x19) (x19_b : x19 ≤ 8) (x20_a : 0 ≤ x20) (x20_b : x20 ≤ 39) (pp_w : (y0).toInt < 5559060566555523) (pr_0 : 0 ≤ (53 - x15)) : Met l yX12_writeWord (Cond.code yX12_writeWord cX12_writeWord 3 none :: GW) (Rm 11 0 0) (cPre [.ref a0, .long y0] D T [(a0, .inr (11, [.int r0, .ref a1, .int (iI x0), .int (iI x1), .int (iI x2), .int (iI x3), .int (iI x4), .int (iI x5), .int r1, .int (iI x6), .int (iI x7), .int (iI x8), .long y1, .int (iI x9), .ref a2, .ref a3, .ref a4, .ref a5, .ref a6, .ref a7, .ref a8, .ref a9, .ref a10, .ref a11, .int (iI x10), .ref a12, .ref a13, .ref a14, .ref a15, .int (iI x11), .int r2, .int r3, .ref a16, .int (iI x12), .int (iI x13), .ref a17, .ref a18, .int (iI x14), .ref a19, .int (iI x15), .int r4, .ref a20, .ref a21, .int (iI x16), .int r5, .ref a22, .int (iI x17), .int (iI x18), .int (iI x19), .int (iI x20)])), (a19, .inl (T 0, 64, .inl f0))] sz) (qV D [(a0, .inr (11, [.int r0, .ref a1, .int (iI x0), .int (iI x1), .int (iI x2), .int (iI x3), .int (iI x4), .int (iI x5), .int r1, .int (iI x6), .int (iI x7), .int (iI x8), .long y1, .int (iI x9), .ref a2, .ref a3, .ref a4, .ref a5, .ref a6, .ref a7, .ref a8, .ref a9, .ref a10, .ref a11, .int (iI x10), .ref a12, .ref a13, .ref a14, .ref a15, .int (iI x11), .int r2, .int r3, .ref a16, .int (iI x12), .int (iI x13), .ref a17, .ref a18, .int (iI x14), .ref a19, .int (iI x15), .int r4, .ref a20, .ref a21, .int (iI x16), .int r5, .ref a22, .int (iI x17), .int (iI x18), .int (iI x19), .int (iI x20)])), (a19, .inl (T 0, 64, .inl f0))] sz (fun (u : Int × (Nat → Int32)) => 0 ≤ u.1 ∧ u.1 ≤ 64 ∧ 0 ≤ ((x15 + 11) - u.1) ∧ 0 ≤ (u.1 - x15)) (fun u => [(a0, .inr (11, [.int r0, .ref a1, .int (iI x0), .int (iI x1), .int (iI x2), .int (iI x3), .int (iI x4), .int (iI x5), .int r1, .int (iI x6), .int (iI x7), .int (iI x8), .long y1, .int (iI x9), .ref a2, .ref a3, .ref a4, .ref a5, .ref a6, .ref a7, .ref a8, .ref a9, .ref a10, .ref a11, .int (iI x10), .ref a12, .ref a13, .ref a14, .ref a15, .int (iI x11), .int r2, .int r3, .ref a16, .int (iI x12), .int (iI x13), .ref a17, .ref a18, .int (iI x14), .ref a19, .int (iI u.1), .int r4, .ref a20, .ref a21, .int (iI x16), .int r5, .ref a22, .int (iI x17), .int (iI x18), .int (iI x19), .int (iI x20)])), (a19, .inl (T 0, 64, .inl u.2))])) 0 0 (va_A [(a0, .inr (11, [.int r0, .ref a1, .int (iI x0), .int (iI x1), .int (iI x2), .int (iI x3), .int (iI x4), .int (iI x5), .int r1, .int (iI x6), .int (iI x7), .int (iI x8), .long y1, .int (iI x9), .ref a2, .ref a3, .ref a4, .ref a5, .ref a6, .ref a7, .ref a8, .ref a9, .ref a10, .ref a11, .int (iI x10), .ref a12, .ref a13, .ref a14, .ref a15, .int (iI x11), .int r2, .int r3, .ref a16, .int (iI x12), .int (iI x13), .ref a17, .ref a18, .int (iI x14), .ref a19, .int (iI x15), .int r4, .ref a20, .ref a21, .int (iI x16), .int r5, .ref a22, .int (iI x17), .int (iI x18), .int (iI x19), .int (iI x20)])), (a19, .inl (T 0, 64, .inl f0))] sz) := by
  refine e_V (by decide) (Nat.le_of_ble_eq_true rfl) ?_
  intro p e s m args below meth c A Q ls M hin w ret hl
  have hx := M.1.1
  have hb := M.1.2.1
  have hl : lv_has ls 3 [(0, .ref a0), (1, .long y0)] := hl
  refine lv_lload_n hx hb dX12_writeWord_0 rfl (lv_at hl 1 rfl) ?_
  refine lv_ldc2 (v := 27) hx hb M.1.2.2.2.1 (M.1.2.2.2.2 _ G1641) dX12_writeWord_1 ?_
  refine r_lcmp (v := lg_cmp y0 27) M rfl dX12_writeWord_4 ?_
  refine lv_if_lt (tgt := 17) hx hb dX12_writeWord_5 (by decide) (fun c_1 => ?_) (fun c_1 => ?_)
  · refine lv_aload_n hx hb dX12_writeWord_17 rfl (lv_at hl 0 rfl) ?_
    refine lv_bipush (v := iI 96) hx hb dX12_writeWord_18 (by decide +kernel) ?_
    refine lv_lload_n hx hb dX12_writeWord_20 rfl (lv_at hl 1 rfl) ?_
    refine lv_ldc2 (v := 27) hx hb M.1.2.2.2.1 (M.1.2.2.2.2 _ G1641) dX12_writeWord_21 ?_
    refine r_lrem (v := _) M rfl (by decide) dX12_writeWord_24 ?_
    refine b_anyl (fun fy2 => ?_)
    refine lv_l2i (v := _) hx hb dX12_writeWord_25 rfl ?_
    refine b_any (fun z3 z3_a z3_b => ?_)
    refine r_iadd (v := _) M rfl dX12_writeWord_26 ?_
    refine b_any (fun z4 z4_a z4_b => ?_)
    refine k_V (ce := 0) (sl := 0) (rest := []) (wr := []) (r_V (f := 0) [0, 1] M w V_HookedCityModel_345 G1940 G96 (c151_X12_write l D T _ a0 z4 r0 a1 x0 x1 x2 x3 x4 x5 r1 x6 x7 x8 y1 x9 a2 a3 a4 a5 a6 a7 a8 a9 a10 a11 x10 a12 a13 a14 a15 x11 r2 r3 a16 x12 x13 a17 a18 x14 a19 x15 r4 a20 a21 x16 r5 a22 x17 x18 x19 x20 f0 z4_a z4_b x0_a x0_b x1_a x1_b x2_a x2_b x3_a x3_b x4_a x4_b x5_a x5_b x6_a x6_b x7_a x7_b x8_a x8_b x9_a x9_b x10_a x10_b x11_a x11_b x12_a x12_b x13_a x13_b x14_a x14_b (by omega) (by omega) x16_a x16_b x17_a x17_b x18_a x18_b x19_a x19_b x20_a x20_b) 0 clX12 rfl rfl (by decide) rfl hl.1 rfl (Nat.le_of_ble_eq_true rfl) dX12_writeWord_27 (by decide) (by decide) (by decide) (by decide)) w [0, 1] [] rfl rfl (by decide) (by decide) rfl rfl (fun u H locs hp w => ?_)
    obtain ⟨z5, ff6⟩ := u
    have z5_a : 0 ≤ z5 := hp.1
    have z5_b : z5 ≤ 64 := hp.2.1
    have ee7 : 0 ≤ ((z5 - x15) - 1) := hp.2.2.1
    have ee8 : 0 ≤ ((x15 + 1) - z5) := hp.2.2.2
    have w : WD D A s.heap [(a0, .inr (11, [.int r0, .ref a1, .int (iI x0), .int (iI x1), .int (iI x2), .int (iI x3), .int (iI x4), .int (iI x5), .int r1, .int (iI x6), .int (iI x7), .int (iI x8), .long y1, .int (iI x9), .ref a2, .ref a3, .ref a4, .ref a5, .ref a6, .ref a7, .ref a8, .ref a9, .ref a10, .ref a11, .int (iI x10), .ref a12, .ref a13, .ref a14, .ref a15, .int (iI x11), .int r2, .int r3, .ref a16, .int (iI x12), .int (iI x13), .ref a17, .ref a18, .int (iI x14), .ref a19, .int (iI z5), .int r4, .ref a20, .ref a21, .int (iI x16), .int r5, .ref a22, .int (iI x17), .int (iI x18), .int (iI x19), .int (iI x20)])), (a19, .inl (T 0, 64, .inl ff6))] H locs := w
    exact ret (z5, ff6) _ _ _ _ _ [0, 1] dX12_writeWord_30 ⟨z5_a, z5_b, (show 0 ≤ ((x15 + 11) - z5) from by omega), (show 0 ≤ (z5 - x15) from by omega)⟩ w (by decide) rfl
  · refine lv_aload_n hx hb dX12_writeWord_8 rfl (lv_at hl 0 rfl) ?_
    refine lv_lload_n hx hb dX12_writeWord_9 rfl (lv_at hl 1 rfl) ?_
    refine lv_ldc2 (v := 27) hx hb M.1.2.2.2.1 (M.1.2.2.2.2 _ G1641) dX12_writeWord_10 ?_
    refine r_ldiv (v := y0 / 27) M rfl (by decide) dX12_writeWord_13 ?_
    refine k_V (ce := 0) (sl := 0) (rest := []) (wr := []) (r_V (f := 10) [0, 1] M w V_HookedCityModel_341 G1936 G95 (c161_X12_writeWord l D T _ a0 (y0 / 27) r0 a1 x0 x1 x2 x3 x4 x5 r1 x6 x7 x8 y1 x9 a2 a3 a4 a5 a6 a7 a8 a9 a10 a11 x10 a12 a13 a14 a15 x11 r2 r3 a16 x12 x13 a17 a18 x14 a19 x15 r4 a20 a21 x16 r5 a22 x17 x18 x19 x20 f0 x0_a x0_b x1_a x1_b x2_a x2_b x3_a x3_b x4_a x4_b x5_a x5_b x6_a x6_b x7_a x7_b x8_a x8_b x9_a x9_b x10_a x10_b x11_a x11_b x12_a x12_b x13_a x13_b x14_a x14_b x15_a x15_b x16_a x16_b x17_a x17_b x18_a x18_b x19_a x19_b x20_a x20_b (l27 c_1 (by omega)) (by omega)) 0 clX12 rfl rfl (by decide) rfl hl.1 rfl (Nat.le_of_ble_eq_true rfl) dX12_writeWord_14 (by decide) (by decide) (by decide) (by decide)) w [0, 1] [] rfl rfl (by decide) (by decide) rfl rfl (fun u H locs hp w => ?_)
    obtain ⟨z9, ff10⟩ := u
    have z9_a : 0 ≤ z9 := hp.1
    have z9_b : z9 ≤ 64 := hp.2.1
    have ee11 : 0 ≤ ((x15 + 10) - z9) := hp.2.2.1
    have ee12 : 0 ≤ (z9 - x15) := hp.2.2.2
    have w : WD D A s.heap [(a0, .inr (11, [.int r0, .ref a1, .int (iI x0), .int (iI x1), .int (iI x2), .int (iI x3), .int (iI x4), .int (iI x5), .int r1, .int (iI x6), .int (iI x7), .int (iI x8), .long y1, .int (iI x9), .ref a2, .ref a3, .ref a4, .ref a5, .ref a6, .ref a7, .ref a8, .ref a9, .ref a10, .ref a11, .int (iI x10), .ref a12, .ref a13, .ref a14, .ref a15, .int (iI x11), .int r2, .int r3, .ref a16, .int (iI x12), .int (iI x13), .ref a17, .ref a18, .int (iI x14), .ref a19, .int (iI z9), .int r4, .ref a20, .ref a21, .int (iI x16), .int r5, .ref a22, .int (iI x17), .int (iI x18), .int (iI x19), .int (iI x20)])), (a19, .inl (T 0, 64, .inl ff10))] H locs := w
    refine lv_aload_n hx hb dX12_writeWord_17 rfl (lv_at hl 0 rfl) ?_
    refine lv_bipush (v := iI 96) hx hb dX12_writeWord_18 (by decide +kernel) ?_
    refine lv_lload_n hx hb dX12_writeWord_20 rfl (lv_at hl 1 rfl) ?_
    refine lv_ldc2 (v := 27) hx hb M.1.2.2.2.1 (M.1.2.2.2.2 _ G1641) dX12_writeWord_21 ?_
    refine r_lrem (v := _) M rfl (by decide) dX12_writeWord_24 ?_
    refine b_anyl (fun fy13 => ?_)
    refine lv_l2i (v := _) hx hb dX12_writeWord_25 rfl ?_
    refine b_any (fun z14 z14_a z14_b => ?_)
    refine r_iadd (v := _) M rfl dX12_writeWord_26 ?_
    refine b_any (fun z15 z15_a z15_b => ?_)
    refine k_V (ce := 0) (sl := 0) (rest := []) (wr := []) (r_V (f := 0) [0, 1] M w V_HookedCityModel_345 G1940 G96 (c151_X12_write l D T _ a0 z15 r0 a1 x0 x1 x2 x3 x4 x5 r1 x6 x7 x8 y1 x9 a2 a3 a4 a5 a6 a7 a8 a9 a10 a11 x10 a12 a13 a14 a15 x11 r2 r3 a16 x12 x13 a17 a18 x14 a19 z9 r4 a20 a21 x16 r5 a22 x17 x18 x19 x20 ff10 z15_a z15_b x0_a x0_b x1_a x1_b x2_a x2_b x3_a x3_b x4_a x4_b x5_a x5_b x6_a x6_b x7_a x7_b x8_a x8_b x9_a x9_b x10_a x10_b x11_a x11_b x12_a x12_b x13_a x13_b x14_a x14_b (by omega) (by omega) x16_a x16_b x17_a x17_b x18_a x18_b x19_a x19_b x20_a x20_b) 0 clX12 rfl rfl (by decide) rfl hl.1 rfl (Nat.le_of_ble_eq_true rfl) dX12_writeWord_27 (by decide) (by decide) (by decide) (by decide)) w [0, 1] [] rfl rfl (by decide) (by decide) rfl rfl (fun u H locs hp w => ?_)
    obtain ⟨z16, ff17⟩ := u
    have z16_a : 0 ≤ z16 := hp.1
    have z16_b : z16 ≤ 64 := hp.2.1
    have ee18 : 0 ≤ ((z16 - z9) - 1) := hp.2.2.1
    have ee19 : 0 ≤ ((z9 + 1) - z16) := hp.2.2.2
    have w : WD D A s.heap [(a0, .inr (11, [.int r0, .ref a1, .int (iI x0), .int (iI x1), .int (iI x2), .int (iI x3), .int (iI x4), .int (iI x5), .int r1, .int (iI x6), .int (iI x7), .int (iI x8), .long y1, .int (iI x9), .ref a2, .ref a3, .ref a4, .ref a5, .ref a6, .ref a7, .ref a8, .ref a9, .ref a10, .ref a11, .int (iI x10), .ref a12, .ref a13, .ref a14, .ref a15, .int (iI x11), .int r2, .int r3, .ref a16, .int (iI x12), .int (iI x13), .ref a17, .ref a18, .int (iI x14), .ref a19, .int (iI z16), .int r4, .ref a20, .ref a21, .int (iI x16), .int r5, .ref a22, .int (iI x17), .int (iI x18), .int (iI x19), .int (iI x20)])), (a19, .inl (T 0, 64, .inl ff17))] H locs := w
    exact ret (z16, ff17) _ _ _ _ _ [0, 1] dX12_writeWord_30 ⟨z16_a, z16_b, (show 0 ≤ ((x15 + 11) - z16) from by omega), (show 0 ≤ (z16 - x15) from by omega)⟩ w (by decide) rfl
set_option maxRecDepth 100000 in
set_option maxHeartbeats 4000000 in
theorem c163_X12_writeWord (l : Launch) (D : va_G) (T : Nat → ClassId) (sz : Nat) (a0 : Nat) (y0 : Int64) (r0 : Int32) (a1 : Nat) (x0 : Int) (x1 : Int) (x2 : Int) (x3 : Int) (x4 : Int) (x5 : Int) (r1 : Int32) (x6 : Int) (x7 : Int) (x8 : Int) (y1 : Int64) (x9 : Int) (a2 : Nat) (a3 : Nat) (a4 : Nat) (a5 : Nat) (a6 : Nat) (a7 : Nat) (a8 : Nat) (a9 : Nat) (a10 : Nat) (a11 : Nat) (x10 : Int) (a12 : Nat) (a13 : Nat) (a14 : Nat) (a15 : Nat) (x11 : Int) (r2 : Int32) (r3 : Int32) (a16 : Nat) (x12 : Int) (x13 : Int) (a17 : Nat) (a18 : Nat) (x14 : Int) (a19 : Nat) (x15 : Int) (r4 : Int32) (a20 : Nat) (a21 : Nat) (x16 : Int) (r5 : Int32) (a22 : Nat) (x17 : Int) (x18 : Int) (x19 : Int) (x20 : Int) (f0 : Nat → Int32) (x0_a : 0 ≤ x0) (x0_b : x0 ≤ 940) (x1_a : 0 ≤ x1) (x1_b : x1 ≤ 940) (x2_a : 0 ≤ x2) (x2_b : x2 ≤ 940) (x3_a : 0 ≤ x3) (x3_b : x3 ≤ 940) (x4_a : 0 ≤ x4) (x4_b : x4 ≤ 940) (x5_a : 0 ≤ x5) (x5_b : x5 ≤ 4) (x6_a : (-2147483648) ≤ x6) (x6_b : x6 ≤ 2147483647) (x7_a : (-2147483648) ≤ x7) (x7_b : x7 ≤ 2147483647) (x8_a : 0 ≤ x8) (x8_b : x8 ≤ 940) (x9_a : (-2147483648) ≤ x9) (x9_b : x9 ≤ 2147483647) (x10_a : 0 ≤ x10) (x10_b : x10 ≤ 8) (x11_a : 0 ≤ x11) (x11_b : x11 ≤ 9) (x12_a : (-1) ≤ x12) (x12_b : x12 ≤ 9) (x13_a : (-1) ≤ x13) (x13_b : x13 ≤ 8) (x14_a : 0 ≤ x14) (x14_b : x14 ≤ 9) (x15_a : 0 ≤ x15) (x15_b : x15 ≤ 64) (x16_a : 0 ≤ x16) (x16_b : x16 ≤ 40) (x17_a : 0 ≤ x17) (x17_b : x17 ≤ 40) (x18_a : 0 ≤ x18) (x18_b : x18 ≤ 20) (x19_a : 0 ≤ x19) (x19_b : x19 ≤ 8) (x20_a : 0 ≤ x20) (x20_b : x20 ≤ 39) (pp_w : (y0).toInt < 150094635296999121) (pr_0 : 0 ≤ (52 - x15)) : Met l yX12_writeWord (Cond.code yX12_writeWord cX12_writeWord 3 none :: GW) (Rm 12 0 0) (cPre [.ref a0, .long y0] D T [(a0, .inr (11, [.int r0, .ref a1, .int (iI x0), .int (iI x1), .int (iI x2), .int (iI x3), .int (iI x4), .int (iI x5), .int r1, .int (iI x6), .int (iI x7), .int (iI x8), .long y1, .int (iI x9), .ref a2, .ref a3, .ref a4, .ref a5, .ref a6, .ref a7, .ref a8, .ref a9, .ref a10, .ref a11, .int (iI x10), .ref a12, .ref a13, .ref a14, .ref a15, .int (iI x11), .int r2, .int r3, .ref a16, .int (iI x12), .int (iI x13), .ref a17, .ref a18, .int (iI x14), .ref a19, .int (iI x15), .int r4, .ref a20, .ref a21, .int (iI x16), .int r5, .ref a22, .int (iI x17), .int (iI x18), .int (iI x19), .int (iI x20)])), (a19, .inl (T 0, 64, .inl f0))] sz) (qV D [(a0, .inr (11, [.int r0, .ref a1, .int (iI x0), .int (iI x1), .int (iI x2), .int (iI x3), .int (iI x4), .int (iI x5), .int r1, .int (iI x6), .int (iI x7), .int (iI x8), .long y1, .int (iI x9), .ref a2, .ref a3, .ref a4, .ref a5, .ref a6, .ref a7, .ref a8, .ref a9, .ref a10, .ref a11, .int (iI x10), .ref a12, .ref a13, .ref a14, .ref a15, .int (iI x11), .int r2, .int r3, .ref a16, .int (iI x12), .int (iI x13), .ref a17, .ref a18, .int (iI x14), .ref a19, .int (iI x15), .int r4, .ref a20, .ref a21, .int (iI x16), .int r5, .ref a22, .int (iI x17), .int (iI x18), .int (iI x19), .int (iI x20)])), (a19, .inl (T 0, 64, .inl f0))] sz (fun (u : Int × (Nat → Int32)) => 0 ≤ u.1 ∧ u.1 ≤ 64 ∧ 0 ≤ ((x15 + 12) - u.1) ∧ 0 ≤ (u.1 - x15)) (fun u => [(a0, .inr (11, [.int r0, .ref a1, .int (iI x0), .int (iI x1), .int (iI x2), .int (iI x3), .int (iI x4), .int (iI x5), .int r1, .int (iI x6), .int (iI x7), .int (iI x8), .long y1, .int (iI x9), .ref a2, .ref a3, .ref a4, .ref a5, .ref a6, .ref a7, .ref a8, .ref a9, .ref a10, .ref a11, .int (iI x10), .ref a12, .ref a13, .ref a14, .ref a15, .int (iI x11), .int r2, .int r3, .ref a16, .int (iI x12), .int (iI x13), .ref a17, .ref a18, .int (iI x14), .ref a19, .int (iI u.1), .int r4, .ref a20, .ref a21, .int (iI x16), .int r5, .ref a22, .int (iI x17), .int (iI x18), .int (iI x19), .int (iI x20)])), (a19, .inl (T 0, 64, .inl u.2))])) 0 0 (va_A [(a0, .inr (11, [.int r0, .ref a1, .int (iI x0), .int (iI x1), .int (iI x2), .int (iI x3), .int (iI x4), .int (iI x5), .int r1, .int (iI x6), .int (iI x7), .int (iI x8), .long y1, .int (iI x9), .ref a2, .ref a3, .ref a4, .ref a5, .ref a6, .ref a7, .ref a8, .ref a9, .ref a10, .ref a11, .int (iI x10), .ref a12, .ref a13, .ref a14, .ref a15, .int (iI x11), .int r2, .int r3, .ref a16, .int (iI x12), .int (iI x13), .ref a17, .ref a18, .int (iI x14), .ref a19, .int (iI x15), .int r4, .ref a20, .ref a21, .int (iI x16), .int r5, .ref a22, .int (iI x17), .int (iI x18), .int (iI x19), .int (iI x20)])), (a19, .inl (T 0, 64, .inl f0))] sz) := by
  refine e_V (by decide) (Nat.le_of_ble_eq_true rfl) ?_
  intro p e s m args below meth c A Q ls M hin w ret hl
  have hx := M.1.1
  have hb := M.1.2.1
  have hl : lv_has ls 3 [(0, .ref a0), (1, .long y0)] := hl
  refine lv_lload_n hx hb dX12_writeWord_0 rfl (lv_at hl 1 rfl) ?_
  refine lv_ldc2 (v := 27) hx hb M.1.2.2.2.1 (M.1.2.2.2.2 _ G1641) dX12_writeWord_1 ?_
  refine r_lcmp (v := lg_cmp y0 27) M rfl dX12_writeWord_4 ?_
  refine lv_if_lt (tgt := 17) hx hb dX12_writeWord_5 (by decide) (fun c_1 => ?_) (fun c_1 => ?_)
  · refine lv_aload_n hx hb dX12_writeWord_17 rfl (lv_at hl 0 rfl) ?_
    refine lv_bipush (v := iI 96) hx hb dX12_writeWord_18 (by decide +kernel) ?_
    refine lv_lload_n hx hb dX12_writeWord_20 rfl (lv_at hl 1 rfl) ?_
    refine lv_ldc2 (v := 27) hx hb M.1.2.2.2.1 (M.1.2.2.2.2 _ G1641) dX12_writeWord_21 ?_
    refine r_lrem (v := _) M rfl (by decide) dX12_writeWord_24 ?_
    refine b_anyl (fun fy2 => ?_)
    refine lv_l2i (v := _) hx hb dX12_writeWord_25 rfl ?_
    refine b_any (fun z3 z3_a z3_b => ?_)
    refine r_iadd (v := _) M rfl dX12_writeWord_26 ?_
    refine b_any (fun z4 z4_a z4_b => ?_)
    refine k_V (ce := 0) (sl := 0) (rest := []) (wr := []) (r_V (f := 0) [0, 1] M w V_HookedCityModel_345 G1940 G96 (c151_X12_write l D T _ a0 z4 r0 a1 x0 x1 x2 x3 x4 x5 r1 x6 x7 x8 y1 x9 a2 a3 a4 a5 a6 a7 a8 a9 a10 a11 x10 a12 a13 a14 a15 x11 r2 r3 a16 x12 x13 a17 a18 x14 a19 x15 r4 a20 a21 x16 r5 a22 x17 x18 x19 x20 f0 z4_a z4_b x0_a x0_b x1_a x1_b x2_a x2_b x3_a x3_b x4_a x4_b x5_a x5_b x6_a x6_b x7_a x7_b x8_a x8_b x9_a x9_b x10_a x10_b x11_a x11_b x12_a x12_b x13_a x13_b x14_a x14_b (by omega) (by omega) x16_a x16_b x17_a x17_b x18_a x18_b x19_a x19_b x20_a x20_b) 0 clX12 rfl rfl (by decide) rfl hl.1 rfl (Nat.le_of_ble_eq_true rfl) dX12_writeWord_27 (by decide) (by decide) (by decide) (by decide)) w [0, 1] [] rfl rfl (by decide) (by decide) rfl rfl (fun u H locs hp w => ?_)
    obtain ⟨z5, ff6⟩ := u
    have z5_a : 0 ≤ z5 := hp.1
    have z5_b : z5 ≤ 64 := hp.2.1
    have ee7 : 0 ≤ ((z5 - x15) - 1) := hp.2.2.1
    have ee8 : 0 ≤ ((x15 + 1) - z5) := hp.2.2.2
    have w : WD D A s.heap [(a0, .inr (11, [.int r0, .ref a1, .int (iI x0), .int (iI x1), .int (iI x2), .int (iI x3), .int (iI x4), .int (iI x5), .int r1, .int (iI x6), .int (iI x7), .int (iI x8), .long y1, .int (iI x9), .ref a2, .ref a3, .ref a4, .ref a5, .ref a6, .ref a7, .ref a8, .ref a9, .ref a10, .ref a11, .int (iI x10), .ref a12, .ref a13, .ref a14, .ref a15, .int (iI x11), .int r2, .int r3, .ref a16, .int (iI x12), .int (iI x13), .ref a17, .ref a18, .int (iI x14), .ref a19, .int (iI z5), .int r4, .ref a20, .ref a21, .int (iI x16), .int r5, .ref a22, .int (iI x17), .int (iI x18), .int (iI x19), .int (iI x20)])), (a19, .inl (T 0, 64, .inl ff6))] H locs := w
    exact ret (z5, ff6) _ _ _ _ _ [0, 1] dX12_writeWord_30 ⟨z5_a, z5_b, (show 0 ≤ ((x15 + 12) - z5) from by omega), (show 0 ≤ (z5 - x15) from by omega)⟩ w (by decide) rfl
  · refine lv_aload_n hx hb dX12_writeWord_8 rfl (lv_at hl 0 rfl) ?_
    refine lv_lload_n hx hb dX12_writeWord_9 rfl (lv_at hl 1 rfl) ?_
    refine lv_ldc2 (v := 27) hx hb M.1.2.2.2.1 (M.1.2.2.2.2 _ G1641) dX12_writeWord_10 ?_
    refine r_ldiv (v := y0 / 27) M rfl (by decide) dX12_writeWord_13 ?_
    refine k_V (ce := 0) (sl := 0) (rest := []) (wr := []) (r_V (f := 11) [0, 1] M w V_HookedCityModel_341 G1936 G95 (c162_X12_writeWord l D T _ a0 (y0 / 27) r0 a1 x0 x1 x2 x3 x4 x5 r1 x6 x7 x8 y1 x9 a2 a3 a4 a5 a6 a7 a8 a9 a10 a11 x10 a12 a13 a14 a15 x11 r2 r3 a16 x12 x13 a17 a18 x14 a19 x15 r4 a20 a21 x16 r5 a22 x17 x18 x19 x20 f0 x0_a x0_b x1_a x1_b x2_a x2_b x3_a x3_b x4_a x4_b x5_a x5_b x6_a x6_b x7_a x7_b x8_a x8_b x9_a x9_b x10_a x10_b x11_a x11_b x12_a x12_b x13_a x13_b x14_a x14_b x15_a x15_b x16_a x16_b x17_a x17_b x18_a x18_b x19_a x19_b x20_a x20_b (l27 c_1 (by omega)) (by omega)) 0 clX12 rfl rfl (by decide) rfl hl.1 rfl (Nat.le_of_ble_eq_true rfl) dX12_writeWord_14 (by decide) (by decide) (by decide) (by decide)) w [0, 1] [] rfl rfl (by decide) (by decide) rfl rfl (fun u H locs hp w => ?_)
    obtain ⟨z9, ff10⟩ := u
    have z9_a : 0 ≤ z9 := hp.1
    have z9_b : z9 ≤ 64 := hp.2.1
    have ee11 : 0 ≤ ((x15 + 11) - z9) := hp.2.2.1
    have ee12 : 0 ≤ (z9 - x15) := hp.2.2.2
    have w : WD D A s.heap [(a0, .inr (11, [.int r0, .ref a1, .int (iI x0), .int (iI x1), .int (iI x2), .int (iI x3), .int (iI x4), .int (iI x5), .int r1, .int (iI x6), .int (iI x7), .int (iI x8), .long y1, .int (iI x9), .ref a2, .ref a3, .ref a4, .ref a5, .ref a6, .ref a7, .ref a8, .ref a9, .ref a10, .ref a11, .int (iI x10), .ref a12, .ref a13, .ref a14, .ref a15, .int (iI x11), .int r2, .int r3, .ref a16, .int (iI x12), .int (iI x13), .ref a17, .ref a18, .int (iI x14), .ref a19, .int (iI z9), .int r4, .ref a20, .ref a21, .int (iI x16), .int r5, .ref a22, .int (iI x17), .int (iI x18), .int (iI x19), .int (iI x20)])), (a19, .inl (T 0, 64, .inl ff10))] H locs := w
    refine lv_aload_n hx hb dX12_writeWord_17 rfl (lv_at hl 0 rfl) ?_
    refine lv_bipush (v := iI 96) hx hb dX12_writeWord_18 (by decide +kernel) ?_
    refine lv_lload_n hx hb dX12_writeWord_20 rfl (lv_at hl 1 rfl) ?_
    refine lv_ldc2 (v := 27) hx hb M.1.2.2.2.1 (M.1.2.2.2.2 _ G1641) dX12_writeWord_21 ?_
    refine r_lrem (v := _) M rfl (by decide) dX12_writeWord_24 ?_
    refine b_anyl (fun fy13 => ?_)
    refine lv_l2i (v := _) hx hb dX12_writeWord_25 rfl ?_
    refine b_any (fun z14 z14_a z14_b => ?_)
    refine r_iadd (v := _) M rfl dX12_writeWord_26 ?_
    refine b_any (fun z15 z15_a z15_b => ?_)
    refine k_V (ce := 0) (sl := 0) (rest := []) (wr := []) (r_V (f := 0) [0, 1] M w V_HookedCityModel_345 G1940 G96 (c151_X12_write l D T _ a0 z15 r0 a1 x0 x1 x2 x3 x4 x5 r1 x6 x7 x8 y1 x9 a2 a3 a4 a5 a6 a7 a8 a9 a10 a11 x10 a12 a13 a14 a15 x11 r2 r3 a16 x12 x13 a17 a18 x14 a19 z9 r4 a20 a21 x16 r5 a22 x17 x18 x19 x20 ff10 z15_a z15_b x0_a x0_b x1_a x1_b x2_a x2_b x3_a x3_b x4_a x4_b x5_a x5_b x6_a x6_b x7_a x7_b x8_a x8_b x9_a x9_b x10_a x10_b x11_a x11_b x12_a x12_b x13_a x13_b x14_a x14_b (by omega) (by omega) x16_a x16_b x17_a x17_b x18_a x18_b x19_a x19_b x20_a x20_b) 0 clX12 rfl rfl (by decide) rfl hl.1 rfl (Nat.le_of_ble_eq_true rfl) dX12_writeWord_27 (by decide) (by decide) (by decide) (by decide)) w [0, 1] [] rfl rfl (by decide) (by decide) rfl rfl (fun u H locs hp w => ?_)
    obtain ⟨z16, ff17⟩ := u
    have z16_a : 0 ≤ z16 := hp.1
    have z16_b : z16 ≤ 64 := hp.2.1
    have ee18 : 0 ≤ ((z16 - z9) - 1) := hp.2.2.1
    have ee19 : 0 ≤ ((z9 + 1) - z16) := hp.2.2.2
    have w : WD D A s.heap [(a0, .inr (11, [.int r0, .ref a1, .int (iI x0), .int (iI x1), .int (iI x2), .int (iI x3), .int (iI x4), .int (iI x5), .int r1, .int (iI x6), .int (iI x7), .int (iI x8), .long y1, .int (iI x9), .ref a2, .ref a3, .ref a4, .ref a5, .ref a6, .ref a7, .ref a8, .ref a9, .ref a10, .ref a11, .int (iI x10), .ref a12, .ref a13, .ref a14, .ref a15, .int (iI x11), .int r2, .int r3, .ref a16, .int (iI x12), .int (iI x13), .ref a17, .ref a18, .int (iI x14), .ref a19, .int (iI z16), .int r4, .ref a20, .ref a21, .int (iI x16), .int r5, .ref a22, .int (iI x17), .int (iI x18), .int (iI x19), .int (iI x20)])), (a19, .inl (T 0, 64, .inl ff17))] H locs := w
    exact ret (z16, ff17) _ _ _ _ _ [0, 1] dX12_writeWord_30 ⟨z16_a, z16_b, (show 0 ≤ ((x15 + 12) - z16) from by omega), (show 0 ≤ (z16 - x15) from by omega)⟩ w (by decide) rfl
set_option maxRecDepth 100000 in
set_option maxHeartbeats 4000000 in
theorem c164_X12_writeWord (l : Launch) (D : va_G) (T : Nat → ClassId) (sz : Nat) (a0 : Nat) (y0 : Int64) (r0 : Int32) (a1 : Nat) (x0 : Int) (x1 : Int) (x2 : Int) (x3 : Int) (x4 : Int) (x5 : Int) (r1 : Int32) (x6 : Int) (x7 : Int) (x8 : Int) (y1 : Int64) (x9 : Int) (a2 : Nat) (a3 : Nat) (a4 : Nat) (a5 : Nat) (a6 : Nat) (a7 : Nat) (a8 : Nat) (a9 : Nat) (a10 : Nat) (a11 : Nat) (x10 : Int) (a12 : Nat) (a13 : Nat) (a14 : Nat) (a15 : Nat) (x11 : Int) (r2 : Int32) (r3 : Int32) (a16 : Nat) (x12 : Int) (x13 : Int) (a17 : Nat) (a18 : Nat) (x14 : Int) (a19 : Nat) (x15 : Int) (r4 : Int32) (a20 : Nat) (a21 : Nat) (x16 : Int) (r5 : Int32) (a22 : Nat) (x17 : Int) (x18 : Int) (x19 : Int) (x20 : Int) (f0 : Nat → Int32) (x0_a : 0 ≤ x0) (x0_b : x0 ≤ 940) (x1_a : 0 ≤ x1) (x1_b : x1 ≤ 940) (x2_a : 0 ≤ x2) (x2_b : x2 ≤ 940) (x3_a : 0 ≤ x3) (x3_b : x3 ≤ 940) (x4_a : 0 ≤ x4) (x4_b : x4 ≤ 940) (x5_a : 0 ≤ x5) (x5_b : x5 ≤ 4) (x6_a : (-2147483648) ≤ x6) (x6_b : x6 ≤ 2147483647) (x7_a : (-2147483648) ≤ x7) (x7_b : x7 ≤ 2147483647) (x8_a : 0 ≤ x8) (x8_b : x8 ≤ 940) (x9_a : (-2147483648) ≤ x9) (x9_b : x9 ≤ 2147483647) (x10_a : 0 ≤ x10) (x10_b : x10 ≤ 8) (x11_a : 0 ≤ x11) (x11_b : x11 ≤ 9) (x12_a : (-1) ≤ x12) (x12_b : x12 ≤ 9) (x13_a : (-1) ≤ x13) (x13_b : x13 ≤ 8) (x14_a : 0 ≤ x14) (x14_b : x14 ≤ 9) (x15_a : 0 ≤ x15) (x15_b : x15 ≤ 64) (x16_a : 0 ≤ x16) (x16_b : x16 ≤ 40) (x17_a : 0 ≤ x17) (x17_b : x17 ≤ 40) (x18_a : 0 ≤ x18) (x18_b : x18 ≤ 20) (x19_a : 0 ≤ x19) (x19_b : x19 ≤ 8) (x20_a : 0 ≤ x20) (x20_b : x20 ≤ 39) (pp_w : (y0).toInt < 4052555153018976267) (pr_0 : 0 ≤ (51 - x15)) : Met l yX12_writeWord (Cond.code yX12_writeWord cX12_writeWord 3 none :: GW) (Rm 13 0 0) (cPre [.ref a0, .long y0] D T [(a0, .inr (11, [.int r0, .ref a1, .int (iI x0), .int (iI x1), .int (iI x2), .int (iI x3), .int (iI x4), .int (iI x5), .int r1, .int (iI x6), .int (iI x7), .int (iI x8), .long y1, .int (iI x9), .ref a2, .ref a3, .ref a4, .ref a5, .ref a6, .ref a7, .ref a8, .ref a9, .ref a10, .ref a11, .int (iI x10), .ref a12, .ref a13, .ref a14, .ref a15, .int (iI x11), .int r2, .int r3, .ref a16, .int (iI x12), .int (iI x13), .ref a17, .ref a18, .int (iI x14), .ref a19, .int (iI x15), .int r4, .ref a20, .ref a21, .int (iI x16), .int r5, .ref a22, .int (iI x17), .int (iI x18), .int (iI x19), .int (iI x20)])), (a19, .inl (T 0, 64, .inl f0))] sz) (qV D [(a0, .inr (11, [.int r0, .ref a1, .int (iI x0), .int (iI x1), .int (iI x2), .int (iI x3), .int (iI x4), .int (iI x5), .int r1, .int (iI x6), .int (iI x7), .int (iI x8), .long y1, .int (iI x9), .ref a2, .ref a3, .ref a4, .ref a5, .ref a6, .ref a7, .ref a8, .ref a9, .ref a10, .ref a11, .int (iI x10), .ref a12, .ref a13, .ref a14, .ref a15, .int (iI x11), .int r2, .int r3, .ref a16, .int (iI x12), .int (iI x13), .ref a17, .ref a18, .int (iI x14), .ref a19, .int (iI x15), .int r4, .ref a20, .ref a21, .int (iI x16), .int r5, .ref a22, .int (iI x17), .int (iI x18), .int (iI x19), .int (iI x20)])), (a19, .inl (T 0, 64, .inl f0))] sz (fun (u : Int × (Nat → Int32)) => 0 ≤ u.1 ∧ u.1 ≤ 64 ∧ 0 ≤ ((x15 + 13) - u.1) ∧ 0 ≤ (u.1 - x15)) (fun u => [(a0, .inr (11, [.int r0, .ref a1, .int (iI x0), .int (iI x1), .int (iI x2), .int (iI x3), .int (iI x4), .int (iI x5), .int r1, .int (iI x6), .int (iI x7), .int (iI x8), .long y1, .int (iI x9), .ref a2, .ref a3, .ref a4, .ref a5, .ref a6, .ref a7, .ref a8, .ref a9, .ref a10, .ref a11, .int (iI x10), .ref a12, .ref a13, .ref a14, .ref a15, .int (iI x11), .int r2, .int r3, .ref a16, .int (iI x12), .int (iI x13), .ref a17, .ref a18, .int (iI x14), .ref a19, .int (iI u.1), .int r4, .ref a20, .ref a21, .int (iI x16), .int r5, .ref a22, .int (iI x17), .int (iI x18), .int (iI x19), .int (iI x20)])), (a19, .inl (T 0, 64, .inl u.2))])) 0 0 (va_A [(a0, .inr (11, [.int r0, .ref a1, .int (iI x0), .int (iI x1), .int (iI x2), .int (iI x3), .int (iI x4), .int (iI x5), .int r1, .int (iI x6), .int (iI x7), .int (iI x8), .long y1, .int (iI x9), .ref a2, .ref a3, .ref a4, .ref a5, .ref a6, .ref a7, .ref a8, .ref a9, .ref a10, .ref a11, .int (iI x10), .ref a12, .ref a13, .ref a14, .ref a15, .int (iI x11), .int r2, .int r3, .ref a16, .int (iI x12), .int (iI x13), .ref a17, .ref a18, .int (iI x14), .ref a19, .int (iI x15), .int r4, .ref a20, .ref a21, .int (iI x16), .int r5, .ref a22, .int (iI x17), .int (iI x18), .int (iI x19), .int (iI x20)])), (a19, .inl (T 0, 64, .inl f0))] sz) := by
  refine e_V (by decide) (Nat.le_of_ble_eq_true rfl) ?_
  intro p e s m args below meth c A Q ls M hin w ret hl
  have hx := M.1.1
  have hb := M.1.2.1
  have hl : lv_has ls 3 [(0, .ref a0), (1, .long y0)] := hl
  refine lv_lload_n hx hb dX12_writeWord_0 rfl (lv_at hl 1 rfl) ?_
  refine lv_ldc2 (v := 27) hx hb M.1.2.2.2.1 (M.1.2.2.2.2 _ G1641) dX12_writeWord_1 ?_
  refine r_lcmp (v := lg_cmp y0 27) M rfl dX12_writeWord_4 ?_
  refine lv_if_lt (tgt := 17) hx hb dX12_writeWord_5 (by decide) (fun c_1 => ?_) (fun c_1 => ?_)
  · refine lv_aload_n hx hb dX12_writeWord_17 rfl (lv_at hl 0 rfl) ?_
    refine lv_bipush (v := iI 96) hx hb dX12_writeWord_18 (by decide +kernel) ?_
    refine lv_lload_n hx hb dX12_writeWord_20 rfl (lv_at hl 1 rfl) ?_
    refine lv_ldc2 (v := 27) hx hb M.1.2.2.2.1 (M.1.2.2.2.2 _ G1641) dX12_writeWord_21 ?_
    refine r_lrem (v := _) M rfl (by decide) dX12_writeWord_24 ?_
    refine b_anyl (fun fy2 => ?_)
    refine lv_l2i (v := _) hx hb dX12_writeWord_25 rfl ?_
    refine b_any (fun z3 z3_a z3_b => ?_)
    refine r_iadd (v := _) M rfl dX12_writeWord_26 ?_
    refine b_any (fun z4 z4_a z4_b => ?_)
    refine k_V (ce := 0) (sl := 0) (rest := []) (wr := []) (r_V (f := 0) [0, 1] M w V_HookedCityModel_345 G1940 G96 (c151_X12_write l D T _ a0 z4 r0 a1 x0 x1 x2 x3 x4 x5 r1 x6 x7 x8 y1 x9 a2 a3 a4 a5 a6 a7 a8 a9 a10 a11 x10 a12 a13 a14 a15 x11 r2 r3 a16 x12 x13 a17 a18 x14 a19 x15 r4 a20 a21 x16 r5 a22 x17 x18 x19 x20 f0 z4_a z4_b x0_a x0_b x1_a x1_b x2_a x2_b x3_a x3_b x4_a x4_b x5_a x5_b x6_a x6_b x7_a x7_b x8_a x8_b x9_a x9_b x10_a x10_b x11_a x11_b x12_a x12_b x13_a x13_b x14_a x14_b (by omega) (by omega) x16_a x16_b x17_a x17_b x18_a x18_b x19_a x19_b x20_a x20_b) 0 clX12 rfl rfl (by decide) rfl hl.1 rfl (Nat.le_of_ble_eq_true rfl) dX12_writeWord_27 (by decide) (by decide) (by decide) (by decide)) w [0, 1] [] rfl rfl (by decide) (by decide) rfl rfl (fun u H locs hp w => ?_)
    obtain ⟨z5, ff6⟩ := u
    have z5_a : 0 ≤ z5 := hp.1
    have z5_b : z5 ≤ 64 := hp.2.1
    have ee7 : 0 ≤ ((z5 - x15) - 1) := hp.2.2.1
    have ee8 : 0 ≤ ((x15 + 1) - z5) := hp.2.2.2
    have w : WD D A s.heap [(a0, .inr (11, [.int r0, .ref a1, .int (iI x0), .int (iI x1), .int (iI x2), .int (iI x3), .int (iI x4), .int (iI x5), .int r1, .int (iI x6), .int (iI x7), .int (iI x8), .long y1, .int (iI x9), .ref a2, .ref a3, .ref a4, .ref a5, .ref a6, .ref a7, .ref a8, .ref a9, .ref a10, .ref a11, .int (iI x10), .ref a12, .ref a13, .ref a14, .ref a15, .int (iI x11), .int r2, .int r3, .ref a16, .int (iI x12), .int (iI x13), .ref a17, .ref a18, .int (iI x14), .ref a19, .int (iI z5), .int r4, .ref a20, .ref a21, .int (iI x16), .int r5, .ref a22, .int (iI x17), .int (iI x18), .int (iI x19), .int (iI x20)])), (a19, .inl (T 0, 64, .inl ff6))] H locs := w
    exact ret (z5, ff6) _ _ _ _ _ [0, 1] dX12_writeWord_30 ⟨z5_a, z5_b, (show 0 ≤ ((x15 + 13) - z5) from by omega), (show 0 ≤ (z5 - x15) from by omega)⟩ w (by decide) rfl
  · refine lv_aload_n hx hb dX12_writeWord_8 rfl (lv_at hl 0 rfl) ?_
    refine lv_lload_n hx hb dX12_writeWord_9 rfl (lv_at hl 1 rfl) ?_
    refine lv_ldc2 (v := 27) hx hb M.1.2.2.2.1 (M.1.2.2.2.2 _ G1641) dX12_writeWord_10 ?_
    refine r_ldiv (v := y0 / 27) M rfl (by decide) dX12_writeWord_13 ?_
    refine k_V (ce := 0) (sl := 0) (rest := []) (wr := []) (r_V (f := 12) [0, 1] M w V_HookedCityModel_341 G1936 G95 (c163_X12_writeWord l D T _ a0 (y0 / 27) r0 a1 x0 x1 x2 x3 x4 x5 r1 x6 x7 x8 y1 x9 a2 a3 a4 a5 a6 a7 a8 a9 a10 a11 x10 a12 a13 a14 a15 x11 r2 r3 a16 x12 x13 a17 a18 x14 a19 x15 r4 a20 a21 x16 r5 a22 x17 x18 x19 x20 f0 x0_a x0_b x1_a x1_b x2_a x2_b x3_a x3_b x4_a x4_b x5_a x5_b x6_a x6_b x7_a x7_b x8_a x8_b x9_a x9_b x10_a x10_b x11_a x11_b x12_a x12_b x13_a x13_b x14_a x14_b x15_a x15_b x16_a x16_b x17_a x17_b x18_a x18_b x19_a x19_b x20_a x20_b (l27 c_1 (by omega)) (by omega)) 0 clX12 rfl rfl (by decide) rfl hl.1 rfl (Nat.le_of_ble_eq_true rfl) dX12_writeWord_14 (by decide) (by decide) (by decide) (by decide)) w [0, 1] [] rfl rfl (by decide) (by decide) rfl rfl (fun u H locs hp w => ?_)
    obtain ⟨z9, ff10⟩ := u
    have z9_a : 0 ≤ z9 := hp.1
    have z9_b : z9 ≤ 64 := hp.2.1
    have ee11 : 0 ≤ ((x15 + 12) - z9) := hp.2.2.1
    have ee12 : 0 ≤ (z9 - x15) := hp.2.2.2
    have w : WD D A s.heap [(a0, .inr (11, [.int r0, .ref a1, .int (iI x0), .int (iI x1), .int (iI x2), .int (iI x3), .int (iI x4), .int (iI x5), .int r1, .int (iI x6), .int (iI x7), .int (iI x8), .long y1, .int (iI x9), .ref a2, .ref a3, .ref a4, .ref a5, .ref a6, .ref a7, .ref a8, .ref a9, .ref a10, .ref a11, .int (iI x10), .ref a12, .ref a13, .ref a14, .ref a15, .int (iI x11), .int r2, .int r3, .ref a16, .int (iI x12), .int (iI x13), .ref a17, .ref a18, .int (iI x14), .ref a19, .int (iI z9), .int r4, .ref a20, .ref a21, .int (iI x16), .int r5, .ref a22, .int (iI x17), .int (iI x18), .int (iI x19), .int (iI x20)])), (a19, .inl (T 0, 64, .inl ff10))] H locs := w
    refine lv_aload_n hx hb dX12_writeWord_17 rfl (lv_at hl 0 rfl) ?_
    refine lv_bipush (v := iI 96) hx hb dX12_writeWord_18 (by decide +kernel) ?_
    refine lv_lload_n hx hb dX12_writeWord_20 rfl (lv_at hl 1 rfl) ?_
    refine lv_ldc2 (v := 27) hx hb M.1.2.2.2.1 (M.1.2.2.2.2 _ G1641) dX12_writeWord_21 ?_
    refine r_lrem (v := _) M rfl (by decide) dX12_writeWord_24 ?_
    refine b_anyl (fun fy13 => ?_)
    refine lv_l2i (v := _) hx hb dX12_writeWord_25 rfl ?_
    refine b_any (fun z14 z14_a z14_b => ?_)
    refine r_iadd (v := _) M rfl dX12_writeWord_26 ?_
    refine b_any (fun z15 z15_a z15_b => ?_)
    refine k_V (ce := 0) (sl := 0) (rest := []) (wr := []) (r_V (f := 0) [0, 1] M w V_HookedCityModel_345 G1940 G96 (c151_X12_write l D T _ a0 z15 r0 a1 x0 x1 x2 x3 x4 x5 r1 x6 x7 x8 y1 x9 a2 a3 a4 a5 a6 a7 a8 a9 a10 a11 x10 a12 a13 a14 a15 x11 r2 r3 a16 x12 x13 a17 a18 x14 a19 z9 r4 a20 a21 x16 r5 a22 x17 x18 x19 x20 ff10 z15_a z15_b x0_a x0_b x1_a x1_b x2_a x2_b x3_a x3_b x4_a x4_b x5_a x5_b x6_a x6_b x7_a x7_b x8_a x8_b x9_a x9_b x10_a x10_b x11_a x11_b x12_a x12_b x13_a x13_b x14_a x14_b (by omega) (by omega) x16_a x16_b x17_a x17_b x18_a x18_b x19_a x19_b x20_a x20_b) 0 clX12 rfl rfl (by decide) rfl hl.1 rfl (Nat.le_of_ble_eq_true rfl) dX12_writeWord_27 (by decide) (by decide) (by decide) (by decide)) w [0, 1] [] rfl rfl (by decide) (by decide) rfl rfl (fun u H locs hp w => ?_)
    obtain ⟨z16, ff17⟩ := u
    have z16_a : 0 ≤ z16 := hp.1
    have z16_b : z16 ≤ 64 := hp.2.1
    have ee18 : 0 ≤ ((z16 - z9) - 1) := hp.2.2.1
    have ee19 : 0 ≤ ((z9 + 1) - z16) := hp.2.2.2
    have w : WD D A s.heap [(a0, .inr (11, [.int r0, .ref a1, .int (iI x0), .int (iI x1), .int (iI x2), .int (iI x3), .int (iI x4), .int (iI x5), .int r1, .int (iI x6), .int (iI x7), .int (iI x8), .long y1, .int (iI x9), .ref a2, .ref a3, .ref a4, .ref a5, .ref a6, .ref a7, .ref a8, .ref a9, .ref a10, .ref a11, .int (iI x10), .ref a12, .ref a13, .ref a14, .ref a15, .int (iI x11), .int r2, .int r3, .ref a16, .int (iI x12), .int (iI x13), .ref a17, .ref a18, .int (iI x14), .ref a19, .int (iI z16), .int r4, .ref a20, .ref a21, .int (iI x16), .int r5, .ref a22, .int (iI x17), .int (iI x18), .int (iI x19), .int (iI x20)])), (a19, .inl (T 0, 64, .inl ff17))] H locs := w
    exact ret (z16, ff17) _ _ _ _ _ [0, 1] dX12_writeWord_30 ⟨z16_a, z16_b, (show 0 ≤ ((x15 + 13) - z16) from by omega), (show 0 ≤ (z16 - x15) from by omega)⟩ w (by decide) rfl
set_option maxRecDepth 100000 in
set_option maxHeartbeats 4000000 in
theorem c165_X12_writeWord (l : Launch) (D : va_G) (T : Nat → ClassId) (sz : Nat) (a0 : Nat) (y0 : Int64) (r0 : Int32) (a1 : Nat) (x0 : Int) (x1 : Int) (x2 : Int) (x3 : Int) (x4 : Int) (x5 : Int) (r1 : Int32) (x6 : Int) (x7 : Int) (x8 : Int) (y1 : Int64) (x9 : Int) (a2 : Nat) (a3 : Nat) (a4 : Nat) (a5 : Nat) (a6 : Nat) (a7 : Nat) (a8 : Nat) (a9 : Nat) (a10 : Nat) (a11 : Nat) (x10 : Int) (a12 : Nat) (a13 : Nat) (a14 : Nat) (a15 : Nat) (x11 : Int) (r2 : Int32) (r3 : Int32) (a16 : Nat) (x12 : Int) (x13 : Int) (a17 : Nat) (a18 : Nat) (x14 : Int) (a19 : Nat) (x15 : Int) (r4 : Int32) (a20 : Nat) (a21 : Nat) (x16 : Int) (r5 : Int32) (a22 : Nat) (x17 : Int) (x18 : Int) (x19 : Int) (x20 : Int) (f0 : Nat → Int32) (x0_a : 0 ≤ x0) (x0_b : x0 ≤ 940) (x1_a : 0 ≤ x1) (x1_b : x1 ≤ 940) (x2_a : 0 ≤ x2) (x2_b : x2 ≤ 940) (x3_a : 0 ≤ x3) (x3_b : x3 ≤ 940) (x4_a : 0 ≤ x4) (x4_b : x4 ≤ 940) (x5_a : 0 ≤ x5) (x5_b : x5 ≤ 4) (x6_a : (-2147483648) ≤ x6) (x6_b : x6 ≤ 2147483647) (x7_a : (-2147483648) ≤ x7) (x7_b : x7 ≤ 2147483647) (x8_a : 0 ≤ x8) (x8_b : x8 ≤ 940) (x9_a : (-2147483648) ≤ x9) (x9_b : x9 ≤ 2147483647) (x10_a : 0 ≤ x10) (x10_b : x10 ≤ 8) (x11_a : 0 ≤ x11) (x11_b : x11 ≤ 9) (x12_a : (-1) ≤ x12) (x12_b : x12 ≤ 9) (x13_a : (-1) ≤ x13) (x13_b : x13 ≤ 8) (x14_a : 0 ≤ x14) (x14_b : x14 ≤ 9) (x15_a : 0 ≤ x15) (x15_b : x15 ≤ 64) (x16_a : 0 ≤ x16) (x16_b : x16 ≤ 40) (x17_a : 0 ≤ x17) (x17_b : x17 ≤ 40) (x18_a : 0 ≤ x18) (x18_b : x18 ≤ 20) (x19_a : 0 ≤ x19) (x19_b : x19 ≤ 8) (x20_a : 0 ≤ x20) (x20_b : x20 ≤ 39) (pp_w : (y0).toInt < 109418989131512359209) (pr_0 : 0 ≤ (50 - x15)) : Met l yX12_writeWord (Cond.code yX12_writeWord cX12_writeWord 3 none :: GW) (Rm 14 0 0) (cPre [.ref a0, .long y0] D T [(a0, .inr (11, [.int r0, .ref a1, .int (iI x0), .int (iI x1), .int (iI x2), .int (iI x3), .int (iI x4), .int (iI x5), .int r1, .int (iI x6), .int (iI x7), .int (iI x8), .long y1, .int (iI x9), .ref a2, .ref a3, .ref a4, .ref a5, .ref a6, .ref a7, .ref a8, .ref a9, .ref a10, .ref a11, .int (iI x10), .ref a12, .ref a13, .ref a14, .ref a15, .int (iI x11), .int r2, .int r3, .ref a16, .int (iI x12), .int (iI x13), .ref a17, .ref a18, .int (iI x14), .ref a19, .int (iI x15), .int r4, .ref a20, .ref a21, .int (iI x16), .int r5, .ref a22, .int (iI x17), .int (iI x18), .int (iI x19), .int (iI x20)])), (a19, .inl (T 0, 64, .inl f0))] sz) (qV D [(a0, .inr (11, [.int r0, .ref a1, .int (iI x0), .int (iI x1), .int (iI x2), .int (iI x3), .int (iI x4), .int (iI x5), .int r1, .int (iI x6), .int (iI x7), .int (iI x8), .long y1, .int (iI x9), .ref a2, .ref a3, .ref a4, .ref a5, .ref a6, .ref a7, .ref a8, .ref a9, .ref a10, .ref a11, .int (iI x10), .ref a12, .ref a13, .ref a14, .ref a15, .int (iI x11), .int r2, .int r3, .ref a16, .int (iI x12), .int (iI x13), .ref a17, .ref a18, .int (iI x14), .ref a19, .int (iI x15), .int r4, .ref a20, .ref a21, .int (iI x16), .int r5, .ref a22, .int (iI x17), .int (iI x18), .int (iI x19), .int (iI x20)])), (a19, .inl (T 0, 64, .inl f0))] sz (fun (u : Int × (Nat → Int32)) => 0 ≤ u.1 ∧ u.1 ≤ 64 ∧ 0 ≤ ((x15 + 14) - u.1) ∧ 0 ≤ (u.1 - x15)) (fun u => [(a0, .inr (11, [.int r0, .ref a1, .int (iI x0), .int (iI x1), .int (iI x2), .int (iI x3), .int (iI x4), .int (iI x5), .int r1, .int (iI x6), .int (iI x7), .int (iI x8), .long y1, .int (iI x9), .ref a2, .ref a3, .ref a4, .ref a5, .ref a6, .ref a7, .ref a8, .ref a9, .ref a10, .ref a11, .int (iI x10), .ref a12, .ref a13, .ref a14, .ref a15, .int (iI x11), .int r2, .int r3, .ref a16, .int (iI x12), .int (iI x13), .ref a17, .ref a18, .int (iI x14), .ref a19, .int (iI u.1), .int r4, .ref a20, .ref a21, .int (iI x16), .int r5, .ref a22, .int (iI x17), .int (iI x18), .int (iI x19), .int (iI x20)])), (a19, .inl (T 0, 64, .inl u.2))])) 0 0 (va_A [(a0, .inr (11, [.int r0, .ref a1, .int (iI x0), .int (iI x1), .int (iI x2), .int (iI x3), .int (iI x4), .int (iI x5), .int r1, .int (iI x6), .int (iI x7), .int (iI x8), .long y1, .int (iI x9), .ref a2, .ref a3, .ref a4, .ref a5, .ref a6, .ref a7, .ref a8, .ref a9, .ref a10, .ref a11, .int (iI x10), .ref a12, .ref a13, .ref a14, .ref a15, .int (iI x11), .int r2, .int r3, .ref a16, .int (iI x12), .int (iI x13), .ref a17, .ref a18, .int (iI x14), .ref a19, .int (iI x15), .int r4, .ref a20, .ref a21, .int (iI x16), .int r5, .ref a22, .int (iI x17), .int (iI x18), .int (iI x19), .int (iI x20)])), (a19, .inl (T 0, 64, .inl f0))] sz) := by
  refine e_V (by decide) (Nat.le_of_ble_eq_true rfl) ?_
  intro p e s m args below meth c A Q ls M hin w ret hl
  have hx := M.1.1
  have hb := M.1.2.1
  have hl : lv_has ls 3 [(0, .ref a0), (1, .long y0)] := hl
  refine lv_lload_n hx hb dX12_writeWord_0 rfl (lv_at hl 1 rfl) ?_
  refine lv_ldc2 (v := 27) hx hb M.1.2.2.2.1 (M.1.2.2.2.2 _ G1641) dX12_writeWord_1 ?_
  refine r_lcmp (v := lg_cmp y0 27) M rfl dX12_writeWord_4 ?_
  refine lv_if_lt (tgt := 17) hx hb dX12_writeWord_5 (by decide) (fun c_1 => ?_) (fun c_1 => ?_)
  · refine lv_aload_n hx hb dX12_writeWord_17 rfl (lv_at hl 0 rfl) ?_
    refine lv_bipush (v := iI 96) hx hb dX12_writeWord_18 (by decide +kernel) ?_
    refine lv_lload_n hx hb dX12_writeWord_20 rfl (lv_at hl 1 rfl) ?_
    refine lv_ldc2 (v := 27) hx hb M.1.2.2.2.1 (M.1.2.2.2.2 _ G1641) dX12_writeWord_21 ?_
    refine r_lrem (v := _) M rfl (by decide) dX12_writeWord_24 ?_
    refine b_anyl (fun fy2 => ?_)
    refine lv_l2i (v := _) hx hb dX12_writeWord_25 rfl ?_
    refine b_any (fun z3 z3_a z3_b => ?_)
    refine r_iadd (v := _) M rfl dX12_writeWord_26 ?_
    refine b_any (fun z4 z4_a z4_b => ?_)
    refine k_V (ce := 0) (sl := 0) (rest := []) (wr := []) (r_V (f := 0) [0, 1] M w V_HookedCityModel_345 G1940 G96 (c151_X12_write l D T _ a0 z4 r0 a1 x0 x1 x2 x3 x4 x5 r1 x6 x7 x8 y1 x9 a2 a3 a4 a5 a6 a7 a8 a9 a10 a11 x10 a12 a13 a14 a15 x11 r2 r3 a16 x12 x13 a17 a18 x14 a19 x15 r4 a20 a21 x16 r5 a22 x17 x18 x19 x20 f0 z4_a z4_b x0_a x0_b x1_a x1_b x2_a x2_b x3_a x3_b x4_a x4_b x5_a x5_b x6_a x6_b x7_a x7_b x8_a x8_b x9_a x9_b x10_a x10_b x11_a x11_b x12_a x12_b x13_a x13_b x14_a x14_b (by omega) (by omega) x16_a x16_b x17_a x17_b x18_a x18_b x19_a x19_b x20_a x20_b) 0 clX12 rfl rfl (by decide) rfl hl.1 rfl (Nat.le_of_ble_eq_true rfl) dX12_writeWord_27 (by decide) (by decide) (by decide) (by decide)) w [0, 1] [] rfl rfl (by decide) (by decide) rfl rfl (fun u H locs hp w => ?_)
    obtain ⟨z5, ff6⟩ := u
    have z5_a : 0 ≤ z5 := hp.1
    have z5_b : z5 ≤ 64 := hp.2.1
    have ee7 : 0 ≤ ((z5 - x15) - 1) := hp.2.2.1
    have ee8 : 0 ≤ ((x15 + 1) - z5) := hp.2.2.2
    have w : WD D A s.heap [(a0, .inr (11, [.int r0, .ref a1, .int (iI x0), .int (iI x1), .int (iI x2), .int (iI x3), .int (iI x4), .int (iI x5), .int r1, .int (iI x6), .int (iI x7), .int (iI x8), .long y1, .int (iI x9), .ref a2, .ref a3, .ref a4, .ref a5, .ref a6, .ref a7, .ref a8, .ref a9, .ref a10, .ref a11, .int (iI x10), .ref a12, .ref a13, .ref a14, .ref a15, .int (iI x11), .int r2, .int r3, .ref a16, .int (iI x12), .int (iI x13), .ref a17, .ref a18, .int (iI x14), .ref a19, .int (iI z5), .int r4, .ref a20, .ref a21, .int (iI x16), .int r5, .ref a22, .int (iI x17), .int (iI x18), .int (iI x19), .int (iI x20)])), (a19, .inl (T 0, 64, .inl ff6))] H locs := w
    exact ret (z5, ff6) _ _ _ _ _ [0, 1] dX12_writeWord_30 ⟨z5_a, z5_b, (show 0 ≤ ((x15 + 14) - z5) from by omega), (show 0 ≤ (z5 - x15) from by omega)⟩ w (by decide) rfl
  · refine lv_aload_n hx hb dX12_writeWord_8 rfl (lv_at hl 0 rfl) ?_
    refine lv_lload_n hx hb dX12_writeWord_9 rfl (lv_at hl 1 rfl) ?_
    refine lv_ldc2 (v := 27) hx hb M.1.2.2.2.1 (M.1.2.2.2.2 _ G1641) dX12_writeWord_10 ?_
    refine r_ldiv (v := y0 / 27) M rfl (by decide) dX12_writeWord_13 ?_
    refine k_V (ce := 0) (sl := 0) (rest := []) (wr := []) (r_V (f := 13) [0, 1] M w V_HookedCityModel_341 G1936 G95 (c164_X12_writeWord l D T _ a0 (y0 / 27) r0 a1 x0 x1 x2 x3 x4 x5 r1 x6 x7 x8 y1 x9 a2 a3 a4 a5 a6 a7 a8 a9 a10 a11 x10 a12 a13 a14 a15 x11 r2 r3 a16 x12 x13 a17 a18 x14 a19 x15 r4 a20 a21 x16 r5 a22 x17 x18 x19 x20 f0 x0_a x0_b x1_a x1_b x2_a x2_b x3_a x3_b x4_a x4_b x5_a x5_b x6_a x6_b x7_a x7_b x8_a x8_b x9_a x9_b x10_a x10_b x11_a x11_b x12_a x12_b x13_a x13_b x14_a x14_b x15_a x15_b x16_a x16_b x17_a x17_b x18_a x18_b x19_a x19_b x20_a x20_b (l27 c_1 (by omega)) (by omega)) 0 clX12 rfl rfl (by decide) rfl hl.1 rfl (Nat.le_of_ble_eq_true rfl) dX12_writeWord_14 (by decide) (by decide) (by decide) (by decide)) w [0, 1] [] rfl rfl (by decide) (by decide) rfl rfl (fun u H locs hp w => ?_)
    obtain ⟨z9, ff10⟩ := u
    have z9_a : 0 ≤ z9 := hp.1
    have z9_b : z9 ≤ 64 := hp.2.1
    have ee11 : 0 ≤ ((x15 + 13) - z9) := hp.2.2.1
    have ee12 : 0 ≤ (z9 - x15) := hp.2.2.2
    have w : WD D A s.heap [(a0, .inr (11, [.int r0, .ref a1, .int (iI x0), .int (iI x1), .int (iI x2), .int (iI x3), .int (iI x4), .int (iI x5), .int r1, .int (iI x6), .int (iI x7), .int (iI x8), .long y1, .int (iI x9), .ref a2, .ref a3, .ref a4, .ref a5, .ref a6, .ref a7, .ref a8, .ref a9, .ref a10, .ref a11, .int (iI x10), .ref a12, .ref a13, .ref a14, .ref a15, .int (iI x11), .int r2, .int r3, .ref a16, .int (iI x12), .int (iI x13), .ref a17, .ref a18, .int (iI x14), .ref a19, .int (iI z9), .int r4, .ref a20, .ref a21, .int (iI x16), .int r5, .ref a22, .int (iI x17), .int (iI x18), .int (iI x19), .int (iI x20)])), (a19, .inl (T 0, 64, .inl ff10))] H locs := w
    refine lv_aload_n hx hb dX12_writeWord_17 rfl (lv_at hl 0 rfl) ?_
    refine lv_bipush (v := iI 96) hx hb dX12_writeWord_18 (by decide +kernel) ?_
    refine lv_lload_n hx hb dX12_writeWord_20 rfl (lv_at hl 1 rfl) ?_
    refine lv_ldc2 (v := 27) hx hb M.1.2.2.2.1 (M.1.2.2.2.2 _ G1641) dX12_writeWord_21 ?_
    refine r_lrem (v := _) M rfl (by decide) dX12_writeWord_24 ?_
    refine b_anyl (fun fy13 => ?_)
    refine lv_l2i (v := _) hx hb dX12_writeWord_25 rfl ?_
    refine b_any (fun z14 z14_a z14_b => ?_)
    refine r_iadd (v := _) M rfl dX12_writeWord_26 ?_
    refine b_any (fun z15 z15_a z15_b => ?_)
    refine k_V (ce := 0) (sl := 0) (rest := []) (wr := []) (r_V (f := 0) [0, 1] M w V_HookedCityModel_345 G1940 G96 (c151_X12_write l D T _ a0 z15 r0 a1 x0 x1 x2 x3 x4 x5 r1 x6 x7 x8 y1 x9 a2 a3 a4 a5 a6 a7 a8 a9 a10 a11 x10 a12 a13 a14 a15 x11 r2 r3 a16 x12 x13 a17 a18 x14 a19 z9 r4 a20 a21 x16 r5 a22 x17 x18 x19 x20 ff10 z15_a z15_b x0_a x0_b x1_a x1_b x2_a x2_b x3_a x3_b x4_a x4_b x5_a x5_b x6_a x6_b x7_a x7_b x8_a x8_b x9_a x9_b x10_a x10_b x11_a x11_b x12_a x12_b x13_a x13_b x14_a x14_b (by omega) (by omega) x16_a x16_b x17_a x17_b x18_a x18_b x19_a x19_b x20_a x20_b) 0 clX12 rfl rfl (by decide) rfl hl.1 rfl (Nat.le_of_ble_eq_true rfl) dX12_writeWord_27 (by decide) (by decide) (by decide) (by decide)) w [0, 1] [] rfl rfl (by decide) (by decide) rfl rfl (fun u H locs hp w => ?_)
    obtain ⟨z16, ff17⟩ := u
    have z16_a : 0 ≤ z16 := hp.1
    have z16_b : z16 ≤ 64 := hp.2.1
    have ee18 : 0 ≤ ((z16 - z9) - 1) := hp.2.2.1
    have ee19 : 0 ≤ ((z9 + 1) - z16) := hp.2.2.2
    have w : WD D A s.heap [(a0, .inr (11, [.int r0, .ref a1, .int (iI x0), .int (iI x1), .int (iI x2), .int (iI x3), .int (iI x4), .int (iI x5), .int r1, .int (iI x6), .int (iI x7), .int (iI x8), .long y1, .int (iI x9), .ref a2, .ref a3, .ref a4, .ref a5, .ref a6, .ref a7, .ref a8, .ref a9, .ref a10, .ref a11, .int (iI x10), .ref a12, .ref a13, .ref a14, .ref a15, .int (iI x11), .int r2, .int r3, .ref a16, .int (iI x12), .int (iI x13), .ref a17, .ref a18, .int (iI x14), .ref a19, .int (iI z16), .int r4, .ref a20, .ref a21, .int (iI x16), .int r5, .ref a22, .int (iI x17), .int (iI x18), .int (iI x19), .int (iI x20)])), (a19, .inl (T 0, 64, .inl ff17))] H locs := w
    exact ret (z16, ff17) _ _ _ _ _ [0, 1] dX12_writeWord_30 ⟨z16_a, z16_b, (show 0 ≤ ((x15 + 14) - z16) from by omega), (show 0 ≤ (z16 - x15) from by omega)⟩ w (by decide) rfl
set_option maxRecDepth 100000 in
set_option maxHeartbeats 4000000 in
theorem c166_X12_spelt (l : Launch) (D : va_G) (T : Nat → ClassId) (sz : Nat) : Met l yX12_spelt (Cond.code yX12_spelt cX12_spelt 9 (some .long) :: GW) (Rm 0 0 0) (cPre [.int (iI 105), .int (iI 110), .int (iI 0), .int (iI 0), .int (iI 0), .int (iI 0), .int (iI 0)] D T [] sz) (qL D [] sz (fun (v : Int64) (u : Unit) => (v = 257)) (fun u => [])) 0 0 (va_A [] sz) := by
  refine e_L (by decide) (Nat.le_of_ble_eq_true rfl) ?_
  intro p e s m args below meth c A Q ls M hin w ret hl
  have hx := M.1.1
  have hb := M.1.2.1
  have hl : lv_has ls 9 [(0, .int (iI 105)), (1, .int (iI 110)), (2, .int (iI 0)), (3, .int (iI 0)), (4, .int (iI 0)), (5, .int (iI 0)), (6, .int (iI 0))] := hl
  refine lv_ldc2 (v := 27) hx hb M.1.2.2.2.1 (M.1.2.2.2.2 _ G1641) dX12_spelt_0 ?_
  refine lv_iload_n hx hb dX12_spelt_3 rfl (lv_at hl 0 rfl) ?_
  refine lv_i2l (v := (Int32.toInt64 (iI 105))) hx hb dX12_spelt_4 rfl ?_
  refine lv_ldc2 (v := 96) hx hb M.1.2.2.2.1 (M.1.2.2.2.2 _ G1642) dX12_spelt_5 ?_
  refine r_lsub (v := ((Int32.toInt64 (iI 105)) - 96)) M rfl dX12_spelt_8 ?_
  refine r_lmul (v := (27 * ((Int32.toInt64 (iI 105)) - 96))) M rfl dX12_spelt_9 ?_
  refine lv_iload_n hx hb dX12_spelt_10 rfl (lv_at hl 1 rfl) ?_
  refine lv_i2l (v := (Int32.toInt64 (iI 110))) hx hb dX12_spelt_11 rfl ?_
  refine r_ladd (v := ((27 * ((Int32.toInt64 (iI 105)) - 96)) + (Int32.toInt64 (iI 110)))) M rfl dX12_spelt_12 ?_
  refine lv_ldc2 (v := 96) hx hb M.1.2.2.2.1 (M.1.2.2.2.2 _ G1642) dX12_spelt_13 ?_
  refine r_lsub (v := (((27 * ((Int32.toInt64 (iI 105)) - 96)) + (Int32.toInt64 (iI 110))) - 96)) M rfl dX12_spelt_16 ?_
  refine lv_lstore (lv' := [(7, .long (((27 * ((Int32.toInt64 (iI 105)) - 96)) + (Int32.toInt64 (iI 110))) - 96)), (0, .int (iI 105)), (1, .int (iI 110)), (2, .int (iI 0)), (3, .int (iI 0)), (4, .int (iI 0)), (5, .int (iI 0)), (6, .int (iI 0))]) hx hb dX12_spelt_17 hl (by decide) rfl (fun ls hl => ?_)
  refine lv_iload_n hx hb dX12_spelt_19 rfl (lv_at hl 3 rfl) ?_
  refine lv_if_le (tgt := 38) hx hb dX12_spelt_20 (by decide) (fun _ => ?_) (fun c => absurd (by decide +kernel) c)
  refine lv_iload_n hx hb dX12_spelt_38 rfl (lv_at hl 4 rfl) ?_
  refine lv_if_le (tgt := 57) hx hb dX12_spelt_39 (by decide) (fun _ => ?_) (fun c => absurd (by decide +kernel) c)
  refine lv_iload hx hb dX12_spelt_57 (lv_at hl 5 rfl) ?_
  refine lv_if_le (tgt := 78) hx hb dX12_spelt_59 (by decide) (fun _ => ?_) (fun c => absurd (by decide +kernel) c)
  refine lv_iload hx hb dX12_spelt_78 (lv_at hl 6 rfl) ?_
  refine lv_if_le (tgt := 99) hx hb dX12_spelt_80 (by decide) (fun _ => ?_) (fun c => absurd (by decide +kernel) c)
  refine lv_iload hx hb dX12_spelt_99 (lv_at hl 7 rfl) ?_
  refine lv_if_le (tgt := 120) hx hb dX12_spelt_101 (by decide) (fun _ => ?_) (fun c => absurd (by decide +kernel) c)
  refine lv_lload hx hb dX12_spelt_120 (lv_at hl 0 rfl) ?_
  exact ret _ () _ _ _ _ _ [] dX12_spelt_122 (show (((27 * ((Int32.toInt64 (iI 105)) - 96)) + (Int32.toInt64 (iI 110))) - 96) = 257 from (by decide +kernel)) w (by decide) rfl
set_option maxRecDepth 100000 in
set_option maxHeartbeats 4000000 in
theorem c167_X12_writeNext (l : Launch) (D : va_G) (T : Nat → ClassId) (sz : Nat) (a0 : Nat) (y0 : Int64) (r0 : Int32) (a1 : Nat) (x0 : Int) (x1 : Int) (x2 : Int) (x3 : Int) (x4 : Int) (x5 : Int) (r1 : Int32) (x6 : Int) (x7 : Int) (x8 : Int) (y1 : Int64) (x9 : Int) (a2 : Nat) (a3 : Nat) (a4 : Nat) (a5 : Nat) (a6 : Nat) (a7 : Nat) (a8 : Nat) (a9 : Nat) (a10 : Nat) (a11 : Nat) (x10 : Int) (a12 : Nat) (a13 : Nat) (a14 : Nat) (a15 : Nat) (x11 : Int) (r2 : Int32) (r3 : Int32) (a16 : Nat) (x12 : Int) (x13 : Int) (a17 : Nat) (a18 : Nat) (x14 : Int) (a19 : Nat) (x15 : Int) (r4 : Int32) (a20 : Nat) (a21 : Nat) (x16 : Int) (r5 : Int32) (a22 : Nat) (x17 : Int) (x18 : Int) (x19 : Int) (x20 : Int) (f0 : Nat → Int32) (x0_a : 0 ≤ x0) (x0_b : x0 ≤ 940) (x1_a : 0 ≤ x1) (x1_b : x1 ≤ 940) (x2_a : 0 ≤ x2) (x2_b : x2 ≤ 940) (x3_a : 0 ≤ x3) (x3_b : x3 ≤ 940) (x4_a : 0 ≤ x4) (x4_b : x4 ≤ 940) (x5_a : 0 ≤ x5) (x5_b : x5 ≤ 4) (x6_a : (-2147483648) ≤ x6) (x6_b : x6 ≤ 2147483647) (x7_a : (-2147483648) ≤ x7) (x7_b : x7 ≤ 2147483647) (x8_a : 0 ≤ x8) (x8_b : x8 ≤ 940) (x9_a : (-2147483648) ≤ x9) (x9_b : x9 ≤ 2147483647) (x10_a : 0 ≤ x10) (x10_b : x10 ≤ 8) (x11_a : 0 ≤ x11) (x11_b : x11 ≤ 9) (x12_a : (-1) ≤ x12) (x12_b : x12 ≤ 9) (x13_a : (-1) ≤ x13) (x13_b : x13 ≤ 8) (x14_a : 0 ≤ x14) (x14_b : x14 ≤ 9) (x15_a : 0 ≤ x15) (x15_b : x15 ≤ 64) (x16_a : 0 ≤ x16) (x16_b : x16 ≤ 40) (x17_a : 0 ≤ x17) (x17_b : x17 ≤ 40) (x18_a : 0 ≤ x18) (x18_b : x18 ≤ 20) (x19_a : 0 ≤ x19) (x19_b : x19 ≤ 8) (x20_a : 0 ≤ x20) (x20_b : x20 ≤ 39) (pr_0 : 0 ≤ (49 - x15)) : Met l yX12_writeNext (Cond.code yX12_writeNext cX12_writeNext 3 none :: GW) (Rm 15 0 0) (cPre [.ref a0, .long y0] D T [(a0, .inr (11, [.int r0, .ref a1, .int (iI x0), .int (iI x1), .int (iI x2), .int (iI x3), .int (iI x4), .int (iI x5), .int r1, .int (iI x6), .int (iI x7), .int (iI x8), .long y1, .int (iI x9), .ref a2, .ref a3, .ref a4, .ref a5, .ref a6, .ref a7, .ref a8, .ref a9, .ref a10, .ref a11, .int (iI x10), .ref a12, .ref a13, .ref a14, .ref a15, .int (iI x11), .int r2, .int r3, .ref a16, .int (iI x12), .int (iI x13), .ref a17, .ref a18, .int (iI x14), .ref a19, .int (iI x15), .int r4, .ref a20, .ref a21, .int (iI x16), .int r5, .ref a22, .int (iI x17), .int (iI x18), .int (iI x19), .int (iI x20)])), (a19, .inl (T 0, 64, .inl f0))] sz) (qV D [(a0, .inr (11, [.int r0, .ref a1, .int (iI x0), .int (iI x1), .int (iI x2), .int (iI x3), .int (iI x4), .int (iI x5), .int r1, .int (iI x6), .int (iI x7), .int (iI x8), .long y1, .int (iI x9), .ref a2, .ref a3, .ref a4, .ref a5, .ref a6, .ref a7, .ref a8, .ref a9, .ref a10, .ref a11, .int (iI x10), .ref a12, .ref a13, .ref a14, .ref a15, .int (iI x11), .int r2, .int r3, .ref a16, .int (iI x12), .int (iI x13), .ref a17, .ref a18, .int (iI x14), .ref a19, .int (iI x15), .int r4, .ref a20, .ref a21, .int (iI x16), .int r5, .ref a22, .int (iI x17), .int (iI x18), .int (iI x19), .int (iI x20)])), (a19, .inl (T 0, 64, .inl f0))] sz (fun (u : Int × (Nat → Int32)) => 0 ≤ u.1 ∧ u.1 ≤ 64 ∧ 0 ≤ ((x15 + 15) - u.1) ∧ 0 ≤ (u.1 - x15)) (fun u => [(a0, .inr (11, [.int r0, .ref a1, .int (iI x0), .int (iI x1), .int (iI x2), .int (iI x3), .int (iI x4), .int (iI x5), .int r1, .int (iI x6), .int (iI x7), .int (iI x8), .long y1, .int (iI x9), .ref a2, .ref a3, .ref a4, .ref a5, .ref a6, .ref a7, .ref a8, .ref a9, .ref a10, .ref a11, .int (iI x10), .ref a12, .ref a13, .ref a14, .ref a15, .int (iI x11), .int r2, .int r3, .ref a16, .int (iI x12), .int (iI x13), .ref a17, .ref a18, .int (iI x14), .ref a19, .int (iI u.1), .int r4, .ref a20, .ref a21, .int (iI x16), .int r5, .ref a22, .int (iI x17), .int (iI x18), .int (iI x19), .int (iI x20)])), (a19, .inl (T 0, 64, .inl u.2))])) 0 0 (va_A [(a0, .inr (11, [.int r0, .ref a1, .int (iI x0), .int (iI x1), .int (iI x2), .int (iI x3), .int (iI x4), .int (iI x5), .int r1, .int (iI x6), .int (iI x7), .int (iI x8), .long y1, .int (iI x9), .ref a2, .ref a3, .ref a4, .ref a5, .ref a6, .ref a7, .ref a8, .ref a9, .ref a10, .ref a11, .int (iI x10), .ref a12, .ref a13, .ref a14, .ref a15, .int (iI x11), .int r2, .int r3, .ref a16, .int (iI x12), .int (iI x13), .ref a17, .ref a18, .int (iI x14), .ref a19, .int (iI x15), .int r4, .ref a20, .ref a21, .int (iI x16), .int r5, .ref a22, .int (iI x17), .int (iI x18), .int (iI x19), .int (iI x20)])), (a19, .inl (T 0, 64, .inl f0))] sz) := by
  refine e_V (by decide) (Nat.le_of_ble_eq_true rfl) ?_
  intro p e s m args below meth c A Q ls M hin w ret hl
  have hx := M.1.1
  have hb := M.1.2.1
  have hl : lv_has ls 3 [(0, .ref a0), (1, .long y0)] := hl
  refine lv_aload_n hx hb dX12_writeNext_0 rfl (lv_at hl 0 rfl) ?_
  refine lv_bipush (v := iI 32) hx hb dX12_writeNext_1 (by decide +kernel) ?_
  refine k_V (ce := 0) (sl := 0) (rest := []) (wr := []) (r_V (f := 0) [0, 1] M w V_HookedCityModel_345 G1940 G96 (c151_X12_write l D T _ a0 32 r0 a1 x0 x1 x2 x3 x4 x5 r1 x6 x7 x8 y1 x9 a2 a3 a4 a5 a6 a7 a8 a9 a10 a11 x10 a12 a13 a14 a15 x11 r2 r3 a16 x12 x13 a17 a18 x14 a19 x15 r4 a20 a21 x16 r5 a22 x17 x18 x19 x20 f0 (by decide) (by decide) x0_a x0_b x1_a x1_b x2_a x2_b x3_a x3_b x4_a x4_b x5_a x5_b x6_a x6_b x7_a x7_b x8_a x8_b x9_a x9_b x10_a x10_b x11_a x11_b x12_a x12_b x13_a x13_b x14_a x14_b (by omega) (by omega) x16_a x16_b x17_a x17_b x18_a x18_b x19_a x19_b x20_a x20_b) 0 clX12 rfl rfl (by decide) rfl hl.1 rfl (Nat.le_of_ble_eq_true rfl) dX12_writeNext_3 (by decide) (by decide) (by decide) (by decide)) w [0, 1] [] rfl rfl (by decide) (by decide) rfl rfl (fun u H locs hp w => ?_)
  obtain ⟨z1, ff2⟩ := u
  have z1_a : 0 ≤ z1 := hp.1
  have z1_b : z1 ≤ 64 := hp.2.1
  have ee3 : 0 ≤ ((z1 - x15) - 1) := hp.2.2.1
  have ee4 : 0 ≤ ((x15 + 1) - z1) := hp.2.2.2
  have w : WD D A s.heap [(a0, .inr (11, [.int r0, .ref a1, .int (iI x0), .int (iI x1), .int (iI x2), .int (iI x3), .int (iI x4), .int (iI x5), .int r1, .int (iI x6), .int (iI x7), .int (iI x8), .long y1, .int (iI x9), .ref a2, .ref a3, .ref a4, .ref a5, .ref a6, .ref a7, .ref a8, .ref a9, .ref a10, .ref a11, .int (iI x10), .ref a12, .ref a13, .ref a14, .ref a15, .int (iI x11), .int r2, .int r3, .ref a16, .int (iI x12), .int (iI x13), .ref a17, .ref a18, .int (iI x14), .ref a19, .int (iI z1), .int r4, .ref a20, .ref a21, .int (iI x16), .int r5, .ref a22, .int (iI x17), .int (iI x18), .int (iI x19), .int (iI x20)])), (a19, .inl (T 0, 64, .inl ff2))] H locs := w
  refine lv_aload_n hx hb dX12_writeNext_6 rfl (lv_at hl 0 rfl) ?_
  refine lv_lload_n hx hb dX12_writeNext_7 rfl (lv_at hl 1 rfl) ?_
  refine k_V (ce := 0) (sl := 0) (rest := []) (wr := []) (r_V (f := 14) [0, 1] M w V_HookedCityModel_341 G1936 G95 (c165_X12_writeWord l D T _ a0 y0 r0 a1 x0 x1 x2 x3 x4 x5 r1 x6 x7 x8 y1 x9 a2 a3 a4 a5 a6 a7 a8 a9 a10 a11 x10 a12 a13 a14 a15 x11 r2 r3 a16 x12 x13 a17 a18 x14 a19 z1 r4 a20 a21 x16 r5 a22 x17 x18 x19 x20 ff2 x0_a x0_b x1_a x1_b x2_a x2_b x3_a x3_b x4_a x4_b x5_a x5_b x6_a x6_b x7_a x7_b x8_a x8_b x9_a x9_b x10_a x10_b x11_a x11_b x12_a x12_b x13_a x13_b x14_a x14_b z1_a z1_b x16_a x16_b x17_a x17_b x18_a x18_b x19_a x19_b x20_a x20_b (l63 _) (by omega)) 0 clX12 rfl rfl (by decide) rfl hl.1 rfl (Nat.le_of_ble_eq_true rfl) dX12_writeNext_8 (by decide) (by decide) (by decide) (by decide)) w [0, 1] [] rfl rfl (by decide) (by decide) rfl rfl (fun u H locs hp w => ?_)
  obtain ⟨z5, ff6⟩ := u
  have z5_a : 0 ≤ z5 := hp.1
  have z5_b : z5 ≤ 64 := hp.2.1
  have ee7 : 0 ≤ ((z1 + 14) - z5) := hp.2.2.1
  have ee8 : 0 ≤ (z5 - z1) := hp.2.2.2
  have w : WD D A s.heap [(a0, .inr (11, [.int r0, .ref a1, .int (iI x0), .int (iI x1), .int (iI x2), .int (iI x3), .int (iI x4), .int (iI x5), .int r1, .int (iI x6), .int (iI x7), .int (iI x8), .long y1, .int (iI x9), .ref a2, .ref a3, .ref a4, .ref a5, .ref a6, .ref a7, .ref a8, .ref a9, .ref a10, .ref a11, .int (iI x10), .ref a12, .ref a13, .ref a14, .ref a15, .int (iI x11), .int r2, .int r3, .ref a16, .int (iI x12), .int (iI x13), .ref a17, .ref a18, .int (iI x14), .ref a19, .int (iI z5), .int r4, .ref a20, .ref a21, .int (iI x16), .int r5, .ref a22, .int (iI x17), .int (iI x18), .int (iI x19), .int (iI x20)])), (a19, .inl (T 0, 64, .inl ff6))] H locs := w
  exact ret (z5, ff6) _ _ _ _ _ [0, 1] dX12_writeNext_11 ⟨z5_a, z5_b, (show 0 ≤ ((x15 + 15) - z5) from by omega), (show 0 ≤ (z5 - x15) from by omega)⟩ w (by decide) rfl
set_option maxRecDepth 100000 in
set_option maxHeartbeats 4000000 in
theorem c168_X12_card (l : Launch) (D : va_G) (T : Nat → ClassId) (sz : Nat) (a0 : Nat) (x0 : Int) (r0 : Int32) (a1 : Nat) (x1 : Int) (x2 : Int) (x3 : Int) (x4 : Int) (x5 : Int) (x6 : Int) (r1 : Int32) (x7 : Int) (x8 : Int) (x9 : Int) (y0 : Int64) (x10 : Int) (a2 : Nat) (a3 : Nat) (a4 : Nat) (a5 : Nat) (a6 : Nat) (a7 : Nat) (a8 : Nat) (a9 : Nat) (a10 : Nat) (a11 : Nat) (x11 : Int) (a12 : Nat) (a13 : Nat) (a14 : Nat) (a15 : Nat) (x12 : Int) (r2 : Int32) (r3 : Int32) (a16 : Nat) (x13 : Int) (x14 : Int) (a17 : Nat) (a18 : Nat) (x15 : Int) (a19 : Nat) (x16 : Int) (r4 : Int32) (a20 : Nat) (a21 : Nat) (x17 : Int) (r5 : Int32) (a22 : Nat) (x18 : Int) (x19 : Int) (x20 : Int) (x21 : Int) (f0 : Int → Int) (h0 : Nat → Int64) (f1 : Nat → Int32) (x0_a : (-2147483648) ≤ x0) (x0_b : x0 ≤ 2147483647) (x1_a : 0 ≤ x1) (x1_b : x1 ≤ 940) (x2_a : 0 ≤ x2) (x2_b : x2 ≤ 940) (x3_a : 0 ≤ x3) (x3_b : x3 ≤ 940) (x4_a : 0 ≤ x4) (x4_b : x4 ≤ 940) (x5_a : 0 ≤ x5) (x5_b : x5 ≤ 940) (x6_a : 0 ≤ x6) (x6_b : x6 ≤ 4) (x7_a : (-2147483648) ≤ x7) (x7_b : x7 ≤ 2147483647) (x8_a : (-2147483648) ≤ x8) (x8_b : x8 ≤ 2147483647) (x9_a : 0 ≤ x9) (x9_b : x9 ≤ 940) (x10_a : (-2147483648) ≤ x10) (x10_b : x10 ≤ 2147483647) (x11_a : 0 ≤ x11) (x11_b : x11 ≤ 8) (x12_a : 0 ≤ x12) (x12_b : x12 ≤ 9) (x13_a : (-1) ≤ x13) (x13_b : x13 ≤ 9) (x14_a : (-1) ≤ x14) (x14_b : x14 ≤ 8) (x15_a : 0 ≤ x15) (x15_b : x15 ≤ 9) (x16_a : 0 ≤ x16) (x16_b : x16 ≤ 64) (x17_a : 0 ≤ x17) (x17_b : x17 ≤ 40) (x18_a : 0 ≤ x18) (x18_b : x18 ≤ 40) (x19_a : 0 ≤ x19) (x19_b : x19 ≤ 20) (x20_a : 0 ≤ x20) (x20_b : x20 ≤ 8) (x21_a : 0 ≤ x21) (x21_b : x21 ≤ 39) (f0_h : nowI f0) : Met l yX12_card (Cond.code yX12_card cX12_card 2 (some .int) :: GW) (Rm 16 0 0) (cPre [.ref a0, .int (iI x0)] D T [(a0, .inr (11, [.int r0, .ref a1, .int (iI x1), .int (iI x2), .int (iI x3), .int (iI x4), .int (iI x5), .int (iI x6), .int r1, .int (iI x7), .int (iI x8), .int (iI x9), .long y0, .int (iI x10), .ref a2, .ref a3, .ref a4, .ref a5, .ref a6, .ref a7, .ref a8, .ref a9, .ref a10, .ref a11, .int (iI x11), .ref a12, .ref a13, .ref a14, .ref a15, .int (iI x12), .int r2, .int r3, .ref a16, .int (iI x13), .int (iI x14), .ref a17, .ref a18, .int (iI x15), .ref a19, .int (iI x16), .int r4, .ref a20, .ref a21, .int (iI x17), .int r5, .ref a22, .int (iI x18), .int (iI x19), .int (iI x20), .int (iI x21)])), (a2, .inl (T 0, 329, .inl (cI f0))), (a7, .inl (T 1, 12, .inr (.inl h0))), (a19, .inl (T 0, 64, .inl f1))] sz) (qI D [(a0, .inr (11, [.int r0, .ref a1, .int (iI x1), .int (iI x2), .int (iI x3), .int (iI x4), .int (iI x5), .int (iI x6), .int r1, .int (iI x7), .int (iI x8), .int (iI x9), .long y0, .int (iI x10), .ref a2, .ref a3, .ref a4, .ref a5, .ref a6, .ref a7, .ref a8, .ref a9, .ref a10, .ref a11, .int (iI x11), .ref a12, .ref a13, .ref a14, .ref a15, .int (iI x12), .int r2, .int r3, .ref a16, .int (iI x13), .int (iI x14), .ref a17, .ref a18, .int (iI x15), .ref a19, .int (iI x16), .int r4, .ref a20, .ref a21, .int (iI x17), .int r5, .ref a22, .int (iI x18), .int (iI x19), .int (iI x20), .int (iI x21)])), (a2, .inl (T 0, 329, .inl (cI f0))), (a7, .inl (T 1, 12, .inr (.inl h0))), (a19, .inl (T 0, 64, .inl f1))] sz (fun (v : Int32) (u : Int × Int32 × Int × (Nat → Int32)) => iI u.1 = v ∧ (-2147483648) ≤ u.1 ∧ u.1 ≤ 2147483647 ∧ 0 ≤ u.2.2.1 ∧ u.2.2.1 ≤ 64) (fun u => [(a0, .inr (11, [.int u.2.1, .ref a1, .int (iI x1), .int (iI x2), .int (iI x3), .int (iI x4), .int (iI x5), .int (iI x6), .int r1, .int (iI x7), .int (iI x8), .int (iI x9), .long y0, .int (iI x10), .ref a2, .ref a3, .ref a4, .ref a5, .ref a6, .ref a7, .ref a8, .ref a9, .ref a10, .ref a11, .int (iI x11), .ref a12, .ref a13, .ref a14, .ref a15, .int (iI x12), .int r2, .int r3, .ref a16, .int (iI x13), .int (iI x14), .ref a17, .ref a18, .int (iI x15), .ref a19, .int (iI u.2.2.1), .int r4, .ref a20, .ref a21, .int (iI x17), .int r5, .ref a22, .int (iI x18), .int (iI x19), .int (iI x20), .int (iI x21)])), (a2, .inl (T 0, 329, .inl (cI f0))), (a7, .inl (T 1, 12, .inr (.inl h0))), (a19, .inl (T 0, 64, .inl u.2.2.2))])) 0 0 (va_A [(a0, .inr (11, [.int r0, .ref a1, .int (iI x1), .int (iI x2), .int (iI x3), .int (iI x4), .int (iI x5), .int (iI x6), .int r1, .int (iI x7), .int (iI x8), .int (iI x9), .long y0, .int (iI x10), .ref a2, .ref a3, .ref a4, .ref a5, .ref a6, .ref a7, .ref a8, .ref a9, .ref a10, .ref a11, .int (iI x11), .ref a12, .ref a13, .ref a14, .ref a15, .int (iI x12), .int r2, .int r3, .ref a16, .int (iI x13), .int (iI x14), .ref a17, .ref a18, .int (iI x15), .ref a19, .int (iI x16), .int r4, .ref a20, .ref a21, .int (iI x17), .int r5, .ref a22, .int (iI x18), .int (iI x19), .int (iI x20), .int (iI x21)])), (a2, .inl (T 0, 329, .inl (cI f0))), (a7, .inl (T 1, 12, .inr (.inl h0))), (a19, .inl (T 0, 64, .inl f1))] sz) := by
  refine e_I (by decide) (Nat.le_of_ble_eq_true rfl) ?_
  intro p e s m args below meth c A Q ls M hin w ret hl
  have hx := M.1.1
  have hb := M.1.2.1
  have hl : lv_has ls 2 [(0, .ref a0), (1, .int (iI x0))] := hl
  refine lv_aload_n hx hb dX12_card_0 rfl (lv_at hl 0 rfl) ?_
  refine lv_iconst (v := iI 0) hx hb dX12_card_1 (by decide +kernel) ?_
  refine r_put (ws' := [(a0, .inr (11, [.int (iI 0), .ref a1, .int (iI x1), .int (iI x2), .int (iI x3), .int (iI x4), .int (iI x5), .int (iI x6), .int r1, .int (iI x7), .int (iI x8), .int (iI x9), .long y0, .int (iI x10), .ref a2, .ref a3, .ref a4, .ref a5, .ref a6, .ref a7, .ref a8, .ref a9, .ref a10, .ref a11, .int (iI x11), .ref a12, .ref a13, .ref a14, .ref a15, .int (iI x12), .int r2, .int r3, .ref a16, .int (iI x13), .int (iI x14), .ref a17, .ref a18, .int (iI x15), .ref a19, .int (iI x16), .int r4, .ref a20, .ref a21, .int (iI x17), .int r5, .ref a22, .int (iI x18), .int (iI x19), .int (iI x20), .int (iI x21)])), (a2, .inl (T 0, 329, .inl (cI f0))), (a7, .inl (T 1, 12, .inr (.inl h0))), (a19, .inl (T 0, 64, .inl f1))]) M w 0 0 clX12 rfl (by decide) G1463 rfl rfl rfl rfl (Nat.le_of_ble_eq_true rfl) rfl dX12_card_2 (fun H locs w => ?_)
  refine lv_aload_n hx hb dX12_card_5 rfl (lv_at hl 0 rfl) ?_
  refine lv_iload_n hx hb dX12_card_6 rfl (lv_at hl 1 rfl) ?_
  refine k_I (ce := 0) (sl := 0) (rest := []) (wr := [(a7, .inl (T 1, 12, .inr (.inl h0))), (a19, .inl (T 0, 64, .inl f1))]) (r_V (f := 1) [0, 1] M w V_HookedCityModel_240 G1736 G68 (c68_X12_isPerson l D T _ a0 x0 (iI 0) a1 x1 x2 x3 x4 x5 x6 r1 x7 x8 x9 y0 x10 a2 a3 a4 a5 a6 a7 a8 a9 a10 a11 x11 a12 a13 a14 a15 x12 r2 r3 a16 x13 x14 a17 a18 x15 a19 x16 r4 a20 a21 x17 r5 a22 x18 x19 x20 x21 f0 x0_a x0_b x1_a x1_b x2_a x2_b x3_a x3_b x4_a x4_b x5_a x5_b x6_a x6_b x7_a x7_b x8_a x8_b x9_a x9_b x10_a x10_b x11_a x11_b x12_a x12_b x13_a x13_b x14_a x14_b x15_a x15_b x16_a x16_b x17_a x17_b x18_a x18_b x19_a x19_b x20_a x20_b x21_a x21_b f0_h) 0 clX12 rfl rfl (by decide) rfl hl.1 rfl (Nat.le_of_ble_eq_true rfl) dX12_card_7 (by decide) (by decide) (by decide) (by decide)) w [0, 1] [2, 3] rfl rfl (by decide) (by decide) rfl rfl (fun v z1 H locs hp w => ?_)
  have hv : iI z1 = v := hp.1
  subst hv
  have z1_a : 0 ≤ z1 := hp.2.1
  have z1_b : z1 ≤ 1 := hp.2.2.1
  have ee2 : 0 ≤ ((x0 + 4294967296) - (z1 * 4294967296)) := hp.2.2.2.1
  have ee3 : 0 ≤ (((8 - x0) + 4294967296) - (z1 * 4294967296)) := hp.2.2.2.2.1
  have pq4 : ipQ z1 x0 (f0 0) := hp.2.2.2.2.2
  have w : WD D A s.heap [(a7, .inl (T 1, 12, .inr (.inl h0))), (a19, .inl (T 0, 64, .inl f1)), (a0, .inr (11, [.int (iI 0), .ref a1, .int (iI x1), .int (iI x2), .int (iI x3), .int (iI x4), .int (iI x5), .int (iI x6), .int r1, .int (iI x7), .int (iI x8), .int (iI x9), .long y0, .int (iI x10), .ref a2, .ref a3, .ref a4, .ref a5, .ref a6, .ref a7, .ref a8, .ref a9, .ref a10, .ref a11, .int (iI x11), .ref a12, .ref a13, .ref a14, .ref a15, .int (iI x12), .int r2, .int r3, .ref a16, .int (iI x13), .int (iI x14), .ref a17, .ref a18, .int (iI x15), .ref a19, .int (iI x16), .int r4, .ref a20, .ref a21, .int (iI x17), .int r5, .ref a22, .int (iI x18), .int (iI x19), .int (iI x20), .int (iI x21)])), (a2, .inl (T 0, 329, .inl (cI f0)))] H locs := w
  refine lv_if_ne (tgt := 15) hx hb dX12_card_10 (by decide) (fun c_5 => ?_) (fun c_5 => ?_)
  · replace c_5 : ¬ z1 = 0 := fun h => c_5 ((iz_eq (Int.le_trans (by decide) z1_a) (Int.le_trans z1_b (by decide))).mpr h)
    refine lv_aload_n hx hb dX12_card_15 rfl (lv_at hl 0 rfl) ?_
    refine lv_iconst (v := iI 0) hx hb dX12_card_16 (by decide +kernel) ?_
    refine r_put (ws' := [(a7, .inl (T 1, 12, .inr (.inl h0))), (a19, .inl (T 0, 64, .inl f1)), (a0, .inr (11, [.int (iI 0), .ref a1, .int (iI x1), .int (iI x2), .int (iI x3), .int (iI x4), .int (iI x5), .int (iI x6), .int r1, .int (iI x7), .int (iI x8), .int (iI x9), .long y0, .int (iI x10), .ref a2, .ref a3, .ref a4, .ref a5, .ref a6, .ref a7, .ref a8, .ref a9, .ref a10, .ref a11, .int (iI x11), .ref a12, .ref a13, .ref a14, .ref a15, .int (iI x12), .int r2, .int r3, .ref a16, .int (iI x13), .int (iI x14), .ref a17, .ref a18, .int (iI x15), .ref a19, .int (iI 0), .int r4, .ref a20, .ref a21, .int (iI x17), .int r5, .ref a22, .int (iI x18), .int (iI x19), .int (iI x20), .int (iI x21)])), (a2, .inl (T 0, 329, .inl (cI f0)))]) M w 2 39 clX12 rfl (by decide) G1502 rfl rfl rfl rfl (Nat.le_of_ble_eq_true rfl) rfl dX12_card_17 (fun H locs w => ?_)
    refine lv_aload_n hx hb dX12_card_20 rfl (lv_at hl 0 rfl) ?_
    refine lv_aload_n hx hb dX12_card_21 rfl (lv_at hl 0 rfl) ?_
    refine r_get (v := .ref a7) M w 2 19 clX12 rfl (by decide) G1482 rfl rfl dX12_card_22 ?_
    refine lv_iload_n hx hb dX12_card_25 rfl (lv_at hl 1 rfl) ?_
    refine r_lald (v := _) M w 0 rfl (iI_in (by omega) (by omega) (by decide)) rfl dX12_card_26 ?_
    refine b_anyl (fun fy6 => ?_)
    refine k_V (ce := 0) (sl := 0) (rest := []) (wr := [(a7, .inl (T 1, 12, .inr (.inl h0))), (a2, .inl (T 0, 329, .inl (cI f0)))]) (r_V (f := 14) [2, 1] M w V_HookedCityModel_341 G1936 G95 (c165_X12_writeWord l D T _ a0 fy6 (iI 0) a1 x1 x2 x3 x4 x5 x6 r1 x7 x8 x9 y0 x10 a2 a3 a4 a5 a6 a7 a8 a9 a10 a11 x11 a12 a13 a14 a15 x12 r2 r3 a16 x13 x14 a17 a18 x15 a19 0 r4 a20 a21 x17 r5 a22 x18 x19 x20 x21 f1 x1_a x1_b x2_a x2_b x3_a x3_b x4_a x4_b x5_a x5_b x6_a x6_b x7_a x7_b x8_a x8_b x9_a x9_b x10_a x10_b x11_a x11_b x12_a x12_b x13_a x13_b x14_a x14_b x15_a x15_b (by decide) (by decide) x17_a x17_b x18_a x18_b x19_a x19_b x20_a x20_b x21_a x21_b (l63 _) (by omega)) 2 clX12 rfl rfl (by decide) rfl hl.1 rfl (Nat.le_of_ble_eq_true rfl) dX12_card_27 (by decide) (by decide) (by decide) (by decide)) w [2, 1] [0, 3] rfl rfl (by decide) (by decide) rfl rfl (fun u H locs hp w => ?_)
    obtain ⟨z7, ff8⟩ := u
    have z7_a : 0 ≤ z7 := hp.1
    have z7_b : z7 ≤ 64 := hp.2.1
    have ee9 : 0 ≤ ((0 + 14) - z7) := hp.2.2.1
    have ee10 : 0 ≤ (z7 - 0) := hp.2.2.2
    have w : WD D A s.heap [(a7, .inl (T 1, 12, .inr (.inl h0))), (a2, .inl (T 0, 329, .inl (cI f0))), (a0, .inr (11, [.int (iI 0), .ref a1, .int (iI x1), .int (iI x2), .int (iI x3), .int (iI x4), .int (iI x5), .int (iI x6), .int r1, .int (iI x7), .int (iI x8), .int (iI x9), .long y0, .int (iI x10), .ref a2, .ref a3, .ref a4, .ref a5, .ref a6, .ref a7, .ref a8, .ref a9, .ref a10, .ref a11, .int (iI x11), .ref a12, .ref a13, .ref a14, .ref a15, .int (iI x12), .int r2, .int r3, .ref a16, .int (iI x13), .int (iI x14), .ref a17, .ref a18, .int (iI x15), .ref a19, .int (iI z7), .int r4, .ref a20, .ref a21, .int (iI x17), .int r5, .ref a22, .int (iI x18), .int (iI x19), .int (iI x20), .int (iI x21)])), (a19, .inl (T 0, 64, .inl ff8))] H locs := w
    refine lv_aload_n hx hb dX12_card_30 rfl (lv_at hl 0 rfl) ?_
    refine lv_iload_n hx hb dX12_card_31 rfl (lv_at hl 1 rfl) ?_
    refine k_I (ce := 0) (sl := 0) (rest := []) (wr := [(a7, .inl (T 1, 12, .inr (.inl h0))), (a19, .inl (T 0, 64, .inl ff8))]) (r_V (f := 0) [2, 1] M w V_HookedCityModel_255 G1768 G74 (c70_X12_isOpen l D T _ a0 x0 (iI 0) a1 x1 x2 x3 x4 x5 x6 r1 x7 x8 x9 y0 x10 a2 a3 a4 a5 a6 a7 a8 a9 a10 a11 x11 a12 a13 a14 a15 x12 r2 r3 a16 x13 x14 a17 a18 x15 a19 z7 r4 a20 a21 x17 r5 a22 x18 x19 x20 x21 f0 (by omega) (by omega) x1_a x1_b x2_a x2_b x3_a x3_b x4_a x4_b x5_a x5_b x6_a x6_b x7_a x7_b x8_a x8_b x9_a x9_b x10_a x10_b x11_a x11_b x12_a x12_b x13_a x13_b x14_a x14_b x15_a x15_b z7_a z7_b x17_a x17_b x18_a x18_b x19_a x19_b x20_a x20_b x21_a x21_b f0_h) 2 clX12 rfl rfl (by decide) rfl hl.1 rfl (Nat.le_of_ble_eq_true rfl) dX12_card_32 (by decide) (by decide) (by decide) (by decide)) w [2, 1] [0, 3] rfl rfl (by decide) (by decide) rfl rfl (fun v z11 H locs hp w => ?_)
    have hv : iI z11 = v := hp.1
    subst hv
    have z11_a : 0 ≤ z11 := hp.2.1
    have z11_b : z11 ≤ 1 := hp.2.2.1
    have pq12 : z11 = 0 → 0 ≤ f0 (57 + x0) := hp.2.2.2
    have w : WD D A s.heap [(a7, .inl (T 1, 12, .inr (.inl h0))), (a19, .inl (T 0, 64, .inl ff8)), (a0, .inr (11, [.int (iI 0), .ref a1, .int (iI x1), .int (iI x2), .int (iI x3), .int (iI x4), .int (iI x5), .int (iI x6), .int r1, .int (iI x7), .int (iI x8), .int (iI x9), .long y0, .int (iI x10), .ref a2, .ref a3, .ref a4, .ref a5, .ref a6, .ref a7, .ref a8, .ref a9, .ref a10, .ref a11, .int (iI x11), .ref a12, .ref a13, .ref a14, .ref a15, .int (iI x12), .int r2, .int r3, .ref a16, .int (iI x13), .int (iI x14), .ref a17, .ref a18, .int (iI x15), .ref a19, .int (iI z7), .int r4, .ref a20, .ref a21, .int (iI x17), .int r5, .ref a22, .int (iI x18), .int (iI x19), .int (iI x20), .int (iI x21)])), (a2, .inl (T 0, 329, .inl (cI f0)))] H locs := w
    refine lv_if_eq (tgt := 50) hx hb dX12_card_35 (by decide) (fun c_13 => ?_) (fun c_13 => ?_)
    · replace c_13 := (iz_eq (Int.le_trans (by decide) z11_a) (Int.le_trans z11_b (by decide))).mp c_13
      refine lv_aload_n hx hb dX12_card_50 rfl (lv_at hl 0 rfl) ?_
      refine lv_bipush (v := iI 105) hx hb dX12_card_51 (by decide +kernel) ?_
      refine lv_bipush (v := iI 110) hx hb dX12_card_53 (by decide +kernel) ?_
      refine lv_iconst (v := iI 0) hx hb dX12_card_55 (by decide +kernel) ?_
      refine lv_iconst (v := iI 0) hx hb dX12_card_56 (by decide +kernel) ?_
      refine lv_iconst (v := iI 0) hx hb dX12_card_57 (by decide +kernel) ?_
      refine lv_iconst (v := iI 0) hx hb dX12_card_58 (by decide +kernel) ?_
      refine lv_iconst (v := iI 0) hx hb dX12_card_59 (by decide +kernel) ?_
      refine k_L (ce := 0) (sl := 0) (rest := [.ref a0]) (wr := [(a7, .inl (T 1, 12, .inr (.inl h0))), (a19, .inl (T 0, 64, .inl ff8)), (a0, .inr (11, [.int (iI 0), .ref a1, .int (iI x1), .int (iI x2), .int (iI x3), .int (iI x4), .int (iI x5), .int (iI x6), .int r1, .int (iI x7), .int (iI x8), .int (iI x9), .long y0, .int (iI x10), .ref a2, .ref a3, .ref a4, .ref a5, .ref a6, .ref a7, .ref a8, .ref a9, .ref a10, .ref a11, .int (iI x11), .ref a12, .ref a13, .ref a14, .ref a15, .int (iI x12), .int r2, .int r3, .ref a16, .int (iI x13), .int (iI x14), .ref a17, .ref a18, .int (iI x15), .ref a19, .int (iI z7), .int r4, .ref a20, .ref a21, .int (iI x17), .int r5, .ref a22, .int (iI x18), .int (iI x19), .int (iI x20), .int (iI x21)])), (a2, .inl (T 0, 329, .inl (cI f0)))]) (r_S (f := 0) [] M w V_HookedCityModel_58 G1655 (c166_X12_spelt l D T _) rfl (by decide) rfl hl.1 rfl (Nat.le_of_ble_eq_true rfl) dX12_card_60 (by decide) (by decide) (by decide) (by decide)) w [] [0, 1, 2, 3] rfl rfl (by decide) (by decide) rfl rfl (fun fy14 _ H locs hp w => ?_)
      have pq15 : fy14 = 257 := hp
      have w : WD D A s.heap [(a7, .inl (T 1, 12, .inr (.inl h0))), (a19, .inl (T 0, 64, .inl ff8)), (a0, .inr (11, [.int (iI 0), .ref a1, .int (iI x1), .int (iI x2), .int (iI x3), .int (iI x4), .int (iI x5), .int (iI x6), .int r1, .int (iI x7), .int (iI x8), .int (iI x9), .long y0, .int (iI x10), .ref a2, .ref a3, .ref a4, .ref a5, .ref a6, .ref a7, .ref a8, .ref a9, .ref a10, .ref a11, .int (iI x11), .ref a12, .ref a13, .ref a14, .ref a15, .int (iI x12), .int r2, .int r3, .ref a16, .int (iI x13), .int (iI x14), .ref a17, .ref a18, .int (iI x15), .ref a19, .int (iI z7), .int r4, .ref a20, .ref a21, .int (iI x17), .int r5, .ref a22, .int (iI x18), .int (iI x19), .int (iI x20), .int (iI x21)])), (a2, .inl (T 0, 329, .inl (cI f0)))] H locs := w
      refine k_V (ce := 0) (sl := 0) (rest := []) (wr := [(a7, .inl (T 1, 12, .inr (.inl h0))), (a2, .inl (T 0, 329, .inl (cI f0)))]) (r_V (f := 15) [2, 1] M w V_HookedCityModel_348 G1944 G97 (c167_X12_writeNext l D T _ a0 fy14 (iI 0) a1 x1 x2 x3 x4 x5 x6 r1 x7 x8 x9 y0 x10 a2 a3 a4 a5 a6 a7 a8 a9 a10 a11 x11 a12 a13 a14 a15 x12 r2 r3 a16 x13 x14 a17 a18 x15 a19 z7 r4 a20 a21 x17 r5 a22 x18 x19 x20 x21 ff8 x1_a x1_b x2_a x2_b x3_a x3_b x4_a x4_b x5_a x5_b x6_a x6_b x7_a x7_b x8_a x8_b x9_a x9_b x10_a x10_b x11_a x11_b x12_a x12_b x13_a x13_b x14_a x14_b x15_a x15_b z7_a z7_b x17_a x17_b x18_a x18_b x19_a x19_b x20_a x20_b x21_a x21_b (by omega)) 2 clX12 rfl rfl (by decide) rfl hl.1 rfl (Nat.le_of_ble_eq_true rfl) dX12_card_63 (by decide) (by decide) (by decide) (by decide)) w [2, 1] [0, 3] rfl rfl (by decide) (by decide) rfl rfl (fun u H locs hp w => ?_)
      obtain ⟨z16, ff17⟩ := u
      have z16_a : 0 ≤ z16 := hp.1
      have z16_b : z16 ≤ 64 := hp.2.1
      have ee18 : 0 ≤ ((z7 + 15) - z16) := hp.2.2.1
      have ee19 : 0 ≤ (z16 - z7) := hp.2.2.2
      have w : WD D A s.heap [(a7, .inl (T 1, 12, .inr (.inl h0))), (a2, .inl (T 0, 329, .inl (cI f0))), (a0, .inr (11, [.int (iI 0), .ref a1, .int (iI x1), .int (iI x2), .int (iI x3), .int (iI x4), .int (iI x5), .int (iI x6), .int r1, .int (iI x7), .int (iI x8), .int (iI x9), .long y0, .int (iI x10), .ref a2, .ref a3, .ref a4, .ref a5, .ref a6, .ref a7, .ref a8, .ref a9, .ref a10, .ref a11, .int (iI x11), .ref a12, .ref a13, .ref a14, .ref a15, .int (iI x12), .int r2, .int r3, .ref a16, .int (iI x13), .int (iI x14), .ref a17, .ref a18, .int (iI x15), .ref a19, .int (iI z16), .int r4, .ref a20, .ref a21, .int (iI x17), .int r5, .ref a22, .int (iI x18), .int (iI x19), .int (iI x20), .int (iI x21)])), (a19, .inl (T 0, 64, .inl ff17))] H locs := w
      refine lv_aload_n hx hb dX12_card_66 rfl (lv_at hl 0 rfl) ?_
      refine lv_aload_n hx hb dX12_card_67 rfl (lv_at hl 0 rfl) ?_
      refine r_get (v := .ref a7) M w 2 19 clX12 rfl (by decide) G1482 rfl rfl dX12_card_68 ?_
      refine lv_aload_n hx hb dX12_card_71 rfl (lv_at hl 0 rfl) ?_
      refine r_get (v := .ref a2) M w 2 14 clX12 rfl (by decide) G1477 rfl rfl dX12_card_72 ?_
      refine lv_bipush (v := iI 57) hx hb dX12_card_75 (by decide +kernel) ?_
      refine lv_iload_n hx hb dX12_card_77 rfl (lv_at hl 1 rfl) ?_
      refine r_iadd (v := iI (57 + x0)) M (iI_add _ _) dX12_card_78 ?_
      refine r_iald (v := iI (f0 (57 + x0))) M w 1 rfl (iI_in (by omega) (by omega) (by decide)) (cI_at (by omega) (by omega)) dX12_card_79 ?_
      have hh20 : (-2147483648) ≤ (f0 (57 + x0)) ∧ (f0 (57 + x0)) ≤ 2147483647 := f0_h.1 (57 + x0)
      have hh21 : (-1) ≤ (f0 (57 + x0)) ∧ (f0 (57 + x0)) ≤ 8 := (f0_h.2.1 (57 + x0)).2.2.2.1 (by omega) (by omega)
      refine r_lald (v := _) M w 0 rfl (iI_in (by omega) (by omega) (by decide)) rfl dX12_card_80 ?_
      refine b_anyl (fun fy22 => ?_)
      refine k_V (ce := 0) (sl := 0) (rest := []) (wr := [(a7, .inl (T 1, 12, .inr (.inl h0))), (a2, .inl (T 0, 329, .inl (cI f0)))]) (r_V (f := 15) [2, 3] M w V_HookedCityModel_348 G1944 G97 (c167_X12_writeNext l D T _ a0 fy22 (iI 0) a1 x1 x2 x3 x4 x5 x6 r1 x7 x8 x9 y0 x10 a2 a3 a4 a5 a6 a7 a8 a9 a10 a11 x11 a12 a13 a14 a15 x12 r2 r3 a16 x13 x14 a17 a18 x15 a19 z16 r4 a20 a21 x17 r5 a22 x18 x19 x20 x21 ff17 x1_a x1_b x2_a x2_b x3_a x3_b x4_a x4_b x5_a x5_b x6_a x6_b x7_a x7_b x8_a x8_b x9_a x9_b x10_a x10_b x11_a x11_b x12_a x12_b x13_a x13_b x14_a x14_b x15_a x15_b z16_a z16_b x17_a x17_b x18_a x18_b x19_a x19_b x20_a x20_b x21_a x21_b (by omega)) 2 clX12 rfl rfl (by decide) rfl hl.1 rfl (Nat.le_of_ble_eq_true rfl) dX12_card_81 (by decide) (by decide) (by decide) (by decide)) w [2, 3] [0, 1] rfl rfl (by decide) (by decide) rfl rfl (fun u H locs hp w => ?_)
      obtain ⟨z23, ff24⟩ := u
      have z23_a : 0 ≤ z23 := hp.1
      have z23_b : z23 ≤ 64 := hp.2.1
      have ee25 : 0 ≤ ((z16 + 15) - z23) := hp.2.2.1
      have ee26 : 0 ≤ (z23 - z16) := hp.2.2.2
      have w : WD D A s.heap [(a7, .inl (T 1, 12, .inr (.inl h0))), (a2, .inl (T 0, 329, .inl (cI f0))), (a0, .inr (11, [.int (iI 0), .ref a1, .int (iI x1), .int (iI x2), .int (iI x3), .int (iI x4), .int (iI x5), .int (iI x6), .int r1, .int (iI x7), .int (iI x8), .int (iI x9), .long y0, .int (iI x10), .ref a2, .ref a3, .ref a4, .ref a5, .ref a6, .ref a7, .ref a8, .ref a9, .ref a10, .ref a11, .int (iI x11), .ref a12, .ref a13, .ref a14, .ref a15, .int (iI x12), .int r2, .int r3, .ref a16, .int (iI x13), .int (iI x14), .ref a17, .ref a18, .int (iI x15), .ref a19, .int (iI z23), .int r4, .ref a20, .ref a21, .int (iI x17), .int r5, .ref a22, .int (iI x18), .int (iI x19), .int (iI x20), .int (iI x21)])), (a19, .inl (T 0, 64, .inl ff24))] H locs := w
      refine lv_aload_n hx hb dX12_card_84 rfl (lv_at hl 0 rfl) ?_
      refine lv_iload_n hx hb dX12_card_85 rfl (lv_at hl 1 rfl) ?_
      refine k_I (ce := 0) (sl := 0) (rest := []) (wr := [(a7, .inl (T 1, 12, .inr (.inl h0))), (a19, .inl (T 0, 64, .inl ff24))]) (r_V (f := 0) [2, 1] M w V_HookedCityModel_264 G1776 G76 (c72_X12_isTorn l D T _ a0 x0 (iI 0) a1 x1 x2 x3 x4 x5 x6 r1 x7 x8 x9 y0 x10 a2 a3 a4 a5 a6 a7 a8 a9 a10 a11 x11 a12 a13 a14 a15 x12 r2 r3 a16 x13 x14 a17 a18 x15 a19 z23 r4 a20 a21 x17 r5 a22 x18 x19 x20 x21 f0 (by omega) (by omega) x1_a x1_b x2_a x2_b x3_a x3_b x4_a x4_b x5_a x5_b x6_a x6_b x7_a x7_b x8_a x8_b x9_a x9_b x10_a x10_b x11_a x11_b x12_a x12_b x13_a x13_b x14_a x14_b x15_a x15_b z23_a z23_b x17_a x17_b x18_a x18_b x19_a x19_b x20_a x20_b x21_a x21_b f0_h) 2 clX12 rfl rfl (by decide) rfl hl.1 rfl (Nat.le_of_ble_eq_true rfl) dX12_card_86 (by decide) (by decide) (by decide) (by decide)) w [2, 1] [0, 3] rfl rfl (by decide) (by decide) rfl rfl (fun v z27 H locs hp w => ?_)
      have hv : iI z27 = v := hp.1
      subst hv
      have z27_a : 0 ≤ z27 := hp.2.1
      have z27_b : z27 ≤ 1 := hp.2.2
      have w : WD D A s.heap [(a7, .inl (T 1, 12, .inr (.inl h0))), (a19, .inl (T 0, 64, .inl ff24)), (a0, .inr (11, [.int (iI 0), .ref a1, .int (iI x1), .int (iI x2), .int (iI x3), .int (iI x4), .int (iI x5), .int (iI x6), .int r1, .int (iI x7), .int (iI x8), .int (iI x9), .long y0, .int (iI x10), .ref a2, .ref a3, .ref a4, .ref a5, .ref a6, .ref a7, .ref a8, .ref a9, .ref a10, .ref a11, .int (iI x11), .ref a12, .ref a13, .ref a14, .ref a15, .int (iI x12), .int r2, .int r3, .ref a16, .int (iI x13), .int (iI x14), .ref a17, .ref a18, .int (iI x15), .ref a19, .int (iI z23), .int r4, .ref a20, .ref a21, .int (iI x17), .int r5, .ref a22, .int (iI x18), .int (iI x19), .int (iI x20), .int (iI x21)])), (a2, .inl (T 0, 329, .inl (cI f0)))] H locs := w
      refine lv_if_eq (tgt := 104) hx hb dX12_card_89 (by decide) (fun c_28 => ?_) (fun c_28 => ?_)
      · replace c_28 := (iz_eq (Int.le_trans (by decide) z27_a) (Int.le_trans z27_b (by decide))).mp c_28
        refine lv_aload_n hx hb dX12_card_104 rfl (lv_at hl 0 rfl) ?_
        refine lv_iload_n hx hb dX12_card_105 rfl (lv_at hl 1 rfl) ?_
        refine k_I (ce := 0) (sl := 0) (rest := []) (wr := [(a7, .inl (T 1, 12, .inr (.inl h0))), (a19, .inl (T 0, 64, .inl ff24))]) (r_V (f := 0) [2, 3] M w V_HookedCityModel_261 G1772 G75 (c71_X12_isBare l D T _ a0 x0 (iI 0) a1 x1 x2 x3 x4 x5 x6 r1 x7 x8 x9 y0 x10 a2 a3 a4 a5 a6 a7 a8 a9 a10 a11 x11 a12 a13 a14 a15 x12 r2 r3 a16 x13 x14 a17 a18 x15 a19 z23 r4 a20 a21 x17 r5 a22 x18 x19 x20 x21 f0 (by omega) (by omega) x1_a x1_b x2_a x2_b x3_a x3_b x4_a x4_b x5_a x5_b x6_a x6_b x7_a x7_b x8_a x8_b x9_a x9_b x10_a x10_b x11_a x11_b x12_a x12_b x13_a x13_b x14_a x14_b x15_a x15_b z23_a z23_b x17_a x17_b x18_a x18_b x19_a x19_b x20_a x20_b x21_a x21_b f0_h) 2 clX12 rfl rfl (by decide) rfl hl.1 rfl (Nat.le_of_ble_eq_true rfl) dX12_card_106 (by decide) (by decide) (by decide) (by decide)) w [2, 3] [0, 1] rfl rfl (by decide) (by decide) rfl rfl (fun v z29 H locs hp w => ?_)
        have hv : iI z29 = v := hp.1
        subst hv
        have z29_a : 0 ≤ z29 := hp.2.1
        have z29_b : z29 ≤ 1 := hp.2.2.1
        have pq30 : z29 = 1 → f0 (66 + x0) = -1 := hp.2.2.2.1
        have pq31 : z29 = 0 → 0 ≤ f0 (66 + x0) := hp.2.2.2.2
        have w : WD D A s.heap [(a7, .inl (T 1, 12, .inr (.inl h0))), (a19, .inl (T 0, 64, .inl ff24)), (a0, .inr (11, [.int (iI 0), .ref a1, .int (iI x1), .int (iI x2), .int (iI x3), .int (iI x4), .int (iI x5), .int (iI x6), .int r1, .int (iI x7), .int (iI x8), .int (iI x9), .long y0, .int (iI x10), .ref a2, .ref a3, .ref a4, .ref a5, .ref a6, .ref a7, .ref a8, .ref a9, .ref a10, .ref a11, .int (iI x11), .ref a12, .ref a13, .ref a14, .ref a15, .int (iI x12), .int r2, .int r3, .ref a16, .int (iI x13), .int (iI x14), .ref a17, .ref a18, .int (iI x15), .ref a19, .int (iI z23), .int r4, .ref a20, .ref a21, .int (iI x17), .int r5, .ref a22, .int (iI x18), .int (iI x19), .int (iI x20), .int (iI x21)])), (a2, .inl (T 0, 329, .inl (cI f0)))] H locs := w
        refine lv_if_eq (tgt := 121) hx hb dX12_card_109 (by decide) (fun c_32 => ?_) (fun c_32 => ?_)
        · replace c_32 := (iz_eq (Int.le_trans (by decide) z29_a) (Int.le_trans z29_b (by decide))).mp c_32
          refine lv_aload_n hx hb dX12_card_121 rfl (lv_at hl 0 rfl) ?_
          refine r_get (v := .int (iI z23)) M w 2 39 clX12 rfl (by decide) G1502 rfl rfl dX12_card_122 ?_
          exact ret _ (z23, (iI 0), z23, ff24) _ _ _ _ _ [2, 3, 0, 1] dX12_card_125 ⟨rfl, (show (-2147483648) ≤ z23 from by omega), (show z23 ≤ 2147483647 from by omega), z23_a, z23_b⟩ w (by decide) rfl
        · replace c_32 : ¬ z29 = 0 := fun h => c_32 ((iz_eq (Int.le_trans (by decide) z29_a) (Int.le_trans z29_b (by decide))).mpr h)
          refine lv_aload_n hx hb dX12_card_112 rfl (lv_at hl 0 rfl) ?_
          refine lv_bipush (v := iI 19) hx hb dX12_card_113 (by decide +kernel) ?_
          refine k_L (ce := 0) (sl := 0) (rest := [.ref a0]) (wr := [(a7, .inl (T 1, 12, .inr (.inl h0))), (a19, .inl (T 0, 64, .inl ff24)), (a0, .inr (11, [.int (iI 0), .ref a1, .int (iI x1), .int (iI x2), .int (iI x3), .int (iI x4), .int (iI x5), .int (iI x6), .int r1, .int (iI x7), .int (iI x8), .int (iI x9), .long y0, .int (iI x10), .ref a2, .ref a3, .ref a4, .ref a5, .ref a6, .ref a7, .ref a8, .ref a9, .ref a10, .ref a11, .int (iI x11), .ref a12, .ref a13, .ref a14, .ref a15, .int (iI x12), .int r2, .int r3, .ref a16, .int (iI x13), .int (iI x14), .ref a17, .ref a18, .int (iI x15), .ref a19, .int (iI z23), .int r4, .ref a20, .ref a21, .int (iI x17), .int r5, .ref a22, .int (iI x18), .int (iI x19), .int (iI x20), .int (iI x21)])), (a2, .inl (T 0, 329, .inl (cI f0)))]) (r_S (f := 1) [] M w V_HookedCityModel_62 G1652 (c41_X12_wordOf l D T _ 19 (by decide) (by decide)) rfl (by decide) rfl hl.1 rfl (Nat.le_of_ble_eq_true rfl) dX12_card_115 (by decide) (by decide) (by decide) (by decide)) w [] [0, 1, 2, 3] rfl rfl (by decide) (by decide) rfl rfl (fun fy33 _ H locs hp w => ?_)
          have pq34 : fy33 = wrdZ 19 := hp
          have w : WD D A s.heap [(a7, .inl (T 1, 12, .inr (.inl h0))), (a19, .inl (T 0, 64, .inl ff24)), (a0, .inr (11, [.int (iI 0), .ref a1, .int (iI x1), .int (iI x2), .int (iI x3), .int (iI x4), .int (iI x5), .int (iI x6), .int r1, .int (iI x7), .int (iI x8), .int (iI x9), .long y0, .int (iI x10), .ref a2, .ref a3, .ref a4, .ref a5, .ref a6, .ref a7, .ref a8, .ref a9, .ref a10, .ref a11, .int (iI x11), .ref a12, .ref a13, .ref a14, .ref a15, .int (iI x12), .int r2, .int r3, .ref a16, .int (iI x13), .int (iI x14), .ref a17, .ref a18, .int (iI x15), .ref a19, .int (iI z23), .int r4, .ref a20, .ref a21, .int (iI x17), .int r5, .ref a22, .int (iI x18), .int (iI x19), .int (iI x20), .int (iI x21)])), (a2, .inl (T 0, 329, .inl (cI f0)))] H locs := w
          refine k_V (ce := 0) (sl := 0) (rest := []) (wr := [(a7, .inl (T 1, 12, .inr (.inl h0))), (a2, .inl (T 0, 329, .inl (cI f0)))]) (r_V (f := 15) [2, 1] M w V_HookedCityModel_348 G1944 G97 (c167_X12_writeNext l D T _ a0 fy33 (iI 0) a1 x1 x2 x3 x4 x5 x6 r1 x7 x8 x9 y0 x10 a2 a3 a4 a5 a6 a7 a8 a9 a10 a11 x11 a12 a13 a14 a15 x12 r2 r3 a16 x13 x14 a17 a18 x15 a19 z23 r4 a20 a21 x17 r5 a22 x18 x19 x20 x21 ff24 x1_a x1_b x2_a x2_b x3_a x3_b x4_a x4_b x5_a x5_b x6_a x6_b x7_a x7_b x8_a x8_b x9_a x9_b x10_a x10_b x11_a x11_b x12_a x12_b x13_a x13_b x14_a x14_b x15_a x15_b z23_a z23_b x17_a x17_b x18_a x18_b x19_a x19_b x20_a x20_b x21_a x21_b (by omega)) 2 clX12 rfl rfl (by decide) rfl hl.1 rfl (Nat.le_of_ble_eq_true rfl) dX12_card_118 (by decide) (by decide) (by decide) (by decide)) w [2, 1] [0, 3] rfl rfl (by decide) (by decide) rfl rfl (fun u H locs hp w => ?_)
          obtain ⟨z35, ff36⟩ := u
          have z35_a : 0 ≤ z35 := hp.1
          have z35_b : z35 ≤ 64 := hp.2.1
          have ee37 : 0 ≤ ((z23 + 15) - z35) := hp.2.2.1
          have ee38 : 0 ≤ (z35 - z23) := hp.2.2.2
          have w : WD D A s.heap [(a7, .inl (T 1, 12, .inr (.inl h0))), (a2, .inl (T 0, 329, .inl (cI f0))), (a0, .inr (11, [.int (iI 0), .ref a1, .int (iI x1), .int (iI x2), .int (iI x3), .int (iI x4), .int (iI x5), .int (iI x6), .int r1, .int (iI x7), .int (iI x8), .int (iI x9), .long y0, .int (iI x10), .ref a2, .ref a3, .ref a4, .ref a5, .ref a6, .ref a7, .ref a8, .ref a9, .ref a10, .ref a11, .int (iI x11), .ref a12, .ref a13, .ref a14, .ref a15, .int (iI x12), .int r2, .int r3, .ref a16, .int (iI x13), .int (iI x14), .ref a17, .ref a18, .int (iI x15), .ref a19, .int (iI z35), .int r4, .ref a20, .ref a21, .int (iI x17), .int r5, .ref a22, .int (iI x18), .int (iI x19), .int (iI x20), .int (iI x21)])), (a19, .inl (T 0, 64, .inl ff36))] H locs := w
          refine lv_aload_n hx hb dX12_card_121 rfl (lv_at hl 0 rfl) ?_
          refine r_get (v := .int (iI z35)) M w 2 39 clX12 rfl (by decide) G1502 rfl rfl dX12_card_122 ?_
          exact ret _ (z35, (iI 0), z35, ff36) _ _ _ _ _ [2, 1, 0, 3] dX12_card_125 ⟨rfl, (show (-2147483648) ≤ z35 from by omega), (show z35 ≤ 2147483647 from by omega), z35_a, z35_b⟩ w (by decide) rfl
      · replace c_28 : ¬ z27 = 0 := fun h => c_28 ((iz_eq (Int.le_trans (by decide) z27_a) (Int.le_trans z27_b (by decide))).mpr h)
        refine lv_aload_n hx hb dX12_card_92 rfl (lv_at hl 0 rfl) ?_
        refine lv_bipush (v := iI 20) hx hb dX12_card_93 (by decide +kernel) ?_
        refine k_L (ce := 0) (sl := 0) (rest := [.ref a0]) (wr := [(a7, .inl (T 1, 12, .inr (.inl h0))), (a19, .inl (T 0, 64, .inl ff24)), (a0, .inr (11, [.int (iI 0), .ref a1, .int (iI x1), .int (iI x2), .int (iI x3), .int (iI x4), .int (iI x5), .int (iI x6), .int r1, .int (iI x7), .int (iI x8), .int (iI x9), .long y0, .int (iI x10), .ref a2, .ref a3, .ref a4, .ref a5, .ref a6, .ref a7, .ref a8, .ref a9, .ref a10, .ref a11, .int (iI x11), .ref a12, .ref a13, .ref a14, .ref a15, .int (iI x12), .int r2, .int r3, .ref a16, .int (iI x13), .int (iI x14), .ref a17, .ref a18, .int (iI x15), .ref a19, .int (iI z23), .int r4, .ref a20, .ref a21, .int (iI x17), .int r5, .ref a22, .int (iI x18), .int (iI x19), .int (iI x20), .int (iI x21)])), (a2, .inl (T 0, 329, .inl (cI f0)))]) (r_S (f := 1) [] M w V_HookedCityModel_62 G1652 (c41_X12_wordOf l D T _ 20 (by decide) (by decide)) rfl (by decide) rfl hl.1 rfl (Nat.le_of_ble_eq_true rfl) dX12_card_95 (by decide) (by decide) (by decide) (by decide)) w [] [0, 1, 2, 3] rfl rfl (by decide) (by decide) rfl rfl (fun fy39 _ H locs hp w => ?_)
        have pq40 : fy39 = wrdZ 20 := hp
        have w : WD D A s.heap [(a7, .inl (T 1, 12, .inr (.inl h0))), (a19, .inl (T 0, 64, .inl ff24)), (a0, .inr (11, [.int (iI 0), .ref a1, .int (iI x1), .int (iI x2), .int (iI x3), .int (iI x4), .int (iI x5), .int (iI x6), .int r1, .int (iI x7), .int (iI x8), .int (iI x9), .long y0, .int (iI x10), .ref a2, .ref a3, .ref a4, .ref a5, .ref a6, .ref a7, .ref a8, .ref a9, .ref a10, .ref a11, .int (iI x11), .ref a12, .ref a13, .ref a14, .ref a15, .int (iI x12), .int r2, .int r3, .ref a16, .int (iI x13), .int (iI x14), .ref a17, .ref a18, .int (iI x15), .ref a19, .int (iI z23), .int r4, .ref a20, .ref a21, .int (iI x17), .int r5, .ref a22, .int (iI x18), .int (iI x19), .int (iI x20), .int (iI x21)])), (a2, .inl (T 0, 329, .inl (cI f0)))] H locs := w
        refine k_V (ce := 0) (sl := 0) (rest := []) (wr := [(a7, .inl (T 1, 12, .inr (.inl h0))), (a2, .inl (T 0, 329, .inl (cI f0)))]) (r_V (f := 15) [2, 1] M w V_HookedCityModel_348 G1944 G97 (c167_X12_writeNext l D T _ a0 fy39 (iI 0) a1 x1 x2 x3 x4 x5 x6 r1 x7 x8 x9 y0 x10 a2 a3 a4 a5 a6 a7 a8 a9 a10 a11 x11 a12 a13 a14 a15 x12 r2 r3 a16 x13 x14 a17 a18 x15 a19 z23 r4 a20 a21 x17 r5 a22 x18 x19 x20 x21 ff24 x1_a x1_b x2_a x2_b x3_a x3_b x4_a x4_b x5_a x5_b x6_a x6_b x7_a x7_b x8_a x8_b x9_a x9_b x10_a x10_b x11_a x11_b x12_a x12_b x13_a x13_b x14_a x14_b x15_a x15_b z23_a z23_b x17_a x17_b x18_a x18_b x19_a x19_b x20_a x20_b x21_a x21_b (by omega)) 2 clX12 rfl rfl (by decide) rfl hl.1 rfl (Nat.le_of_ble_eq_true rfl) dX12_card_98 (by decide) (by decide) (by decide) (by decide)) w [2, 1] [0, 3] rfl rfl (by decide) (by decide) rfl rfl (fun u H locs hp w => ?_)
        obtain ⟨z41, ff42⟩ := u
        have z41_a : 0 ≤ z41 := hp.1
        have z41_b : z41 ≤ 64 := hp.2.1
        have ee43 : 0 ≤ ((z23 + 15) - z41) := hp.2.2.1
        have ee44 : 0 ≤ (z41 - z23) := hp.2.2.2
        have w : WD D A s.heap [(a7, .inl (T 1, 12, .inr (.inl h0))), (a2, .inl (T 0, 329, .inl (cI f0))), (a0, .inr (11, [.int (iI 0), .ref a1, .int (iI x1), .int (iI x2), .int (iI x3), .int (iI x4), .int (iI x5), .int (iI x6), .int r1, .int (iI x7), .int (iI x8), .int (iI x9), .long y0, .int (iI x10), .ref a2, .ref a3, .ref a4, .ref a5, .ref a6, .ref a7, .ref a8, .ref a9, .ref a10, .ref a11, .int (iI x11), .ref a12, .ref a13, .ref a14, .ref a15, .int (iI x12), .int r2, .int r3, .ref a16, .int (iI x13), .int (iI x14), .ref a17, .ref a18, .int (iI x15), .ref a19, .int (iI z41), .int r4, .ref a20, .ref a21, .int (iI x17), .int r5, .ref a22, .int (iI x18), .int (iI x19), .int (iI x20), .int (iI x21)])), (a19, .inl (T 0, 64, .inl ff42))] H locs := w
        refine lv_goto (tgt := 121) hx hb dX12_card_101 (by decide) ?_
        refine lv_aload_n hx hb dX12_card_121 rfl (lv_at hl 0 rfl) ?_
        refine r_get (v := .int (iI z41)) M w 2 39 clX12 rfl (by decide) G1502 rfl rfl dX12_card_122 ?_
        exact ret _ (z41, (iI 0), z41, ff42) _ _ _ _ _ [2, 1, 0, 3] dX12_card_125 ⟨rfl, (show (-2147483648) ≤ z41 from by omega), (show z41 ≤ 2147483647 from by omega), z41_a, z41_b⟩ w (by decide) rfl
    · replace c_13 : ¬ z11 = 0 := fun h => c_13 ((iz_eq (Int.le_trans (by decide) z11_a) (Int.le_trans z11_b (by decide))).mpr h)
      refine lv_aload_n hx hb dX12_card_38 rfl (lv_at hl 0 rfl) ?_
      refine lv_bipush (v := iI 18) hx hb dX12_card_39 (by decide +kernel) ?_
      refine k_L (ce := 0) (sl := 0) (rest := [.ref a0]) (wr := [(a7, .inl (T 1, 12, .inr (.inl h0))), (a19, .inl (T 0, 64, .inl ff8)), (a0, .inr (11, [.int (iI 0), .ref a1, .int (iI x1), .int (iI x2), .int (iI x3), .int (iI x4), .int (iI x5), .int (iI x6), .int r1, .int (iI x7), .int (iI x8), .int (iI x9), .long y0, .int (iI x10), .ref a2, .ref a3, .ref a4, .ref a5, .ref a6, .ref a7, .ref a8, .ref a9, .ref a10, .ref a11, .int (iI x11), .ref a12, .ref a13, .ref a14, .ref a15, .int (iI x12), .int r2, .int r3, .ref a16, .int (iI x13), .int (iI x14), .ref a17, .ref a18, .int (iI x15), .ref a19, .int (iI z7), .int r4, .ref a20, .ref a21, .int (iI x17), .int r5, .ref a22, .int (iI x18), .int (iI x19), .int (iI x20), .int (iI x21)])), (a2, .inl (T 0, 329, .inl (cI f0)))]) (r_S (f := 1) [] M w V_HookedCityModel_62 G1652 (c41_X12_wordOf l D T _ 18 (by decide) (by decide)) rfl (by decide) rfl hl.1 rfl (Nat.le_of_ble_eq_true rfl) dX12_card_41 (by decide) (by decide) (by decide) (by decide)) w [] [0, 1, 2, 3] rfl rfl (by decide) (by decide) rfl rfl (fun fy45 _ H locs hp w => ?_)
      have pq46 : fy45 = wrdZ 18 := hp
      have w : WD D A s.heap [(a7, .inl (T 1, 12, .inr (.inl h0))), (a19, .inl (T 0, 64, .inl ff8)), (a0, .inr (11, [.int (iI 0), .ref a1, .int (iI x1), .int (iI x2), .int (iI x3), .int (iI x4), .int (iI x5), .int (iI x6), .int r1, .int (iI x7), .int (iI x8), .int (iI x9), .long y0, .int (iI x10), .ref a2, .ref a3, .ref a4, .ref a5, .ref a6, .ref a7, .ref a8, .ref a9, .ref a10, .ref a11, .int (iI x11), .ref a12, .ref a13, .ref a14, .ref a15, .int (iI x12), .int r2, .int r3, .ref a16, .int (iI x13), .int (iI x14), .ref a17, .ref a18, .int (iI x15), .ref a19, .int (iI z7), .int r4, .ref a20, .ref a21, .int (iI x17), .int r5, .ref a22, .int (iI x18), .int (iI x19), .int (iI x20), .int (iI x21)])), (a2, .inl (T 0, 329, .inl (cI f0)))] H locs := w
      refine k_V (ce := 0) (sl := 0) (rest := []) (wr := [(a7, .inl (T 1, 12, .inr (.inl h0))), (a2, .inl (T 0, 329, .inl (cI f0)))]) (r_V (f := 15) [2, 1] M w V_HookedCityModel_348 G1944 G97 (c167_X12_writeNext l D T _ a0 fy45 (iI 0) a1 x1 x2 x3 x4 x5 x6 r1 x7 x8 x9 y0 x10 a2 a3 a4 a5 a6 a7 a8 a9 a10 a11 x11 a12 a13 a14 a15 x12 r2 r3 a16 x13 x14 a17 a18 x15 a19 z7 r4 a20 a21 x17 r5 a22 x18 x19 x20 x21 ff8 x1_a x1_b x2_a x2_b x3_a x3_b x4_a x4_b x5_a x5_b x6_a x6_b x7_a x7_b x8_a x8_b x9_a x9_b x10_a x10_b x11_a x11_b x12_a x12_b x13_a x13_b x14_a x14_b x15_a x15_b z7_a z7_b x17_a x17_b x18_a x18_b x19_a x19_b x20_a x20_b x21_a x21_b (by omega)) 2 clX12 rfl rfl (by decide) rfl hl.1 rfl (Nat.le_of_ble_eq_true rfl) dX12_card_44 (by decide) (by decide) (by decide) (by decide)) w [2, 1] [0, 3] rfl rfl (by decide) (by decide) rfl rfl (fun u H locs hp w => ?_)
      obtain ⟨z47, ff48⟩ := u
      have z47_a : 0 ≤ z47 := hp.1
      have z47_b : z47 ≤ 64 := hp.2.1
      have ee49 : 0 ≤ ((z7 + 15) - z47) := hp.2.2.1
      have ee50 : 0 ≤ (z47 - z7) := hp.2.2.2
      have w : WD D A s.heap [(a7, .inl (T 1, 12, .inr (.inl h0))), (a2, .inl (T 0, 329, .inl (cI f0))), (a0, .inr (11, [.int (iI 0), .ref a1, .int (iI x1), .int (iI x2), .int (iI x3), .int (iI x4), .int (iI x5), .int (iI x6), .int r1, .int (iI x7), .int (iI x8), .int (iI x9), .long y0, .int (iI x10), .ref a2, .ref a3, .ref a4, .ref a5, .ref a6, .ref a7, .ref a8, .ref a9, .ref a10, .ref a11, .int (iI x11), .ref a12, .ref a13, .ref a14, .ref a15, .int (iI x12), .int r2, .int r3, .ref a16, .int (iI x13), .int (iI x14), .ref a17, .ref a18, .int (iI x15), .ref a19, .int (iI z47), .int r4, .ref a20, .ref a21, .int (iI x17), .int r5, .ref a22, .int (iI x18), .int (iI x19), .int (iI x20), .int (iI x21)])), (a19, .inl (T 0, 64, .inl ff48))] H locs := w
      refine lv_goto (tgt := 84) hx hb dX12_card_47 (by decide) ?_
      refine lv_aload_n hx hb dX12_card_84 rfl (lv_at hl 0 rfl) ?_
      refine lv_iload_n hx hb dX12_card_85 rfl (lv_at hl 1 rfl) ?_
      refine k_I (ce := 0) (sl := 0) (rest := []) (wr := [(a7, .inl (T 1, 12, .inr (.inl h0))), (a19, .inl (T 0, 64, .inl ff48))]) (r_V (f := 0) [2, 1] M w V_HookedCityModel_264 G1776 G76 (c72_X12_isTorn l D T _ a0 x0 (iI 0) a1 x1 x2 x3 x4 x5 x6 r1 x7 x8 x9 y0 x10 a2 a3 a4 a5 a6 a7 a8 a9 a10 a11 x11 a12 a13 a14 a15 x12 r2 r3 a16 x13 x14 a17 a18 x15 a19 z47 r4 a20 a21 x17 r5 a22 x18 x19 x20 x21 f0 (by omega) (by omega) x1_a x1_b x2_a x2_b x3_a x3_b x4_a x4_b x5_a x5_b x6_a x6_b x7_a x7_b x8_a x8_b x9_a x9_b x10_a x10_b x11_a x11_b x12_a x12_b x13_a x13_b x14_a x14_b x15_a x15_b z47_a z47_b x17_a x17_b x18_a x18_b x19_a x19_b x20_a x20_b x21_a x21_b f0_h) 2 clX12 rfl rfl (by decide) rfl hl.1 rfl (Nat.le_of_ble_eq_true rfl) dX12_card_86 (by decide) (by decide) (by decide) (by decide)) w [2, 1] [0, 3] rfl rfl (by decide) (by decide) rfl rfl (fun v z51 H locs hp w => ?_)
      have hv : iI z51 = v := hp.1
      subst hv
      have z51_a : 0 ≤ z51 := hp.2.1
      have z51_b : z51 ≤ 1 := hp.2.2
      have w : WD D A s.heap [(a7, .inl (T 1, 12, .inr (.inl h0))), (a19, .inl (T 0, 64, .inl ff48)), (a0, .inr (11, [.int (iI 0), .ref a1, .int (iI x1), .int (iI x2), .int (iI x3), .int (iI x4), .int (iI x5), .int (iI x6), .int r1, .int (iI x7), .int (iI x8), .int (iI x9), .long y0, .int (iI x10), .ref a2, .ref a3, .ref a4, .ref a5, .ref a6, .ref a7, .ref a8, .ref a9, .ref a10, .ref a11, .int (iI x11), .ref a12, .ref a13, .ref a14, .ref a15, .int (iI x12), .int r2, .int r3, .ref a16, .int (iI x13), .int (iI x14), .ref a17, .ref a18, .int (iI x15), .ref a19, .int (iI z47), .int r4, .ref a20, .ref a21, .int (iI x17), .int r5, .ref a22, .int (iI x18), .int (iI x19), .int (iI x20), .int (iI x21)])), (a2, .inl (T 0, 329, .inl (cI f0)))] H locs := w
      refine lv_if_eq (tgt := 104) hx hb dX12_card_89 (by decide) (fun c_52 => ?_) (fun c_52 => ?_)
      · replace c_52 := (iz_eq (Int.le_trans (by decide) z51_a) (Int.le_trans z51_b (by decide))).mp c_52
        refine lv_aload_n hx hb dX12_card_104 rfl (lv_at hl 0 rfl) ?_
        refine lv_iload_n hx hb dX12_card_105 rfl (lv_at hl 1 rfl) ?_
        refine k_I (ce := 0) (sl := 0) (rest := []) (wr := [(a7, .inl (T 1, 12, .inr (.inl h0))), (a19, .inl (T 0, 64, .inl ff48))]) (r_V (f := 0) [2, 3] M w V_HookedCityModel_261 G1772 G75 (c71_X12_isBare l D T _ a0 x0 (iI 0) a1 x1 x2 x3 x4 x5 x6 r1 x7 x8 x9 y0 x10 a2 a3 a4 a5 a6 a7 a8 a9 a10 a11 x11 a12 a13 a14 a15 x12 r2 r3 a16 x13 x14 a17 a18 x15 a19 z47 r4 a20 a21 x17 r5 a22 x18 x19 x20 x21 f0 (by omega) (by omega) x1_a x1_b x2_a x2_b x3_a x3_b x4_a x4_b x5_a x5_b x6_a x6_b x7_a x7_b x8_a x8_b x9_a x9_b x10_a x10_b x11_a x11_b x12_a x12_b x13_a x13_b x14_a x14_b x15_a x15_b z47_a z47_b x17_a x17_b x18_a x18_b x19_a x19_b x20_a x20_b x21_a x21_b f0_h) 2 clX12 rfl rfl (by decide) rfl hl.1 rfl (Nat.le_of_ble_eq_true rfl) dX12_card_106 (by decide) (by decide) (by decide) (by decide)) w [2, 3] [0, 1] rfl rfl (by decide) (by decide) rfl rfl (fun v z53 H locs hp w => ?_)
        have hv : iI z53 = v := hp.1
        subst hv
        have z53_a : 0 ≤ z53 := hp.2.1
        have z53_b : z53 ≤ 1 := hp.2.2.1
        have pq54 : z53 = 1 → f0 (66 + x0) = -1 := hp.2.2.2.1
        have pq55 : z53 = 0 → 0 ≤ f0 (66 + x0) := hp.2.2.2.2
        have w : WD D A s.heap [(a7, .inl (T 1, 12, .inr (.inl h0))), (a19, .inl (T 0, 64, .inl ff48)), (a0, .inr (11, [.int (iI 0), .ref a1, .int (iI x1), .int (iI x2), .int (iI x3), .int (iI x4), .int (iI x5), .int (iI x6), .int r1, .int (iI x7), .int (iI x8), .int (iI x9), .long y0, .int (iI x10), .ref a2, .ref a3, .ref a4, .ref a5, .ref a6, .ref a7, .ref a8, .ref a9, .ref a10, .ref a11, .int (iI x11), .ref a12, .ref a13, .ref a14, .ref a15, .int (iI x12), .int r2, .int r3, .ref a16, .int (iI x13), .int (iI x14), .ref a17, .ref a18, .int (iI x15), .ref a19, .int (iI z47), .int r4, .ref a20, .ref a21, .int (iI x17), .int r5, .ref a22, .int (iI x18), .int (iI x19), .int (iI x20), .int (iI x21)])), (a2, .inl (T 0, 329, .inl (cI f0)))] H locs := w
        refine lv_if_eq (tgt := 121) hx hb dX12_card_109 (by decide) (fun c_56 => ?_) (fun c_56 => ?_)
        · replace c_56 := (iz_eq (Int.le_trans (by decide) z53_a) (Int.le_trans z53_b (by decide))).mp c_56
          refine lv_aload_n hx hb dX12_card_121 rfl (lv_at hl 0 rfl) ?_
          refine r_get (v := .int (iI z47)) M w 2 39 clX12 rfl (by decide) G1502 rfl rfl dX12_card_122 ?_
          exact ret _ (z47, (iI 0), z47, ff48) _ _ _ _ _ [2, 3, 0, 1] dX12_card_125 ⟨rfl, (show (-2147483648) ≤ z47 from by omega), (show z47 ≤ 2147483647 from by omega), z47_a, z47_b⟩ w (by decide) rfl
        · replace c_56 : ¬ z53 = 0 := fun h => c_56 ((iz_eq (Int.le_trans (by decide) z53_a) (Int.le_trans z53_b (by decide))).mpr h)
          refine lv_aload_n hx hb dX12_card_112 rfl (lv_at hl 0 rfl) ?_
          refine lv_bipush (v := iI 19) hx hb dX12_card_113 (by decide +kernel) ?_
          refine k_L (ce := 0) (sl := 0) (rest := [.ref a0]) (wr := [(a7, .inl (T 1, 12, .inr (.inl h0))), (a19, .inl (T 0, 64, .inl ff48)), (a0, .inr (11, [.int (iI 0), .ref a1, .int (iI x1), .int (iI x2), .int (iI x3), .int (iI x4), .int (iI x5), .int (iI x6), .int r1, .int (iI x7), .int (iI x8), .int (iI x9), .long y0, .int (iI x10), .ref a2, .ref a3, .ref a4, .ref a5, .ref a6, .ref a7, .ref a8, .ref a9, .ref a10, .ref a11, .int (iI x11), .ref a12, .ref a13, .ref a14, .ref a15, .int (iI x12), .int r2, .int r3, .ref a16, .int (iI x13), .int (iI x14), .ref a17, .ref a18, .int (iI x15), .ref a19, .int (iI z47), .int r4, .ref a20, .ref a21, .int (iI x17), .int r5, .ref a22, .int (iI x18), .int (iI x19), .int (iI x20), .int (iI x21)])), (a2, .inl (T 0, 329, .inl (cI f0)))]) (r_S (f := 1) [] M w V_HookedCityModel_62 G1652 (c41_X12_wordOf l D T _ 19 (by decide) (by decide)) rfl (by decide) rfl hl.1 rfl (Nat.le_of_ble_eq_true rfl) dX12_card_115 (by decide) (by decide) (by decide) (by decide)) w [] [0, 1, 2, 3] rfl rfl (by decide) (by decide) rfl rfl (fun fy57 _ H locs hp w => ?_)
          have pq58 : fy57 = wrdZ 19 := hp
          have w : WD D A s.heap [(a7, .inl (T 1, 12, .inr (.inl h0))), (a19, .inl (T 0, 64, .inl ff48)), (a0, .inr (11, [.int (iI 0), .ref a1, .int (iI x1), .int (iI x2), .int (iI x3), .int (iI x4), .int (iI x5), .int (iI x6), .int r1, .int (iI x7), .int (iI x8), .int (iI x9), .long y0, .int (iI x10), .ref a2, .ref a3, .ref a4, .ref a5, .ref a6, .ref a7, .ref a8, .ref a9, .ref a10, .ref a11, .int (iI x11), .ref a12, .ref a13, .ref a14, .ref a15, .int (iI x12), .int r2, .int r3, .ref a16, .int (iI x13), .int (iI x14), .ref a17, .ref a18, .int (iI x15), .ref a19, .int (iI z47), .int r4, .ref a20, .ref a21, .int (iI x17), .int r5, .ref a22, .int (iI x18), .int (iI x19), .int (iI x20), .int (iI x21)])), (a2, .inl (T 0, 329, .inl (cI f0)))] H locs := w
          refine k_V (ce := 0) (sl := 0) (rest := []) (wr := [(a7, .inl (T 1, 12, .inr (.inl h0))), (a2, .inl (T 0, 329, .inl (cI f0)))]) (r_V (f := 15) [2, 1] M w V_HookedCityModel_348 G1944 G97 (c167_X12_writeNext l D T _ a0 fy57 (iI 0) a1 x1 x2 x3 x4 x5 x6 r1 x7 x8 x9 y0 x10 a2 a3 a4 a5 a6 a7 a8 a9 a10 a11 x11 a12 a13 a14 a15 x12 r2 r3 a16 x13 x14 a17 a18 x15 a19 z47 r4 a20 a21 x17 r5 a22 x18 x19 x20 x21 ff48 x1_a x1_b x2_a x2_b x3_a x3_b x4_a x4_b x5_a x5_b x6_a x6_b x7_a x7_b x8_a x8_b x9_a x9_b x10_a x10_b x11_a x11_b x12_a x12_b x13_a x13_b x14_a x14_b x15_a x15_b z47_a z47_b x17_a x17_b x18_a x18_b x19_a x19_b x20_a x20_b x21_a x21_b (by omega)) 2 clX12 rfl rfl (by decide) rfl hl.1 rfl (Nat.le_of_ble_eq_true rfl) dX12_card_118 (by decide) (by decide) (by decide) (by decide)) w [2, 1] [0, 3] rfl rfl (by decide) (by decide) rfl rfl (fun u H locs hp w => ?_)
          obtain ⟨z59, ff60⟩ := u
          have z59_a : 0 ≤ z59 := hp.1
          have z59_b : z59 ≤ 64 := hp.2.1
          have ee61 : 0 ≤ ((z47 + 15) - z59) := hp.2.2.1
          have ee62 : 0 ≤ (z59 - z47) := hp.2.2.2
          have w : WD D A s.heap [(a7, .inl (T 1, 12, .inr (.inl h0))), (a2, .inl (T 0, 329, .inl (cI f0))), (a0, .inr (11, [.int (iI 0), .ref a1, .int (iI x1), .int (iI x2), .int (iI x3), .int (iI x4), .int (iI x5), .int (iI x6), .int r1, .int (iI x7), .int (iI x8), .int (iI x9), .long y0, .int (iI x10), .ref a2, .ref a3, .ref a4, .ref a5, .ref a6, .ref a7, .ref a8, .ref a9, .ref a10, .ref a11, .int (iI x11), .ref a12, .ref a13, .ref a14, .ref a15, .int (iI x12), .int r2, .int r3, .ref a16, .int (iI x13), .int (iI x14), .ref a17, .ref a18, .int (iI x15), .ref a19, .int (iI z59), .int r4, .ref a20, .ref a21, .int (iI x17), .int r5, .ref a22, .int (iI x18), .int (iI x19), .int (iI x20), .int (iI x21)])), (a19, .inl (T 0, 64, .inl ff60))] H locs := w
          refine lv_aload_n hx hb dX12_card_121 rfl (lv_at hl 0 rfl) ?_
          refine r_get (v := .int (iI z59)) M w 2 39 clX12 rfl (by decide) G1502 rfl rfl dX12_card_122 ?_
          exact ret _ (z59, (iI 0), z59, ff60) _ _ _ _ _ [2, 1, 0, 3] dX12_card_125 ⟨rfl, (show (-2147483648) ≤ z59 from by omega), (show z59 ≤ 2147483647 from by omega), z59_a, z59_b⟩ w (by decide) rfl
      · replace c_52 : ¬ z51 = 0 := fun h => c_52 ((iz_eq (Int.le_trans (by decide) z51_a) (Int.le_trans z51_b (by decide))).mpr h)
        refine lv_aload_n hx hb dX12_card_92 rfl (lv_at hl 0 rfl) ?_
        refine lv_bipush (v := iI 20) hx hb dX12_card_93 (by decide +kernel) ?_
        refine k_L (ce := 0) (sl := 0) (rest := [.ref a0]) (wr := [(a7, .inl (T 1, 12, .inr (.inl h0))), (a19, .inl (T 0, 64, .inl ff48)), (a0, .inr (11, [.int (iI 0), .ref a1, .int (iI x1), .int (iI x2), .int (iI x3), .int (iI x4), .int (iI x5), .int (iI x6), .int r1, .int (iI x7), .int (iI x8), .int (iI x9), .long y0, .int (iI x10), .ref a2, .ref a3, .ref a4, .ref a5, .ref a6, .ref a7, .ref a8, .ref a9, .ref a10, .ref a11, .int (iI x11), .ref a12, .ref a13, .ref a14, .ref a15, .int (iI x12), .int r2, .int r3, .ref a16, .int (iI x13), .int (iI x14), .ref a17, .ref a18, .int (iI x15), .ref a19, .int (iI z47), .int r4, .ref a20, .ref a21, .int (iI x17), .int r5, .ref a22, .int (iI x18), .int (iI x19), .int (iI x20), .int (iI x21)])), (a2, .inl (T 0, 329, .inl (cI f0)))]) (r_S (f := 1) [] M w V_HookedCityModel_62 G1652 (c41_X12_wordOf l D T _ 20 (by decide) (by decide)) rfl (by decide) rfl hl.1 rfl (Nat.le_of_ble_eq_true rfl) dX12_card_95 (by decide) (by decide) (by decide) (by decide)) w [] [0, 1, 2, 3] rfl rfl (by decide) (by decide) rfl rfl (fun fy63 _ H locs hp w => ?_)
        have pq64 : fy63 = wrdZ 20 := hp
        have w : WD D A s.heap [(a7, .inl (T 1, 12, .inr (.inl h0))), (a19, .inl (T 0, 64, .inl ff48)), (a0, .inr (11, [.int (iI 0), .ref a1, .int (iI x1), .int (iI x2), .int (iI x3), .int (iI x4), .int (iI x5), .int (iI x6), .int r1, .int (iI x7), .int (iI x8), .int (iI x9), .long y0, .int (iI x10), .ref a2, .ref a3, .ref a4, .ref a5, .ref a6, .ref a7, .ref a8, .ref a9, .ref a10, .ref a11, .int (iI x11), .ref a12, .ref a13, .ref a14, .ref a15, .int (iI x12), .int r2, .int r3, .ref a16, .int (iI x13), .int (iI x14), .ref a17, .ref a18, .int (iI x15), .ref a19, .int (iI z47), .int r4, .ref a20, .ref a21, .int (iI x17), .int r5, .ref a22, .int (iI x18), .int (iI x19), .int (iI x20), .int (iI x21)])), (a2, .inl (T 0, 329, .inl (cI f0)))] H locs := w
        refine k_V (ce := 0) (sl := 0) (rest := []) (wr := [(a7, .inl (T 1, 12, .inr (.inl h0))), (a2, .inl (T 0, 329, .inl (cI f0)))]) (r_V (f := 15) [2, 1] M w V_HookedCityModel_348 G1944 G97 (c167_X12_writeNext l D T _ a0 fy63 (iI 0) a1 x1 x2 x3 x4 x5 x6 r1 x7 x8 x9 y0 x10 a2 a3 a4 a5 a6 a7 a8 a9 a10 a11 x11 a12 a13 a14 a15 x12 r2 r3 a16 x13 x14 a17 a18 x15 a19 z47 r4 a20 a21 x17 r5 a22 x18 x19 x20 x21 ff48 x1_a x1_b x2_a x2_b x3_a x3_b x4_a x4_b x5_a x5_b x6_a x6_b x7_a x7_b x8_a x8_b x9_a x9_b x10_a x10_b x11_a x11_b x12_a x12_b x13_a x13_b x14_a x14_b x15_a x15_b z47_a z47_b x17_a x17_b x18_a x18_b x19_a x19_b x20_a x20_b x21_a x21_b (by omega)) 2 clX12 rfl rfl (by decide) rfl hl.1 rfl (Nat.le_of_ble_eq_true rfl) dX12_card_98 (by decide) (by decide) (by decide) (by decide)) w [2, 1] [0, 3] rfl rfl (by decide) (by decide) rfl rfl (fun u H locs hp w => ?_)
        obtain ⟨z65, ff66⟩ := u
        have z65_a : 0 ≤ z65 := hp.1
        have z65_b : z65 ≤ 64 := hp.2.1
        have ee67 : 0 ≤ ((z47 + 15) - z65) := hp.2.2.1
        have ee68 : 0 ≤ (z65 - z47) := hp.2.2.2
        have w : WD D A s.heap [(a7, .inl (T 1, 12, .inr (.inl h0))), (a2, .inl (T 0, 329, .inl (cI f0))), (a0, .inr (11, [.int (iI 0), .ref a1, .int (iI x1), .int (iI x2), .int (iI x3), .int (iI x4), .int (iI x5), .int (iI x6), .int r1, .int (iI x7), .int (iI x8), .int (iI x9), .long y0, .int (iI x10), .ref a2, .ref a3, .ref a4, .ref a5, .ref a6, .ref a7, .ref a8, .ref a9, .ref a10, .ref a11, .int (iI x11), .ref a12, .ref a13, .ref a14, .ref a15, .int (iI x12), .int r2, .int r3, .ref a16, .int (iI x13), .int (iI x14), .ref a17, .ref a18, .int (iI x15), .ref a19, .int (iI z65), .int r4, .ref a20, .ref a21, .int (iI x17), .int r5, .ref a22, .int (iI x18), .int (iI x19), .int (iI x20), .int (iI x21)])), (a19, .inl (T 0, 64, .inl ff66))] H locs := w
        refine lv_goto (tgt := 121) hx hb dX12_card_101 (by decide) ?_
        refine lv_aload_n hx hb dX12_card_121 rfl (lv_at hl 0 rfl) ?_
        refine r_get (v := .int (iI z65)) M w 2 39 clX12 rfl (by decide) G1502 rfl rfl dX12_card_122 ?_
        exact ret _ (z65, (iI 0), z65, ff66) _ _ _ _ _ [2, 1, 0, 3] dX12_card_125 ⟨rfl, (show (-2147483648) ≤ z65 from by omega), (show z65 ≤ 2147483647 from by omega), z65_a, z65_b⟩ w (by decide) rfl
  · replace c_5 := (iz_eq (Int.le_trans (by decide) z1_a) (Int.le_trans z1_b (by decide))).mp c_5
    refine lv_iconst (v := iI (-1)) hx hb dX12_card_13 (by decide +kernel) ?_
    exact ret _ ((-1), (iI 0), x16, f1) _ _ _ _ _ [2, 3, 0, 1] dX12_card_14 ⟨rfl, (show (-2147483648) ≤ (-1) from by decide), (show ((-1) : Int) ≤ 2147483647 from by decide), x16_a, x16_b⟩ w (by decide) rfl
