theorem dL_law_0 : decode cL_law 0 = .ok (.new 8, 3) := by decide +kernel
theorem dL_law_3 : decode cL_law 3 = .ok (.dup, 1) := by decide +kernel
theorem dL_law_4 : decode cL_law 4 = .ok (.invokespecial 15, 3) := by decide +kernel
theorem dL_law_7 : decode cL_law 7 = .ok (.astore_n 1, 1) := by decide +kernel
theorem dL_law_8 : decode cL_law 8 = .ok (.new 16, 3) := by decide +kernel
theorem dL_law_11 : decode cL_law 11 = .ok (.dup, 1) := by decide +kernel
theorem dL_law_12 : decode cL_law 12 = .ok (.invokespecial 18, 3) := by decide +kernel
theorem dL_law_15 : decode cL_law 15 = .ok (.astore_n 2, 1) := by decide +kernel
theorem dL_law_16 : decode cL_law 16 = .ok (.iconst 1, 1) := by decide +kernel
theorem dL_law_17 : decode cL_law 17 = .ok (.newarray .long, 2) := by decide +kernel
theorem dL_law_19 : decode cL_law 19 = .ok (.astore_n 3, 1) := by decide +kernel
theorem dL_law_20 : decode cL_law 20 = .ok (.iconst 0, 1) := by decide +kernel
theorem dL_law_21 : decode cL_law 21 = .ok (.istore 4, 2) := by decide +kernel
theorem dL_law_23 : decode cL_law 23 = .ok (.iload 4, 2) := by decide +kernel
theorem dL_law_25 : decode cL_law 25 = .ok (.aload_n 0, 1) := by decide +kernel
theorem dL_law_26 : decode cL_law 26 = .ok (.arraylength, 1) := by decide +kernel
theorem dL_law_27 : decode cL_law 27 = .ok (.bipush 6, 2) := by decide +kernel
theorem dL_law_29 : decode cL_law 29 = .ok (.isub, 1) := by decide +kernel
theorem dL_law_30 : decode cL_law 30 = .ok (.if_icmp .gt 1132, 3) := by decide +kernel
theorem dL_law_33 : decode cL_law 33 = .ok (.aload_n 0, 1) := by decide +kernel
theorem dL_law_34 : decode cL_law 34 = .ok (.iload 4, 2) := by decide +kernel
theorem dL_law_36 : decode cL_law 36 = .ok (.iaload, 1) := by decide +kernel
theorem dL_law_37 : decode cL_law 37 = .ok (.bipush 63, 2) := by decide +kernel
theorem dL_law_39 : decode cL_law 39 = .ok (.iand, 1) := by decide +kernel
theorem dL_law_40 : decode cL_law 40 = .ok (.tableswitch 1116 0 36 #[164, 237, 262, 275, 288, 328, 365, 390, 439, 476, 501, 526, 539, 564, 577, 590, 603, 628, 641, 654, 667, 680, 717, 742, 767, 792, 817, 842, 867, 904, 953, 978, 1003, 1016, 1041, 1066, 1091], 164) := by decide +kernel
theorem dL_law_1156 : decode cL_law 1156 = .ok (.iinc 4 6, 3) := by decide +kernel
theorem dL_law_1159 : decode cL_law 1159 = .ok (.goto (-1136), 3) := by decide +kernel
theorem dL_law_1162 : decode cL_law 1162 = .ok (.iconst 1, 1) := by decide +kernel
theorem dL_law_1163 : decode cL_law 1163 = .ok (.ireturn, 1) := by decide +kernel
set_option maxRecDepth 100000 in
set_option maxHeartbeats 4000000 in
theorem LH.wid {p : Program} {l : Launch} {e : Env} {s : State} {m : MethodId} {below : List Frame} {meth : Method} {c : Code} {D : va_G} {T : Nat → ClassId} {A : Nat → Prop} {b : Nat} {pc : Nat} {i : Int} {ce sl : Nat} (h : LH p l e s m below meth c D T A b pc i (ce + 1) (sl + 6)) : LH p l e s m below meth c D T A b pc i ce sl := by
  intro a0 a1 a2 a3 a4 a5 a6 a7 a8 a9 a10 a11 a12 a13 a14 a15 a16 r0 x0 r1 r2 a17 x1 x2 x3 x4 x5 x6 r3 x7 x8 x9 y0 x10 a18 a19 a20 a21 a22 a23 a24 a25 a26 a27 x11 a28 a29 a30 a31 x12 r4 r5 a32 x13 x14 a33 a34 x15 a35 x16 r6 a36 a37 x17 r7 a38 x18 x19 x20 x21 h0 a39 x22 x23 x24 x25 x26 o0 y1 r8 x27 x28 x29 a40 a41 a42 a43 r9 r10 r11 r12 a44 a45 a46 a47 r13 r14 r15 r16 a48 a49 a50 a51 a52 x30 a53 a54 a55 x31 r17 x32 x33 a56 a57 x34 a58 x35 a59 a60 a61 a62 a63 a64 a65 a66 a67 a68 a69 a70 a71 a72 a73 a74 a75 a76 a77 x36 x37 x38 x39 x40 x41 x42 x43 x44 a78 a79 a80 a81 a82 a83 a84 a85 a86 x45 x46 x47 x48 x49 x50 x51 x52 x53 a87 a88 a89 a90 x54 x55 a91 a92 a93 a94 x56 x57 f0 f1 f2 f3 f4 f5 h1 h2 h3 f6 f7 f8 f9 f10 f11 f12 f13 f14 f15 f16 f17 f18 f19 f20 f21 f22 f23 f24 f25 f26 f27 g0 f28 f29 f30 f31 f32 f33 f34 f35 f36 f37 a95 a96 a97 a98 r18 r19 r20 r21 a99 a100 a101 a102 r22 r23 r24 r25 a103 a104 a105 a106 r26 r27 r28 r29 a107 a108 a109 a110 r30 r31 r32 r33 a111 a112 a113 a114 r34 r35 r36 r37 a115 a116 a117 a118 r38 r39 r40 r41 a119 a120 a121 a122 r42 r43 r44 r45 a123 a124 a125 a126 r46 r47 r48 r49 a127 a128 a129 x58 a130 a131 a132 x59 h4 f38 f39 f40 f41 f42 f43 h5 f44 h6 f45 f46 f47 f48 f49 f50 h7 f51 g1 f52 f53 f54 g2 f55 f56 f57 f58 f59 f60 f61 f62 f63 f64 f65 f66 f67 f68 f69 f70 f71 f72 f73 f74 f75 f76 f77 f78 f79 f80 f81 f82 f83 f84 f85 f86 f87 f88 f89 a133 a134 a135 a136 a137 a138 a139 a140 a141 x60 x61 x62 x63 x64 x65 x66 x67 x68 a142 a143 a144 a145 r50 r51 r52 r53 a146 a147 a148 a149 x69 x70 a150 a151 a152 a153 a154 a155 a156 a157 a158 x71 x72 x73 x74 x75 x76 x77 x78 x79 a159 a160 a161 a162 r54 r55 r56 r57 a163 a164 a165 a166 x80 x81 h8 f90 f91 f92 f93 f94 f95 h9 f96 f97 f98 f99 f100 g3 f101 f102 f103 h10 f104 f105 f106 f107 f108 f109 h11 f110 f111 f112 f113 f114 g4 f115 f116 f117 x0_a x0_b x1_a x1_b x2_a x2_b x3_a x3_b x4_a x4_b x5_a x5_b x6_a x6_b x7_a x7_b x8_a x8_b x9_a x9_b x10_a x10_b x11_a x11_b x12_a x12_b x13_a x13_b x14_a x14_b x15_a x15_b x16_a x16_b x17_a x17_b x18_a x18_b x19_a x19_b x20_a x20_b x21_a x21_b x22_a x22_b x23_a x23_b x24_a x24_b x25_a x25_b x26_a x26_b o0_h x27_a x27_b x28_a x28_b x29_a x29_b x30_a x30_b x31_a x31_b x32_a x32_b x33_a x33_b x34_a x34_b x35_a x35_b x36_a x36_b x37_a x37_b x38_a x38_b x39_a x39_b x40_a x40_b x41_a x41_b x42_a x42_b x43_a x43_b x44_a x44_b x45_a x45_b x46_a x46_b x47_a x47_b x48_a x48_b x49_a x49_b x50_a x50_b x51_a x51_b x52_a x52_b x53_a x53_b x54_a x54_b x55_a x55_b x56_a x56_b x57_a x57_b f0_h f1_h f2_h f3_h f4_h f5_h f6_h f7_h f8_h f10_h f11_h f12_h f13_h f16_h f18_h f19_h f21_h f22_h f25_h f26_h g0_h f28_h f29_h f30_h f32_h f34_h f35_h x58_a x58_b x59_a x59_b f38_h f39_h f40_h f41_h f42_h f43_h f44_h f45_h f46_h f47_h f48_h f49_h f50_h f51_h g1_h g2_h f59_h f60_h f63_h f64_h f67_h f68_h f71_h f72_h f75_h f76_h f79_h f80_h f83_h f84_h f87_h f88_h x60_a x60_b x61_a x61_b x62_a x62_b x63_a x63_b x64_a x64_b x65_a x65_b x66_a x66_b x67_a x67_b x68_a x68_b x69_a x69_b x70_a x70_b x71_a x71_b x72_a x72_b x73_a x73_b x74_a x74_b x75_a x75_b x76_a x76_b x77_a x77_b x78_a x78_b x79_a x79_b x80_a x80_b x81_a x81_b f90_h f91_h f92_h f93_h f94_h f95_h f96_h f98_h f99_h g3_h f104_h f105_h f106_h f107_h f108_h f109_h f110_h f112_h f113_h g4_h pp_s pp_k pp_t pp_u pp_b pp_w pp_v pp_sl pp_tu pp_fa H locs ls w hl
  exact W.widen (k := ce + 1) (n := sl + 6) (Nat.le_succ ce) (Nat.le_add_right sl 6) (h a0 a1 a2 a3 a4 a5 a6 a7 a8 a9 a10 a11 a12 a13 a14 a15 a16 r0 x0 r1 r2 a17 x1 x2 x3 x4 x5 x6 r3 x7 x8 x9 y0 x10 a18 a19 a20 a21 a22 a23 a24 a25 a26 a27 x11 a28 a29 a30 a31 x12 r4 r5 a32 x13 x14 a33 a34 x15 a35 x16 r6 a36 a37 x17 r7 a38 x18 x19 x20 x21 h0 a39 x22 x23 x24 x25 x26 o0 y1 r8 x27 x28 x29 a40 a41 a42 a43 r9 r10 r11 r12 a44 a45 a46 a47 r13 r14 r15 r16 a48 a49 a50 a51 a52 x30 a53 a54 a55 x31 r17 x32 x33 a56 a57 x34 a58 x35 a59 a60 a61 a62 a63 a64 a65 a66 a67 a68 a69 a70 a71 a72 a73 a74 a75 a76 a77 x36 x37 x38 x39 x40 x41 x42 x43 x44 a78 a79 a80 a81 a82 a83 a84 a85 a86 x45 x46 x47 x48 x49 x50 x51 x52 x53 a87 a88 a89 a90 x54 x55 a91 a92 a93 a94 x56 x57 f0 f1 f2 f3 f4 f5 h1 h2 h3 f6 f7 f8 f9 f10 f11 f12 f13 f14 f15 f16 f17 f18 f19 f20 f21 f22 f23 f24 f25 f26 f27 g0 f28 f29 f30 f31 f32 f33 f34 f35 f36 f37 a95 a96 a97 a98 r18 r19 r20 r21 a99 a100 a101 a102 r22 r23 r24 r25 a103 a104 a105 a106 r26 r27 r28 r29 a107 a108 a109 a110 r30 r31 r32 r33 a111 a112 a113 a114 r34 r35 r36 r37 a115 a116 a117 a118 r38 r39 r40 r41 a119 a120 a121 a122 r42 r43 r44 r45 a123 a124 a125 a126 r46 r47 r48 r49 a127 a128 a129 x58 a130 a131 a132 x59 h4 f38 f39 f40 f41 f42 f43 h5 f44 h6 f45 f46 f47 f48 f49 f50 h7 f51 g1 f52 f53 f54 g2 f55 f56 f57 f58 f59 f60 f61 f62 f63 f64 f65 f66 f67 f68 f69 f70 f71 f72 f73 f74 f75 f76 f77 f78 f79 f80 f81 f82 f83 f84 f85 f86 f87 f88 f89 a133 a134 a135 a136 a137 a138 a139 a140 a141 x60 x61 x62 x63 x64 x65 x66 x67 x68 a142 a143 a144 a145 r50 r51 r52 r53 a146 a147 a148 a149 x69 x70 a150 a151 a152 a153 a154 a155 a156 a157 a158 x71 x72 x73 x74 x75 x76 x77 x78 x79 a159 a160 a161 a162 r54 r55 r56 r57 a163 a164 a165 a166 x80 x81 h8 f90 f91 f92 f93 f94 f95 h9 f96 f97 f98 f99 f100 g3 f101 f102 f103 h10 f104 f105 f106 f107 f108 f109 h11 f110 f111 f112 f113 f114 g4 f115 f116 f117 x0_a x0_b x1_a x1_b x2_a x2_b x3_a x3_b x4_a x4_b x5_a x5_b x6_a x6_b x7_a x7_b x8_a x8_b x9_a x9_b x10_a x10_b x11_a x11_b x12_a x12_b x13_a x13_b x14_a x14_b x15_a x15_b x16_a x16_b x17_a x17_b x18_a x18_b x19_a x19_b x20_a x20_b x21_a x21_b x22_a x22_b x23_a x23_b x24_a x24_b x25_a x25_b x26_a x26_b o0_h x27_a x27_b x28_a x28_b x29_a x29_b x30_a x30_b x31_a x31_b x32_a x32_b x33_a x33_b x34_a x34_b x35_a x35_b x36_a x36_b x37_a x37_b x38_a x38_b x39_a x39_b x40_a x40_b x41_a x41_b x42_a x42_b x43_a x43_b x44_a x44_b x45_a x45_b x46_a x46_b x47_a x47_b x48_a x48_b x49_a x49_b x50_a x50_b x51_a x51_b x52_a x52_b x53_a x53_b x54_a x54_b x55_a x55_b x56_a x56_b x57_a x57_b f0_h f1_h f2_h f3_h f4_h f5_h f6_h f7_h f8_h f10_h f11_h f12_h f13_h f16_h f18_h f19_h f21_h f22_h f25_h f26_h g0_h f28_h f29_h f30_h f32_h f34_h f35_h x58_a x58_b x59_a x59_b f38_h f39_h f40_h f41_h f42_h f43_h f44_h f45_h f46_h f47_h f48_h f49_h f50_h f51_h g1_h g2_h f59_h f60_h f63_h f64_h f67_h f68_h f71_h f72_h f75_h f76_h f79_h f80_h f83_h f84_h f87_h f88_h x60_a x60_b x61_a x61_b x62_a x62_b x63_a x63_b x64_a x64_b x65_a x65_b x66_a x66_b x67_a x67_b x68_a x68_b x69_a x69_b x70_a x70_b x71_a x71_b x72_a x72_b x73_a x73_b x74_a x74_b x75_a x75_b x76_a x76_b x77_a x77_b x78_a x78_b x79_a x79_b x80_a x80_b x81_a x81_b f90_h f91_h f92_h f93_h f94_h f95_h f96_h f98_h f99_h g3_h f104_h f105_h f106_h f107_h f108_h f109_h f110_h f112_h f113_h g4_h pp_s pp_k pp_t pp_u pp_b pp_w pp_v pp_sl pp_tu pp_fa H locs ls w hl)
set_option maxRecDepth 100000 in
set_option maxHeartbeats 4000000 in
theorem LH.all {p : Program} {l : Launch} {e : Env} {s : State} {m : MethodId} {below : List Frame} {meth : Method} {c : Code} {D : va_G} {T : Nat → ClassId} {A : Nat → Prop} {b : Nat} {pc : Nat} {i : Int} {ce sl : Nat} (hst : ∀ (xa ma oo : Nat) (ws : va_W) (H : Heap) (locs : List Loc) (ls : Array Slot), WD D A s.heap ws H locs → lv_has ls 7 [(4, .int (iI i)), (3, .ref oo), (2, .ref ma), (1, .ref xa), (0, .ref b)] → W p l e room_1 s m #[Value.ref b] below meth c H locs ce sl (lw_Z below #[Value.ref b] s) (F0 m pc ls [])) : LH p l e s m below meth c D T A b pc i ce sl := by
  intro a0 a1 a2 a3 a4 a5 a6 a7 a8 a9 a10 a11 a12 a13 a14 a15 a16 r0 x0 r1 r2 a17 x1 x2 x3 x4 x5 x6 r3 x7 x8 x9 y0 x10 a18 a19 a20 a21 a22 a23 a24 a25 a26 a27 x11 a28 a29 a30 a31 x12 r4 r5 a32 x13 x14 a33 a34 x15 a35 x16 r6 a36 a37 x17 r7 a38 x18 x19 x20 x21 h0 a39 x22 x23 x24 x25 x26 o0 y1 r8 x27 x28 x29 a40 a41 a42 a43 r9 r10 r11 r12 a44 a45 a46 a47 r13 r14 r15 r16 a48 a49 a50 a51 a52 x30 a53 a54 a55 x31 r17 x32 x33 a56 a57 x34 a58 x35 a59 a60 a61 a62 a63 a64 a65 a66 a67 a68 a69 a70 a71 a72 a73 a74 a75 a76 a77 x36 x37 x38 x39 x40 x41 x42 x43 x44 a78 a79 a80 a81 a82 a83 a84 a85 a86 x45 x46 x47 x48 x49 x50 x51 x52 x53 a87 a88 a89 a90 x54 x55 a91 a92 a93 a94 x56 x57 f0 f1 f2 f3 f4 f5 h1 h2 h3 f6 f7 f8 f9 f10 f11 f12 f13 f14 f15 f16 f17 f18 f19 f20 f21 f22 f23 f24 f25 f26 f27 g0 f28 f29 f30 f31 f32 f33 f34 f35 f36 f37 a95 a96 a97 a98 r18 r19 r20 r21 a99 a100 a101 a102 r22 r23 r24 r25 a103 a104 a105 a106 r26 r27 r28 r29 a107 a108 a109 a110 r30 r31 r32 r33 a111 a112 a113 a114 r34 r35 r36 r37 a115 a116 a117 a118 r38 r39 r40 r41 a119 a120 a121 a122 r42 r43 r44 r45 a123 a124 a125 a126 r46 r47 r48 r49 a127 a128 a129 x58 a130 a131 a132 x59 h4 f38 f39 f40 f41 f42 f43 h5 f44 h6 f45 f46 f47 f48 f49 f50 h7 f51 g1 f52 f53 f54 g2 f55 f56 f57 f58 f59 f60 f61 f62 f63 f64 f65 f66 f67 f68 f69 f70 f71 f72 f73 f74 f75 f76 f77 f78 f79 f80 f81 f82 f83 f84 f85 f86 f87 f88 f89 a133 a134 a135 a136 a137 a138 a139 a140 a141 x60 x61 x62 x63 x64 x65 x66 x67 x68 a142 a143 a144 a145 r50 r51 r52 r53 a146 a147 a148 a149 x69 x70 a150 a151 a152 a153 a154 a155 a156 a157 a158 x71 x72 x73 x74 x75 x76 x77 x78 x79 a159 a160 a161 a162 r54 r55 r56 r57 a163 a164 a165 a166 x80 x81 h8 f90 f91 f92 f93 f94 f95 h9 f96 f97 f98 f99 f100 g3 f101 f102 f103 h10 f104 f105 f106 f107 f108 f109 h11 f110 f111 f112 f113 f114 g4 f115 f116 f117 x0_a x0_b x1_a x1_b x2_a x2_b x3_a x3_b x4_a x4_b x5_a x5_b x6_a x6_b x7_a x7_b x8_a x8_b x9_a x9_b x10_a x10_b x11_a x11_b x12_a x12_b x13_a x13_b x14_a x14_b x15_a x15_b x16_a x16_b x17_a x17_b x18_a x18_b x19_a x19_b x20_a x20_b x21_a x21_b x22_a x22_b x23_a x23_b x24_a x24_b x25_a x25_b x26_a x26_b o0_h x27_a x27_b x28_a x28_b x29_a x29_b x30_a x30_b x31_a x31_b x32_a x32_b x33_a x33_b x34_a x34_b x35_a x35_b x36_a x36_b x37_a x37_b x38_a x38_b x39_a x39_b x40_a x40_b x41_a x41_b x42_a x42_b x43_a x43_b x44_a x44_b x45_a x45_b x46_a x46_b x47_a x47_b x48_a x48_b x49_a x49_b x50_a x50_b x51_a x51_b x52_a x52_b x53_a x53_b x54_a x54_b x55_a x55_b x56_a x56_b x57_a x57_b f0_h f1_h f2_h f3_h f4_h f5_h f6_h f7_h f8_h f10_h f11_h f12_h f13_h f16_h f18_h f19_h f21_h f22_h f25_h f26_h g0_h f28_h f29_h f30_h f32_h f34_h f35_h x58_a x58_b x59_a x59_b f38_h f39_h f40_h f41_h f42_h f43_h f44_h f45_h f46_h f47_h f48_h f49_h f50_h f51_h g1_h g2_h f59_h f60_h f63_h f64_h f67_h f68_h f71_h f72_h f75_h f76_h f79_h f80_h f83_h f84_h f87_h f88_h x60_a x60_b x61_a x61_b x62_a x62_b x63_a x63_b x64_a x64_b x65_a x65_b x66_a x66_b x67_a x67_b x68_a x68_b x69_a x69_b x70_a x70_b x71_a x71_b x72_a x72_b x73_a x73_b x74_a x74_b x75_a x75_b x76_a x76_b x77_a x77_b x78_a x78_b x79_a x79_b x80_a x80_b x81_a x81_b f90_h f91_h f92_h f93_h f94_h f95_h f96_h f98_h f99_h g3_h f104_h f105_h f106_h f107_h f108_h f109_h f110_h f112_h f113_h g4_h pp_s pp_k pp_t pp_u pp_b pp_w pp_v pp_sl pp_tu pp_fa H locs ls w hl
  exact hst _ _ _ _ H locs ls w hl
set_option maxRecDepth 100000 in
set_option maxHeartbeats 4000000 in
theorem law_body {p : Program} {l : Launch} {e : Env} {s : State} {m : MethodId} {below : List Frame} {meth : Method} {c : Code} {D : va_G} {T : Nat → ClassId} {A : Nat → Prop} {b L : Nat} {xs : Nat → Int32} (M : MC p s m #[Value.ref b] c code R_law 7 D T A) (hX : va_X b L xs s s.heap) (hbl : b < s.heap.size) (hbA : ¬ A b) (hl9 : l.stackTraces = false) (hZT : ZT T s s.heap) (hca : HC s) {i : Int} {ce sl : Nat} (hi : vp_in (iI i) L) (hs : ∀ j : Int, 0 ≤ j → j ≤ 5 → vp_in (iI (i + j)) L) (hc1 : ce + 1 ≤ room_1.cells) (hs1 : sl + 6 ≤ room_1.slots) (NX : LH p l e s m below meth c D T A b 1156 i (ce + 1) (sl + 6)) : LH p l e s m below meth c D T A b 33 i ce sl := by
  have hx := M.1.1
  have hb := M.1.2.1
  have hc0 : ce + 0 ≤ room_1.cells := Nat.le_trans (Nat.le_succ ce) hc1
  have hs0 : sl + 0 ≤ room_1.slots := Nat.le_trans (Nat.le_add_right sl 6) hs1
  have hz := iand_rx (x := xs (iI i).toNatClampNeg) (b := 63) (by decide) (by decide)
  have he := iI_x (xs (iI i).toNatClampNeg &&& iI 63)
  generalize (xs (iI i).toNatClampNeg &&& iI 63).toInt = z at hz he
  rcases (show z = 0 ∨ z = 1 ∨ z = 2 ∨ z = 3 ∨ z = 4 ∨ z = 5 ∨ z = 6 ∨ z = 7 ∨ z = 8 ∨ z = 9 ∨ z = 10 ∨ z = 11 ∨ z = 12 ∨ z = 13 ∨ z = 14 ∨ z = 15 ∨ z = 16 ∨ z = 17 ∨ z = 18 ∨ z = 19 ∨ z = 20 ∨ z = 21 ∨ z = 22 ∨ z = 23 ∨ z = 24 ∨ z = 25 ∨ z = 26 ∨ z = 27 ∨ z = 28 ∨ z = 29 ∨ z = 30 ∨ z = 31 ∨ z = 32 ∨ z = 33 ∨ z = 34 ∨ z = 35 ∨ z = 36 ∨ 36 < z by omega) with rfl | rfl | rfl | rfl | rfl | rfl | rfl | rfl | rfl | rfl | rfl | rfl | rfl | rfl | rfl | rfl | rfl | rfl | rfl | rfl | rfl | rfl | rfl | rfl | rfl | rfl | rfl | rfl | rfl | rfl | rfl | rfl | rfl | rfl | rfl | rfl | rfl | hz2
  · refine LH.pre (law_0 M hX hbl hbA hs hc0 hs0 NX) (fun xa ma oo ws H locs ls w hl kk => ?_)
    refine lv_aload_n hx hb dL_law_33 rfl (lv_at hl 4 rfl) ?_
    refine lv_iload hx hb dL_law_34 (lv_at hl 0 rfl) ?_
    refine va_sld hx hb hX hbl hbA w.2.2.1 hi dL_law_36 ?_
    refine lv_bipush (v := iI 63) hx hb dL_law_37 (by decide +kernel) ?_
    refine r_iand (v := iI 0) M he.symm dL_law_39 ?_
    refine lv_tableIn (off := 164) (tgt := 204) hx hb dL_law_40 (by decide +kernel) (by decide +kernel) (by decide +kernel) (by decide) ?_
    exact kk ls hl
  · refine LH.pre (law_1 M hX hbl hbA hs hc0 hs0 NX) (fun xa ma oo ws H locs ls w hl kk => ?_)
    refine lv_aload_n hx hb dL_law_33 rfl (lv_at hl 4 rfl) ?_
    refine lv_iload hx hb dL_law_34 (lv_at hl 0 rfl) ?_
    refine va_sld hx hb hX hbl hbA w.2.2.1 hi dL_law_36 ?_
    refine lv_bipush (v := iI 63) hx hb dL_law_37 (by decide +kernel) ?_
    refine r_iand (v := iI 1) M he.symm dL_law_39 ?_
    refine lv_tableIn (off := 237) (tgt := 277) hx hb dL_law_40 (by decide +kernel) (by decide +kernel) (by decide +kernel) (by decide) ?_
    exact kk ls hl
  · refine LH.pre (law_2 M hX hbl hbA hs hc0 hs0 NX) (fun xa ma oo ws H locs ls w hl kk => ?_)
    refine lv_aload_n hx hb dL_law_33 rfl (lv_at hl 4 rfl) ?_
    refine lv_iload hx hb dL_law_34 (lv_at hl 0 rfl) ?_
    refine va_sld hx hb hX hbl hbA w.2.2.1 hi dL_law_36 ?_
    refine lv_bipush (v := iI 63) hx hb dL_law_37 (by decide +kernel) ?_
    refine r_iand (v := iI 2) M he.symm dL_law_39 ?_
    refine lv_tableIn (off := 262) (tgt := 302) hx hb dL_law_40 (by decide +kernel) (by decide +kernel) (by decide +kernel) (by decide) ?_
    exact kk ls hl
  · refine LH.pre (law_3 M hX hbl hbA hs hc0 hs0 NX) (fun xa ma oo ws H locs ls w hl kk => ?_)
    refine lv_aload_n hx hb dL_law_33 rfl (lv_at hl 4 rfl) ?_
    refine lv_iload hx hb dL_law_34 (lv_at hl 0 rfl) ?_
    refine va_sld hx hb hX hbl hbA w.2.2.1 hi dL_law_36 ?_
    refine lv_bipush (v := iI 63) hx hb dL_law_37 (by decide +kernel) ?_
    refine r_iand (v := iI 3) M he.symm dL_law_39 ?_
    refine lv_tableIn (off := 275) (tgt := 315) hx hb dL_law_40 (by decide +kernel) (by decide +kernel) (by decide +kernel) (by decide) ?_
    exact kk ls hl
  · refine LH.pre (law_4 M hX hbl hbA hl9 hZT hca hs hc0 hs0 hc1 hs1 NX) (fun xa ma oo ws H locs ls w hl kk => ?_)
    refine lv_aload_n hx hb dL_law_33 rfl (lv_at hl 4 rfl) ?_
    refine lv_iload hx hb dL_law_34 (lv_at hl 0 rfl) ?_
    refine va_sld hx hb hX hbl hbA w.2.2.1 hi dL_law_36 ?_
    refine lv_bipush (v := iI 63) hx hb dL_law_37 (by decide +kernel) ?_
    refine r_iand (v := iI 4) M he.symm dL_law_39 ?_
    refine lv_tableIn (off := 288) (tgt := 328) hx hb dL_law_40 (by decide +kernel) (by decide +kernel) (by decide +kernel) (by decide) ?_
    exact kk ls hl
  · refine LH.pre (law_5 M hX hbl hbA hs hc0 hs0 NX) (fun xa ma oo ws H locs ls w hl kk => ?_)
    refine lv_aload_n hx hb dL_law_33 rfl (lv_at hl 4 rfl) ?_
    refine lv_iload hx hb dL_law_34 (lv_at hl 0 rfl) ?_
    refine va_sld hx hb hX hbl hbA w.2.2.1 hi dL_law_36 ?_
    refine lv_bipush (v := iI 63) hx hb dL_law_37 (by decide +kernel) ?_
    refine r_iand (v := iI 5) M he.symm dL_law_39 ?_
    refine lv_tableIn (off := 328) (tgt := 368) hx hb dL_law_40 (by decide +kernel) (by decide +kernel) (by decide +kernel) (by decide) ?_
    exact kk ls hl
  · refine LH.pre (law_6 M hX hbl hbA hs hc0 hs0 NX) (fun xa ma oo ws H locs ls w hl kk => ?_)
    refine lv_aload_n hx hb dL_law_33 rfl (lv_at hl 4 rfl) ?_
    refine lv_iload hx hb dL_law_34 (lv_at hl 0 rfl) ?_
    refine va_sld hx hb hX hbl hbA w.2.2.1 hi dL_law_36 ?_
    refine lv_bipush (v := iI 63) hx hb dL_law_37 (by decide +kernel) ?_
    refine r_iand (v := iI 6) M he.symm dL_law_39 ?_
    refine lv_tableIn (off := 365) (tgt := 405) hx hb dL_law_40 (by decide +kernel) (by decide +kernel) (by decide +kernel) (by decide) ?_
    exact kk ls hl
  · refine LH.pre (law_7 M hX hbl hbA hs hc0 hs0 NX) (fun xa ma oo ws H locs ls w hl kk => ?_)
    refine lv_aload_n hx hb dL_law_33 rfl (lv_at hl 4 rfl) ?_
    refine lv_iload hx hb dL_law_34 (lv_at hl 0 rfl) ?_
    refine va_sld hx hb hX hbl hbA w.2.2.1 hi dL_law_36 ?_
    refine lv_bipush (v := iI 63) hx hb dL_law_37 (by decide +kernel) ?_
    refine r_iand (v := iI 7) M he.symm dL_law_39 ?_
    refine lv_tableIn (off := 390) (tgt := 430) hx hb dL_law_40 (by decide +kernel) (by decide +kernel) (by decide +kernel) (by decide) ?_
    exact kk ls hl
  · refine LH.pre (law_8 M hX hbl hbA hs hc0 hs0 NX) (fun xa ma oo ws H locs ls w hl kk => ?_)
    refine lv_aload_n hx hb dL_law_33 rfl (lv_at hl 4 rfl) ?_
    refine lv_iload hx hb dL_law_34 (lv_at hl 0 rfl) ?_
    refine va_sld hx hb hX hbl hbA w.2.2.1 hi dL_law_36 ?_
    refine lv_bipush (v := iI 63) hx hb dL_law_37 (by decide +kernel) ?_
    refine r_iand (v := iI 8) M he.symm dL_law_39 ?_
    refine lv_tableIn (off := 439) (tgt := 479) hx hb dL_law_40 (by decide +kernel) (by decide +kernel) (by decide +kernel) (by decide) ?_
    exact kk ls hl
  · refine LH.pre (law_9 M hX hbl hbA hs hc0 hs0 NX) (fun xa ma oo ws H locs ls w hl kk => ?_)
    refine lv_aload_n hx hb dL_law_33 rfl (lv_at hl 4 rfl) ?_
    refine lv_iload hx hb dL_law_34 (lv_at hl 0 rfl) ?_
    refine va_sld hx hb hX hbl hbA w.2.2.1 hi dL_law_36 ?_
    refine lv_bipush (v := iI 63) hx hb dL_law_37 (by decide +kernel) ?_
    refine r_iand (v := iI 9) M he.symm dL_law_39 ?_
    refine lv_tableIn (off := 476) (tgt := 516) hx hb dL_law_40 (by decide +kernel) (by decide +kernel) (by decide +kernel) (by decide) ?_
    exact kk ls hl
  · refine LH.pre (law_10 M hX hbl hbA hs hc0 hs0 NX) (fun xa ma oo ws H locs ls w hl kk => ?_)
    refine lv_aload_n hx hb dL_law_33 rfl (lv_at hl 4 rfl) ?_
    refine lv_iload hx hb dL_law_34 (lv_at hl 0 rfl) ?_
    refine va_sld hx hb hX hbl hbA w.2.2.1 hi dL_law_36 ?_
    refine lv_bipush (v := iI 63) hx hb dL_law_37 (by decide +kernel) ?_
    refine r_iand (v := iI 10) M he.symm dL_law_39 ?_
    refine lv_tableIn (off := 501) (tgt := 541) hx hb dL_law_40 (by decide +kernel) (by decide +kernel) (by decide +kernel) (by decide) ?_
    exact kk ls hl
  · refine LH.pre (law_11 M hX hbl hbA hs hc0 hs0 NX) (fun xa ma oo ws H locs ls w hl kk => ?_)
    refine lv_aload_n hx hb dL_law_33 rfl (lv_at hl 4 rfl) ?_
    refine lv_iload hx hb dL_law_34 (lv_at hl 0 rfl) ?_
    refine va_sld hx hb hX hbl hbA w.2.2.1 hi dL_law_36 ?_
    refine lv_bipush (v := iI 63) hx hb dL_law_37 (by decide +kernel) ?_
    refine r_iand (v := iI 11) M he.symm dL_law_39 ?_
    refine lv_tableIn (off := 526) (tgt := 566) hx hb dL_law_40 (by decide +kernel) (by decide +kernel) (by decide +kernel) (by decide) ?_
    exact kk ls hl
  · refine LH.pre (law_12 M hX hbl hbA hs hc0 hs0 NX) (fun xa ma oo ws H locs ls w hl kk => ?_)
    refine lv_aload_n hx hb dL_law_33 rfl (lv_at hl 4 rfl) ?_
    refine lv_iload hx hb dL_law_34 (lv_at hl 0 rfl) ?_
    refine va_sld hx hb hX hbl hbA w.2.2.1 hi dL_law_36 ?_
    refine lv_bipush (v := iI 63) hx hb dL_law_37 (by decide +kernel) ?_
    refine r_iand (v := iI 12) M he.symm dL_law_39 ?_
    refine lv_tableIn (off := 539) (tgt := 579) hx hb dL_law_40 (by decide +kernel) (by decide +kernel) (by decide +kernel) (by decide) ?_
    exact kk ls hl
  · refine LH.pre (law_13 M hX hbl hbA hs hc0 hs0 NX) (fun xa ma oo ws H locs ls w hl kk => ?_)
    refine lv_aload_n hx hb dL_law_33 rfl (lv_at hl 4 rfl) ?_
    refine lv_iload hx hb dL_law_34 (lv_at hl 0 rfl) ?_
    refine va_sld hx hb hX hbl hbA w.2.2.1 hi dL_law_36 ?_
    refine lv_bipush (v := iI 63) hx hb dL_law_37 (by decide +kernel) ?_
    refine r_iand (v := iI 13) M he.symm dL_law_39 ?_
    refine lv_tableIn (off := 564) (tgt := 604) hx hb dL_law_40 (by decide +kernel) (by decide +kernel) (by decide +kernel) (by decide) ?_
    exact kk ls hl
  · refine LH.pre (law_14 M hX hbl hbA hs hc0 hs0 NX) (fun xa ma oo ws H locs ls w hl kk => ?_)
    refine lv_aload_n hx hb dL_law_33 rfl (lv_at hl 4 rfl) ?_
    refine lv_iload hx hb dL_law_34 (lv_at hl 0 rfl) ?_
    refine va_sld hx hb hX hbl hbA w.2.2.1 hi dL_law_36 ?_
    refine lv_bipush (v := iI 63) hx hb dL_law_37 (by decide +kernel) ?_
    refine r_iand (v := iI 14) M he.symm dL_law_39 ?_
    refine lv_tableIn (off := 577) (tgt := 617) hx hb dL_law_40 (by decide +kernel) (by decide +kernel) (by decide +kernel) (by decide) ?_
    exact kk ls hl
  · refine LH.pre (law_15 M hX hbl hbA hs hc0 hs0 NX) (fun xa ma oo ws H locs ls w hl kk => ?_)
    refine lv_aload_n hx hb dL_law_33 rfl (lv_at hl 4 rfl) ?_
    refine lv_iload hx hb dL_law_34 (lv_at hl 0 rfl) ?_
    refine va_sld hx hb hX hbl hbA w.2.2.1 hi dL_law_36 ?_
    refine lv_bipush (v := iI 63) hx hb dL_law_37 (by decide +kernel) ?_
    refine r_iand (v := iI 15) M he.symm dL_law_39 ?_
    refine lv_tableIn (off := 590) (tgt := 630) hx hb dL_law_40 (by decide +kernel) (by decide +kernel) (by decide +kernel) (by decide) ?_
    exact kk ls hl
  · refine LH.pre (law_16 M hX hbl hbA hs hc0 hs0 NX) (fun xa ma oo ws H locs ls w hl kk => ?_)
    refine lv_aload_n hx hb dL_law_33 rfl (lv_at hl 4 rfl) ?_
    refine lv_iload hx hb dL_law_34 (lv_at hl 0 rfl) ?_
    refine va_sld hx hb hX hbl hbA w.2.2.1 hi dL_law_36 ?_
    refine lv_bipush (v := iI 63) hx hb dL_law_37 (by decide +kernel) ?_
    refine r_iand (v := iI 16) M he.symm dL_law_39 ?_
    refine lv_tableIn (off := 603) (tgt := 643) hx hb dL_law_40 (by decide +kernel) (by decide +kernel) (by decide +kernel) (by decide) ?_
    exact kk ls hl
  · refine LH.pre (law_17 M hX hbl hbA hs hc0 hs0 NX) (fun xa ma oo ws H locs ls w hl kk => ?_)
    refine lv_aload_n hx hb dL_law_33 rfl (lv_at hl 4 rfl) ?_
    refine lv_iload hx hb dL_law_34 (lv_at hl 0 rfl) ?_
    refine va_sld hx hb hX hbl hbA w.2.2.1 hi dL_law_36 ?_
    refine lv_bipush (v := iI 63) hx hb dL_law_37 (by decide +kernel) ?_
    refine r_iand (v := iI 17) M he.symm dL_law_39 ?_
    refine lv_tableIn (off := 628) (tgt := 668) hx hb dL_law_40 (by decide +kernel) (by decide +kernel) (by decide +kernel) (by decide) ?_
    exact kk ls hl
  · refine LH.pre (law_18 M hX hbl hbA hs hc0 hs0 NX) (fun xa ma oo ws H locs ls w hl kk => ?_)
    refine lv_aload_n hx hb dL_law_33 rfl (lv_at hl 4 rfl) ?_
    refine lv_iload hx hb dL_law_34 (lv_at hl 0 rfl) ?_
    refine va_sld hx hb hX hbl hbA w.2.2.1 hi dL_law_36 ?_
    refine lv_bipush (v := iI 63) hx hb dL_law_37 (by decide +kernel) ?_
    refine r_iand (v := iI 18) M he.symm dL_law_39 ?_
    refine lv_tableIn (off := 641) (tgt := 681) hx hb dL_law_40 (by decide +kernel) (by decide +kernel) (by decide +kernel) (by decide) ?_
    exact kk ls hl
  · refine LH.pre (law_19 M hX hbl hbA hs hc0 hs0 NX) (fun xa ma oo ws H locs ls w hl kk => ?_)
    refine lv_aload_n hx hb dL_law_33 rfl (lv_at hl 4 rfl) ?_
    refine lv_iload hx hb dL_law_34 (lv_at hl 0 rfl) ?_
    refine va_sld hx hb hX hbl hbA w.2.2.1 hi dL_law_36 ?_
    refine lv_bipush (v := iI 63) hx hb dL_law_37 (by decide +kernel) ?_
    refine r_iand (v := iI 19) M he.symm dL_law_39 ?_
    refine lv_tableIn (off := 654) (tgt := 694) hx hb dL_law_40 (by decide +kernel) (by decide +kernel) (by decide +kernel) (by decide) ?_
    exact kk ls hl
  · refine LH.pre (law_20 M hX hbl hbA hs hc0 hs0 NX) (fun xa ma oo ws H locs ls w hl kk => ?_)
    refine lv_aload_n hx hb dL_law_33 rfl (lv_at hl 4 rfl) ?_
    refine lv_iload hx hb dL_law_34 (lv_at hl 0 rfl) ?_
    refine va_sld hx hb hX hbl hbA w.2.2.1 hi dL_law_36 ?_
    refine lv_bipush (v := iI 63) hx hb dL_law_37 (by decide +kernel) ?_
    refine r_iand (v := iI 20) M he.symm dL_law_39 ?_
    refine lv_tableIn (off := 667) (tgt := 707) hx hb dL_law_40 (by decide +kernel) (by decide +kernel) (by decide +kernel) (by decide) ?_
    exact kk ls hl
  · refine LH.pre (law_21 M hX hbl hbA hs hc0 hs0 NX) (fun xa ma oo ws H locs ls w hl kk => ?_)
    refine lv_aload_n hx hb dL_law_33 rfl (lv_at hl 4 rfl) ?_
    refine lv_iload hx hb dL_law_34 (lv_at hl 0 rfl) ?_
    refine va_sld hx hb hX hbl hbA w.2.2.1 hi dL_law_36 ?_
    refine lv_bipush (v := iI 63) hx hb dL_law_37 (by decide +kernel) ?_
    refine r_iand (v := iI 21) M he.symm dL_law_39 ?_
    refine lv_tableIn (off := 680) (tgt := 720) hx hb dL_law_40 (by decide +kernel) (by decide +kernel) (by decide +kernel) (by decide) ?_
    exact kk ls hl
  · refine LH.pre (law_22 M hX hbl hbA hs hc0 hs0 NX) (fun xa ma oo ws H locs ls w hl kk => ?_)
    refine lv_aload_n hx hb dL_law_33 rfl (lv_at hl 4 rfl) ?_
    refine lv_iload hx hb dL_law_34 (lv_at hl 0 rfl) ?_
    refine va_sld hx hb hX hbl hbA w.2.2.1 hi dL_law_36 ?_
    refine lv_bipush (v := iI 63) hx hb dL_law_37 (by decide +kernel) ?_
    refine r_iand (v := iI 22) M he.symm dL_law_39 ?_
    refine lv_tableIn (off := 717) (tgt := 757) hx hb dL_law_40 (by decide +kernel) (by decide +kernel) (by decide +kernel) (by decide) ?_
    exact kk ls hl
  · refine LH.pre (law_23 M hX hbl hbA hs hc0 hs0 NX) (fun xa ma oo ws H locs ls w hl kk => ?_)
    refine lv_aload_n hx hb dL_law_33 rfl (lv_at hl 4 rfl) ?_
    refine lv_iload hx hb dL_law_34 (lv_at hl 0 rfl) ?_
    refine va_sld hx hb hX hbl hbA w.2.2.1 hi dL_law_36 ?_
    refine lv_bipush (v := iI 63) hx hb dL_law_37 (by decide +kernel) ?_
    refine r_iand (v := iI 23) M he.symm dL_law_39 ?_
    refine lv_tableIn (off := 742) (tgt := 782) hx hb dL_law_40 (by decide +kernel) (by decide +kernel) (by decide +kernel) (by decide) ?_
    exact kk ls hl
  · refine LH.pre (law_24 M hX hbl hbA hs hc0 hs0 NX) (fun xa ma oo ws H locs ls w hl kk => ?_)
    refine lv_aload_n hx hb dL_law_33 rfl (lv_at hl 4 rfl) ?_
    refine lv_iload hx hb dL_law_34 (lv_at hl 0 rfl) ?_
    refine va_sld hx hb hX hbl hbA w.2.2.1 hi dL_law_36 ?_
    refine lv_bipush (v := iI 63) hx hb dL_law_37 (by decide +kernel) ?_
    refine r_iand (v := iI 24) M he.symm dL_law_39 ?_
    refine lv_tableIn (off := 767) (tgt := 807) hx hb dL_law_40 (by decide +kernel) (by decide +kernel) (by decide +kernel) (by decide) ?_
    exact kk ls hl
  · refine LH.pre (law_25 M hX hbl hbA hs hc0 hs0 NX) (fun xa ma oo ws H locs ls w hl kk => ?_)
    refine lv_aload_n hx hb dL_law_33 rfl (lv_at hl 4 rfl) ?_
    refine lv_iload hx hb dL_law_34 (lv_at hl 0 rfl) ?_
    refine va_sld hx hb hX hbl hbA w.2.2.1 hi dL_law_36 ?_
    refine lv_bipush (v := iI 63) hx hb dL_law_37 (by decide +kernel) ?_
    refine r_iand (v := iI 25) M he.symm dL_law_39 ?_
    refine lv_tableIn (off := 792) (tgt := 832) hx hb dL_law_40 (by decide +kernel) (by decide +kernel) (by decide +kernel) (by decide) ?_
    exact kk ls hl
  · refine LH.pre (law_26 M hX hbl hbA hs hc0 hs0 NX) (fun xa ma oo ws H locs ls w hl kk => ?_)
    refine lv_aload_n hx hb dL_law_33 rfl (lv_at hl 4 rfl) ?_
    refine lv_iload hx hb dL_law_34 (lv_at hl 0 rfl) ?_
    refine va_sld hx hb hX hbl hbA w.2.2.1 hi dL_law_36 ?_
    refine lv_bipush (v := iI 63) hx hb dL_law_37 (by decide +kernel) ?_
    refine r_iand (v := iI 26) M he.symm dL_law_39 ?_
    refine lv_tableIn (off := 817) (tgt := 857) hx hb dL_law_40 (by decide +kernel) (by decide +kernel) (by decide +kernel) (by decide) ?_
    exact kk ls hl
  · refine LH.pre (law_27 M hX hbl hbA hs hc0 hs0 NX) (fun xa ma oo ws H locs ls w hl kk => ?_)
    refine lv_aload_n hx hb dL_law_33 rfl (lv_at hl 4 rfl) ?_
    refine lv_iload hx hb dL_law_34 (lv_at hl 0 rfl) ?_
    refine va_sld hx hb hX hbl hbA w.2.2.1 hi dL_law_36 ?_
    refine lv_bipush (v := iI 63) hx hb dL_law_37 (by decide +kernel) ?_
    refine r_iand (v := iI 27) M he.symm dL_law_39 ?_
    refine lv_tableIn (off := 842) (tgt := 882) hx hb dL_law_40 (by decide +kernel) (by decide +kernel) (by decide +kernel) (by decide) ?_
    exact kk ls hl
  · refine LH.pre (law_28 M hX hbl hbA hs hc0 hs0 NX) (fun xa ma oo ws H locs ls w hl kk => ?_)
    refine lv_aload_n hx hb dL_law_33 rfl (lv_at hl 4 rfl) ?_
    refine lv_iload hx hb dL_law_34 (lv_at hl 0 rfl) ?_
    refine va_sld hx hb hX hbl hbA w.2.2.1 hi dL_law_36 ?_
    refine lv_bipush (v := iI 63) hx hb dL_law_37 (by decide +kernel) ?_
    refine r_iand (v := iI 28) M he.symm dL_law_39 ?_
    refine lv_tableIn (off := 867) (tgt := 907) hx hb dL_law_40 (by decide +kernel) (by decide +kernel) (by decide +kernel) (by decide) ?_
    exact kk ls hl
  · refine LH.pre (law_29 M hX hbl hbA hs hc0 hs0 NX) (fun xa ma oo ws H locs ls w hl kk => ?_)
    refine lv_aload_n hx hb dL_law_33 rfl (lv_at hl 4 rfl) ?_
    refine lv_iload hx hb dL_law_34 (lv_at hl 0 rfl) ?_
    refine va_sld hx hb hX hbl hbA w.2.2.1 hi dL_law_36 ?_
    refine lv_bipush (v := iI 63) hx hb dL_law_37 (by decide +kernel) ?_
    refine r_iand (v := iI 29) M he.symm dL_law_39 ?_
    refine lv_tableIn (off := 904) (tgt := 944) hx hb dL_law_40 (by decide +kernel) (by decide +kernel) (by decide +kernel) (by decide) ?_
    exact kk ls hl
  · refine LH.pre (law_30 M hX hbl hbA hs hc0 hs0 NX) (fun xa ma oo ws H locs ls w hl kk => ?_)
    refine lv_aload_n hx hb dL_law_33 rfl (lv_at hl 4 rfl) ?_
    refine lv_iload hx hb dL_law_34 (lv_at hl 0 rfl) ?_
    refine va_sld hx hb hX hbl hbA w.2.2.1 hi dL_law_36 ?_
    refine lv_bipush (v := iI 63) hx hb dL_law_37 (by decide +kernel) ?_
    refine r_iand (v := iI 30) M he.symm dL_law_39 ?_
    refine lv_tableIn (off := 953) (tgt := 993) hx hb dL_law_40 (by decide +kernel) (by decide +kernel) (by decide +kernel) (by decide) ?_
    exact kk ls hl
  · refine LH.pre (law_31 M hX hbl hbA hs hc0 hs0 NX) (fun xa ma oo ws H locs ls w hl kk => ?_)
    refine lv_aload_n hx hb dL_law_33 rfl (lv_at hl 4 rfl) ?_
    refine lv_iload hx hb dL_law_34 (lv_at hl 0 rfl) ?_
    refine va_sld hx hb hX hbl hbA w.2.2.1 hi dL_law_36 ?_
    refine lv_bipush (v := iI 63) hx hb dL_law_37 (by decide +kernel) ?_
    refine r_iand (v := iI 31) M he.symm dL_law_39 ?_
    refine lv_tableIn (off := 978) (tgt := 1018) hx hb dL_law_40 (by decide +kernel) (by decide +kernel) (by decide +kernel) (by decide) ?_
    exact kk ls hl
  · refine LH.pre (law_32 M hX hbl hbA hs hc0 hs0 NX) (fun xa ma oo ws H locs ls w hl kk => ?_)
    refine lv_aload_n hx hb dL_law_33 rfl (lv_at hl 4 rfl) ?_
    refine lv_iload hx hb dL_law_34 (lv_at hl 0 rfl) ?_
    refine va_sld hx hb hX hbl hbA w.2.2.1 hi dL_law_36 ?_
    refine lv_bipush (v := iI 63) hx hb dL_law_37 (by decide +kernel) ?_
    refine r_iand (v := iI 32) M he.symm dL_law_39 ?_
    refine lv_tableIn (off := 1003) (tgt := 1043) hx hb dL_law_40 (by decide +kernel) (by decide +kernel) (by decide +kernel) (by decide) ?_
    exact kk ls hl
  · refine LH.pre (law_33 M hX hbl hbA hs hc0 hs0 NX) (fun xa ma oo ws H locs ls w hl kk => ?_)
    refine lv_aload_n hx hb dL_law_33 rfl (lv_at hl 4 rfl) ?_
    refine lv_iload hx hb dL_law_34 (lv_at hl 0 rfl) ?_
    refine va_sld hx hb hX hbl hbA w.2.2.1 hi dL_law_36 ?_
    refine lv_bipush (v := iI 63) hx hb dL_law_37 (by decide +kernel) ?_
    refine r_iand (v := iI 33) M he.symm dL_law_39 ?_
    refine lv_tableIn (off := 1016) (tgt := 1056) hx hb dL_law_40 (by decide +kernel) (by decide +kernel) (by decide +kernel) (by decide) ?_
    exact kk ls hl
  · refine LH.pre (law_34 M hX hbl hbA hs hc0 hs0 NX) (fun xa ma oo ws H locs ls w hl kk => ?_)
    refine lv_aload_n hx hb dL_law_33 rfl (lv_at hl 4 rfl) ?_
    refine lv_iload hx hb dL_law_34 (lv_at hl 0 rfl) ?_
    refine va_sld hx hb hX hbl hbA w.2.2.1 hi dL_law_36 ?_
    refine lv_bipush (v := iI 63) hx hb dL_law_37 (by decide +kernel) ?_
    refine r_iand (v := iI 34) M he.symm dL_law_39 ?_
    refine lv_tableIn (off := 1041) (tgt := 1081) hx hb dL_law_40 (by decide +kernel) (by decide +kernel) (by decide +kernel) (by decide) ?_
    exact kk ls hl
  · refine LH.pre (law_35 M hX hbl hbA hs hc0 hs0 NX) (fun xa ma oo ws H locs ls w hl kk => ?_)
    refine lv_aload_n hx hb dL_law_33 rfl (lv_at hl 4 rfl) ?_
    refine lv_iload hx hb dL_law_34 (lv_at hl 0 rfl) ?_
    refine va_sld hx hb hX hbl hbA w.2.2.1 hi dL_law_36 ?_
    refine lv_bipush (v := iI 63) hx hb dL_law_37 (by decide +kernel) ?_
    refine r_iand (v := iI 35) M he.symm dL_law_39 ?_
    refine lv_tableIn (off := 1066) (tgt := 1106) hx hb dL_law_40 (by decide +kernel) (by decide +kernel) (by decide +kernel) (by decide) ?_
    exact kk ls hl
  · refine LH.pre (law_36 M hX hbl hbA hs hc0 hs0 NX) (fun xa ma oo ws H locs ls w hl kk => ?_)
    refine lv_aload_n hx hb dL_law_33 rfl (lv_at hl 4 rfl) ?_
    refine lv_iload hx hb dL_law_34 (lv_at hl 0 rfl) ?_
    refine va_sld hx hb hX hbl hbA w.2.2.1 hi dL_law_36 ?_
    refine lv_bipush (v := iI 63) hx hb dL_law_37 (by decide +kernel) ?_
    refine r_iand (v := iI 36) M he.symm dL_law_39 ?_
    refine lv_tableIn (off := 1091) (tgt := 1131) hx hb dL_law_40 (by decide +kernel) (by decide +kernel) (by decide +kernel) (by decide) ?_
    exact kk ls hl
  · refine LH.pre NX.wid (fun xa ma oo ws H locs ls w hl kk => ?_)
    refine lv_aload_n hx hb dL_law_33 rfl (lv_at hl 4 rfl) ?_
    refine lv_iload hx hb dL_law_34 (lv_at hl 0 rfl) ?_
    refine va_sld hx hb hX hbl hbA w.2.2.1 hi dL_law_36 ?_
    refine lv_bipush (v := iI 63) hx hb dL_law_37 (by decide +kernel) ?_
    refine r_iand (v := iI z) M he.symm dL_law_39 ?_
    refine lv_tableOut (tgt := 1156) hx hb dL_law_40 (by rw [iI_i (by omega) (by omega)]; exact Or.inr (by omega)) (by decide) ?_
    exact kk ls hl
set_option maxRecDepth 100000 in
set_option maxHeartbeats 4000000 in
theorem law_exit {p : Program} {l : Launch} {e : Env} {s : State} {m : MethodId} {below : List Frame} {meth : Method} {c : Code} {D : va_G} {T : Nat → ClassId} {A : Nat → Prop} {b L : Nat} {xs : Nat → Int32} (M : MC p s m #[Value.ref b] c code R_law 7 D T A) (hX : va_X b L xs s s.heap) (hbl : b < s.heap.size) (hbA : ¬ A b) (hA9 : ∀ q, A q → s.heap.size ≤ q) (hr : meth.sig.returnType = ret) (hlocks : meth.locks = false) (hL : L ≤ 3072) {i : Int} {ce sl : Nat} (hi0 : 0 ≤ i) (hi1 : i ≤ 4000) (hi : ¬ i ≤ (L : Int) - 6) (hc : ce ≤ 601024) (hs : sl ≤ 7293034) : LH p l e s m below meth c D T A b 23 i ce sl := by
  have hx := M.1.1
  have hb := M.1.2.1
  refine LH.all (fun xa ma oo ws H locs ls w hl => ?_)
  refine lv_iload hx hb dL_law_23 (lv_at hl 0 rfl) ?_
  refine lv_aload_n hx hb dL_law_25 rfl (lv_at hl 4 rfl) ?_
  refine va_slen hx hb hX hbl hbA w.2.2.1 dL_law_26 ?_
  refine b_lit (z := (L : Int)) (by rw [iI, Int32.ofInt_eq_ofNat]) ?_
  refine lv_bipush (v := iI 6) hx hb dL_law_27 (by decide +kernel) ?_
  refine r_isub (v := iI ((L : Int) - 6)) M (iI_sub _ _) dL_law_29 ?_
  refine lv_icmp_gt (tgt := 1162) hx hb dL_law_30 (by decide) (fun _ => ?_) (fun c => absurd ((iI_lt (by omega) (by omega) (by omega) (by omega)).mpr (by omega)) c)
  refine lv_iconst (v := 1) hx hb dL_law_1162 (by decide) ?_
  refine va_forget (fun q hq => hA9 _ (w.2.2.1.2.2 q hq)) ?_
  refine W.widen (k := 601024) (n := 7293034) hc hs ?_
  exact lw_ret hx hb hr hlocks dL_law_1163
set_option maxRecDepth 100000 in
set_option maxHeartbeats 4000000 in
theorem law_loop {p : Program} {l : Launch} {e : Env} {s : State} {m : MethodId} {below : List Frame} {meth : Method} {c : Code} {D : va_G} {T : Nat → ClassId} {A : Nat → Prop} {b L : Nat} {xs : Nat → Int32} (M : MC p s m #[Value.ref b] c code R_law 7 D T A) (hX : va_X b L xs s s.heap) (hbl : b < s.heap.size) (hbA : ¬ A b) (hl9 : l.stackTraces = false) (hZT : ZT T s s.heap) (hca : HC s) (hA9 : ∀ q, A q → s.heap.size ≤ q) (hr : meth.sig.returnType = ret) (hlocks : meth.locks = false) (hL : L ≤ 3072) : ∀ (n t : Nat), t + n = 513 → LH p l e s m below meth c D T A b 23 (6 * (t : Int)) (167 + t) (5547 + 6 * t) := by
  have hx := M.1.1
  have hb := M.1.2.1
  intro n
  induction n with
  | zero => intro t ht; exact law_exit M hX hbl hbA hA9 hr hlocks hL (by omega) (by omega) (by omega) (by omega) (by omega)
  | succ n ih =>
    intro t ht
    by_cases h : 6 * (t : Int) ≤ (L : Int) - 6
    · have h1 := ih (t + 1) (by omega)
      have e1 : 6 * ((t + 1 : Nat) : Int) = 6 * (t : Int) + 6 := by omega
      have e2 : 5547 + 6 * (t + 1) = 5547 + 6 * t + 6 := by omega
      have e3 : 167 + (t + 1) = 167 + t + 1 := by omega
      rw [e1, e2, e3] at h1
      have NX : LH p l e s m below meth c D T A b 1156 (6 * (t : Int)) (167 + t + 1) (5547 + 6 * t + 6) := by
        refine LH.pre h1 (fun xa ma oo ws H locs ls w hl kk => ?_)
        refine lv_iinc (v := iI (6 * (t : Int) + 6)) (lv' := [(4, .int (iI (6 * (t : Int) + 6))), (3, .ref oo), (2, .ref ma), (1, .ref xa), (0, .ref b)]) hx hb dL_law_1156 hl (k := 0) rfl (ii_inc (by decide +kernel)) (by decide) rfl (fun ls hl => ?_)
        refine lv_goto (tgt := 23) hx hb dL_law_1159 (by decide) ?_
        exact kk ls hl
      refine LH.pre (law_body M hX hbl hbA hl9 hZT hca (iI_in (by omega) (by omega) (by omega)) (fun j j0 j1 => iI_in (by omega) (by omega) (by omega)) (by show 167 + t + 1 ≤ 601024; omega) (by show 5547 + 6 * t + 6 ≤ 7293034; omega) NX) (fun xa ma oo ws H locs ls w hl kk => ?_)
      refine lv_iload hx hb dL_law_23 (lv_at hl 0 rfl) ?_
      refine lv_aload_n hx hb dL_law_25 rfl (lv_at hl 4 rfl) ?_
      refine va_slen hx hb hX hbl hbA w.2.2.1 dL_law_26 ?_
      refine b_lit (z := (L : Int)) (by rw [iI, Int32.ofInt_eq_ofNat]) ?_
      refine lv_bipush (v := iI 6) hx hb dL_law_27 (by decide +kernel) ?_
      refine r_isub (v := iI ((L : Int) - 6)) M (iI_sub _ _) dL_law_29 ?_
      refine lv_icmp_gt (tgt := 1162) hx hb dL_law_30 (by decide) (fun c => absurd ((iI_lt (by omega) (by omega) (by omega) (by omega)).mp c) (by omega)) (fun _ => ?_)
      exact kk ls hl
    · exact law_exit M hX hbl hbA hA9 hr hlocks hL (by omega) (by omega) h (by omega) (by omega)
