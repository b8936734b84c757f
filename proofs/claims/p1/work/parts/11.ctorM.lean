def cn7 : Nat → Int32 := (rngc 0 0 (0 : Int32) (fun _ => 0))
def cn8 : Nat → Int32 := (rngc 0 53 (0 : Int32) (fun _ => 0))
def cn9 : Nat → Int32 := (rngc 0 3 (0 : Int32) (fun _ => 0))
def cn10 : Nat → Int32 := (rngc 32 32 (-1 : Int32) cn8)
def cn11 : Nat → Int32 := (rngc 32 41 (-1 : Int32) cn8)
def cn12 : Nat → Int32 := (upd cn11 (Int32.toNatClampNeg (3 : Int32)) (12 : Int32))
def cn13 : Nat → Int32 := (upd cn12 (Int32.toNatClampNeg (4 : Int32)) (1 : Int32))
theorem dX12_startRead_0 : decode cX12_startRead 0 = .ok (.iconst 0, 1) := by decide +kernel
theorem dX12_startRead_1 : decode cX12_startRead 1 = .ok (.istore_n 1, 1) := by decide +kernel
theorem dX12_startRead_2 : decode cX12_startRead 2 = .ok (.iload_n 1, 1) := by decide +kernel
theorem dX12_startRead_3 : decode cX12_startRead 3 = .ok (.bipush 53, 2) := by decide +kernel
theorem dX12_startRead_5 : decode cX12_startRead 5 = .ok (.if_icmp .ge 16, 3) := by decide +kernel
theorem dX12_startRead_21 : decode cX12_startRead 21 = .ok (.iconst 0, 1) := by decide +kernel
theorem dX12_startRead_22 : decode cX12_startRead 22 = .ok (.istore_n 1, 1) := by decide +kernel
theorem dX12_startRead_23 : decode cX12_startRead 23 = .ok (.iload_n 1, 1) := by decide +kernel
theorem dX12_startRead_24 : decode cX12_startRead 24 = .ok (.iconst 3, 1) := by decide +kernel
theorem dX12_startRead_25 : decode cX12_startRead 25 = .ok (.if_icmp .ge 16, 3) := by decide +kernel
theorem dX12_startRead_41 : decode cX12_startRead 41 = .ok (.iconst 0, 1) := by decide +kernel
theorem dX12_startRead_42 : decode cX12_startRead 42 = .ok (.istore_n 1, 1) := by decide +kernel
theorem dX12_startRead_43 : decode cX12_startRead 43 = .ok (.iload_n 1, 1) := by decide +kernel
theorem dX12_startRead_44 : decode cX12_startRead 44 = .ok (.bipush 9, 2) := by decide +kernel
theorem dX12_startRead_46 : decode cX12_startRead 46 = .ok (.if_icmp .ge 19, 3) := by decide +kernel
theorem dX12_startRead_65 : decode cX12_startRead 65 = .ok (.aload_n 0, 1) := by decide +kernel
theorem dX12_startRead_66 : decode cX12_startRead 66 = .ok (.getfield 101, 3) := by decide +kernel
theorem G1482 : Cond.fieldLink "HookedCityModel" 101 "HookedCityModel" "read" "[I" ∈ GW := gw_i 1482 (by decide +kernel) rfl
theorem dX12_startRead_69 : decode cX12_startRead 69 = .ok (.iconst 3, 1) := by decide +kernel
theorem dX12_startRead_70 : decode cX12_startRead 70 = .ok (.bipush 12, 2) := by decide +kernel
theorem dX12_startRead_72 : decode cX12_startRead 72 = .ok (.iastore, 1) := by decide +kernel
theorem dX12_startRead_73 : decode cX12_startRead 73 = .ok (.aload_n 0, 1) := by decide +kernel
theorem dX12_startRead_74 : decode cX12_startRead 74 = .ok (.getfield 101, 3) := by decide +kernel
theorem dX12_startRead_77 : decode cX12_startRead 77 = .ok (.iconst 4, 1) := by decide +kernel
theorem dX12_startRead_78 : decode cX12_startRead 78 = .ok (.iconst 1, 1) := by decide +kernel
theorem dX12_startRead_79 : decode cX12_startRead 79 = .ok (.iastore, 1) := by decide +kernel
theorem dX12_startRead_80 : decode cX12_startRead 80 = .ok (.return_, 1) := by decide +kernel
theorem dX12_startRead_49 : decode cX12_startRead 49 = .ok (.aload_n 0, 1) := by decide +kernel
theorem dX12_startRead_50 : decode cX12_startRead 50 = .ok (.getfield 101, 3) := by decide +kernel
theorem dX12_startRead_53 : decode cX12_startRead 53 = .ok (.bipush 32, 2) := by decide +kernel
theorem dX12_startRead_55 : decode cX12_startRead 55 = .ok (.iload_n 1, 1) := by decide +kernel
theorem dX12_startRead_56 : decode cX12_startRead 56 = .ok (.iadd, 1) := by decide +kernel
theorem dX12_startRead_57 : decode cX12_startRead 57 = .ok (.iconst (-1), 1) := by decide +kernel
theorem dX12_startRead_58 : decode cX12_startRead 58 = .ok (.iastore, 1) := by decide +kernel
theorem dX12_startRead_59 : decode cX12_startRead 59 = .ok (.iinc 1 1, 3) := by decide +kernel
theorem dX12_startRead_62 : decode cX12_startRead 62 = .ok (.goto (-19), 3) := by decide +kernel
theorem dX12_startRead_28 : decode cX12_startRead 28 = .ok (.aload_n 0, 1) := by decide +kernel
theorem dX12_startRead_29 : decode cX12_startRead 29 = .ok (.getfield 127, 3) := by decide +kernel
theorem G1490 : Cond.fieldLink "HookedCityModel" 127 "HookedCityModel" "onces" "[Z" ∈ GW := gw_i 1490 (by decide +kernel) rfl
theorem dX12_startRead_32 : decode cX12_startRead 32 = .ok (.iload_n 1, 1) := by decide +kernel
theorem dX12_startRead_33 : decode cX12_startRead 33 = .ok (.iconst 0, 1) := by decide +kernel
theorem dX12_startRead_34 : decode cX12_startRead 34 = .ok (.bastore, 1) := by decide +kernel
theorem dX12_startRead_35 : decode cX12_startRead 35 = .ok (.iinc 1 1, 3) := by decide +kernel
theorem dX12_startRead_38 : decode cX12_startRead 38 = .ok (.goto (-15), 3) := by decide +kernel
theorem dX12_startRead_8 : decode cX12_startRead 8 = .ok (.aload_n 0, 1) := by decide +kernel
theorem dX12_startRead_9 : decode cX12_startRead 9 = .ok (.getfield 101, 3) := by decide +kernel
theorem dX12_startRead_12 : decode cX12_startRead 12 = .ok (.iload_n 1, 1) := by decide +kernel
theorem dX12_startRead_13 : decode cX12_startRead 13 = .ok (.iconst 0, 1) := by decide +kernel
theorem dX12_startRead_14 : decode cX12_startRead 14 = .ok (.iastore, 1) := by decide +kernel
theorem dX12_startRead_15 : decode cX12_startRead 15 = .ok (.iinc 1 1, 3) := by decide +kernel
theorem dX12_startRead_18 : decode cX12_startRead 18 = .ok (.goto (-16), 3) := by decide +kernel
def cn14 : Nat → Int32 := (shc 0 0 0 0 cn13 (fun _ => 0))
def cn15 : Nat → Int32 := (shc 0 53 0 0 cn13 (fun _ => 0))
def cn16 : Nat → Int32 := (rngc 53 53 (0 : Int32) cn15)
def cn17 : Nat → Int32 := (rngc 53 329 (0 : Int32) cn15)
def cn18 : Nat → Int32 := (upd cn17 (Int32.toNatClampNeg (54 : Int32)) (0 : Int32))
def cn19 : Nat → Int32 := (upd cn18 (Int32.toNatClampNeg (57 : Int32)) (-1 : Int32))
def cn20 : Nat → Int32 := (upd cn19 (Int32.toNatClampNeg (66 : Int32)) (-1 : Int32))
def cn21 : Nat → Int32 := (upd cn20 (Int32.toNatClampNeg (75 : Int32)) (0 : Int32))
def cn22 : Nat → Int32 := (upd cn21 (Int32.toNatClampNeg (58 : Int32)) (-1 : Int32))
def cn23 : Nat → Int32 := (upd cn22 (Int32.toNatClampNeg (67 : Int32)) (-1 : Int32))
def cn24 : Nat → Int32 := (upd cn23 (Int32.toNatClampNeg (76 : Int32)) (0 : Int32))
def cn25 : Nat → Int32 := (upd cn24 (Int32.toNatClampNeg (59 : Int32)) (-1 : Int32))
def cn26 : Nat → Int32 := (upd cn25 (Int32.toNatClampNeg (68 : Int32)) (-1 : Int32))
def cn27 : Nat → Int32 := (upd cn26 (Int32.toNatClampNeg (77 : Int32)) (0 : Int32))
def cn28 : Nat → Int32 := (upd cn27 (Int32.toNatClampNeg (60 : Int32)) (-1 : Int32))
def cn29 : Nat → Int32 := (upd cn28 (Int32.toNatClampNeg (69 : Int32)) (-1 : Int32))
def cn30 : Nat → Int32 := (upd cn29 (Int32.toNatClampNeg (78 : Int32)) (0 : Int32))
def cn31 : Nat → Int32 := (upd cn30 (Int32.toNatClampNeg (61 : Int32)) (-1 : Int32))
def cn32 : Nat → Int32 := (upd cn31 (Int32.toNatClampNeg (70 : Int32)) (-1 : Int32))
def cn33 : Nat → Int32 := (upd cn32 (Int32.toNatClampNeg (79 : Int32)) (0 : Int32))
def cn34 : Nat → Int32 := (upd cn33 (Int32.toNatClampNeg (62 : Int32)) (-1 : Int32))
def cn35 : Nat → Int32 := (upd cn34 (Int32.toNatClampNeg (71 : Int32)) (-1 : Int32))
def cn36 : Nat → Int32 := (upd cn35 (Int32.toNatClampNeg (80 : Int32)) (0 : Int32))
def cn37 : Nat → Int32 := (upd cn36 (Int32.toNatClampNeg (63 : Int32)) (-1 : Int32))
def cn38 : Nat → Int32 := (upd cn37 (Int32.toNatClampNeg (72 : Int32)) (-1 : Int32))
def cn39 : Nat → Int32 := (upd cn38 (Int32.toNatClampNeg (81 : Int32)) (0 : Int32))
def cn40 : Nat → Int32 := (upd cn39 (Int32.toNatClampNeg (64 : Int32)) (-1 : Int32))
def cn41 : Nat → Int32 := (upd cn40 (Int32.toNatClampNeg (73 : Int32)) (-1 : Int32))
def cn42 : Nat → Int32 := (upd cn41 (Int32.toNatClampNeg (82 : Int32)) (0 : Int32))
def cn43 : Nat → Int32 := (upd cn42 (Int32.toNatClampNeg (65 : Int32)) (-1 : Int32))
def cn44 : Nat → Int32 := (upd cn43 (Int32.toNatClampNeg (74 : Int32)) (-1 : Int32))
def cn45 : Nat → Int32 := (upd cn44 (Int32.toNatClampNeg (83 : Int32)) (0 : Int32))
theorem dX12_startSo_0 : decode cX12_startSo 0 = .ok (.bipush 53, 2) := by decide +kernel
theorem dX12_startSo_2 : decode cX12_startSo 2 = .ok (.istore_n 1, 1) := by decide +kernel
theorem dX12_startSo_3 : decode cX12_startSo 3 = .ok (.iload_n 1, 1) := by decide +kernel
theorem dX12_startSo_4 : decode cX12_startSo 4 = .ok (.sipush 329, 3) := by decide +kernel
theorem dX12_startSo_7 : decode cX12_startSo 7 = .ok (.if_icmp .ge 16, 3) := by decide +kernel
theorem dX12_startSo_23 : decode cX12_startSo 23 = .ok (.aload_n 0, 1) := by decide +kernel
theorem dX12_startSo_24 : decode cX12_startSo 24 = .ok (.getfield 98, 3) := by decide +kernel
theorem G1481 : Cond.fieldLink "HookedCityModel" 98 "HookedCityModel" "now" "[I" ∈ GW := gw_i 1481 (by decide +kernel) rfl
theorem dX12_startSo_27 : decode cX12_startSo 27 = .ok (.bipush 54, 2) := by decide +kernel
theorem dX12_startSo_29 : decode cX12_startSo 29 = .ok (.aload_n 0, 1) := by decide +kernel
theorem dX12_startSo_30 : decode cX12_startSo 30 = .ok (.getfield 98, 3) := by decide +kernel
theorem dX12_startSo_33 : decode cX12_startSo 33 = .ok (.iconst 2, 1) := by decide +kernel
theorem dX12_startSo_34 : decode cX12_startSo 34 = .ok (.iaload, 1) := by decide +kernel
theorem dX12_startSo_35 : decode cX12_startSo 35 = .ok (.iastore, 1) := by decide +kernel
theorem dX12_startSo_36 : decode cX12_startSo 36 = .ok (.iconst 0, 1) := by decide +kernel
theorem dX12_startSo_37 : decode cX12_startSo 37 = .ok (.istore_n 1, 1) := by decide +kernel
theorem dX12_startSo_38 : decode cX12_startSo 38 = .ok (.iload_n 1, 1) := by decide +kernel
theorem dX12_startSo_39 : decode cX12_startSo 39 = .ok (.bipush 9, 2) := by decide +kernel
theorem dX12_startSo_41 : decode cX12_startSo 41 = .ok (.if_icmp .ge 55, 3) := by decide +kernel
theorem dX12_startSo_44 : decode cX12_startSo 44 = .ok (.aload_n 0, 1) := by decide +kernel
theorem dX12_startSo_45 : decode cX12_startSo 45 = .ok (.getfield 98, 3) := by decide +kernel
theorem dX12_startSo_48 : decode cX12_startSo 48 = .ok (.bipush 57, 2) := by decide +kernel
theorem dX12_startSo_50 : decode cX12_startSo 50 = .ok (.iload_n 1, 1) := by decide +kernel
theorem dX12_startSo_51 : decode cX12_startSo 51 = .ok (.iadd, 1) := by decide +kernel
theorem dX12_startSo_52 : decode cX12_startSo 52 = .ok (.aload_n 0, 1) := by decide +kernel
theorem dX12_startSo_53 : decode cX12_startSo 53 = .ok (.getfield 98, 3) := by decide +kernel
theorem dX12_startSo_56 : decode cX12_startSo 56 = .ok (.bipush 32, 2) := by decide +kernel
theorem dX12_startSo_58 : decode cX12_startSo 58 = .ok (.iload_n 1, 1) := by decide +kernel
theorem dX12_startSo_59 : decode cX12_startSo 59 = .ok (.iadd, 1) := by decide +kernel
theorem dX12_startSo_60 : decode cX12_startSo 60 = .ok (.iaload, 1) := by decide +kernel
theorem dX12_startSo_61 : decode cX12_startSo 61 = .ok (.iastore, 1) := by decide +kernel
theorem dX12_startSo_62 : decode cX12_startSo 62 = .ok (.aload_n 0, 1) := by decide +kernel
theorem dX12_startSo_63 : decode cX12_startSo 63 = .ok (.getfield 98, 3) := by decide +kernel
theorem dX12_startSo_66 : decode cX12_startSo 66 = .ok (.bipush 66, 2) := by decide +kernel
theorem dX12_startSo_68 : decode cX12_startSo 68 = .ok (.iload_n 1, 1) := by decide +kernel
theorem dX12_startSo_69 : decode cX12_startSo 69 = .ok (.iadd, 1) := by decide +kernel
theorem dX12_startSo_70 : decode cX12_startSo 70 = .ok (.iconst (-1), 1) := by decide +kernel
theorem dX12_startSo_71 : decode cX12_startSo 71 = .ok (.iastore, 1) := by decide +kernel
theorem dX12_startSo_72 : decode cX12_startSo 72 = .ok (.aload_n 0, 1) := by decide +kernel
theorem dX12_startSo_73 : decode cX12_startSo 73 = .ok (.getfield 98, 3) := by decide +kernel
theorem dX12_startSo_76 : decode cX12_startSo 76 = .ok (.bipush 75, 2) := by decide +kernel
theorem dX12_startSo_78 : decode cX12_startSo 78 = .ok (.iload_n 1, 1) := by decide +kernel
theorem dX12_startSo_79 : decode cX12_startSo 79 = .ok (.iadd, 1) := by decide +kernel
theorem dX12_startSo_80 : decode cX12_startSo 80 = .ok (.aload_n 0, 1) := by decide +kernel
theorem dX12_startSo_81 : decode cX12_startSo 81 = .ok (.getfield 98, 3) := by decide +kernel
theorem dX12_startSo_84 : decode cX12_startSo 84 = .ok (.bipush 23, 2) := by decide +kernel
theorem dX12_startSo_86 : decode cX12_startSo 86 = .ok (.iload_n 1, 1) := by decide +kernel
theorem dX12_startSo_87 : decode cX12_startSo 87 = .ok (.iadd, 1) := by decide +kernel
theorem dX12_startSo_88 : decode cX12_startSo 88 = .ok (.iaload, 1) := by decide +kernel
theorem dX12_startSo_89 : decode cX12_startSo 89 = .ok (.iastore, 1) := by decide +kernel
theorem dX12_startSo_90 : decode cX12_startSo 90 = .ok (.iinc 1 1, 3) := by decide +kernel
theorem dX12_startSo_93 : decode cX12_startSo 93 = .ok (.goto (-55), 3) := by decide +kernel
theorem dX12_startSo_96 : decode cX12_startSo 96 = .ok (.iconst 0, 1) := by decide +kernel
theorem dX12_startSo_97 : decode cX12_startSo 97 = .ok (.istore_n 1, 1) := by decide +kernel
theorem dX12_startSo_98 : decode cX12_startSo 98 = .ok (.iload_n 1, 1) := by decide +kernel
theorem dX12_startSo_99 : decode cX12_startSo 99 = .ok (.bipush 9, 2) := by decide +kernel
theorem dX12_startSo_101 : decode cX12_startSo 101 = .ok (.if_icmp .ge 40, 3) := by decide +kernel
theorem dX12_startSo_104 : decode cX12_startSo 104 = .ok (.aload_n 0, 1) := by decide +kernel
theorem dX12_startSo_105 : decode cX12_startSo 105 = .ok (.getfield 98, 3) := by decide +kernel
theorem dX12_startSo_108 : decode cX12_startSo 108 = .ok (.bipush 57, 2) := by decide +kernel
theorem dX12_startSo_110 : decode cX12_startSo 110 = .ok (.iload_n 1, 1) := by decide +kernel
theorem dX12_startSo_111 : decode cX12_startSo 111 = .ok (.iadd, 1) := by decide +kernel
theorem dX12_startSo_112 : decode cX12_startSo 112 = .ok (.iaload, 1) := by decide +kernel
theorem dX12_startSo_113 : decode cX12_startSo 113 = .ok (.iconst (-1), 1) := by decide +kernel
theorem dX12_startSo_114 : decode cX12_startSo 114 = .ok (.if_icmp .eq 21, 3) := by decide +kernel
theorem dX12_startSo_135 : decode cX12_startSo 135 = .ok (.iinc 1 1, 3) := by decide +kernel
theorem dX12_startSo_138 : decode cX12_startSo 138 = .ok (.goto (-40), 3) := by decide +kernel
theorem dX12_startSo_141 : decode cX12_startSo 141 = .ok (.return_, 1) := by decide +kernel
theorem dX12_startSo_10 : decode cX12_startSo 10 = .ok (.aload_n 0, 1) := by decide +kernel
theorem dX12_startSo_11 : decode cX12_startSo 11 = .ok (.getfield 98, 3) := by decide +kernel
theorem dX12_startSo_14 : decode cX12_startSo 14 = .ok (.iload_n 1, 1) := by decide +kernel
theorem dX12_startSo_15 : decode cX12_startSo 15 = .ok (.iconst 0, 1) := by decide +kernel
theorem dX12_startSo_16 : decode cX12_startSo 16 = .ok (.iastore, 1) := by decide +kernel
theorem dX12_startSo_17 : decode cX12_startSo 17 = .ok (.iinc 1 1, 3) := by decide +kernel
theorem dX12_startSo_20 : decode cX12_startSo 20 = .ok (.goto (-17), 3) := by decide +kernel
theorem dX12_init_0 : decode cX12_init 0 = .ok (.aload_n 0, 1) := by decide +kernel
theorem dX12_init_1 : decode cX12_init 1 = .ok (.invokespecial 93, 3) := by decide +kernel
theorem G1458 : Cond.methodLink "HookedCityModel" 93 ⟨"java/lang/Object", "<init>", "()V"⟩ ∈ GW := gw_i 1458 (by decide +kernel) rfl
theorem dX12_init_4 : decode cX12_init 4 = .ok (.aload_n 0, 1) := by decide +kernel
theorem dX12_init_5 : decode cX12_init 5 = .ok (.sipush 940, 3) := by decide +kernel
theorem dX12_init_8 : decode cX12_init 8 = .ok (.newarray .int, 2) := by decide +kernel
theorem dX12_init_10 : decode cX12_init 10 = .ok (.putfield 7, 3) := by decide +kernel
theorem G1468 : Cond.fieldLink "HookedCityModel" 7 "HookedCityModel" "tape" "[I" ∈ GW := gw_i 1468 (by decide +kernel) rfl
theorem dX12_init_13 : decode cX12_init 13 = .ok (.aload_n 0, 1) := by decide +kernel
theorem dX12_init_14 : decode cX12_init 14 = .ok (.sipush 329, 3) := by decide +kernel
theorem dX12_init_17 : decode cX12_init 17 = .ok (.newarray .int, 2) := by decide +kernel
theorem dX12_init_19 : decode cX12_init 19 = .ok (.putfield 98, 3) := by decide +kernel
theorem dX12_init_22 : decode cX12_init 22 = .ok (.aload_n 0, 1) := by decide +kernel
theorem dX12_init_23 : decode cX12_init 23 = .ok (.bipush 53, 2) := by decide +kernel
theorem dX12_init_25 : decode cX12_init 25 = .ok (.newarray .int, 2) := by decide +kernel
theorem dX12_init_27 : decode cX12_init 27 = .ok (.putfield 101, 3) := by decide +kernel
theorem dX12_init_30 : decode cX12_init 30 = .ok (.aload_n 0, 1) := by decide +kernel
theorem dX12_init_31 : decode cX12_init 31 = .ok (.sipush 658, 3) := by decide +kernel
theorem dX12_init_34 : decode cX12_init 34 = .ok (.newarray .int, 2) := by decide +kernel
theorem dX12_init_36 : decode cX12_init 36 = .ok (.putfield 104, 3) := by decide +kernel
theorem G1483 : Cond.fieldLink "HookedCityModel" 104 "HookedCityModel" "kept" "[I" ∈ GW := gw_i 1483 (by decide +kernel) rfl
theorem dX12_init_39 : decode cX12_init 39 = .ok (.aload_n 0, 1) := by decide +kernel
theorem dX12_init_40 : decode cX12_init 40 = .ok (.sipush 272, 3) := by decide +kernel
theorem dX12_init_43 : decode cX12_init 43 = .ok (.newarray .int, 2) := by decide +kernel
theorem dX12_init_45 : decode cX12_init 45 = .ok (.putfield 107, 3) := by decide +kernel
theorem G1484 : Cond.fieldLink "HookedCityModel" 107 "HookedCityModel" "snaps" "[I" ∈ GW := gw_i 1484 (by decide +kernel) rfl
theorem dX12_init_48 : decode cX12_init 48 = .ok (.aload_n 0, 1) := by decide +kernel
theorem dX12_init_49 : decode cX12_init 49 = .ok (.bipush 34, 2) := by decide +kernel
theorem dX12_init_51 : decode cX12_init 51 = .ok (.newarray .int, 2) := by decide +kernel
theorem dX12_init_53 : decode cX12_init 53 = .ok (.putfield 110, 3) := by decide +kernel
theorem G1485 : Cond.fieldLink "HookedCityModel" 110 "HookedCityModel" "aside" "[I" ∈ GW := gw_i 1485 (by decide +kernel) rfl
theorem dX12_init_56 : decode cX12_init 56 = .ok (.aload_n 0, 1) := by decide +kernel
theorem dX12_init_57 : decode cX12_init 57 = .ok (.bipush 12, 2) := by decide +kernel
theorem dX12_init_59 : decode cX12_init 59 = .ok (.newarray .long, 2) := by decide +kernel
theorem dX12_init_61 : decode cX12_init 61 = .ok (.putfield 113, 3) := by decide +kernel
theorem G1486 : Cond.fieldLink "HookedCityModel" 113 "HookedCityModel" "name" "[J" ∈ GW := gw_i 1486 (by decide +kernel) rfl
theorem dX12_init_64 : decode cX12_init 64 = .ok (.aload_n 0, 1) := by decide +kernel
theorem dX12_init_65 : decode cX12_init 65 = .ok (.bipush 12, 2) := by decide +kernel
theorem dX12_init_67 : decode cX12_init 67 = .ok (.newarray .long, 2) := by decide +kernel
theorem dX12_init_69 : decode cX12_init 69 = .ok (.putfield 117, 3) := by decide +kernel
theorem G1487 : Cond.fieldLink "HookedCityModel" 117 "HookedCityModel" "readName" "[J" ∈ GW := gw_i 1487 (by decide +kernel) rfl
theorem dX12_init_72 : decode cX12_init 72 = .ok (.aload_n 0, 1) := by decide +kernel
theorem dX12_init_73 : decode cX12_init 73 = .ok (.bipush 24, 2) := by decide +kernel
theorem dX12_init_75 : decode cX12_init 75 = .ok (.newarray .long, 2) := by decide +kernel
theorem dX12_init_77 : decode cX12_init 77 = .ok (.putfield 120, 3) := by decide +kernel
theorem G1488 : Cond.fieldLink "HookedCityModel" 120 "HookedCityModel" "keptName" "[J" ∈ GW := gw_i 1488 (by decide +kernel) rfl
theorem dX12_init_80 : decode cX12_init 80 = .ok (.aload_n 0, 1) := by decide +kernel
theorem dX12_init_81 : decode cX12_init 81 = .ok (.iconst 2, 1) := by decide +kernel
theorem dX12_init_82 : decode cX12_init 82 = .ok (.newarray .boolean, 2) := by decide +kernel
theorem G1618 : Cond.arrayClass .boolean ∈ GW := gw_i 1618 (by decide +kernel) rfl
theorem dX12_init_84 : decode cX12_init 84 = .ok (.putfield 123, 3) := by decide +kernel
theorem G1489 : Cond.fieldLink "HookedCityModel" 123 "HookedCityModel" "isKept" "[Z" ∈ GW := gw_i 1489 (by decide +kernel) rfl
theorem dX12_init_87 : decode cX12_init 87 = .ok (.aload_n 0, 1) := by decide +kernel
theorem dX12_init_88 : decode cX12_init 88 = .ok (.iconst 3, 1) := by decide +kernel
theorem dX12_init_89 : decode cX12_init 89 = .ok (.newarray .boolean, 2) := by decide +kernel
theorem dX12_init_91 : decode cX12_init 91 = .ok (.putfield 127, 3) := by decide +kernel
theorem dX12_init_94 : decode cX12_init 94 = .ok (.aload_n 0, 1) := by decide +kernel
theorem dX12_init_95 : decode cX12_init 95 = .ok (.bipush 9, 2) := by decide +kernel
theorem dX12_init_97 : decode cX12_init 97 = .ok (.newarray .int, 2) := by decide +kernel
theorem dX12_init_99 : decode cX12_init 99 = .ok (.putfield 130, 3) := by decide +kernel
theorem G1492 : Cond.fieldLink "HookedCityModel" 130 "HookedCityModel" "holder" "[I" ∈ GW := gw_i 1492 (by decide +kernel) rfl
theorem dX12_init_102 : decode cX12_init 102 = .ok (.aload_n 0, 1) := by decide +kernel
theorem dX12_init_103 : decode cX12_init 103 = .ok (.bipush 9, 2) := by decide +kernel
theorem dX12_init_105 : decode cX12_init 105 = .ok (.newarray .int, 2) := by decide +kernel
theorem dX12_init_107 : decode cX12_init 107 = .ok (.putfield 133, 3) := by decide +kernel
theorem G1493 : Cond.fieldLink "HookedCityModel" 133 "HookedCityModel" "matched" "[I" ∈ GW := gw_i 1493 (by decide +kernel) rfl
theorem dX12_init_110 : decode cX12_init 110 = .ok (.aload_n 0, 1) := by decide +kernel
theorem dX12_init_111 : decode cX12_init 111 = .ok (.bipush 9, 2) := by decide +kernel
theorem dX12_init_113 : decode cX12_init 113 = .ok (.newarray .boolean, 2) := by decide +kernel
theorem dX12_init_115 : decode cX12_init 115 = .ok (.putfield 136, 3) := by decide +kernel
theorem G1494 : Cond.fieldLink "HookedCityModel" 136 "HookedCityModel" "seen" "[Z" ∈ GW := gw_i 1494 (by decide +kernel) rfl
theorem dX12_init_118 : decode cX12_init 118 = .ok (.aload_n 0, 1) := by decide +kernel
theorem dX12_init_119 : decode cX12_init 119 = .ok (.bipush 9, 2) := by decide +kernel
theorem dX12_init_121 : decode cX12_init 121 = .ok (.newarray .boolean, 2) := by decide +kernel
theorem dX12_init_123 : decode cX12_init 123 = .ok (.putfield 139, 3) := by decide +kernel
theorem G1495 : Cond.fieldLink "HookedCityModel" 139 "HookedCityModel" "closed" "[Z" ∈ GW := gw_i 1495 (by decide +kernel) rfl
theorem dX12_init_126 : decode cX12_init 126 = .ok (.aload_n 0, 1) := by decide +kernel
theorem dX12_init_127 : decode cX12_init 127 = .ok (.bipush 10, 2) := by decide +kernel
theorem dX12_init_129 : decode cX12_init 129 = .ok (.newarray .int, 2) := by decide +kernel
theorem dX12_init_131 : decode cX12_init 131 = .ok (.putfield 142, 3) := by decide +kernel
theorem G1499 : Cond.fieldLink "HookedCityModel" 142 "HookedCityModel" "slip" "[I" ∈ GW := gw_i 1499 (by decide +kernel) rfl
theorem dX12_init_134 : decode cX12_init 134 = .ok (.aload_n 0, 1) := by decide +kernel
theorem dX12_init_135 : decode cX12_init 135 = .ok (.iconst (-1), 1) := by decide +kernel
theorem dX12_init_136 : decode cX12_init 136 = .ok (.putfield 145, 3) := by decide +kernel
theorem G1500 : Cond.fieldLink "HookedCityModel" 145 "HookedCityModel" "slipLeast" "I" ∈ GW := gw_i 1500 (by decide +kernel) rfl
theorem dX12_init_139 : decode cX12_init 139 = .ok (.aload_n 0, 1) := by decide +kernel
theorem dX12_init_140 : decode cX12_init 140 = .ok (.iconst (-1), 1) := by decide +kernel
theorem dX12_init_141 : decode cX12_init 141 = .ok (.putfield 148, 3) := by decide +kernel
theorem G1501 : Cond.fieldLink "HookedCityModel" 148 "HookedCityModel" "turning" "I" ∈ GW := gw_i 1501 (by decide +kernel) rfl
theorem dX12_init_144 : decode cX12_init 144 = .ok (.aload_n 0, 1) := by decide +kernel
theorem dX12_init_145 : decode cX12_init 145 = .ok (.bipush 9, 2) := by decide +kernel
theorem dX12_init_147 : decode cX12_init 147 = .ok (.newarray .int, 2) := by decide +kernel
theorem dX12_init_149 : decode cX12_init 149 = .ok (.putfield 151, 3) := by decide +kernel
theorem G1502 : Cond.fieldLink "HookedCityModel" 151 "HookedCityModel" "far" "[I" ∈ GW := gw_i 1502 (by decide +kernel) rfl
theorem dX12_init_152 : decode cX12_init 152 = .ok (.aload_n 0, 1) := by decide +kernel
theorem dX12_init_153 : decode cX12_init 153 = .ok (.bipush 9, 2) := by decide +kernel
theorem dX12_init_155 : decode cX12_init 155 = .ok (.newarray .int, 2) := by decide +kernel
theorem dX12_init_157 : decode cX12_init 157 = .ok (.putfield 154, 3) := by decide +kernel
theorem G1503 : Cond.fieldLink "HookedCityModel" 154 "HookedCityModel" "path" "[I" ∈ GW := gw_i 1503 (by decide +kernel) rfl
theorem dX12_init_160 : decode cX12_init 160 = .ok (.aload_n 0, 1) := by decide +kernel
theorem dX12_init_161 : decode cX12_init 161 = .ok (.bipush 64, 2) := by decide +kernel
theorem dX12_init_163 : decode cX12_init 163 = .ok (.newarray .int, 2) := by decide +kernel
theorem dX12_init_165 : decode cX12_init 165 = .ok (.putfield 157, 3) := by decide +kernel
theorem G1505 : Cond.fieldLink "HookedCityModel" 157 "HookedCityModel" "text" "[I" ∈ GW := gw_i 1505 (by decide +kernel) rfl
theorem dX12_init_168 : decode cX12_init 168 = .ok (.aload_n 0, 1) := by decide +kernel
theorem dX12_init_169 : decode cX12_init 169 = .ok (.sipush 160, 3) := by decide +kernel
theorem dX12_init_172 : decode cX12_init 172 = .ok (.newarray .int, 2) := by decide +kernel
theorem dX12_init_174 : decode cX12_init 174 = .ok (.putfield 160, 3) := by decide +kernel
theorem G1508 : Cond.fieldLink "HookedCityModel" 160 "HookedCityModel" "line" "[I" ∈ GW := gw_i 1508 (by decide +kernel) rfl
theorem dX12_init_177 : decode cX12_init 177 = .ok (.aload_n 0, 1) := by decide +kernel
theorem dX12_init_178 : decode cX12_init 178 = .ok (.iconst 4, 1) := by decide +kernel
theorem dX12_init_179 : decode cX12_init 179 = .ok (.newarray .int, 2) := by decide +kernel
theorem dX12_init_181 : decode cX12_init 181 = .ok (.putfield 163, 3) := by decide +kernel
theorem G1509 : Cond.fieldLink "HookedCityModel" 163 "HookedCityModel" "written" "[I" ∈ GW := gw_i 1509 (by decide +kernel) rfl
theorem dX12_init_184 : decode cX12_init 184 = .ok (.aload_n 0, 1) := by decide +kernel
theorem dX12_init_185 : decode cX12_init 185 = .ok (.sipush 240, 3) := by decide +kernel
theorem dX12_init_188 : decode cX12_init 188 = .ok (.newarray .int, 2) := by decide +kernel
theorem dX12_init_190 : decode cX12_init 190 = .ok (.putfield 166, 3) := by decide +kernel
theorem G1512 : Cond.fieldLink "HookedCityModel" 166 "HookedCityModel" "node" "[I" ∈ GW := gw_i 1512 (by decide +kernel) rfl
theorem dX12_init_193 : decode cX12_init 193 = .ok (.aload_n 0, 1) := by decide +kernel
theorem dX12_init_194 : decode cX12_init 194 = .ok (.invokevirtual 169, 3) := by decide +kernel
theorem G1462 : Cond.code ⟨"HookedCityModel", "startRead", "()V"⟩ prog_14_method_27_code 2 none ∈ GW := gw_i 1462 (by decide +kernel) rfl
theorem G1459 : Cond.methodLink "HookedCityModel" 169 ⟨"HookedCityModel", "startRead", "()V"⟩ ∈ GW := gw_i 1459 (by decide +kernel) rfl
theorem G131 : Cond.initialized "HookedCityModel" ∈ GW := gw_i 131 (by decide +kernel) rfl
theorem V_HookedCityModel_169 : VL "HookedCityModel" 169 yX12_startRead cX12_startRead 2 none 0 := ⟨G1462, G1459, G131, by decide +kernel, by decide +kernel, by decide +kernel⟩
theorem G1461 : Cond.instanceMethod ⟨"HookedCityModel", "startRead", "()V"⟩ ∈ GW := gw_i 1461 (by decide +kernel) rfl
theorem G45 : Cond.selects "HookedCityModel" ⟨"HookedCityModel", "startRead", "()V"⟩ ⟨"HookedCityModel", "startRead", "()V"⟩ ∈ GW := gw_i 45 (by decide +kernel) rfl
theorem dX12_init_197 : decode cX12_init 197 = .ok (.iconst 0, 1) := by decide +kernel
theorem dX12_init_198 : decode cX12_init 198 = .ok (.istore_n 1, 1) := by decide +kernel
theorem dX12_init_199 : decode cX12_init 199 = .ok (.iload_n 1, 1) := by decide +kernel
theorem dX12_init_200 : decode cX12_init 200 = .ok (.bipush 53, 2) := by decide +kernel
theorem dX12_init_202 : decode cX12_init 202 = .ok (.if_icmp .ge 21, 3) := by decide +kernel
theorem dX12_init_223 : decode cX12_init 223 = .ok (.aload_n 0, 1) := by decide +kernel
theorem dX12_init_224 : decode cX12_init 224 = .ok (.invokevirtual 172, 3) := by decide +kernel
theorem G1466 : Cond.code ⟨"HookedCityModel", "startSo", "()V"⟩ prog_14_method_28_code 2 none ∈ GW := gw_i 1466 (by decide +kernel) rfl
theorem G1463 : Cond.methodLink "HookedCityModel" 172 ⟨"HookedCityModel", "startSo", "()V"⟩ ∈ GW := gw_i 1463 (by decide +kernel) rfl
theorem V_HookedCityModel_172 : VL "HookedCityModel" 172 yX12_startSo cX12_startSo 2 none 0 := ⟨G1466, G1463, G131, by decide +kernel, by decide +kernel, by decide +kernel⟩
theorem G1465 : Cond.instanceMethod ⟨"HookedCityModel", "startSo", "()V"⟩ ∈ GW := gw_i 1465 (by decide +kernel) rfl
theorem G46 : Cond.selects "HookedCityModel" ⟨"HookedCityModel", "startSo", "()V"⟩ ⟨"HookedCityModel", "startSo", "()V"⟩ ∈ GW := gw_i 46 (by decide +kernel) rfl
theorem dX12_init_227 : decode cX12_init 227 = .ok (.return_, 1) := by decide +kernel
theorem dX12_init_205 : decode cX12_init 205 = .ok (.aload_n 0, 1) := by decide +kernel
theorem dX12_init_206 : decode cX12_init 206 = .ok (.getfield 98, 3) := by decide +kernel
theorem dX12_init_209 : decode cX12_init 209 = .ok (.iload_n 1, 1) := by decide +kernel
theorem dX12_init_210 : decode cX12_init 210 = .ok (.aload_n 0, 1) := by decide +kernel
theorem dX12_init_211 : decode cX12_init 211 = .ok (.getfield 101, 3) := by decide +kernel
theorem dX12_init_214 : decode cX12_init 214 = .ok (.iload_n 1, 1) := by decide +kernel
theorem dX12_init_215 : decode cX12_init 215 = .ok (.iaload, 1) := by decide +kernel
theorem dX12_init_216 : decode cX12_init 216 = .ok (.iastore, 1) := by decide +kernel
theorem dX12_init_217 : decode cX12_init 217 = .ok (.iinc 1 1, 3) := by decide +kernel
theorem dX12_init_220 : decode cX12_init 220 = .ok (.goto (-21), 3) := by decide +kernel
set_option maxRecDepth 100000 in
set_option maxHeartbeats 4000000 in
theorem c13_X12_startRead (l : Launch) (D : va_G) (T : Nat → ClassId) (sz : Nat) (a0 a1 a2 a3 a4 a5 a6 a7 a8 a9 a10 a11 a12 a13 a14 a15 a16 a17 a18 a19 a20 a21 a22 : Nat) : Met l yX12_startRead (Cond.code yX12_startRead cX12_startRead 2 none :: GW) (Rm 0 0 0) (cPre [.ref a0] D T [(a0, .inr (11, [.int 0, .ref a1, .int 0, .int 0, .int 0, .int 0, .int 0, .int 0, .int 0, .int 0, .int 0, .int 0, .long 0, .int 0, .ref a2, .ref a3, .ref a4, .ref a5, .ref a6, .ref a7, .ref a8, .ref a9, .ref a10, .ref a11, .int 0, .ref a12, .ref a13, .ref a14, .ref a15, .int 0, .int 0, .int 0, .ref a16, .int (-1), .int (-1), .ref a17, .ref a18, .int 0, .ref a19, .int 0, .int 0, .ref a20, .ref a21, .int 0, .int 0, .ref a22, .int 0, .int 0, .int 0, .int 0])), (a3, .inl (T 0, 53, .inl (fun _ => 0))), (a11, .inl (T 2, 3, .inl (fun _ => 0)))] sz) (qV D [(a0, .inr (11, [.int 0, .ref a1, .int 0, .int 0, .int 0, .int 0, .int 0, .int 0, .int 0, .int 0, .int 0, .int 0, .long 0, .int 0, .ref a2, .ref a3, .ref a4, .ref a5, .ref a6, .ref a7, .ref a8, .ref a9, .ref a10, .ref a11, .int 0, .ref a12, .ref a13, .ref a14, .ref a15, .int 0, .int 0, .int 0, .ref a16, .int (-1), .int (-1), .ref a17, .ref a18, .int 0, .ref a19, .int 0, .int 0, .ref a20, .ref a21, .int 0, .int 0, .ref a22, .int 0, .int 0, .int 0, .int 0])), (a3, .inl (T 0, 53, .inl (fun _ => 0))), (a11, .inl (T 2, 3, .inl (fun _ => 0)))] sz (fun (u : Unit) => True) (fun u => [(a0, .inr (11, [.int 0, .ref a1, .int 0, .int 0, .int 0, .int 0, .int 0, .int 0, .int 0, .int 0, .int 0, .int 0, .long 0, .int 0, .ref a2, .ref a3, .ref a4, .ref a5, .ref a6, .ref a7, .ref a8, .ref a9, .ref a10, .ref a11, .int 0, .ref a12, .ref a13, .ref a14, .ref a15, .int 0, .int 0, .int 0, .ref a16, .int (-1), .int (-1), .ref a17, .ref a18, .int 0, .ref a19, .int 0, .int 0, .ref a20, .ref a21, .int 0, .int 0, .ref a22, .int 0, .int 0, .int 0, .int 0])), (a3, .inl (T 0, 53, .inl cn13)), (a11, .inl (T 2, 3, .inl cn9))])) 0 0 (va_A [(a0, .inr (11, [.int 0, .ref a1, .int 0, .int 0, .int 0, .int 0, .int 0, .int 0, .int 0, .int 0, .int 0, .int 0, .long 0, .int 0, .ref a2, .ref a3, .ref a4, .ref a5, .ref a6, .ref a7, .ref a8, .ref a9, .ref a10, .ref a11, .int 0, .ref a12, .ref a13, .ref a14, .ref a15, .int 0, .int 0, .int 0, .ref a16, .int (-1), .int (-1), .ref a17, .ref a18, .int 0, .ref a19, .int 0, .int 0, .ref a20, .ref a21, .int 0, .int 0, .ref a22, .int 0, .int 0, .int 0, .int 0])), (a3, .inl (T 0, 53, .inl (fun _ => 0))), (a11, .inl (T 2, 3, .inl (fun _ => 0)))] sz) := by
  refine e_V (by decide) (Nat.le_of_ble_eq_true rfl) ?_
  intro p e s m args below meth c A Q ls M hin w ret hl
  have hx := M.1.1
  have hb := M.1.2.1
  have hl : lv_has ls 2 [(0, .ref a0)] := hl
  refine lv_iconst (v := 0) hx hb dX12_startRead_0 (by decide) ?_
  refine lv_istore_n (lv' := [(1, .int 0), (0, .ref a0)]) hx hb dX12_startRead_1 rfl hl (by decide) rfl (fun ls hl => ?_)
  have w : WD D A s.heap [(a0, .inr (11, [.int 0, .ref a1, .int 0, .int 0, .int 0, .int 0, .int 0, .int 0, .int 0, .int 0, .int 0, .int 0, .long 0, .int 0, .ref a2, .ref a3, .ref a4, .ref a5, .ref a6, .ref a7, .ref a8, .ref a9, .ref a10, .ref a11, .int 0, .ref a12, .ref a13, .ref a14, .ref a15, .int 0, .int 0, .int 0, .ref a16, .int (-1), .int (-1), .ref a17, .ref a18, .int 0, .ref a19, .int 0, .int 0, .ref a20, .ref a21, .int 0, .int 0, .ref a22, .int 0, .int 0, .int 0, .int 0])), (a3, .inl (T 0, 53, .inl (rngc 0 0 (0 : Int32) (fun _ => 0)))), (a11, .inl (T 2, 3, .inl (fun _ => 0)))] _ _ := w.to (by simp only [rngc_0])
  have loop : ∀ (k i : Nat) (H : Heap) (locs : List Loc) (ls : Array Slot), 0 ≤ i → i ≤ 53 → 53 < i + k → WD D A s.heap [(a0, .inr (11, [.int 0, .ref a1, .int 0, .int 0, .int 0, .int 0, .int 0, .int 0, .int 0, .int 0, .int 0, .int 0, .long 0, .int 0, .ref a2, .ref a3, .ref a4, .ref a5, .ref a6, .ref a7, .ref a8, .ref a9, .ref a10, .ref a11, .int 0, .ref a12, .ref a13, .ref a14, .ref a15, .int 0, .int 0, .int 0, .ref a16, .int (-1), .int (-1), .ref a17, .ref a18, .int 0, .ref a19, .int 0, .int 0, .ref a20, .ref a21, .int 0, .int 0, .ref a22, .int 0, .int 0, .int 0, .int 0])), (a3, .inl (T 0, 53, .inl (rngc 0 i (0 : Int32) (fun _ => 0)))), (a11, .inl (T 2, 3, .inl (fun _ => 0)))] H locs → lv_has ls 2 [(1, .int (nI i)), (0, .ref a0)] → W p l e (Rm 0 0 0) s m args below meth c H locs 0 0 Q (F0 m 2 ls []) := by
    intro k
    induction k with
    | zero => intro i H locs ls h0 h1 h2; exact absurd h2 (by omega)
    | succ k ih =>
      intro i H locs ls hi0 hi1 hi2 w hl
      refine lv_iload_n hx hb dX12_startRead_2 rfl (lv_at hl 0 rfl) ?_
      refine lv_bipush (v := 53) hx hb dX12_startRead_3 (by decide) ?_
      refine lv_icmp_ge (tgt := 21) hx hb dX12_startRead_5 (by decide) (fun c_1 => ?_) (fun c_1 => ?_)
      · have hi2 : 53 ≤ i := ix_exit (n := 53) (by decide) (by omega) (by decide) c_1
        obtain rfl : i = 53 := by omega
        have w : WD D A s.heap [(a0, .inr (11, [.int 0, .ref a1, .int 0, .int 0, .int 0, .int 0, .int 0, .int 0, .int 0, .int 0, .int 0, .int 0, .long 0, .int 0, .ref a2, .ref a3, .ref a4, .ref a5, .ref a6, .ref a7, .ref a8, .ref a9, .ref a10, .ref a11, .int 0, .ref a12, .ref a13, .ref a14, .ref a15, .int 0, .int 0, .int 0, .ref a16, .int (-1), .int (-1), .ref a17, .ref a18, .int 0, .ref a19, .int 0, .int 0, .ref a20, .ref a21, .int 0, .int 0, .ref a22, .int 0, .int 0, .int 0, .int 0])), (a3, .inl (T 0, 53, .inl cn8)), (a11, .inl (T 2, 3, .inl (fun _ => 0)))] H locs := w
        have hl : lv_has ls 2 [(1, .int 53), (0, .ref a0)] := hl
        refine lv_iconst (v := 0) hx hb dX12_startRead_21 (by decide) ?_
        refine lv_istore_n (lv' := [(1, .int 0), (0, .ref a0)]) hx hb dX12_startRead_22 rfl hl (by decide) rfl (fun ls hl => ?_)
        have w : WD D A s.heap [(a0, .inr (11, [.int 0, .ref a1, .int 0, .int 0, .int 0, .int 0, .int 0, .int 0, .int 0, .int 0, .int 0, .int 0, .long 0, .int 0, .ref a2, .ref a3, .ref a4, .ref a5, .ref a6, .ref a7, .ref a8, .ref a9, .ref a10, .ref a11, .int 0, .ref a12, .ref a13, .ref a14, .ref a15, .int 0, .int 0, .int 0, .ref a16, .int (-1), .int (-1), .ref a17, .ref a18, .int 0, .ref a19, .int 0, .int 0, .ref a20, .ref a21, .int 0, .int 0, .ref a22, .int 0, .int 0, .int 0, .int 0])), (a3, .inl (T 0, 53, .inl cn8)), (a11, .inl (T 2, 3, .inl (rngc 0 0 (0 : Int32) (fun _ => 0))))] H locs := w.to (by simp only [rngc_0])
        have loop : ∀ (k i : Nat) (H : Heap) (locs : List Loc) (ls : Array Slot), 0 ≤ i → i ≤ 3 → 3 < i + k → WD D A s.heap [(a0, .inr (11, [.int 0, .ref a1, .int 0, .int 0, .int 0, .int 0, .int 0, .int 0, .int 0, .int 0, .int 0, .int 0, .long 0, .int 0, .ref a2, .ref a3, .ref a4, .ref a5, .ref a6, .ref a7, .ref a8, .ref a9, .ref a10, .ref a11, .int 0, .ref a12, .ref a13, .ref a14, .ref a15, .int 0, .int 0, .int 0, .ref a16, .int (-1), .int (-1), .ref a17, .ref a18, .int 0, .ref a19, .int 0, .int 0, .ref a20, .ref a21, .int 0, .int 0, .ref a22, .int 0, .int 0, .int 0, .int 0])), (a3, .inl (T 0, 53, .inl cn8)), (a11, .inl (T 2, 3, .inl (rngc 0 i (0 : Int32) (fun _ => 0))))] H locs → lv_has ls 2 [(1, .int (nI i)), (0, .ref a0)] → W p l e (Rm 0 0 0) s m args below meth c H locs 0 0 Q (F0 m 23 ls []) := by
          intro k
          induction k with
          | zero => intro i H locs ls h0 h1 h2; exact absurd h2 (by omega)
          | succ k ih =>
            intro i H locs ls hi0 hi1 hi2 w hl
            refine lv_iload_n hx hb dX12_startRead_23 rfl (lv_at hl 0 rfl) ?_
            refine lv_iconst (v := 3) hx hb dX12_startRead_24 (by decide) ?_
            refine lv_icmp_ge (tgt := 41) hx hb dX12_startRead_25 (by decide) (fun c_2 => ?_) (fun c_2 => ?_)
            · have hi2 : 3 ≤ i := ix_exit (n := 3) (by decide) (by omega) (by decide) c_2
              obtain rfl : i = 3 := by omega
              have w : WD D A s.heap [(a0, .inr (11, [.int 0, .ref a1, .int 0, .int 0, .int 0, .int 0, .int 0, .int 0, .int 0, .int 0, .int 0, .int 0, .long 0, .int 0, .ref a2, .ref a3, .ref a4, .ref a5, .ref a6, .ref a7, .ref a8, .ref a9, .ref a10, .ref a11, .int 0, .ref a12, .ref a13, .ref a14, .ref a15, .int 0, .int 0, .int 0, .ref a16, .int (-1), .int (-1), .ref a17, .ref a18, .int 0, .ref a19, .int 0, .int 0, .ref a20, .ref a21, .int 0, .int 0, .ref a22, .int 0, .int 0, .int 0, .int 0])), (a3, .inl (T 0, 53, .inl cn8)), (a11, .inl (T 2, 3, .inl cn9))] H locs := w
              have hl : lv_has ls 2 [(1, .int 3), (0, .ref a0)] := hl
              refine lv_iconst (v := 0) hx hb dX12_startRead_41 (by decide) ?_
              refine lv_istore_n (lv' := [(1, .int 0), (0, .ref a0)]) hx hb dX12_startRead_42 rfl hl (by decide) rfl (fun ls hl => ?_)
              have w : WD D A s.heap [(a0, .inr (11, [.int 0, .ref a1, .int 0, .int 0, .int 0, .int 0, .int 0, .int 0, .int 0, .int 0, .int 0, .int 0, .long 0, .int 0, .ref a2, .ref a3, .ref a4, .ref a5, .ref a6, .ref a7, .ref a8, .ref a9, .ref a10, .ref a11, .int 0, .ref a12, .ref a13, .ref a14, .ref a15, .int 0, .int 0, .int 0, .ref a16, .int (-1), .int (-1), .ref a17, .ref a18, .int 0, .ref a19, .int 0, .int 0, .ref a20, .ref a21, .int 0, .int 0, .ref a22, .int 0, .int 0, .int 0, .int 0])), (a3, .inl (T 0, 53, .inl (rngc 32 32 (-1 : Int32) cn8))), (a11, .inl (T 2, 3, .inl cn9))] H locs := w.to (by simp only [rngc_0])
              have loop : ∀ (k i : Nat) (H : Heap) (locs : List Loc) (ls : Array Slot), 0 ≤ i → i ≤ 9 → 9 < i + k → WD D A s.heap [(a0, .inr (11, [.int 0, .ref a1, .int 0, .int 0, .int 0, .int 0, .int 0, .int 0, .int 0, .int 0, .int 0, .int 0, .long 0, .int 0, .ref a2, .ref a3, .ref a4, .ref a5, .ref a6, .ref a7, .ref a8, .ref a9, .ref a10, .ref a11, .int 0, .ref a12, .ref a13, .ref a14, .ref a15, .int 0, .int 0, .int 0, .ref a16, .int (-1), .int (-1), .ref a17, .ref a18, .int 0, .ref a19, .int 0, .int 0, .ref a20, .ref a21, .int 0, .int 0, .ref a22, .int 0, .int 0, .int 0, .int 0])), (a3, .inl (T 0, 53, .inl (rngc 32 (i + 32) (-1 : Int32) cn8))), (a11, .inl (T 2, 3, .inl cn9))] H locs → lv_has ls 2 [(1, .int (nI i)), (0, .ref a0)] → W p l e (Rm 0 0 0) s m args below meth c H locs 0 0 Q (F0 m 43 ls []) := by
                intro k
                induction k with
                | zero => intro i H locs ls h0 h1 h2; exact absurd h2 (by omega)
                | succ k ih =>
                  intro i H locs ls hi0 hi1 hi2 w hl
                  refine lv_iload_n hx hb dX12_startRead_43 rfl (lv_at hl 0 rfl) ?_
                  refine lv_bipush (v := 9) hx hb dX12_startRead_44 (by decide) ?_
                  refine lv_icmp_ge (tgt := 65) hx hb dX12_startRead_46 (by decide) (fun c_3 => ?_) (fun c_3 => ?_)
                  · have hi2 : 9 ≤ i := ix_exit (n := 9) (by decide) (by omega) (by decide) c_3
                    obtain rfl : i = 9 := by omega
                    have w : WD D A s.heap [(a0, .inr (11, [.int 0, .ref a1, .int 0, .int 0, .int 0, .int 0, .int 0, .int 0, .int 0, .int 0, .int 0, .int 0, .long 0, .int 0, .ref a2, .ref a3, .ref a4, .ref a5, .ref a6, .ref a7, .ref a8, .ref a9, .ref a10, .ref a11, .int 0, .ref a12, .ref a13, .ref a14, .ref a15, .int 0, .int 0, .int 0, .ref a16, .int (-1), .int (-1), .ref a17, .ref a18, .int 0, .ref a19, .int 0, .int 0, .ref a20, .ref a21, .int 0, .int 0, .ref a22, .int 0, .int 0, .int 0, .int 0])), (a3, .inl (T 0, 53, .inl cn11)), (a11, .inl (T 2, 3, .inl cn9))] H locs := w
                    have hl : lv_has ls 2 [(1, .int 9), (0, .ref a0)] := hl
                    refine lv_aload_n hx hb dX12_startRead_65 rfl (lv_at hl 1 rfl) ?_
                    refine r_get (v := .ref a3) M w 0 15 clX12 rfl (by decide) G1482 rfl rfl dX12_startRead_66 ?_
                    refine lv_iconst (v := 3) hx hb dX12_startRead_69 (by decide) ?_
                    refine lv_bipush (v := 12) hx hb dX12_startRead_70 (by decide) ?_
                    refine r_iast (ws' := [(a0, .inr (11, [.int 0, .ref a1, .int 0, .int 0, .int 0, .int 0, .int 0, .int 0, .int 0, .int 0, .int 0, .int 0, .long 0, .int 0, .ref a2, .ref a3, .ref a4, .ref a5, .ref a6, .ref a7, .ref a8, .ref a9, .ref a10, .ref a11, .int 0, .ref a12, .ref a13, .ref a14, .ref a15, .int 0, .int 0, .int 0, .ref a16, .int (-1), .int (-1), .ref a17, .ref a18, .int 0, .ref a19, .int 0, .int 0, .ref a20, .ref a21, .int 0, .int 0, .ref a22, .int 0, .int 0, .int 0, .int 0])), (a3, .inl (T 0, 53, .inl cn12)), (a11, .inl (T 2, 3, .inl cn9))]) M w 1 rfl (vin (by decide +kernel)) rfl dX12_startRead_72 (fun H locs w => ?_)
                    refine lv_aload_n hx hb dX12_startRead_73 rfl (lv_at hl 1 rfl) ?_
                    refine r_get (v := .ref a3) M w 0 15 clX12 rfl (by decide) G1482 rfl rfl dX12_startRead_74 ?_
                    refine lv_iconst (v := 4) hx hb dX12_startRead_77 (by decide) ?_
                    refine lv_iconst (v := 1) hx hb dX12_startRead_78 (by decide) ?_
                    refine r_iast (ws' := [(a0, .inr (11, [.int 0, .ref a1, .int 0, .int 0, .int 0, .int 0, .int 0, .int 0, .int 0, .int 0, .int 0, .int 0, .long 0, .int 0, .ref a2, .ref a3, .ref a4, .ref a5, .ref a6, .ref a7, .ref a8, .ref a9, .ref a10, .ref a11, .int 0, .ref a12, .ref a13, .ref a14, .ref a15, .int 0, .int 0, .int 0, .ref a16, .int (-1), .int (-1), .ref a17, .ref a18, .int 0, .ref a19, .int 0, .int 0, .ref a20, .ref a21, .int 0, .int 0, .ref a22, .int 0, .int 0, .int 0, .int 0])), (a3, .inl (T 0, 53, .inl cn13)), (a11, .inl (T 2, 3, .inl cn9))]) M w 1 rfl (vin (by decide +kernel)) rfl dX12_startRead_79 (fun H locs w => ?_)
                    exact ret () _ _ _ _ _ [0, 1, 2] dX12_startRead_80 trivial w (by decide) rfl
                  · have hi2 : i < 9 := ix_in2 (n := 9) (by decide) (by omega) (by decide) c_3
                    refine lv_aload_n hx hb dX12_startRead_49 rfl (lv_at hl 1 rfl) ?_
                    refine r_get (v := .ref a3) M w 0 15 clX12 rfl (by decide) G1482 rfl rfl dX12_startRead_50 ?_
                    refine lv_bipush (v := 32) hx hb dX12_startRead_53 (by decide) ?_
                    refine lv_iload_n hx hb dX12_startRead_55 rfl (lv_at hl 0 rfl) ?_
                    refine r_iadd (v := (nI (i + 32))) M (ix_addl (k := 32) (by decide) (by omega)) dX12_startRead_56 ?_
                    refine lv_iconst (v := (-1)) hx hb dX12_startRead_57 (by decide) ?_
                    refine r_iast (ws' := [(a0, .inr (11, [.int 0, .ref a1, .int 0, .int 0, .int 0, .int 0, .int 0, .int 0, .int 0, .int 0, .int 0, .int 0, .long 0, .int 0, .ref a2, .ref a3, .ref a4, .ref a5, .ref a6, .ref a7, .ref a8, .ref a9, .ref a10, .ref a11, .int 0, .ref a12, .ref a13, .ref a14, .ref a15, .int 0, .int 0, .int 0, .ref a16, .int (-1), .int (-1), .ref a17, .ref a18, .int 0, .ref a19, .int 0, .int 0, .ref a20, .ref a21, .int 0, .int 0, .ref a22, .int 0, .int 0, .int 0, .int 0])), (a3, .inl (T 0, 53, .inl (upd (rngc 32 (i + 32) (-1 : Int32) cn8) (Int32.toNatClampNeg (nI (i + 32))) (-1 : Int32)))), (a11, .inl (T 2, 3, .inl cn9))]) M w 1 rfl (ix_in (by omega) (by decide)) rfl dX12_startRead_58 (fun H locs w => ?_)
                    refine lv_iinc (v := (nI (i + 1))) (lv' := [(1, .int (nI (i + 1))), (0, .ref a0)]) hx hb dX12_startRead_59 hl (k := 0) rfl (ix_add (k := 1) (by decide) (by omega)) (by decide) rfl (fun ls hl => ?_)
                    refine lv_goto (tgt := 43) hx hb dX12_startRead_62 (by decide) ?_
                    rw [show (upd (rngc 32 (i + 32) (-1 : Int32) cn8) (Int32.toNatClampNeg (nI (i + 32))) (-1 : Int32)) = (rngc 32 (i + 33) (-1 : Int32) cn8) from rngc_step (nI_clamp (by omega)) (by omega)] at w
                    exact ih (i + 1) _ _ _ (by omega) (by omega) (by omega) w (lv_sub hl [0, 1] rfl)
              exact loop 10 0 _ _ _ (by decide) (by decide) (by decide) w hl
            · have hi2 : i < 3 := ix_in2 (n := 3) (by decide) (by omega) (by decide) c_2
              refine lv_aload_n hx hb dX12_startRead_28 rfl (lv_at hl 1 rfl) ?_
              refine r_get (v := .ref a11) M w 0 23 clX12 rfl (by decide) G1490 rfl rfl dX12_startRead_29 ?_
              refine lv_iload_n hx hb dX12_startRead_32 rfl (lv_at hl 0 rfl) ?_
              refine lv_iconst (v := 0) hx hb dX12_startRead_33 (by decide) ?_
              refine r_zast (x2 := (0 : Int32)) (ws' := [(a0, .inr (11, [.int 0, .ref a1, .int 0, .int 0, .int 0, .int 0, .int 0, .int 0, .int 0, .int 0, .int 0, .int 0, .long 0, .int 0, .ref a2, .ref a3, .ref a4, .ref a5, .ref a6, .ref a7, .ref a8, .ref a9, .ref a10, .ref a11, .int 0, .ref a12, .ref a13, .ref a14, .ref a15, .int 0, .int 0, .int 0, .ref a16, .int (-1), .int (-1), .ref a17, .ref a18, .int 0, .ref a19, .int 0, .int 0, .ref a20, .ref a21, .int 0, .int 0, .ref a22, .int 0, .int 0, .int 0, .int 0])), (a3, .inl (T 0, 53, .inl cn8)), (a11, .inl (T 2, 3, .inl (upd (rngc 0 i (0 : Int32) (fun _ => 0)) (Int32.toNatClampNeg (nI i)) (0 : Int32))))]) M w 2 rfl (ix_in (by omega) (by decide)) (by decide +kernel) rfl dX12_startRead_34 (fun H locs w => ?_)
              refine lv_iinc (v := (nI (i + 1))) (lv' := [(1, .int (nI (i + 1))), (0, .ref a0)]) hx hb dX12_startRead_35 hl (k := 0) rfl (ix_add (k := 1) (by decide) (by omega)) (by decide) rfl (fun ls hl => ?_)
              refine lv_goto (tgt := 23) hx hb dX12_startRead_38 (by decide) ?_
              rw [show (upd (rngc 0 i (0 : Int32) (fun _ => 0)) (Int32.toNatClampNeg (nI i)) (0 : Int32)) = (rngc 0 (i + 1) (0 : Int32) (fun _ => 0)) from rngc_step (nI_clamp (by omega)) (by omega)] at w
              exact ih (i + 1) _ _ _ (by omega) (by omega) (by omega) w (lv_sub hl [0, 1] rfl)
        exact loop 4 0 _ _ _ (by decide) (by decide) (by decide) w hl
      · have hi2 : i < 53 := ix_in2 (n := 53) (by decide) (by omega) (by decide) c_1
        refine lv_aload_n hx hb dX12_startRead_8 rfl (lv_at hl 1 rfl) ?_
        refine r_get (v := .ref a3) M w 0 15 clX12 rfl (by decide) G1482 rfl rfl dX12_startRead_9 ?_
        refine lv_iload_n hx hb dX12_startRead_12 rfl (lv_at hl 0 rfl) ?_
        refine lv_iconst (v := 0) hx hb dX12_startRead_13 (by decide) ?_
        refine r_iast (ws' := [(a0, .inr (11, [.int 0, .ref a1, .int 0, .int 0, .int 0, .int 0, .int 0, .int 0, .int 0, .int 0, .int 0, .int 0, .long 0, .int 0, .ref a2, .ref a3, .ref a4, .ref a5, .ref a6, .ref a7, .ref a8, .ref a9, .ref a10, .ref a11, .int 0, .ref a12, .ref a13, .ref a14, .ref a15, .int 0, .int 0, .int 0, .ref a16, .int (-1), .int (-1), .ref a17, .ref a18, .int 0, .ref a19, .int 0, .int 0, .ref a20, .ref a21, .int 0, .int 0, .ref a22, .int 0, .int 0, .int 0, .int 0])), (a3, .inl (T 0, 53, .inl (upd (rngc 0 i (0 : Int32) (fun _ => 0)) (Int32.toNatClampNeg (nI i)) (0 : Int32)))), (a11, .inl (T 2, 3, .inl (fun _ => 0)))]) M w 1 rfl (ix_in (by omega) (by decide)) rfl dX12_startRead_14 (fun H locs w => ?_)
        refine lv_iinc (v := (nI (i + 1))) (lv' := [(1, .int (nI (i + 1))), (0, .ref a0)]) hx hb dX12_startRead_15 hl (k := 0) rfl (ix_add (k := 1) (by decide) (by omega)) (by decide) rfl (fun ls hl => ?_)
        refine lv_goto (tgt := 2) hx hb dX12_startRead_18 (by decide) ?_
        rw [show (upd (rngc 0 i (0 : Int32) (fun _ => 0)) (Int32.toNatClampNeg (nI i)) (0 : Int32)) = (rngc 0 (i + 1) (0 : Int32) (fun _ => 0)) from rngc_step (nI_clamp (by omega)) (by omega)] at w
        exact ih (i + 1) _ _ _ (by omega) (by omega) (by omega) w (lv_sub hl [0, 1] rfl)
  exact loop 54 0 _ _ _ (by decide) (by decide) (by decide) w hl
set_option maxRecDepth 100000 in
set_option maxHeartbeats 4000000 in
theorem c14_X12_startSo (l : Launch) (D : va_G) (T : Nat → ClassId) (sz : Nat) (a0 a1 a2 a3 a4 a5 a6 a7 a8 a9 a10 a11 a12 a13 a14 a15 a16 a17 a18 a19 a20 a21 a22 : Nat) : Met l yX12_startSo (Cond.code yX12_startSo cX12_startSo 2 none :: GW) (Rm 0 0 0) (cPre [.ref a0] D T [(a0, .inr (11, [.int 0, .ref a1, .int 0, .int 0, .int 0, .int 0, .int 0, .int 0, .int 0, .int 0, .int 0, .int 0, .long 0, .int 0, .ref a2, .ref a3, .ref a4, .ref a5, .ref a6, .ref a7, .ref a8, .ref a9, .ref a10, .ref a11, .int 0, .ref a12, .ref a13, .ref a14, .ref a15, .int 0, .int 0, .int 0, .ref a16, .int (-1), .int (-1), .ref a17, .ref a18, .int 0, .ref a19, .int 0, .int 0, .ref a20, .ref a21, .int 0, .int 0, .ref a22, .int 0, .int 0, .int 0, .int 0])), (a2, .inl (T 0, 329, .inl cn15))] sz) (qV D [(a0, .inr (11, [.int 0, .ref a1, .int 0, .int 0, .int 0, .int 0, .int 0, .int 0, .int 0, .int 0, .int 0, .int 0, .long 0, .int 0, .ref a2, .ref a3, .ref a4, .ref a5, .ref a6, .ref a7, .ref a8, .ref a9, .ref a10, .ref a11, .int 0, .ref a12, .ref a13, .ref a14, .ref a15, .int 0, .int 0, .int 0, .ref a16, .int (-1), .int (-1), .ref a17, .ref a18, .int 0, .ref a19, .int 0, .int 0, .ref a20, .ref a21, .int 0, .int 0, .ref a22, .int 0, .int 0, .int 0, .int 0])), (a2, .inl (T 0, 329, .inl cn15))] sz (fun (u : Unit) => True) (fun u => [(a0, .inr (11, [.int 0, .ref a1, .int 0, .int 0, .int 0, .int 0, .int 0, .int 0, .int 0, .int 0, .int 0, .int 0, .long 0, .int 0, .ref a2, .ref a3, .ref a4, .ref a5, .ref a6, .ref a7, .ref a8, .ref a9, .ref a10, .ref a11, .int 0, .ref a12, .ref a13, .ref a14, .ref a15, .int 0, .int 0, .int 0, .ref a16, .int (-1), .int (-1), .ref a17, .ref a18, .int 0, .ref a19, .int 0, .int 0, .ref a20, .ref a21, .int 0, .int 0, .ref a22, .int 0, .int 0, .int 0, .int 0])), (a2, .inl (T 0, 329, .inl cn45))])) 0 0 (va_A [(a0, .inr (11, [.int 0, .ref a1, .int 0, .int 0, .int 0, .int 0, .int 0, .int 0, .int 0, .int 0, .int 0, .int 0, .long 0, .int 0, .ref a2, .ref a3, .ref a4, .ref a5, .ref a6, .ref a7, .ref a8, .ref a9, .ref a10, .ref a11, .int 0, .ref a12, .ref a13, .ref a14, .ref a15, .int 0, .int 0, .int 0, .ref a16, .int (-1), .int (-1), .ref a17, .ref a18, .int 0, .ref a19, .int 0, .int 0, .ref a20, .ref a21, .int 0, .int 0, .ref a22, .int 0, .int 0, .int 0, .int 0])), (a2, .inl (T 0, 329, .inl cn15))] sz) := by
  refine e_V (by decide) (Nat.le_of_ble_eq_true rfl) ?_
  intro p e s m args below meth c A Q ls M hin w ret hl
  have hx := M.1.1
  have hb := M.1.2.1
  have hl : lv_has ls 2 [(0, .ref a0)] := hl
  refine lv_bipush (v := 53) hx hb dX12_startSo_0 (by decide) ?_
  refine lv_istore_n (lv' := [(1, .int 53), (0, .ref a0)]) hx hb dX12_startSo_2 rfl hl (by decide) rfl (fun ls hl => ?_)
  have w : WD D A s.heap [(a0, .inr (11, [.int 0, .ref a1, .int 0, .int 0, .int 0, .int 0, .int 0, .int 0, .int 0, .int 0, .int 0, .int 0, .long 0, .int 0, .ref a2, .ref a3, .ref a4, .ref a5, .ref a6, .ref a7, .ref a8, .ref a9, .ref a10, .ref a11, .int 0, .ref a12, .ref a13, .ref a14, .ref a15, .int 0, .int 0, .int 0, .ref a16, .int (-1), .int (-1), .ref a17, .ref a18, .int 0, .ref a19, .int 0, .int 0, .ref a20, .ref a21, .int 0, .int 0, .ref a22, .int 0, .int 0, .int 0, .int 0])), (a2, .inl (T 0, 329, .inl (rngc 53 53 (0 : Int32) cn15)))] _ _ := w.to (by simp only [rngc_0])
  have loop : ∀ (k i : Nat) (H : Heap) (locs : List Loc) (ls : Array Slot), 53 ≤ i → i ≤ 329 → 329 < i + k → WD D A s.heap [(a0, .inr (11, [.int 0, .ref a1, .int 0, .int 0, .int 0, .int 0, .int 0, .int 0, .int 0, .int 0, .int 0, .int 0, .long 0, .int 0, .ref a2, .ref a3, .ref a4, .ref a5, .ref a6, .ref a7, .ref a8, .ref a9, .ref a10, .ref a11, .int 0, .ref a12, .ref a13, .ref a14, .ref a15, .int 0, .int 0, .int 0, .ref a16, .int (-1), .int (-1), .ref a17, .ref a18, .int 0, .ref a19, .int 0, .int 0, .ref a20, .ref a21, .int 0, .int 0, .ref a22, .int 0, .int 0, .int 0, .int 0])), (a2, .inl (T 0, 329, .inl (rngc 53 i (0 : Int32) cn15)))] H locs → lv_has ls 2 [(1, .int (nI i)), (0, .ref a0)] → W p l e (Rm 0 0 0) s m args below meth c H locs 0 0 Q (F0 m 3 ls []) := by
    intro k
    induction k with
    | zero => intro i H locs ls h0 h1 h2; exact absurd h2 (by omega)
    | succ k ih =>
      intro i H locs ls hi0 hi1 hi2 w hl
      refine lv_iload_n hx hb dX12_startSo_3 rfl (lv_at hl 0 rfl) ?_
      refine lv_sipush (v := 329) hx hb dX12_startSo_4 (by decide) ?_
      refine lv_icmp_ge (tgt := 23) hx hb dX12_startSo_7 (by decide) (fun c_1 => ?_) (fun c_1 => ?_)
      · have hi2 : 329 ≤ i := ix_exit (n := 329) (by decide) (by omega) (by decide) c_1
        obtain rfl : i = 329 := by omega
        have w : WD D A s.heap [(a0, .inr (11, [.int 0, .ref a1, .int 0, .int 0, .int 0, .int 0, .int 0, .int 0, .int 0, .int 0, .int 0, .int 0, .long 0, .int 0, .ref a2, .ref a3, .ref a4, .ref a5, .ref a6, .ref a7, .ref a8, .ref a9, .ref a10, .ref a11, .int 0, .ref a12, .ref a13, .ref a14, .ref a15, .int 0, .int 0, .int 0, .ref a16, .int (-1), .int (-1), .ref a17, .ref a18, .int 0, .ref a19, .int 0, .int 0, .ref a20, .ref a21, .int 0, .int 0, .ref a22, .int 0, .int 0, .int 0, .int 0])), (a2, .inl (T 0, 329, .inl cn17))] H locs := w
        have hl : lv_has ls 2 [(1, .int 329), (0, .ref a0)] := hl
        refine lv_aload_n hx hb dX12_startSo_23 rfl (lv_at hl 1 rfl) ?_
        refine r_get (v := .ref a2) M w 0 14 clX12 rfl (by decide) G1481 rfl rfl dX12_startSo_24 ?_
        refine lv_bipush (v := 54) hx hb dX12_startSo_27 (by decide) ?_
        refine lv_aload_n hx hb dX12_startSo_29 rfl (lv_at hl 1 rfl) ?_
        refine r_get (v := .ref a2) M w 0 14 clX12 rfl (by decide) G1481 rfl rfl dX12_startSo_30 ?_
        refine lv_iconst (v := 2) hx hb dX12_startSo_33 (by decide) ?_
        refine r_iald (v := (0 : Int32)) M w 1 rfl (vin (by decide +kernel)) (by decide +kernel) dX12_startSo_34 ?_
        refine r_iast (ws' := [(a0, .inr (11, [.int 0, .ref a1, .int 0, .int 0, .int 0, .int 0, .int 0, .int 0, .int 0, .int 0, .int 0, .int 0, .long 0, .int 0, .ref a2, .ref a3, .ref a4, .ref a5, .ref a6, .ref a7, .ref a8, .ref a9, .ref a10, .ref a11, .int 0, .ref a12, .ref a13, .ref a14, .ref a15, .int 0, .int 0, .int 0, .ref a16, .int (-1), .int (-1), .ref a17, .ref a18, .int 0, .ref a19, .int 0, .int 0, .ref a20, .ref a21, .int 0, .int 0, .ref a22, .int 0, .int 0, .int 0, .int 0])), (a2, .inl (T 0, 329, .inl cn18))]) M w 1 rfl (vin (by decide +kernel)) rfl dX12_startSo_35 (fun H locs w => ?_)
        refine lv_iconst (v := 0) hx hb dX12_startSo_36 (by decide) ?_
        refine lv_istore_n (lv' := [(1, .int 0), (0, .ref a0)]) hx hb dX12_startSo_37 rfl hl (by decide) rfl (fun ls hl => ?_)
        refine lv_iload_n hx hb dX12_startSo_38 rfl (lv_at hl 0 rfl) ?_
        refine lv_bipush (v := 9) hx hb dX12_startSo_39 (by decide) ?_
        refine lv_icmp_ge (tgt := 96) hx hb dX12_startSo_41 (by decide) (fun c => absurd c (by decide +kernel)) (fun _ => ?_)
        refine lv_aload_n hx hb dX12_startSo_44 rfl (lv_at hl 1 rfl) ?_
        refine r_get (v := .ref a2) M w 0 14 clX12 rfl (by decide) G1481 rfl rfl dX12_startSo_45 ?_
        refine lv_bipush (v := 57) hx hb dX12_startSo_48 (by decide) ?_
        refine lv_iload_n hx hb dX12_startSo_50 rfl (lv_at hl 0 rfl) ?_
        refine r_iadd (v := (57 : Int32)) M (by decide +kernel) dX12_startSo_51 ?_
        refine lv_aload_n hx hb dX12_startSo_52 rfl (lv_at hl 1 rfl) ?_
        refine r_get (v := .ref a2) M w 0 14 clX12 rfl (by decide) G1481 rfl rfl dX12_startSo_53 ?_
        refine lv_bipush (v := 32) hx hb dX12_startSo_56 (by decide) ?_
        refine lv_iload_n hx hb dX12_startSo_58 rfl (lv_at hl 0 rfl) ?_
        refine r_iadd (v := (32 : Int32)) M (by decide +kernel) dX12_startSo_59 ?_
        refine r_iald (v := (-1 : Int32)) M w 1 rfl (vin (by decide +kernel)) (by decide +kernel) dX12_startSo_60 ?_
        refine r_iast (ws' := [(a0, .inr (11, [.int 0, .ref a1, .int 0, .int 0, .int 0, .int 0, .int 0, .int 0, .int 0, .int 0, .int 0, .int 0, .long 0, .int 0, .ref a2, .ref a3, .ref a4, .ref a5, .ref a6, .ref a7, .ref a8, .ref a9, .ref a10, .ref a11, .int 0, .ref a12, .ref a13, .ref a14, .ref a15, .int 0, .int 0, .int 0, .ref a16, .int (-1), .int (-1), .ref a17, .ref a18, .int 0, .ref a19, .int 0, .int 0, .ref a20, .ref a21, .int 0, .int 0, .ref a22, .int 0, .int 0, .int 0, .int 0])), (a2, .inl (T 0, 329, .inl cn19))]) M w 1 rfl (vin (by decide +kernel)) rfl dX12_startSo_61 (fun H locs w => ?_)
        refine lv_aload_n hx hb dX12_startSo_62 rfl (lv_at hl 1 rfl) ?_
        refine r_get (v := .ref a2) M w 0 14 clX12 rfl (by decide) G1481 rfl rfl dX12_startSo_63 ?_
        refine lv_bipush (v := 66) hx hb dX12_startSo_66 (by decide) ?_
        refine lv_iload_n hx hb dX12_startSo_68 rfl (lv_at hl 0 rfl) ?_
        refine r_iadd (v := (66 : Int32)) M (by decide +kernel) dX12_startSo_69 ?_
        refine lv_iconst (v := (-1)) hx hb dX12_startSo_70 (by decide) ?_
        refine r_iast (ws' := [(a0, .inr (11, [.int 0, .ref a1, .int 0, .int 0, .int 0, .int 0, .int 0, .int 0, .int 0, .int 0, .int 0, .int 0, .long 0, .int 0, .ref a2, .ref a3, .ref a4, .ref a5, .ref a6, .ref a7, .ref a8, .ref a9, .ref a10, .ref a11, .int 0, .ref a12, .ref a13, .ref a14, .ref a15, .int 0, .int 0, .int 0, .ref a16, .int (-1), .int (-1), .ref a17, .ref a18, .int 0, .ref a19, .int 0, .int 0, .ref a20, .ref a21, .int 0, .int 0, .ref a22, .int 0, .int 0, .int 0, .int 0])), (a2, .inl (T 0, 329, .inl cn20))]) M w 1 rfl (vin (by decide +kernel)) rfl dX12_startSo_71 (fun H locs w => ?_)
        refine lv_aload_n hx hb dX12_startSo_72 rfl (lv_at hl 1 rfl) ?_
        refine r_get (v := .ref a2) M w 0 14 clX12 rfl (by decide) G1481 rfl rfl dX12_startSo_73 ?_
        refine lv_bipush (v := 75) hx hb dX12_startSo_76 (by decide) ?_
        refine lv_iload_n hx hb dX12_startSo_78 rfl (lv_at hl 0 rfl) ?_
        refine r_iadd (v := (75 : Int32)) M (by decide +kernel) dX12_startSo_79 ?_
        refine lv_aload_n hx hb dX12_startSo_80 rfl (lv_at hl 1 rfl) ?_
        refine r_get (v := .ref a2) M w 0 14 clX12 rfl (by decide) G1481 rfl rfl dX12_startSo_81 ?_
        refine lv_bipush (v := 23) hx hb dX12_startSo_84 (by decide) ?_
        refine lv_iload_n hx hb dX12_startSo_86 rfl (lv_at hl 0 rfl) ?_
        refine r_iadd (v := (23 : Int32)) M (by decide +kernel) dX12_startSo_87 ?_
        refine r_iald (v := (0 : Int32)) M w 1 rfl (vin (by decide +kernel)) (by decide +kernel) dX12_startSo_88 ?_
        refine r_iast (ws' := [(a0, .inr (11, [.int 0, .ref a1, .int 0, .int 0, .int 0, .int 0, .int 0, .int 0, .int 0, .int 0, .int 0, .int 0, .long 0, .int 0, .ref a2, .ref a3, .ref a4, .ref a5, .ref a6, .ref a7, .ref a8, .ref a9, .ref a10, .ref a11, .int 0, .ref a12, .ref a13, .ref a14, .ref a15, .int 0, .int 0, .int 0, .ref a16, .int (-1), .int (-1), .ref a17, .ref a18, .int 0, .ref a19, .int 0, .int 0, .ref a20, .ref a21, .int 0, .int 0, .ref a22, .int 0, .int 0, .int 0, .int 0])), (a2, .inl (T 0, 329, .inl cn21))]) M w 1 rfl (vin (by decide +kernel)) rfl dX12_startSo_89 (fun H locs w => ?_)
        refine lv_iinc (v := (1 : Int32)) (lv' := [(1, .int 1), (0, .ref a0)]) hx hb dX12_startSo_90 hl (k := 0) rfl (by decide +kernel) (by decide) rfl (fun ls hl => ?_)
        refine lv_goto (tgt := 38) hx hb dX12_startSo_93 (by decide) ?_
        refine lv_iload_n hx hb dX12_startSo_38 rfl (lv_at hl 0 rfl) ?_
        refine lv_bipush (v := 9) hx hb dX12_startSo_39 (by decide) ?_
        refine lv_icmp_ge (tgt := 96) hx hb dX12_startSo_41 (by decide) (fun c => absurd c (by decide +kernel)) (fun _ => ?_)
        refine lv_aload_n hx hb dX12_startSo_44 rfl (lv_at hl 1 rfl) ?_
        refine r_get (v := .ref a2) M w 0 14 clX12 rfl (by decide) G1481 rfl rfl dX12_startSo_45 ?_
        refine lv_bipush (v := 57) hx hb dX12_startSo_48 (by decide) ?_
        refine lv_iload_n hx hb dX12_startSo_50 rfl (lv_at hl 0 rfl) ?_
        refine r_iadd (v := (58 : Int32)) M (by decide +kernel) dX12_startSo_51 ?_
        refine lv_aload_n hx hb dX12_startSo_52 rfl (lv_at hl 1 rfl) ?_
        refine r_get (v := .ref a2) M w 0 14 clX12 rfl (by decide) G1481 rfl rfl dX12_startSo_53 ?_
        refine lv_bipush (v := 32) hx hb dX12_startSo_56 (by decide) ?_
        refine lv_iload_n hx hb dX12_startSo_58 rfl (lv_at hl 0 rfl) ?_
        refine r_iadd (v := (33 : Int32)) M (by decide +kernel) dX12_startSo_59 ?_
        refine r_iald (v := (-1 : Int32)) M w 1 rfl (vin (by decide +kernel)) (by decide +kernel) dX12_startSo_60 ?_
        refine r_iast (ws' := [(a0, .inr (11, [.int 0, .ref a1, .int 0, .int 0, .int 0, .int 0, .int 0, .int 0, .int 0, .int 0, .int 0, .int 0, .long 0, .int 0, .ref a2, .ref a3, .ref a4, .ref a5, .ref a6, .ref a7, .ref a8, .ref a9, .ref a10, .ref a11, .int 0, .ref a12, .ref a13, .ref a14, .ref a15, .int 0, .int 0, .int 0, .ref a16, .int (-1), .int (-1), .ref a17, .ref a18, .int 0, .ref a19, .int 0, .int 0, .ref a20, .ref a21, .int 0, .int 0, .ref a22, .int 0, .int 0, .int 0, .int 0])), (a2, .inl (T 0, 329, .inl cn22))]) M w 1 rfl (vin (by decide +kernel)) rfl dX12_startSo_61 (fun H locs w => ?_)
        refine lv_aload_n hx hb dX12_startSo_62 rfl (lv_at hl 1 rfl) ?_
        refine r_get (v := .ref a2) M w 0 14 clX12 rfl (by decide) G1481 rfl rfl dX12_startSo_63 ?_
        refine lv_bipush (v := 66) hx hb dX12_startSo_66 (by decide) ?_
        refine lv_iload_n hx hb dX12_startSo_68 rfl (lv_at hl 0 rfl) ?_
        refine r_iadd (v := (67 : Int32)) M (by decide +kernel) dX12_startSo_69 ?_
        refine lv_iconst (v := (-1)) hx hb dX12_startSo_70 (by decide) ?_
        refine r_iast (ws' := [(a0, .inr (11, [.int 0, .ref a1, .int 0, .int 0, .int 0, .int 0, .int 0, .int 0, .int 0, .int 0, .int 0, .int 0, .long 0, .int 0, .ref a2, .ref a3, .ref a4, .ref a5, .ref a6, .ref a7, .ref a8, .ref a9, .ref a10, .ref a11, .int 0, .ref a12, .ref a13, .ref a14, .ref a15, .int 0, .int 0, .int 0, .ref a16, .int (-1), .int (-1), .ref a17, .ref a18, .int 0, .ref a19, .int 0, .int 0, .ref a20, .ref a21, .int 0, .int 0, .ref a22, .int 0, .int 0, .int 0, .int 0])), (a2, .inl (T 0, 329, .inl cn23))]) M w 1 rfl (vin (by decide +kernel)) rfl dX12_startSo_71 (fun H locs w => ?_)
        refine lv_aload_n hx hb dX12_startSo_72 rfl (lv_at hl 1 rfl) ?_
        refine r_get (v := .ref a2) M w 0 14 clX12 rfl (by decide) G1481 rfl rfl dX12_startSo_73 ?_
        refine lv_bipush (v := 75) hx hb dX12_startSo_76 (by decide) ?_
        refine lv_iload_n hx hb dX12_startSo_78 rfl (lv_at hl 0 rfl) ?_
        refine r_iadd (v := (76 : Int32)) M (by decide +kernel) dX12_startSo_79 ?_
        refine lv_aload_n hx hb dX12_startSo_80 rfl (lv_at hl 1 rfl) ?_
        refine r_get (v := .ref a2) M w 0 14 clX12 rfl (by decide) G1481 rfl rfl dX12_startSo_81 ?_
        refine lv_bipush (v := 23) hx hb dX12_startSo_84 (by decide) ?_
        refine lv_iload_n hx hb dX12_startSo_86 rfl (lv_at hl 0 rfl) ?_
        refine r_iadd (v := (24 : Int32)) M (by decide +kernel) dX12_startSo_87 ?_
        refine r_iald (v := (0 : Int32)) M w 1 rfl (vin (by decide +kernel)) (by decide +kernel) dX12_startSo_88 ?_
        refine r_iast (ws' := [(a0, .inr (11, [.int 0, .ref a1, .int 0, .int 0, .int 0, .int 0, .int 0, .int 0, .int 0, .int 0, .int 0, .int 0, .long 0, .int 0, .ref a2, .ref a3, .ref a4, .ref a5, .ref a6, .ref a7, .ref a8, .ref a9, .ref a10, .ref a11, .int 0, .ref a12, .ref a13, .ref a14, .ref a15, .int 0, .int 0, .int 0, .ref a16, .int (-1), .int (-1), .ref a17, .ref a18, .int 0, .ref a19, .int 0, .int 0, .ref a20, .ref a21, .int 0, .int 0, .ref a22, .int 0, .int 0, .int 0, .int 0])), (a2, .inl (T 0, 329, .inl cn24))]) M w 1 rfl (vin (by decide +kernel)) rfl dX12_startSo_89 (fun H locs w => ?_)
        refine lv_iinc (v := (2 : Int32)) (lv' := [(1, .int 2), (0, .ref a0)]) hx hb dX12_startSo_90 hl (k := 0) rfl (by decide +kernel) (by decide) rfl (fun ls hl => ?_)
        refine lv_goto (tgt := 38) hx hb dX12_startSo_93 (by decide) ?_
        refine lv_iload_n hx hb dX12_startSo_38 rfl (lv_at hl 0 rfl) ?_
        refine lv_bipush (v := 9) hx hb dX12_startSo_39 (by decide) ?_
        refine lv_icmp_ge (tgt := 96) hx hb dX12_startSo_41 (by decide) (fun c => absurd c (by decide +kernel)) (fun _ => ?_)
        refine lv_aload_n hx hb dX12_startSo_44 rfl (lv_at hl 1 rfl) ?_
        refine r_get (v := .ref a2) M w 0 14 clX12 rfl (by decide) G1481 rfl rfl dX12_startSo_45 ?_
        refine lv_bipush (v := 57) hx hb dX12_startSo_48 (by decide) ?_
        refine lv_iload_n hx hb dX12_startSo_50 rfl (lv_at hl 0 rfl) ?_
        refine r_iadd (v := (59 : Int32)) M (by decide +kernel) dX12_startSo_51 ?_
        refine lv_aload_n hx hb dX12_startSo_52 rfl (lv_at hl 1 rfl) ?_
        refine r_get (v := .ref a2) M w 0 14 clX12 rfl (by decide) G1481 rfl rfl dX12_startSo_53 ?_
        refine lv_bipush (v := 32) hx hb dX12_startSo_56 (by decide) ?_
        refine lv_iload_n hx hb dX12_startSo_58 rfl (lv_at hl 0 rfl) ?_
        refine r_iadd (v := (34 : Int32)) M (by decide +kernel) dX12_startSo_59 ?_
        refine r_iald (v := (-1 : Int32)) M w 1 rfl (vin (by decide +kernel)) (by decide +kernel) dX12_startSo_60 ?_
        refine r_iast (ws' := [(a0, .inr (11, [.int 0, .ref a1, .int 0, .int 0, .int 0, .int 0, .int 0, .int 0, .int 0, .int 0, .int 0, .int 0, .long 0, .int 0, .ref a2, .ref a3, .ref a4, .ref a5, .ref a6, .ref a7, .ref a8, .ref a9, .ref a10, .ref a11, .int 0, .ref a12, .ref a13, .ref a14, .ref a15, .int 0, .int 0, .int 0, .ref a16, .int (-1), .int (-1), .ref a17, .ref a18, .int 0, .ref a19, .int 0, .int 0, .ref a20, .ref a21, .int 0, .int 0, .ref a22, .int 0, .int 0, .int 0, .int 0])), (a2, .inl (T 0, 329, .inl cn25))]) M w 1 rfl (vin (by decide +kernel)) rfl dX12_startSo_61 (fun H locs w => ?_)
        refine lv_aload_n hx hb dX12_startSo_62 rfl (lv_at hl 1 rfl) ?_
        refine r_get (v := .ref a2) M w 0 14 clX12 rfl (by decide) G1481 rfl rfl dX12_startSo_63 ?_
        refine lv_bipush (v := 66) hx hb dX12_startSo_66 (by decide) ?_
        refine lv_iload_n hx hb dX12_startSo_68 rfl (lv_at hl 0 rfl) ?_
        refine r_iadd (v := (68 : Int32)) M (by decide +kernel) dX12_startSo_69 ?_
        refine lv_iconst (v := (-1)) hx hb dX12_startSo_70 (by decide) ?_
        refine r_iast (ws' := [(a0, .inr (11, [.int 0, .ref a1, .int 0, .int 0, .int 0, .int 0, .int 0, .int 0, .int 0, .int 0, .int 0, .int 0, .long 0, .int 0, .ref a2, .ref a3, .ref a4, .ref a5, .ref a6, .ref a7, .ref a8, .ref a9, .ref a10, .ref a11, .int 0, .ref a12, .ref a13, .ref a14, .ref a15, .int 0, .int 0, .int 0, .ref a16, .int (-1), .int (-1), .ref a17, .ref a18, .int 0, .ref a19, .int 0, .int 0, .ref a20, .ref a21, .int 0, .int 0, .ref a22, .int 0, .int 0, .int 0, .int 0])), (a2, .inl (T 0, 329, .inl cn26))]) M w 1 rfl (vin (by decide +kernel)) rfl dX12_startSo_71 (fun H locs w => ?_)
        refine lv_aload_n hx hb dX12_startSo_72 rfl (lv_at hl 1 rfl) ?_
        refine r_get (v := .ref a2) M w 0 14 clX12 rfl (by decide) G1481 rfl rfl dX12_startSo_73 ?_
        refine lv_bipush (v := 75) hx hb dX12_startSo_76 (by decide) ?_
        refine lv_iload_n hx hb dX12_startSo_78 rfl (lv_at hl 0 rfl) ?_
        refine r_iadd (v := (77 : Int32)) M (by decide +kernel) dX12_startSo_79 ?_
        refine lv_aload_n hx hb dX12_startSo_80 rfl (lv_at hl 1 rfl) ?_
        refine r_get (v := .ref a2) M w 0 14 clX12 rfl (by decide) G1481 rfl rfl dX12_startSo_81 ?_
        refine lv_bipush (v := 23) hx hb dX12_startSo_84 (by decide) ?_
        refine lv_iload_n hx hb dX12_startSo_86 rfl (lv_at hl 0 rfl) ?_
        refine r_iadd (v := (25 : Int32)) M (by decide +kernel) dX12_startSo_87 ?_
        refine r_iald (v := (0 : Int32)) M w 1 rfl (vin (by decide +kernel)) (by decide +kernel) dX12_startSo_88 ?_
        refine r_iast (ws' := [(a0, .inr (11, [.int 0, .ref a1, .int 0, .int 0, .int 0, .int 0, .int 0, .int 0, .int 0, .int 0, .int 0, .int 0, .long 0, .int 0, .ref a2, .ref a3, .ref a4, .ref a5, .ref a6, .ref a7, .ref a8, .ref a9, .ref a10, .ref a11, .int 0, .ref a12, .ref a13, .ref a14, .ref a15, .int 0, .int 0, .int 0, .ref a16, .int (-1), .int (-1), .ref a17, .ref a18, .int 0, .ref a19, .int 0, .int 0, .ref a20, .ref a21, .int 0, .int 0, .ref a22, .int 0, .int 0, .int 0, .int 0])), (a2, .inl (T 0, 329, .inl cn27))]) M w 1 rfl (vin (by decide +kernel)) rfl dX12_startSo_89 (fun H locs w => ?_)
        refine lv_iinc (v := (3 : Int32)) (lv' := [(1, .int 3), (0, .ref a0)]) hx hb dX12_startSo_90 hl (k := 0) rfl (by decide +kernel) (by decide) rfl (fun ls hl => ?_)
        refine lv_goto (tgt := 38) hx hb dX12_startSo_93 (by decide) ?_
        refine lv_iload_n hx hb dX12_startSo_38 rfl (lv_at hl 0 rfl) ?_
        refine lv_bipush (v := 9) hx hb dX12_startSo_39 (by decide) ?_
        refine lv_icmp_ge (tgt := 96) hx hb dX12_startSo_41 (by decide) (fun c => absurd c (by decide +kernel)) (fun _ => ?_)
        refine lv_aload_n hx hb dX12_startSo_44 rfl (lv_at hl 1 rfl) ?_
        refine r_get (v := .ref a2) M w 0 14 clX12 rfl (by decide) G1481 rfl rfl dX12_startSo_45 ?_
        refine lv_bipush (v := 57) hx hb dX12_startSo_48 (by decide) ?_
        refine lv_iload_n hx hb dX12_startSo_50 rfl (lv_at hl 0 rfl) ?_
        refine r_iadd (v := (60 : Int32)) M (by decide +kernel) dX12_startSo_51 ?_
        refine lv_aload_n hx hb dX12_startSo_52 rfl (lv_at hl 1 rfl) ?_
        refine r_get (v := .ref a2) M w 0 14 clX12 rfl (by decide) G1481 rfl rfl dX12_startSo_53 ?_
        refine lv_bipush (v := 32) hx hb dX12_startSo_56 (by decide) ?_
        refine lv_iload_n hx hb dX12_startSo_58 rfl (lv_at hl 0 rfl) ?_
        refine r_iadd (v := (35 : Int32)) M (by decide +kernel) dX12_startSo_59 ?_
        refine r_iald (v := (-1 : Int32)) M w 1 rfl (vin (by decide +kernel)) (by decide +kernel) dX12_startSo_60 ?_
        refine r_iast (ws' := [(a0, .inr (11, [.int 0, .ref a1, .int 0, .int 0, .int 0, .int 0, .int 0, .int 0, .int 0, .int 0, .int 0, .int 0, .long 0, .int 0, .ref a2, .ref a3, .ref a4, .ref a5, .ref a6, .ref a7, .ref a8, .ref a9, .ref a10, .ref a11, .int 0, .ref a12, .ref a13, .ref a14, .ref a15, .int 0, .int 0, .int 0, .ref a16, .int (-1), .int (-1), .ref a17, .ref a18, .int 0, .ref a19, .int 0, .int 0, .ref a20, .ref a21, .int 0, .int 0, .ref a22, .int 0, .int 0, .int 0, .int 0])), (a2, .inl (T 0, 329, .inl cn28))]) M w 1 rfl (vin (by decide +kernel)) rfl dX12_startSo_61 (fun H locs w => ?_)
        refine lv_aload_n hx hb dX12_startSo_62 rfl (lv_at hl 1 rfl) ?_
        refine r_get (v := .ref a2) M w 0 14 clX12 rfl (by decide) G1481 rfl rfl dX12_startSo_63 ?_
        refine lv_bipush (v := 66) hx hb dX12_startSo_66 (by decide) ?_
        refine lv_iload_n hx hb dX12_startSo_68 rfl (lv_at hl 0 rfl) ?_
        refine r_iadd (v := (69 : Int32)) M (by decide +kernel) dX12_startSo_69 ?_
        refine lv_iconst (v := (-1)) hx hb dX12_startSo_70 (by decide) ?_
        refine r_iast (ws' := [(a0, .inr (11, [.int 0, .ref a1, .int 0, .int 0, .int 0, .int 0, .int 0, .int 0, .int 0, .int 0, .int 0, .int 0, .long 0, .int 0, .ref a2, .ref a3, .ref a4, .ref a5, .ref a6, .ref a7, .ref a8, .ref a9, .ref a10, .ref a11, .int 0, .ref a12, .ref a13, .ref a14, .ref a15, .int 0, .int 0, .int 0, .ref a16, .int (-1), .int (-1), .ref a17, .ref a18, .int 0, .ref a19, .int 0, .int 0, .ref a20, .ref a21, .int 0, .int 0, .ref a22, .int 0, .int 0, .int 0, .int 0])), (a2, .inl (T 0, 329, .inl cn29))]) M w 1 rfl (vin (by decide +kernel)) rfl dX12_startSo_71 (fun H locs w => ?_)
        refine lv_aload_n hx hb dX12_startSo_72 rfl (lv_at hl 1 rfl) ?_
        refine r_get (v := .ref a2) M w 0 14 clX12 rfl (by decide) G1481 rfl rfl dX12_startSo_73 ?_
        refine lv_bipush (v := 75) hx hb dX12_startSo_76 (by decide) ?_
        refine lv_iload_n hx hb dX12_startSo_78 rfl (lv_at hl 0 rfl) ?_
        refine r_iadd (v := (78 : Int32)) M (by decide +kernel) dX12_startSo_79 ?_
        refine lv_aload_n hx hb dX12_startSo_80 rfl (lv_at hl 1 rfl) ?_
        refine r_get (v := .ref a2) M w 0 14 clX12 rfl (by decide) G1481 rfl rfl dX12_startSo_81 ?_
        refine lv_bipush (v := 23) hx hb dX12_startSo_84 (by decide) ?_
        refine lv_iload_n hx hb dX12_startSo_86 rfl (lv_at hl 0 rfl) ?_
        refine r_iadd (v := (26 : Int32)) M (by decide +kernel) dX12_startSo_87 ?_
        refine r_iald (v := (0 : Int32)) M w 1 rfl (vin (by decide +kernel)) (by decide +kernel) dX12_startSo_88 ?_
        refine r_iast (ws' := [(a0, .inr (11, [.int 0, .ref a1, .int 0, .int 0, .int 0, .int 0, .int 0, .int 0, .int 0, .int 0, .int 0, .int 0, .long 0, .int 0, .ref a2, .ref a3, .ref a4, .ref a5, .ref a6, .ref a7, .ref a8, .ref a9, .ref a10, .ref a11, .int 0, .ref a12, .ref a13, .ref a14, .ref a15, .int 0, .int 0, .int 0, .ref a16, .int (-1), .int (-1), .ref a17, .ref a18, .int 0, .ref a19, .int 0, .int 0, .ref a20, .ref a21, .int 0, .int 0, .ref a22, .int 0, .int 0, .int 0, .int 0])), (a2, .inl (T 0, 329, .inl cn30))]) M w 1 rfl (vin (by decide +kernel)) rfl dX12_startSo_89 (fun H locs w => ?_)
        refine lv_iinc (v := (4 : Int32)) (lv' := [(1, .int 4), (0, .ref a0)]) hx hb dX12_startSo_90 hl (k := 0) rfl (by decide +kernel) (by decide) rfl (fun ls hl => ?_)
        refine lv_goto (tgt := 38) hx hb dX12_startSo_93 (by decide) ?_
        refine lv_iload_n hx hb dX12_startSo_38 rfl (lv_at hl 0 rfl) ?_
        refine lv_bipush (v := 9) hx hb dX12_startSo_39 (by decide) ?_
        refine lv_icmp_ge (tgt := 96) hx hb dX12_startSo_41 (by decide) (fun c => absurd c (by decide +kernel)) (fun _ => ?_)
        refine lv_aload_n hx hb dX12_startSo_44 rfl (lv_at hl 1 rfl) ?_
        refine r_get (v := .ref a2) M w 0 14 clX12 rfl (by decide) G1481 rfl rfl dX12_startSo_45 ?_
        refine lv_bipush (v := 57) hx hb dX12_startSo_48 (by decide) ?_
        refine lv_iload_n hx hb dX12_startSo_50 rfl (lv_at hl 0 rfl) ?_
        refine r_iadd (v := (61 : Int32)) M (by decide +kernel) dX12_startSo_51 ?_
        refine lv_aload_n hx hb dX12_startSo_52 rfl (lv_at hl 1 rfl) ?_
        refine r_get (v := .ref a2) M w 0 14 clX12 rfl (by decide) G1481 rfl rfl dX12_startSo_53 ?_
        refine lv_bipush (v := 32) hx hb dX12_startSo_56 (by decide) ?_
        refine lv_iload_n hx hb dX12_startSo_58 rfl (lv_at hl 0 rfl) ?_
        refine r_iadd (v := (36 : Int32)) M (by decide +kernel) dX12_startSo_59 ?_
        refine r_iald (v := (-1 : Int32)) M w 1 rfl (vin (by decide +kernel)) (by decide +kernel) dX12_startSo_60 ?_
        refine r_iast (ws' := [(a0, .inr (11, [.int 0, .ref a1, .int 0, .int 0, .int 0, .int 0, .int 0, .int 0, .int 0, .int 0, .int 0, .int 0, .long 0, .int 0, .ref a2, .ref a3, .ref a4, .ref a5, .ref a6, .ref a7, .ref a8, .ref a9, .ref a10, .ref a11, .int 0, .ref a12, .ref a13, .ref a14, .ref a15, .int 0, .int 0, .int 0, .ref a16, .int (-1), .int (-1), .ref a17, .ref a18, .int 0, .ref a19, .int 0, .int 0, .ref a20, .ref a21, .int 0, .int 0, .ref a22, .int 0, .int 0, .int 0, .int 0])), (a2, .inl (T 0, 329, .inl cn31))]) M w 1 rfl (vin (by decide +kernel)) rfl dX12_startSo_61 (fun H locs w => ?_)
        refine lv_aload_n hx hb dX12_startSo_62 rfl (lv_at hl 1 rfl) ?_
        refine r_get (v := .ref a2) M w 0 14 clX12 rfl (by decide) G1481 rfl rfl dX12_startSo_63 ?_
        refine lv_bipush (v := 66) hx hb dX12_startSo_66 (by decide) ?_
        refine lv_iload_n hx hb dX12_startSo_68 rfl (lv_at hl 0 rfl) ?_
        refine r_iadd (v := (70 : Int32)) M (by decide +kernel) dX12_startSo_69 ?_
        refine lv_iconst (v := (-1)) hx hb dX12_startSo_70 (by decide) ?_
        refine r_iast (ws' := [(a0, .inr (11, [.int 0, .ref a1, .int 0, .int 0, .int 0, .int 0, .int 0, .int 0, .int 0, .int 0, .int 0, .int 0, .long 0, .int 0, .ref a2, .ref a3, .ref a4, .ref a5, .ref a6, .ref a7, .ref a8, .ref a9, .ref a10, .ref a11, .int 0, .ref a12, .ref a13, .ref a14, .ref a15, .int 0, .int 0, .int 0, .ref a16, .int (-1), .int (-1), .ref a17, .ref a18, .int 0, .ref a19, .int 0, .int 0, .ref a20, .ref a21, .int 0, .int 0, .ref a22, .int 0, .int 0, .int 0, .int 0])), (a2, .inl (T 0, 329, .inl cn32))]) M w 1 rfl (vin (by decide +kernel)) rfl dX12_startSo_71 (fun H locs w => ?_)
        refine lv_aload_n hx hb dX12_startSo_72 rfl (lv_at hl 1 rfl) ?_
        refine r_get (v := .ref a2) M w 0 14 clX12 rfl (by decide) G1481 rfl rfl dX12_startSo_73 ?_
        refine lv_bipush (v := 75) hx hb dX12_startSo_76 (by decide) ?_
        refine lv_iload_n hx hb dX12_startSo_78 rfl (lv_at hl 0 rfl) ?_
        refine r_iadd (v := (79 : Int32)) M (by decide +kernel) dX12_startSo_79 ?_
        refine lv_aload_n hx hb dX12_startSo_80 rfl (lv_at hl 1 rfl) ?_
        refine r_get (v := .ref a2) M w 0 14 clX12 rfl (by decide) G1481 rfl rfl dX12_startSo_81 ?_
        refine lv_bipush (v := 23) hx hb dX12_startSo_84 (by decide) ?_
        refine lv_iload_n hx hb dX12_startSo_86 rfl (lv_at hl 0 rfl) ?_
        refine r_iadd (v := (27 : Int32)) M (by decide +kernel) dX12_startSo_87 ?_
        refine r_iald (v := (0 : Int32)) M w 1 rfl (vin (by decide +kernel)) (by decide +kernel) dX12_startSo_88 ?_
        refine r_iast (ws' := [(a0, .inr (11, [.int 0, .ref a1, .int 0, .int 0, .int 0, .int 0, .int 0, .int 0, .int 0, .int 0, .int 0, .int 0, .long 0, .int 0, .ref a2, .ref a3, .ref a4, .ref a5, .ref a6, .ref a7, .ref a8, .ref a9, .ref a10, .ref a11, .int 0, .ref a12, .ref a13, .ref a14, .ref a15, .int 0, .int 0, .int 0, .ref a16, .int (-1), .int (-1), .ref a17, .ref a18, .int 0, .ref a19, .int 0, .int 0, .ref a20, .ref a21, .int 0, .int 0, .ref a22, .int 0, .int 0, .int 0, .int 0])), (a2, .inl (T 0, 329, .inl cn33))]) M w 1 rfl (vin (by decide +kernel)) rfl dX12_startSo_89 (fun H locs w => ?_)
        refine lv_iinc (v := (5 : Int32)) (lv' := [(1, .int 5), (0, .ref a0)]) hx hb dX12_startSo_90 hl (k := 0) rfl (by decide +kernel) (by decide) rfl (fun ls hl => ?_)
        refine lv_goto (tgt := 38) hx hb dX12_startSo_93 (by decide) ?_
        refine lv_iload_n hx hb dX12_startSo_38 rfl (lv_at hl 0 rfl) ?_
        refine lv_bipush (v := 9) hx hb dX12_startSo_39 (by decide) ?_
        refine lv_icmp_ge (tgt := 96) hx hb dX12_startSo_41 (by decide) (fun c => absurd c (by decide +kernel)) (fun _ => ?_)
        refine lv_aload_n hx hb dX12_startSo_44 rfl (lv_at hl 1 rfl) ?_
        refine r_get (v := .ref a2) M w 0 14 clX12 rfl (by decide) G1481 rfl rfl dX12_startSo_45 ?_
        refine lv_bipush (v := 57) hx hb dX12_startSo_48 (by decide) ?_
        refine lv_iload_n hx hb dX12_startSo_50 rfl (lv_at hl 0 rfl) ?_
        refine r_iadd (v := (62 : Int32)) M (by decide +kernel) dX12_startSo_51 ?_
        refine lv_aload_n hx hb dX12_startSo_52 rfl (lv_at hl 1 rfl) ?_
        refine r_get (v := .ref a2) M w 0 14 clX12 rfl (by decide) G1481 rfl rfl dX12_startSo_53 ?_
        refine lv_bipush (v := 32) hx hb dX12_startSo_56 (by decide) ?_
        refine lv_iload_n hx hb dX12_startSo_58 rfl (lv_at hl 0 rfl) ?_
        refine r_iadd (v := (37 : Int32)) M (by decide +kernel) dX12_startSo_59 ?_
        refine r_iald (v := (-1 : Int32)) M w 1 rfl (vin (by decide +kernel)) (by decide +kernel) dX12_startSo_60 ?_
        refine r_iast (ws' := [(a0, .inr (11, [.int 0, .ref a1, .int 0, .int 0, .int 0, .int 0, .int 0, .int 0, .int 0, .int 0, .int 0, .int 0, .long 0, .int 0, .ref a2, .ref a3, .ref a4, .ref a5, .ref a6, .ref a7, .ref a8, .ref a9, .ref a10, .ref a11, .int 0, .ref a12, .ref a13, .ref a14, .ref a15, .int 0, .int 0, .int 0, .ref a16, .int (-1), .int (-1), .ref a17, .ref a18, .int 0, .ref a19, .int 0, .int 0, .ref a20, .ref a21, .int 0, .int 0, .ref a22, .int 0, .int 0, .int 0, .int 0])), (a2, .inl (T 0, 329, .inl cn34))]) M w 1 rfl (vin (by decide +kernel)) rfl dX12_startSo_61 (fun H locs w => ?_)
        refine lv_aload_n hx hb dX12_startSo_62 rfl (lv_at hl 1 rfl) ?_
        refine r_get (v := .ref a2) M w 0 14 clX12 rfl (by decide) G1481 rfl rfl dX12_startSo_63 ?_
        refine lv_bipush (v := 66) hx hb dX12_startSo_66 (by decide) ?_
        refine lv_iload_n hx hb dX12_startSo_68 rfl (lv_at hl 0 rfl) ?_
        refine r_iadd (v := (71 : Int32)) M (by decide +kernel) dX12_startSo_69 ?_
        refine lv_iconst (v := (-1)) hx hb dX12_startSo_70 (by decide) ?_
        refine r_iast (ws' := [(a0, .inr (11, [.int 0, .ref a1, .int 0, .int 0, .int 0, .int 0, .int 0, .int 0, .int 0, .int 0, .int 0, .int 0, .long 0, .int 0, .ref a2, .ref a3, .ref a4, .ref a5, .ref a6, .ref a7, .ref a8, .ref a9, .ref a10, .ref a11, .int 0, .ref a12, .ref a13, .ref a14, .ref a15, .int 0, .int 0, .int 0, .ref a16, .int (-1), .int (-1), .ref a17, .ref a18, .int 0, .ref a19, .int 0, .int 0, .ref a20, .ref a21, .int 0, .int 0, .ref a22, .int 0, .int 0, .int 0, .int 0])), (a2, .inl (T 0, 329, .inl cn35))]) M w 1 rfl (vin (by decide +kernel)) rfl dX12_startSo_71 (fun H locs w => ?_)
        refine lv_aload_n hx hb dX12_startSo_72 rfl (lv_at hl 1 rfl) ?_
        refine r_get (v := .ref a2) M w 0 14 clX12 rfl (by decide) G1481 rfl rfl dX12_startSo_73 ?_
        refine lv_bipush (v := 75) hx hb dX12_startSo_76 (by decide) ?_
        refine lv_iload_n hx hb dX12_startSo_78 rfl (lv_at hl 0 rfl) ?_
        refine r_iadd (v := (80 : Int32)) M (by decide +kernel) dX12_startSo_79 ?_
        refine lv_aload_n hx hb dX12_startSo_80 rfl (lv_at hl 1 rfl) ?_
        refine r_get (v := .ref a2) M w 0 14 clX12 rfl (by decide) G1481 rfl rfl dX12_startSo_81 ?_
        refine lv_bipush (v := 23) hx hb dX12_startSo_84 (by decide) ?_
        refine lv_iload_n hx hb dX12_startSo_86 rfl (lv_at hl 0 rfl) ?_
        refine r_iadd (v := (28 : Int32)) M (by decide +kernel) dX12_startSo_87 ?_
        refine r_iald (v := (0 : Int32)) M w 1 rfl (vin (by decide +kernel)) (by decide +kernel) dX12_startSo_88 ?_
        refine r_iast (ws' := [(a0, .inr (11, [.int 0, .ref a1, .int 0, .int 0, .int 0, .int 0, .int 0, .int 0, .int 0, .int 0, .int 0, .int 0, .long 0, .int 0, .ref a2, .ref a3, .ref a4, .ref a5, .ref a6, .ref a7, .ref a8, .ref a9, .ref a10, .ref a11, .int 0, .ref a12, .ref a13, .ref a14, .ref a15, .int 0, .int 0, .int 0, .ref a16, .int (-1), .int (-1), .ref a17, .ref a18, .int 0, .ref a19, .int 0, .int 0, .ref a20, .ref a21, .int 0, .int 0, .ref a22, .int 0, .int 0, .int 0, .int 0])), (a2, .inl (T 0, 329, .inl cn36))]) M w 1 rfl (vin (by decide +kernel)) rfl dX12_startSo_89 (fun H locs w => ?_)
        refine lv_iinc (v := (6 : Int32)) (lv' := [(1, .int 6), (0, .ref a0)]) hx hb dX12_startSo_90 hl (k := 0) rfl (by decide +kernel) (by decide) rfl (fun ls hl => ?_)
        refine lv_goto (tgt := 38) hx hb dX12_startSo_93 (by decide) ?_
        refine lv_iload_n hx hb dX12_startSo_38 rfl (lv_at hl 0 rfl) ?_
        refine lv_bipush (v := 9) hx hb dX12_startSo_39 (by decide) ?_
        refine lv_icmp_ge (tgt := 96) hx hb dX12_startSo_41 (by decide) (fun c => absurd c (by decide +kernel)) (fun _ => ?_)
        refine lv_aload_n hx hb dX12_startSo_44 rfl (lv_at hl 1 rfl) ?_
        refine r_get (v := .ref a2) M w 0 14 clX12 rfl (by decide) G1481 rfl rfl dX12_startSo_45 ?_
        refine lv_bipush (v := 57) hx hb dX12_startSo_48 (by decide) ?_
        refine lv_iload_n hx hb dX12_startSo_50 rfl (lv_at hl 0 rfl) ?_
        refine r_iadd (v := (63 : Int32)) M (by decide +kernel) dX12_startSo_51 ?_
        refine lv_aload_n hx hb dX12_startSo_52 rfl (lv_at hl 1 rfl) ?_
        refine r_get (v := .ref a2) M w 0 14 clX12 rfl (by decide) G1481 rfl rfl dX12_startSo_53 ?_
        refine lv_bipush (v := 32) hx hb dX12_startSo_56 (by decide) ?_
        refine lv_iload_n hx hb dX12_startSo_58 rfl (lv_at hl 0 rfl) ?_
        refine r_iadd (v := (38 : Int32)) M (by decide +kernel) dX12_startSo_59 ?_
        refine r_iald (v := (-1 : Int32)) M w 1 rfl (vin (by decide +kernel)) (by decide +kernel) dX12_startSo_60 ?_
        refine r_iast (ws' := [(a0, .inr (11, [.int 0, .ref a1, .int 0, .int 0, .int 0, .int 0, .int 0, .int 0, .int 0, .int 0, .int 0, .int 0, .long 0, .int 0, .ref a2, .ref a3, .ref a4, .ref a5, .ref a6, .ref a7, .ref a8, .ref a9, .ref a10, .ref a11, .int 0, .ref a12, .ref a13, .ref a14, .ref a15, .int 0, .int 0, .int 0, .ref a16, .int (-1), .int (-1), .ref a17, .ref a18, .int 0, .ref a19, .int 0, .int 0, .ref a20, .ref a21, .int 0, .int 0, .ref a22, .int 0, .int 0, .int 0, .int 0])), (a2, .inl (T 0, 329, .inl cn37))]) M w 1 rfl (vin (by decide +kernel)) rfl dX12_startSo_61 (fun H locs w => ?_)
        refine lv_aload_n hx hb dX12_startSo_62 rfl (lv_at hl 1 rfl) ?_
        refine r_get (v := .ref a2) M w 0 14 clX12 rfl (by decide) G1481 rfl rfl dX12_startSo_63 ?_
        refine lv_bipush (v := 66) hx hb dX12_startSo_66 (by decide) ?_
        refine lv_iload_n hx hb dX12_startSo_68 rfl (lv_at hl 0 rfl) ?_
        refine r_iadd (v := (72 : Int32)) M (by decide +kernel) dX12_startSo_69 ?_
        refine lv_iconst (v := (-1)) hx hb dX12_startSo_70 (by decide) ?_
        refine r_iast (ws' := [(a0, .inr (11, [.int 0, .ref a1, .int 0, .int 0, .int 0, .int 0, .int 0, .int 0, .int 0, .int 0, .int 0, .int 0, .long 0, .int 0, .ref a2, .ref a3, .ref a4, .ref a5, .ref a6, .ref a7, .ref a8, .ref a9, .ref a10, .ref a11, .int 0, .ref a12, .ref a13, .ref a14, .ref a15, .int 0, .int 0, .int 0, .ref a16, .int (-1), .int (-1), .ref a17, .ref a18, .int 0, .ref a19, .int 0, .int 0, .ref a20, .ref a21, .int 0, .int 0, .ref a22, .int 0, .int 0, .int 0, .int 0])), (a2, .inl (T 0, 329, .inl cn38))]) M w 1 rfl (vin (by decide +kernel)) rfl dX12_startSo_71 (fun H locs w => ?_)
        refine lv_aload_n hx hb dX12_startSo_72 rfl (lv_at hl 1 rfl) ?_
        refine r_get (v := .ref a2) M w 0 14 clX12 rfl (by decide) G1481 rfl rfl dX12_startSo_73 ?_
        refine lv_bipush (v := 75) hx hb dX12_startSo_76 (by decide) ?_
        refine lv_iload_n hx hb dX12_startSo_78 rfl (lv_at hl 0 rfl) ?_
        refine r_iadd (v := (81 : Int32)) M (by decide +kernel) dX12_startSo_79 ?_
        refine lv_aload_n hx hb dX12_startSo_80 rfl (lv_at hl 1 rfl) ?_
        refine r_get (v := .ref a2) M w 0 14 clX12 rfl (by decide) G1481 rfl rfl dX12_startSo_81 ?_
        refine lv_bipush (v := 23) hx hb dX12_startSo_84 (by decide) ?_
        refine lv_iload_n hx hb dX12_startSo_86 rfl (lv_at hl 0 rfl) ?_
        refine r_iadd (v := (29 : Int32)) M (by decide +kernel) dX12_startSo_87 ?_
        refine r_iald (v := (0 : Int32)) M w 1 rfl (vin (by decide +kernel)) (by decide +kernel) dX12_startSo_88 ?_
        refine r_iast (ws' := [(a0, .inr (11, [.int 0, .ref a1, .int 0, .int 0, .int 0, .int 0, .int 0, .int 0, .int 0, .int 0, .int 0, .int 0, .long 0, .int 0, .ref a2, .ref a3, .ref a4, .ref a5, .ref a6, .ref a7, .ref a8, .ref a9, .ref a10, .ref a11, .int 0, .ref a12, .ref a13, .ref a14, .ref a15, .int 0, .int 0, .int 0, .ref a16, .int (-1), .int (-1), .ref a17, .ref a18, .int 0, .ref a19, .int 0, .int 0, .ref a20, .ref a21, .int 0, .int 0, .ref a22, .int 0, .int 0, .int 0, .int 0])), (a2, .inl (T 0, 329, .inl cn39))]) M w 1 rfl (vin (by decide +kernel)) rfl dX12_startSo_89 (fun H locs w => ?_)
        refine lv_iinc (v := (7 : Int32)) (lv' := [(1, .int 7), (0, .ref a0)]) hx hb dX12_startSo_90 hl (k := 0) rfl (by decide +kernel) (by decide) rfl (fun ls hl => ?_)
        refine lv_goto (tgt := 38) hx hb dX12_startSo_93 (by decide) ?_
        refine lv_iload_n hx hb dX12_startSo_38 rfl (lv_at hl 0 rfl) ?_
        refine lv_bipush (v := 9) hx hb dX12_startSo_39 (by decide) ?_
        refine lv_icmp_ge (tgt := 96) hx hb dX12_startSo_41 (by decide) (fun c => absurd c (by decide +kernel)) (fun _ => ?_)
        refine lv_aload_n hx hb dX12_startSo_44 rfl (lv_at hl 1 rfl) ?_
        refine r_get (v := .ref a2) M w 0 14 clX12 rfl (by decide) G1481 rfl rfl dX12_startSo_45 ?_
        refine lv_bipush (v := 57) hx hb dX12_startSo_48 (by decide) ?_
        refine lv_iload_n hx hb dX12_startSo_50 rfl (lv_at hl 0 rfl) ?_
        refine r_iadd (v := (64 : Int32)) M (by decide +kernel) dX12_startSo_51 ?_
        refine lv_aload_n hx hb dX12_startSo_52 rfl (lv_at hl 1 rfl) ?_
        refine r_get (v := .ref a2) M w 0 14 clX12 rfl (by decide) G1481 rfl rfl dX12_startSo_53 ?_
        refine lv_bipush (v := 32) hx hb dX12_startSo_56 (by decide) ?_
        refine lv_iload_n hx hb dX12_startSo_58 rfl (lv_at hl 0 rfl) ?_
        refine r_iadd (v := (39 : Int32)) M (by decide +kernel) dX12_startSo_59 ?_
        refine r_iald (v := (-1 : Int32)) M w 1 rfl (vin (by decide +kernel)) (by decide +kernel) dX12_startSo_60 ?_
        refine r_iast (ws' := [(a0, .inr (11, [.int 0, .ref a1, .int 0, .int 0, .int 0, .int 0, .int 0, .int 0, .int 0, .int 0, .int 0, .int 0, .long 0, .int 0, .ref a2, .ref a3, .ref a4, .ref a5, .ref a6, .ref a7, .ref a8, .ref a9, .ref a10, .ref a11, .int 0, .ref a12, .ref a13, .ref a14, .ref a15, .int 0, .int 0, .int 0, .ref a16, .int (-1), .int (-1), .ref a17, .ref a18, .int 0, .ref a19, .int 0, .int 0, .ref a20, .ref a21, .int 0, .int 0, .ref a22, .int 0, .int 0, .int 0, .int 0])), (a2, .inl (T 0, 329, .inl cn40))]) M w 1 rfl (vin (by decide +kernel)) rfl dX12_startSo_61 (fun H locs w => ?_)
        refine lv_aload_n hx hb dX12_startSo_62 rfl (lv_at hl 1 rfl) ?_
        refine r_get (v := .ref a2) M w 0 14 clX12 rfl (by decide) G1481 rfl rfl dX12_startSo_63 ?_
        refine lv_bipush (v := 66) hx hb dX12_startSo_66 (by decide) ?_
        refine lv_iload_n hx hb dX12_startSo_68 rfl (lv_at hl 0 rfl) ?_
        refine r_iadd (v := (73 : Int32)) M (by decide +kernel) dX12_startSo_69 ?_
        refine lv_iconst (v := (-1)) hx hb dX12_startSo_70 (by decide) ?_
        refine r_iast (ws' := [(a0, .inr (11, [.int 0, .ref a1, .int 0, .int 0, .int 0, .int 0, .int 0, .int 0, .int 0, .int 0, .int 0, .int 0, .long 0, .int 0, .ref a2, .ref a3, .ref a4, .ref a5, .ref a6, .ref a7, .ref a8, .ref a9, .ref a10, .ref a11, .int 0, .ref a12, .ref a13, .ref a14, .ref a15, .int 0, .int 0, .int 0, .ref a16, .int (-1), .int (-1), .ref a17, .ref a18, .int 0, .ref a19, .int 0, .int 0, .ref a20, .ref a21, .int 0, .int 0, .ref a22, .int 0, .int 0, .int 0, .int 0])), (a2, .inl (T 0, 329, .inl cn41))]) M w 1 rfl (vin (by decide +kernel)) rfl dX12_startSo_71 (fun H locs w => ?_)
        refine lv_aload_n hx hb dX12_startSo_72 rfl (lv_at hl 1 rfl) ?_
        refine r_get (v := .ref a2) M w 0 14 clX12 rfl (by decide) G1481 rfl rfl dX12_startSo_73 ?_
        refine lv_bipush (v := 75) hx hb dX12_startSo_76 (by decide) ?_
        refine lv_iload_n hx hb dX12_startSo_78 rfl (lv_at hl 0 rfl) ?_
        refine r_iadd (v := (82 : Int32)) M (by decide +kernel) dX12_startSo_79 ?_
        refine lv_aload_n hx hb dX12_startSo_80 rfl (lv_at hl 1 rfl) ?_
        refine r_get (v := .ref a2) M w 0 14 clX12 rfl (by decide) G1481 rfl rfl dX12_startSo_81 ?_
        refine lv_bipush (v := 23) hx hb dX12_startSo_84 (by decide) ?_
        refine lv_iload_n hx hb dX12_startSo_86 rfl (lv_at hl 0 rfl) ?_
        refine r_iadd (v := (30 : Int32)) M (by decide +kernel) dX12_startSo_87 ?_
        refine r_iald (v := (0 : Int32)) M w 1 rfl (vin (by decide +kernel)) (by decide +kernel) dX12_startSo_88 ?_
        refine r_iast (ws' := [(a0, .inr (11, [.int 0, .ref a1, .int 0, .int 0, .int 0, .int 0, .int 0, .int 0, .int 0, .int 0, .int 0, .int 0, .long 0, .int 0, .ref a2, .ref a3, .ref a4, .ref a5, .ref a6, .ref a7, .ref a8, .ref a9, .ref a10, .ref a11, .int 0, .ref a12, .ref a13, .ref a14, .ref a15, .int 0, .int 0, .int 0, .ref a16, .int (-1), .int (-1), .ref a17, .ref a18, .int 0, .ref a19, .int 0, .int 0, .ref a20, .ref a21, .int 0, .int 0, .ref a22, .int 0, .int 0, .int 0, .int 0])), (a2, .inl (T 0, 329, .inl cn42))]) M w 1 rfl (vin (by decide +kernel)) rfl dX12_startSo_89 (fun H locs w => ?_)
        refine lv_iinc (v := (8 : Int32)) (lv' := [(1, .int 8), (0, .ref a0)]) hx hb dX12_startSo_90 hl (k := 0) rfl (by decide +kernel) (by decide) rfl (fun ls hl => ?_)
        refine lv_goto (tgt := 38) hx hb dX12_startSo_93 (by decide) ?_
        refine lv_iload_n hx hb dX12_startSo_38 rfl (lv_at hl 0 rfl) ?_
        refine lv_bipush (v := 9) hx hb dX12_startSo_39 (by decide) ?_
        refine lv_icmp_ge (tgt := 96) hx hb dX12_startSo_41 (by decide) (fun c => absurd c (by decide +kernel)) (fun _ => ?_)
        refine lv_aload_n hx hb dX12_startSo_44 rfl (lv_at hl 1 rfl) ?_
        refine r_get (v := .ref a2) M w 0 14 clX12 rfl (by decide) G1481 rfl rfl dX12_startSo_45 ?_
        refine lv_bipush (v := 57) hx hb dX12_startSo_48 (by decide) ?_
        refine lv_iload_n hx hb dX12_startSo_50 rfl (lv_at hl 0 rfl) ?_
        refine r_iadd (v := (65 : Int32)) M (by decide +kernel) dX12_startSo_51 ?_
        refine lv_aload_n hx hb dX12_startSo_52 rfl (lv_at hl 1 rfl) ?_
        refine r_get (v := .ref a2) M w 0 14 clX12 rfl (by decide) G1481 rfl rfl dX12_startSo_53 ?_
        refine lv_bipush (v := 32) hx hb dX12_startSo_56 (by decide) ?_
        refine lv_iload_n hx hb dX12_startSo_58 rfl (lv_at hl 0 rfl) ?_
        refine r_iadd (v := (40 : Int32)) M (by decide +kernel) dX12_startSo_59 ?_
        refine r_iald (v := (-1 : Int32)) M w 1 rfl (vin (by decide +kernel)) (by decide +kernel) dX12_startSo_60 ?_
        refine r_iast (ws' := [(a0, .inr (11, [.int 0, .ref a1, .int 0, .int 0, .int 0, .int 0, .int 0, .int 0, .int 0, .int 0, .int 0, .int 0, .long 0, .int 0, .ref a2, .ref a3, .ref a4, .ref a5, .ref a6, .ref a7, .ref a8, .ref a9, .ref a10, .ref a11, .int 0, .ref a12, .ref a13, .ref a14, .ref a15, .int 0, .int 0, .int 0, .ref a16, .int (-1), .int (-1), .ref a17, .ref a18, .int 0, .ref a19, .int 0, .int 0, .ref a20, .ref a21, .int 0, .int 0, .ref a22, .int 0, .int 0, .int 0, .int 0])), (a2, .inl (T 0, 329, .inl cn43))]) M w 1 rfl (vin (by decide +kernel)) rfl dX12_startSo_61 (fun H locs w => ?_)
        refine lv_aload_n hx hb dX12_startSo_62 rfl (lv_at hl 1 rfl) ?_
        refine r_get (v := .ref a2) M w 0 14 clX12 rfl (by decide) G1481 rfl rfl dX12_startSo_63 ?_
        refine lv_bipush (v := 66) hx hb dX12_startSo_66 (by decide) ?_
        refine lv_iload_n hx hb dX12_startSo_68 rfl (lv_at hl 0 rfl) ?_
        refine r_iadd (v := (74 : Int32)) M (by decide +kernel) dX12_startSo_69 ?_
        refine lv_iconst (v := (-1)) hx hb dX12_startSo_70 (by decide) ?_
        refine r_iast (ws' := [(a0, .inr (11, [.int 0, .ref a1, .int 0, .int 0, .int 0, .int 0, .int 0, .int 0, .int 0, .int 0, .int 0, .int 0, .long 0, .int 0, .ref a2, .ref a3, .ref a4, .ref a5, .ref a6, .ref a7, .ref a8, .ref a9, .ref a10, .ref a11, .int 0, .ref a12, .ref a13, .ref a14, .ref a15, .int 0, .int 0, .int 0, .ref a16, .int (-1), .int (-1), .ref a17, .ref a18, .int 0, .ref a19, .int 0, .int 0, .ref a20, .ref a21, .int 0, .int 0, .ref a22, .int 0, .int 0, .int 0, .int 0])), (a2, .inl (T 0, 329, .inl cn44))]) M w 1 rfl (vin (by decide +kernel)) rfl dX12_startSo_71 (fun H locs w => ?_)
        refine lv_aload_n hx hb dX12_startSo_72 rfl (lv_at hl 1 rfl) ?_
        refine r_get (v := .ref a2) M w 0 14 clX12 rfl (by decide) G1481 rfl rfl dX12_startSo_73 ?_
        refine lv_bipush (v := 75) hx hb dX12_startSo_76 (by decide) ?_
        refine lv_iload_n hx hb dX12_startSo_78 rfl (lv_at hl 0 rfl) ?_
        refine r_iadd (v := (83 : Int32)) M (by decide +kernel) dX12_startSo_79 ?_
        refine lv_aload_n hx hb dX12_startSo_80 rfl (lv_at hl 1 rfl) ?_
        refine r_get (v := .ref a2) M w 0 14 clX12 rfl (by decide) G1481 rfl rfl dX12_startSo_81 ?_
        refine lv_bipush (v := 23) hx hb dX12_startSo_84 (by decide) ?_
        refine lv_iload_n hx hb dX12_startSo_86 rfl (lv_at hl 0 rfl) ?_
        refine r_iadd (v := (31 : Int32)) M (by decide +kernel) dX12_startSo_87 ?_
        refine r_iald (v := (0 : Int32)) M w 1 rfl (vin (by decide +kernel)) (by decide +kernel) dX12_startSo_88 ?_
        refine r_iast (ws' := [(a0, .inr (11, [.int 0, .ref a1, .int 0, .int 0, .int 0, .int 0, .int 0, .int 0, .int 0, .int 0, .int 0, .int 0, .long 0, .int 0, .ref a2, .ref a3, .ref a4, .ref a5, .ref a6, .ref a7, .ref a8, .ref a9, .ref a10, .ref a11, .int 0, .ref a12, .ref a13, .ref a14, .ref a15, .int 0, .int 0, .int 0, .ref a16, .int (-1), .int (-1), .ref a17, .ref a18, .int 0, .ref a19, .int 0, .int 0, .ref a20, .ref a21, .int 0, .int 0, .ref a22, .int 0, .int 0, .int 0, .int 0])), (a2, .inl (T 0, 329, .inl cn45))]) M w 1 rfl (vin (by decide +kernel)) rfl dX12_startSo_89 (fun H locs w => ?_)
        refine lv_iinc (v := (9 : Int32)) (lv' := [(1, .int 9), (0, .ref a0)]) hx hb dX12_startSo_90 hl (k := 0) rfl (by decide +kernel) (by decide) rfl (fun ls hl => ?_)
        refine lv_goto (tgt := 38) hx hb dX12_startSo_93 (by decide) ?_
        refine lv_iload_n hx hb dX12_startSo_38 rfl (lv_at hl 0 rfl) ?_
        refine lv_bipush (v := 9) hx hb dX12_startSo_39 (by decide) ?_
        refine lv_icmp_ge (tgt := 96) hx hb dX12_startSo_41 (by decide) (fun _ => ?_) (fun c => absurd (by decide +kernel) c)
        refine lv_iconst (v := 0) hx hb dX12_startSo_96 (by decide) ?_
        refine lv_istore_n (lv' := [(1, .int 0), (0, .ref a0)]) hx hb dX12_startSo_97 rfl hl (by decide) rfl (fun ls hl => ?_)
        refine lv_iload_n hx hb dX12_startSo_98 rfl (lv_at hl 0 rfl) ?_
        refine lv_bipush (v := 9) hx hb dX12_startSo_99 (by decide) ?_
        refine lv_icmp_ge (tgt := 141) hx hb dX12_startSo_101 (by decide) (fun c => absurd c (by decide +kernel)) (fun _ => ?_)
        refine lv_aload_n hx hb dX12_startSo_104 rfl (lv_at hl 1 rfl) ?_
        refine r_get (v := .ref a2) M w 0 14 clX12 rfl (by decide) G1481 rfl rfl dX12_startSo_105 ?_
        refine lv_bipush (v := 57) hx hb dX12_startSo_108 (by decide) ?_
        refine lv_iload_n hx hb dX12_startSo_110 rfl (lv_at hl 0 rfl) ?_
        refine r_iadd (v := (57 : Int32)) M (by decide +kernel) dX12_startSo_111 ?_
        refine r_iald (v := (-1 : Int32)) M w 1 rfl (vin (by decide +kernel)) (by decide +kernel) dX12_startSo_112 ?_
        refine lv_iconst (v := (-1)) hx hb dX12_startSo_113 (by decide) ?_
        refine lv_icmp_eq (tgt := 135) hx hb dX12_startSo_114 (by decide) (fun _ => ?_) (fun c => absurd (by decide +kernel) c)
        refine lv_iinc (v := (1 : Int32)) (lv' := [(1, .int 1), (0, .ref a0)]) hx hb dX12_startSo_135 hl (k := 0) rfl (by decide +kernel) (by decide) rfl (fun ls hl => ?_)
        refine lv_goto (tgt := 98) hx hb dX12_startSo_138 (by decide) ?_
        refine lv_iload_n hx hb dX12_startSo_98 rfl (lv_at hl 0 rfl) ?_
        refine lv_bipush (v := 9) hx hb dX12_startSo_99 (by decide) ?_
        refine lv_icmp_ge (tgt := 141) hx hb dX12_startSo_101 (by decide) (fun c => absurd c (by decide +kernel)) (fun _ => ?_)
        refine lv_aload_n hx hb dX12_startSo_104 rfl (lv_at hl 1 rfl) ?_
        refine r_get (v := .ref a2) M w 0 14 clX12 rfl (by decide) G1481 rfl rfl dX12_startSo_105 ?_
        refine lv_bipush (v := 57) hx hb dX12_startSo_108 (by decide) ?_
        refine lv_iload_n hx hb dX12_startSo_110 rfl (lv_at hl 0 rfl) ?_
        refine r_iadd (v := (58 : Int32)) M (by decide +kernel) dX12_startSo_111 ?_
        refine r_iald (v := (-1 : Int32)) M w 1 rfl (vin (by decide +kernel)) (by decide +kernel) dX12_startSo_112 ?_
        refine lv_iconst (v := (-1)) hx hb dX12_startSo_113 (by decide) ?_
        refine lv_icmp_eq (tgt := 135) hx hb dX12_startSo_114 (by decide) (fun _ => ?_) (fun c => absurd (by decide +kernel) c)
        refine lv_iinc (v := (2 : Int32)) (lv' := [(1, .int 2), (0, .ref a0)]) hx hb dX12_startSo_135 hl (k := 0) rfl (by decide +kernel) (by decide) rfl (fun ls hl => ?_)
        refine lv_goto (tgt := 98) hx hb dX12_startSo_138 (by decide) ?_
        refine lv_iload_n hx hb dX12_startSo_98 rfl (lv_at hl 0 rfl) ?_
        refine lv_bipush (v := 9) hx hb dX12_startSo_99 (by decide) ?_
        refine lv_icmp_ge (tgt := 141) hx hb dX12_startSo_101 (by decide) (fun c => absurd c (by decide +kernel)) (fun _ => ?_)
        refine lv_aload_n hx hb dX12_startSo_104 rfl (lv_at hl 1 rfl) ?_
        refine r_get (v := .ref a2) M w 0 14 clX12 rfl (by decide) G1481 rfl rfl dX12_startSo_105 ?_
        refine lv_bipush (v := 57) hx hb dX12_startSo_108 (by decide) ?_
        refine lv_iload_n hx hb dX12_startSo_110 rfl (lv_at hl 0 rfl) ?_
        refine r_iadd (v := (59 : Int32)) M (by decide +kernel) dX12_startSo_111 ?_
        refine r_iald (v := (-1 : Int32)) M w 1 rfl (vin (by decide +kernel)) (by decide +kernel) dX12_startSo_112 ?_
        refine lv_iconst (v := (-1)) hx hb dX12_startSo_113 (by decide) ?_
        refine lv_icmp_eq (tgt := 135) hx hb dX12_startSo_114 (by decide) (fun _ => ?_) (fun c => absurd (by decide +kernel) c)
        refine lv_iinc (v := (3 : Int32)) (lv' := [(1, .int 3), (0, .ref a0)]) hx hb dX12_startSo_135 hl (k := 0) rfl (by decide +kernel) (by decide) rfl (fun ls hl => ?_)
        refine lv_goto (tgt := 98) hx hb dX12_startSo_138 (by decide) ?_
        refine lv_iload_n hx hb dX12_startSo_98 rfl (lv_at hl 0 rfl) ?_
        refine lv_bipush (v := 9) hx hb dX12_startSo_99 (by decide) ?_
        refine lv_icmp_ge (tgt := 141) hx hb dX12_startSo_101 (by decide) (fun c => absurd c (by decide +kernel)) (fun _ => ?_)
        refine lv_aload_n hx hb dX12_startSo_104 rfl (lv_at hl 1 rfl) ?_
        refine r_get (v := .ref a2) M w 0 14 clX12 rfl (by decide) G1481 rfl rfl dX12_startSo_105 ?_
        refine lv_bipush (v := 57) hx hb dX12_startSo_108 (by decide) ?_
        refine lv_iload_n hx hb dX12_startSo_110 rfl (lv_at hl 0 rfl) ?_
        refine r_iadd (v := (60 : Int32)) M (by decide +kernel) dX12_startSo_111 ?_
        refine r_iald (v := (-1 : Int32)) M w 1 rfl (vin (by decide +kernel)) (by decide +kernel) dX12_startSo_112 ?_
        refine lv_iconst (v := (-1)) hx hb dX12_startSo_113 (by decide) ?_
        refine lv_icmp_eq (tgt := 135) hx hb dX12_startSo_114 (by decide) (fun _ => ?_) (fun c => absurd (by decide +kernel) c)
        refine lv_iinc (v := (4 : Int32)) (lv' := [(1, .int 4), (0, .ref a0)]) hx hb dX12_startSo_135 hl (k := 0) rfl (by decide +kernel) (by decide) rfl (fun ls hl => ?_)
        refine lv_goto (tgt := 98) hx hb dX12_startSo_138 (by decide) ?_
        refine lv_iload_n hx hb dX12_startSo_98 rfl (lv_at hl 0 rfl) ?_
        refine lv_bipush (v := 9) hx hb dX12_startSo_99 (by decide) ?_
        refine lv_icmp_ge (tgt := 141) hx hb dX12_startSo_101 (by decide) (fun c => absurd c (by decide +kernel)) (fun _ => ?_)
        refine lv_aload_n hx hb dX12_startSo_104 rfl (lv_at hl 1 rfl) ?_
        refine r_get (v := .ref a2) M w 0 14 clX12 rfl (by decide) G1481 rfl rfl dX12_startSo_105 ?_
        refine lv_bipush (v := 57) hx hb dX12_startSo_108 (by decide) ?_
        refine lv_iload_n hx hb dX12_startSo_110 rfl (lv_at hl 0 rfl) ?_
        refine r_iadd (v := (61 : Int32)) M (by decide +kernel) dX12_startSo_111 ?_
        refine r_iald (v := (-1 : Int32)) M w 1 rfl (vin (by decide +kernel)) (by decide +kernel) dX12_startSo_112 ?_
        refine lv_iconst (v := (-1)) hx hb dX12_startSo_113 (by decide) ?_
        refine lv_icmp_eq (tgt := 135) hx hb dX12_startSo_114 (by decide) (fun _ => ?_) (fun c => absurd (by decide +kernel) c)
        refine lv_iinc (v := (5 : Int32)) (lv' := [(1, .int 5), (0, .ref a0)]) hx hb dX12_startSo_135 hl (k := 0) rfl (by decide +kernel) (by decide) rfl (fun ls hl => ?_)
        refine lv_goto (tgt := 98) hx hb dX12_startSo_138 (by decide) ?_
        refine lv_iload_n hx hb dX12_startSo_98 rfl (lv_at hl 0 rfl) ?_
        refine lv_bipush (v := 9) hx hb dX12_startSo_99 (by decide) ?_
        refine lv_icmp_ge (tgt := 141) hx hb dX12_startSo_101 (by decide) (fun c => absurd c (by decide +kernel)) (fun _ => ?_)
        refine lv_aload_n hx hb dX12_startSo_104 rfl (lv_at hl 1 rfl) ?_
        refine r_get (v := .ref a2) M w 0 14 clX12 rfl (by decide) G1481 rfl rfl dX12_startSo_105 ?_
        refine lv_bipush (v := 57) hx hb dX12_startSo_108 (by decide) ?_
        refine lv_iload_n hx hb dX12_startSo_110 rfl (lv_at hl 0 rfl) ?_
        refine r_iadd (v := (62 : Int32)) M (by decide +kernel) dX12_startSo_111 ?_
        refine r_iald (v := (-1 : Int32)) M w 1 rfl (vin (by decide +kernel)) (by decide +kernel) dX12_startSo_112 ?_
        refine lv_iconst (v := (-1)) hx hb dX12_startSo_113 (by decide) ?_
        refine lv_icmp_eq (tgt := 135) hx hb dX12_startSo_114 (by decide) (fun _ => ?_) (fun c => absurd (by decide +kernel) c)
        refine lv_iinc (v := (6 : Int32)) (lv' := [(1, .int 6), (0, .ref a0)]) hx hb dX12_startSo_135 hl (k := 0) rfl (by decide +kernel) (by decide) rfl (fun ls hl => ?_)
        refine lv_goto (tgt := 98) hx hb dX12_startSo_138 (by decide) ?_
        refine lv_iload_n hx hb dX12_startSo_98 rfl (lv_at hl 0 rfl) ?_
        refine lv_bipush (v := 9) hx hb dX12_startSo_99 (by decide) ?_
        refine lv_icmp_ge (tgt := 141) hx hb dX12_startSo_101 (by decide) (fun c => absurd c (by decide +kernel)) (fun _ => ?_)
        refine lv_aload_n hx hb dX12_startSo_104 rfl (lv_at hl 1 rfl) ?_
        refine r_get (v := .ref a2) M w 0 14 clX12 rfl (by decide) G1481 rfl rfl dX12_startSo_105 ?_
        refine lv_bipush (v := 57) hx hb dX12_startSo_108 (by decide) ?_
        refine lv_iload_n hx hb dX12_startSo_110 rfl (lv_at hl 0 rfl) ?_
        refine r_iadd (v := (63 : Int32)) M (by decide +kernel) dX12_startSo_111 ?_
        refine r_iald (v := (-1 : Int32)) M w 1 rfl (vin (by decide +kernel)) (by decide +kernel) dX12_startSo_112 ?_
        refine lv_iconst (v := (-1)) hx hb dX12_startSo_113 (by decide) ?_
        refine lv_icmp_eq (tgt := 135) hx hb dX12_startSo_114 (by decide) (fun _ => ?_) (fun c => absurd (by decide +kernel) c)
        refine lv_iinc (v := (7 : Int32)) (lv' := [(1, .int 7), (0, .ref a0)]) hx hb dX12_startSo_135 hl (k := 0) rfl (by decide +kernel) (by decide) rfl (fun ls hl => ?_)
        refine lv_goto (tgt := 98) hx hb dX12_startSo_138 (by decide) ?_
        refine lv_iload_n hx hb dX12_startSo_98 rfl (lv_at hl 0 rfl) ?_
        refine lv_bipush (v := 9) hx hb dX12_startSo_99 (by decide) ?_
        refine lv_icmp_ge (tgt := 141) hx hb dX12_startSo_101 (by decide) (fun c => absurd c (by decide +kernel)) (fun _ => ?_)
        refine lv_aload_n hx hb dX12_startSo_104 rfl (lv_at hl 1 rfl) ?_
        refine r_get (v := .ref a2) M w 0 14 clX12 rfl (by decide) G1481 rfl rfl dX12_startSo_105 ?_
        refine lv_bipush (v := 57) hx hb dX12_startSo_108 (by decide) ?_
        refine lv_iload_n hx hb dX12_startSo_110 rfl (lv_at hl 0 rfl) ?_
        refine r_iadd (v := (64 : Int32)) M (by decide +kernel) dX12_startSo_111 ?_
        refine r_iald (v := (-1 : Int32)) M w 1 rfl (vin (by decide +kernel)) (by decide +kernel) dX12_startSo_112 ?_
        refine lv_iconst (v := (-1)) hx hb dX12_startSo_113 (by decide) ?_
        refine lv_icmp_eq (tgt := 135) hx hb dX12_startSo_114 (by decide) (fun _ => ?_) (fun c => absurd (by decide +kernel) c)
        refine lv_iinc (v := (8 : Int32)) (lv' := [(1, .int 8), (0, .ref a0)]) hx hb dX12_startSo_135 hl (k := 0) rfl (by decide +kernel) (by decide) rfl (fun ls hl => ?_)
        refine lv_goto (tgt := 98) hx hb dX12_startSo_138 (by decide) ?_
        refine lv_iload_n hx hb dX12_startSo_98 rfl (lv_at hl 0 rfl) ?_
        refine lv_bipush (v := 9) hx hb dX12_startSo_99 (by decide) ?_
        refine lv_icmp_ge (tgt := 141) hx hb dX12_startSo_101 (by decide) (fun c => absurd c (by decide +kernel)) (fun _ => ?_)
        refine lv_aload_n hx hb dX12_startSo_104 rfl (lv_at hl 1 rfl) ?_
        refine r_get (v := .ref a2) M w 0 14 clX12 rfl (by decide) G1481 rfl rfl dX12_startSo_105 ?_
        refine lv_bipush (v := 57) hx hb dX12_startSo_108 (by decide) ?_
        refine lv_iload_n hx hb dX12_startSo_110 rfl (lv_at hl 0 rfl) ?_
        refine r_iadd (v := (65 : Int32)) M (by decide +kernel) dX12_startSo_111 ?_
        refine r_iald (v := (-1 : Int32)) M w 1 rfl (vin (by decide +kernel)) (by decide +kernel) dX12_startSo_112 ?_
        refine lv_iconst (v := (-1)) hx hb dX12_startSo_113 (by decide) ?_
        refine lv_icmp_eq (tgt := 135) hx hb dX12_startSo_114 (by decide) (fun _ => ?_) (fun c => absurd (by decide +kernel) c)
        refine lv_iinc (v := (9 : Int32)) (lv' := [(1, .int 9), (0, .ref a0)]) hx hb dX12_startSo_135 hl (k := 0) rfl (by decide +kernel) (by decide) rfl (fun ls hl => ?_)
        refine lv_goto (tgt := 98) hx hb dX12_startSo_138 (by decide) ?_
        refine lv_iload_n hx hb dX12_startSo_98 rfl (lv_at hl 0 rfl) ?_
        refine lv_bipush (v := 9) hx hb dX12_startSo_99 (by decide) ?_
        refine lv_icmp_ge (tgt := 141) hx hb dX12_startSo_101 (by decide) (fun _ => ?_) (fun c => absurd (by decide +kernel) c)
        exact ret () _ _ _ _ _ [0, 1] dX12_startSo_141 trivial w (by decide) rfl
      · have hi2 : i < 329 := ix_in2 (n := 329) (by decide) (by omega) (by decide) c_1
        refine lv_aload_n hx hb dX12_startSo_10 rfl (lv_at hl 1 rfl) ?_
        refine r_get (v := .ref a2) M w 0 14 clX12 rfl (by decide) G1481 rfl rfl dX12_startSo_11 ?_
        refine lv_iload_n hx hb dX12_startSo_14 rfl (lv_at hl 0 rfl) ?_
        refine lv_iconst (v := 0) hx hb dX12_startSo_15 (by decide) ?_
        refine r_iast (ws' := [(a0, .inr (11, [.int 0, .ref a1, .int 0, .int 0, .int 0, .int 0, .int 0, .int 0, .int 0, .int 0, .int 0, .int 0, .long 0, .int 0, .ref a2, .ref a3, .ref a4, .ref a5, .ref a6, .ref a7, .ref a8, .ref a9, .ref a10, .ref a11, .int 0, .ref a12, .ref a13, .ref a14, .ref a15, .int 0, .int 0, .int 0, .ref a16, .int (-1), .int (-1), .ref a17, .ref a18, .int 0, .ref a19, .int 0, .int 0, .ref a20, .ref a21, .int 0, .int 0, .ref a22, .int 0, .int 0, .int 0, .int 0])), (a2, .inl (T 0, 329, .inl (upd (rngc 53 i (0 : Int32) cn15) (Int32.toNatClampNeg (nI i)) (0 : Int32))))]) M w 1 rfl (ix_in (by omega) (by decide)) rfl dX12_startSo_16 (fun H locs w => ?_)
        refine lv_iinc (v := (nI (i + 1))) (lv' := [(1, .int (nI (i + 1))), (0, .ref a0)]) hx hb dX12_startSo_17 hl (k := 0) rfl (ix_add (k := 1) (by decide) (by omega)) (by decide) rfl (fun ls hl => ?_)
        refine lv_goto (tgt := 3) hx hb dX12_startSo_20 (by decide) ?_
        rw [show (upd (rngc 53 i (0 : Int32) cn15) (Int32.toNatClampNeg (nI i)) (0 : Int32)) = (rngc 53 (i + 1) (0 : Int32) cn15) from rngc_step (nI_clamp (by omega)) (by omega)] at w
        exact ih (i + 1) _ _ _ (by omega) (by omega) (by omega) w (lv_sub hl [0, 1] rfl)
  exact loop 330 53 _ _ _ (by decide) (by decide) (by decide) w hl
set_option maxRecDepth 100000 in
set_option maxHeartbeats 4000000 in
theorem c15_X12_init (l : Launch) (D : va_G) (T : Nat → ClassId) (sz : Nat) (a0 : Nat) : Met l yX12_init (Cond.code yX12_init cX12_init 2 none :: GW) (Rm 1 22 2871) (cPre [.ref a0] D T [(a0, .inr (11, [.int 0, .null, .int 0, .int 0, .int 0, .int 0, .int 0, .int 0, .int 0, .int 0, .int 0, .int 0, .long 0, .int 0, .null, .null, .null, .null, .null, .null, .null, .null, .null, .null, .int 0, .null, .null, .null, .null, .int 0, .int 0, .int 0, .null, .int 0, .int 0, .null, .null, .int 0, .null, .int 0, .int 0, .null, .null, .int 0, .int 0, .null, .int 0, .int 0, .int 0, .int 0]))] sz) (qV D [(a0, .inr (11, [.int 0, .null, .int 0, .int 0, .int 0, .int 0, .int 0, .int 0, .int 0, .int 0, .int 0, .int 0, .long 0, .int 0, .null, .null, .null, .null, .null, .null, .null, .null, .null, .null, .int 0, .null, .null, .null, .null, .int 0, .int 0, .int 0, .null, .int 0, .int 0, .null, .null, .int 0, .null, .int 0, .int 0, .null, .null, .int 0, .int 0, .null, .int 0, .int 0, .int 0, .int 0]))] sz (fun (u : Nat × Nat × Nat × Nat × Nat × Nat × Nat × Nat × Nat × Nat × Nat × Nat × Nat × Nat × Nat × Nat × Nat × Nat × Nat × Nat × Nat × Nat) => let n0 := u.1; let n1 := u.2.1; let n2 := u.2.2.1; let n3 := u.2.2.2.1; let n4 := u.2.2.2.2.1; let n5 := u.2.2.2.2.2.1; let n6 := u.2.2.2.2.2.2.1; let n7 := u.2.2.2.2.2.2.2.1; let n8 := u.2.2.2.2.2.2.2.2.1; let n9 := u.2.2.2.2.2.2.2.2.2.1; let n10 := u.2.2.2.2.2.2.2.2.2.2.1; let n11 := u.2.2.2.2.2.2.2.2.2.2.2.1; let n12 := u.2.2.2.2.2.2.2.2.2.2.2.2.1; let n13 := u.2.2.2.2.2.2.2.2.2.2.2.2.2.1; let n14 := u.2.2.2.2.2.2.2.2.2.2.2.2.2.2.1; let n15 := u.2.2.2.2.2.2.2.2.2.2.2.2.2.2.2.1; let n16 := u.2.2.2.2.2.2.2.2.2.2.2.2.2.2.2.2.1; let n17 := u.2.2.2.2.2.2.2.2.2.2.2.2.2.2.2.2.2.1; let n18 := u.2.2.2.2.2.2.2.2.2.2.2.2.2.2.2.2.2.2.1; let n19 := u.2.2.2.2.2.2.2.2.2.2.2.2.2.2.2.2.2.2.2.1; let n20 := u.2.2.2.2.2.2.2.2.2.2.2.2.2.2.2.2.2.2.2.2.1; let n21 := u.2.2.2.2.2.2.2.2.2.2.2.2.2.2.2.2.2.2.2.2.2; True) (fun u => let n0 := u.1; let n1 := u.2.1; let n2 := u.2.2.1; let n3 := u.2.2.2.1; let n4 := u.2.2.2.2.1; let n5 := u.2.2.2.2.2.1; let n6 := u.2.2.2.2.2.2.1; let n7 := u.2.2.2.2.2.2.2.1; let n8 := u.2.2.2.2.2.2.2.2.1; let n9 := u.2.2.2.2.2.2.2.2.2.1; let n10 := u.2.2.2.2.2.2.2.2.2.2.1; let n11 := u.2.2.2.2.2.2.2.2.2.2.2.1; let n12 := u.2.2.2.2.2.2.2.2.2.2.2.2.1; let n13 := u.2.2.2.2.2.2.2.2.2.2.2.2.2.1; let n14 := u.2.2.2.2.2.2.2.2.2.2.2.2.2.2.1; let n15 := u.2.2.2.2.2.2.2.2.2.2.2.2.2.2.2.1; let n16 := u.2.2.2.2.2.2.2.2.2.2.2.2.2.2.2.2.1; let n17 := u.2.2.2.2.2.2.2.2.2.2.2.2.2.2.2.2.2.1; let n18 := u.2.2.2.2.2.2.2.2.2.2.2.2.2.2.2.2.2.2.1; let n19 := u.2.2.2.2.2.2.2.2.2.2.2.2.2.2.2.2.2.2.2.1; let n20 := u.2.2.2.2.2.2.2.2.2.2.2.2.2.2.2.2.2.2.2.2.1; let n21 := u.2.2.2.2.2.2.2.2.2.2.2.2.2.2.2.2.2.2.2.2.2; [(a0, .inr (11, [.int 0, .ref n0, .int 0, .int 0, .int 0, .int 0, .int 0, .int 0, .int 0, .int 0, .int 0, .int 0, .long 0, .int 0, .ref n21, .ref n19, .ref n1, .ref n2, .ref n3, .ref n4, .ref n5, .ref n6, .ref n7, .ref n20, .int 0, .ref n8, .ref n9, .ref n10, .ref n11, .int 0, .int 0, .int 0, .ref n12, .int (-1), .int (-1), .ref n13, .ref n14, .int 0, .ref n15, .int 0, .int 0, .ref n16, .ref n17, .int 0, .int 0, .ref n18, .int 0, .int 0, .int 0, .int 0])), (n0, .inl (T 0, 940, .inl (fun _ => 0))), (n1, .inl (T 0, 658, .inl (fun _ => 0))), (n2, .inl (T 0, 272, .inl (fun _ => 0))), (n3, .inl (T 0, 34, .inl (fun _ => 0))), (n4, .inl (T 1, 12, .inr (.inl (fun _ => 0)))), (n5, .inl (T 1, 12, .inr (.inl (fun _ => 0)))), (n6, .inl (T 1, 24, .inr (.inl (fun _ => 0)))), (n7, .inl (T 2, 2, .inl (fun _ => 0))), (n8, .inl (T 0, 9, .inl (fun _ => 0))), (n9, .inl (T 0, 9, .inl (fun _ => 0))), (n10, .inl (T 2, 9, .inl (fun _ => 0))), (n11, .inl (T 2, 9, .inl (fun _ => 0))), (n12, .inl (T 0, 10, .inl (fun _ => 0))), (n13, .inl (T 0, 9, .inl (fun _ => 0))), (n14, .inl (T 0, 9, .inl (fun _ => 0))), (n15, .inl (T 0, 64, .inl (fun _ => 0))), (n16, .inl (T 0, 160, .inl (fun _ => 0))), (n17, .inl (T 0, 4, .inl (fun _ => 0))), (n18, .inl (T 0, 240, .inl (fun _ => 0))), (n19, .inl (T 0, 53, .inl cn13)), (n20, .inl (T 2, 3, .inl cn9)), (n21, .inl (T 0, 329, .inl cn45))])) 22 2871 (va_A [(a0, .inr (11, [.int 0, .null, .int 0, .int 0, .int 0, .int 0, .int 0, .int 0, .int 0, .int 0, .int 0, .int 0, .long 0, .int 0, .null, .null, .null, .null, .null, .null, .null, .null, .null, .null, .int 0, .null, .null, .null, .null, .int 0, .int 0, .int 0, .null, .int 0, .int 0, .null, .null, .int 0, .null, .int 0, .int 0, .null, .null, .int 0, .int 0, .null, .int 0, .int 0, .int 0, .int 0]))] sz) := by
  refine e_V (by decide) (Nat.le_of_ble_eq_true rfl) ?_
  intro p e s m args below meth c A Q ls M hin w ret hl
  have hx := M.1.1
  have hb := M.1.2.1
  have hl : lv_has ls 2 [(0, .ref a0)] := hl
  refine lv_aload_n hx hb dX12_init_0 rfl (lv_at hl 0 rfl) ?_
  refine r_obj M G1458 G152 G153 hl.1 dX12_init_1 (by decide) (Nat.le_of_ble_eq_true rfl) ?_
  refine lv_aload_n hx hb dX12_init_4 rfl (lv_at hl 0 rfl) ?_
  refine lv_sipush (v := 940) hx hb dX12_init_5 (by decide) ?_
  refine r_newai (N := 940) (ce := 1) (sl := 940) (ws' := fun q1 => [(a0, .inr (11, [.int 0, .null, .int 0, .int 0, .int 0, .int 0, .int 0, .int 0, .int 0, .int 0, .int 0, .int 0, .long 0, .int 0, .null, .null, .null, .null, .null, .null, .null, .null, .null, .null, .int 0, .null, .null, .null, .null, .int 0, .int 0, .int 0, .null, .int 0, .int 0, .null, .null, .int 0, .null, .int 0, .int 0, .null, .null, .int 0, .int 0, .null, .int 0, .int 0, .int 0, .int 0])), (q1, .inl (T 0, 940, .inl (fun _ => 0)))]) M w G208 (by decide) (by decide +kernel) (by decide) rfl rfl (by decide) (by decide) (fun _ => rfl) dX12_init_8 (fun q1 H w => ?_)
  refine r_putF (ws' := [(a0, .inr (11, [.int 0, .ref q1, .int 0, .int 0, .int 0, .int 0, .int 0, .int 0, .int 0, .int 0, .int 0, .int 0, .long 0, .int 0, .null, .null, .null, .null, .null, .null, .null, .null, .null, .null, .int 0, .null, .null, .null, .null, .int 0, .int 0, .int 0, .null, .int 0, .int 0, .null, .null, .int 0, .null, .int 0, .int 0, .null, .null, .int 0, .int 0, .null, .int 0, .int 0, .int 0, .int 0])), (q1, .inl (T 0, 940, .inl (fun _ => 0)))]) M w 0 1 clX12 rfl (by decide) G1468 rfl rfl hin rfl rfl rfl (Nat.le_of_ble_eq_true rfl) rfl dX12_init_10 (fun H locs w => ?_)
  refine lv_aload_n hx hb dX12_init_13 rfl (lv_at hl 0 rfl) ?_
  refine lv_sipush (v := 329) hx hb dX12_init_14 (by decide) ?_
  refine r_newai (N := 329) (ce := 2) (sl := 1269) (ws' := fun q2 => [(a0, .inr (11, [.int 0, .ref q1, .int 0, .int 0, .int 0, .int 0, .int 0, .int 0, .int 0, .int 0, .int 0, .int 0, .long 0, .int 0, .null, .null, .null, .null, .null, .null, .null, .null, .null, .null, .int 0, .null, .null, .null, .null, .int 0, .int 0, .int 0, .null, .int 0, .int 0, .null, .null, .int 0, .null, .int 0, .int 0, .null, .null, .int 0, .int 0, .null, .int 0, .int 0, .int 0, .int 0])), (q1, .inl (T 0, 940, .inl (fun _ => 0))), (q2, .inl (T 0, 329, .inl (fun _ => 0)))]) M w G208 (by decide) (by decide +kernel) (by decide) rfl rfl (by decide) (by decide) (fun _ => rfl) dX12_init_17 (fun q2 H w => ?_)
  refine r_putF (ws' := [(a0, .inr (11, [.int 0, .ref q1, .int 0, .int 0, .int 0, .int 0, .int 0, .int 0, .int 0, .int 0, .int 0, .int 0, .long 0, .int 0, .ref q2, .null, .null, .null, .null, .null, .null, .null, .null, .null, .int 0, .null, .null, .null, .null, .int 0, .int 0, .int 0, .null, .int 0, .int 0, .null, .null, .int 0, .null, .int 0, .int 0, .null, .null, .int 0, .int 0, .null, .int 0, .int 0, .int 0, .int 0])), (q1, .inl (T 0, 940, .inl (fun _ => 0))), (q2, .inl (T 0, 329, .inl (fun _ => 0)))]) M w 0 14 clX12 rfl (by decide) G1481 rfl rfl hin rfl rfl rfl (Nat.le_of_ble_eq_true rfl) rfl dX12_init_19 (fun H locs w => ?_)
  refine lv_aload_n hx hb dX12_init_22 rfl (lv_at hl 0 rfl) ?_
  refine lv_bipush (v := 53) hx hb dX12_init_23 (by decide) ?_
  refine r_newai (N := 53) (ce := 3) (sl := 1322) (ws' := fun q3 => [(a0, .inr (11, [.int 0, .ref q1, .int 0, .int 0, .int 0, .int 0, .int 0, .int 0, .int 0, .int 0, .int 0, .int 0, .long 0, .int 0, .ref q2, .null, .null, .null, .null, .null, .null, .null, .null, .null, .int 0, .null, .null, .null, .null, .int 0, .int 0, .int 0, .null, .int 0, .int 0, .null, .null, .int 0, .null, .int 0, .int 0, .null, .null, .int 0, .int 0, .null, .int 0, .int 0, .int 0, .int 0])), (q1, .inl (T 0, 940, .inl (fun _ => 0))), (q2, .inl (T 0, 329, .inl (fun _ => 0))), (q3, .inl (T 0, 53, .inl (fun _ => 0)))]) M w G208 (by decide) (by decide +kernel) (by decide) rfl rfl (by decide) (by decide) (fun _ => rfl) dX12_init_25 (fun q3 H w => ?_)
  refine r_putF (ws' := [(a0, .inr (11, [.int 0, .ref q1, .int 0, .int 0, .int 0, .int 0, .int 0, .int 0, .int 0, .int 0, .int 0, .int 0, .long 0, .int 0, .ref q2, .ref q3, .null, .null, .null, .null, .null, .null, .null, .null, .int 0, .null, .null, .null, .null, .int 0, .int 0, .int 0, .null, .int 0, .int 0, .null, .null, .int 0, .null, .int 0, .int 0, .null, .null, .int 0, .int 0, .null, .int 0, .int 0, .int 0, .int 0])), (q1, .inl (T 0, 940, .inl (fun _ => 0))), (q2, .inl (T 0, 329, .inl (fun _ => 0))), (q3, .inl (T 0, 53, .inl (fun _ => 0)))]) M w 0 15 clX12 rfl (by decide) G1482 rfl rfl hin rfl rfl rfl (Nat.le_of_ble_eq_true rfl) rfl dX12_init_27 (fun H locs w => ?_)
  refine lv_aload_n hx hb dX12_init_30 rfl (lv_at hl 0 rfl) ?_
  refine lv_sipush (v := 658) hx hb dX12_init_31 (by decide) ?_
  refine r_newai (N := 658) (ce := 4) (sl := 1980) (ws' := fun q4 => [(a0, .inr (11, [.int 0, .ref q1, .int 0, .int 0, .int 0, .int 0, .int 0, .int 0, .int 0, .int 0, .int 0, .int 0, .long 0, .int 0, .ref q2, .ref q3, .null, .null, .null, .null, .null, .null, .null, .null, .int 0, .null, .null, .null, .null, .int 0, .int 0, .int 0, .null, .int 0, .int 0, .null, .null, .int 0, .null, .int 0, .int 0, .null, .null, .int 0, .int 0, .null, .int 0, .int 0, .int 0, .int 0])), (q1, .inl (T 0, 940, .inl (fun _ => 0))), (q2, .inl (T 0, 329, .inl (fun _ => 0))), (q3, .inl (T 0, 53, .inl (fun _ => 0))), (q4, .inl (T 0, 658, .inl (fun _ => 0)))]) M w G208 (by decide) (by decide +kernel) (by decide) rfl rfl (by decide) (by decide) (fun _ => rfl) dX12_init_34 (fun q4 H w => ?_)
  refine r_putF (ws' := [(a0, .inr (11, [.int 0, .ref q1, .int 0, .int 0, .int 0, .int 0, .int 0, .int 0, .int 0, .int 0, .int 0, .int 0, .long 0, .int 0, .ref q2, .ref q3, .ref q4, .null, .null, .null, .null, .null, .null, .null, .int 0, .null, .null, .null, .null, .int 0, .int 0, .int 0, .null, .int 0, .int 0, .null, .null, .int 0, .null, .int 0, .int 0, .null, .null, .int 0, .int 0, .null, .int 0, .int 0, .int 0, .int 0])), (q1, .inl (T 0, 940, .inl (fun _ => 0))), (q2, .inl (T 0, 329, .inl (fun _ => 0))), (q3, .inl (T 0, 53, .inl (fun _ => 0))), (q4, .inl (T 0, 658, .inl (fun _ => 0)))]) M w 0 16 clX12 rfl (by decide) G1483 rfl rfl hin rfl rfl rfl (Nat.le_of_ble_eq_true rfl) rfl dX12_init_36 (fun H locs w => ?_)
  refine lv_aload_n hx hb dX12_init_39 rfl (lv_at hl 0 rfl) ?_
  refine lv_sipush (v := 272) hx hb dX12_init_40 (by decide) ?_
  refine r_newai (N := 272) (ce := 5) (sl := 2252) (ws' := fun q5 => [(a0, .inr (11, [.int 0, .ref q1, .int 0, .int 0, .int 0, .int 0, .int 0, .int 0, .int 0, .int 0, .int 0, .int 0, .long 0, .int 0, .ref q2, .ref q3, .ref q4, .null, .null, .null, .null, .null, .null, .null, .int 0, .null, .null, .null, .null, .int 0, .int 0, .int 0, .null, .int 0, .int 0, .null, .null, .int 0, .null, .int 0, .int 0, .null, .null, .int 0, .int 0, .null, .int 0, .int 0, .int 0, .int 0])), (q1, .inl (T 0, 940, .inl (fun _ => 0))), (q2, .inl (T 0, 329, .inl (fun _ => 0))), (q3, .inl (T 0, 53, .inl (fun _ => 0))), (q4, .inl (T 0, 658, .inl (fun _ => 0))), (q5, .inl (T 0, 272, .inl (fun _ => 0)))]) M w G208 (by decide) (by decide +kernel) (by decide) rfl rfl (by decide) (by decide) (fun _ => rfl) dX12_init_43 (fun q5 H w => ?_)
  refine r_putF (ws' := [(a0, .inr (11, [.int 0, .ref q1, .int 0, .int 0, .int 0, .int 0, .int 0, .int 0, .int 0, .int 0, .int 0, .int 0, .long 0, .int 0, .ref q2, .ref q3, .ref q4, .ref q5, .null, .null, .null, .null, .null, .null, .int 0, .null, .null, .null, .null, .int 0, .int 0, .int 0, .null, .int 0, .int 0, .null, .null, .int 0, .null, .int 0, .int 0, .null, .null, .int 0, .int 0, .null, .int 0, .int 0, .int 0, .int 0])), (q1, .inl (T 0, 940, .inl (fun _ => 0))), (q2, .inl (T 0, 329, .inl (fun _ => 0))), (q3, .inl (T 0, 53, .inl (fun _ => 0))), (q4, .inl (T 0, 658, .inl (fun _ => 0))), (q5, .inl (T 0, 272, .inl (fun _ => 0)))]) M w 0 17 clX12 rfl (by decide) G1484 rfl rfl hin rfl rfl rfl (Nat.le_of_ble_eq_true rfl) rfl dX12_init_45 (fun H locs w => ?_)
  refine lv_aload_n hx hb dX12_init_48 rfl (lv_at hl 0 rfl) ?_
  refine lv_bipush (v := 34) hx hb dX12_init_49 (by decide) ?_
  refine r_newai (N := 34) (ce := 6) (sl := 2286) (ws' := fun q6 => [(a0, .inr (11, [.int 0, .ref q1, .int 0, .int 0, .int 0, .int 0, .int 0, .int 0, .int 0, .int 0, .int 0, .int 0, .long 0, .int 0, .ref q2, .ref q3, .ref q4, .ref q5, .null, .null, .null, .null, .null, .null, .int 0, .null, .null, .null, .null, .int 0, .int 0, .int 0, .null, .int 0, .int 0, .null, .null, .int 0, .null, .int 0, .int 0, .null, .null, .int 0, .int 0, .null, .int 0, .int 0, .int 0, .int 0])), (q1, .inl (T 0, 940, .inl (fun _ => 0))), (q2, .inl (T 0, 329, .inl (fun _ => 0))), (q3, .inl (T 0, 53, .inl (fun _ => 0))), (q4, .inl (T 0, 658, .inl (fun _ => 0))), (q5, .inl (T 0, 272, .inl (fun _ => 0))), (q6, .inl (T 0, 34, .inl (fun _ => 0)))]) M w G208 (by decide) (by decide +kernel) (by decide) rfl rfl (by decide) (by decide) (fun _ => rfl) dX12_init_51 (fun q6 H w => ?_)
  refine r_putF (ws' := [(a0, .inr (11, [.int 0, .ref q1, .int 0, .int 0, .int 0, .int 0, .int 0, .int 0, .int 0, .int 0, .int 0, .int 0, .long 0, .int 0, .ref q2, .ref q3, .ref q4, .ref q5, .ref q6, .null, .null, .null, .null, .null, .int 0, .null, .null, .null, .null, .int 0, .int 0, .int 0, .null, .int 0, .int 0, .null, .null, .int 0, .null, .int 0, .int 0, .null, .null, .int 0, .int 0, .null, .int 0, .int 0, .int 0, .int 0])), (q1, .inl (T 0, 940, .inl (fun _ => 0))), (q2, .inl (T 0, 329, .inl (fun _ => 0))), (q3, .inl (T 0, 53, .inl (fun _ => 0))), (q4, .inl (T 0, 658, .inl (fun _ => 0))), (q5, .inl (T 0, 272, .inl (fun _ => 0))), (q6, .inl (T 0, 34, .inl (fun _ => 0)))]) M w 0 18 clX12 rfl (by decide) G1485 rfl rfl hin rfl rfl rfl (Nat.le_of_ble_eq_true rfl) rfl dX12_init_53 (fun H locs w => ?_)
  refine lv_aload_n hx hb dX12_init_56 rfl (lv_at hl 0 rfl) ?_
  refine lv_bipush (v := 12) hx hb dX12_init_57 (by decide) ?_
  refine r_newal (N := 12) (ce := 7) (sl := 2298) (ws' := fun q7 => [(a0, .inr (11, [.int 0, .ref q1, .int 0, .int 0, .int 0, .int 0, .int 0, .int 0, .int 0, .int 0, .int 0, .int 0, .long 0, .int 0, .ref q2, .ref q3, .ref q4, .ref q5, .ref q6, .null, .null, .null, .null, .null, .int 0, .null, .null, .null, .null, .int 0, .int 0, .int 0, .null, .int 0, .int 0, .null, .null, .int 0, .null, .int 0, .int 0, .null, .null, .int 0, .int 0, .null, .int 0, .int 0, .int 0, .int 0])), (q1, .inl (T 0, 940, .inl (fun _ => 0))), (q2, .inl (T 0, 329, .inl (fun _ => 0))), (q3, .inl (T 0, 53, .inl (fun _ => 0))), (q4, .inl (T 0, 658, .inl (fun _ => 0))), (q5, .inl (T 0, 272, .inl (fun _ => 0))), (q6, .inl (T 0, 34, .inl (fun _ => 0))), (q7, .inl (T 1, 12, .inr (.inl (fun _ => 0))))]) M w G444 (by decide) (by decide +kernel) (by decide) rfl rfl (by decide) (by decide) (fun _ => rfl) dX12_init_59 (fun q7 H w => ?_)
  refine r_putF (ws' := [(a0, .inr (11, [.int 0, .ref q1, .int 0, .int 0, .int 0, .int 0, .int 0, .int 0, .int 0, .int 0, .int 0, .int 0, .long 0, .int 0, .ref q2, .ref q3, .ref q4, .ref q5, .ref q6, .ref q7, .null, .null, .null, .null, .int 0, .null, .null, .null, .null, .int 0, .int 0, .int 0, .null, .int 0, .int 0, .null, .null, .int 0, .null, .int 0, .int 0, .null, .null, .int 0, .int 0, .null, .int 0, .int 0, .int 0, .int 0])), (q1, .inl (T 0, 940, .inl (fun _ => 0))), (q2, .inl (T 0, 329, .inl (fun _ => 0))), (q3, .inl (T 0, 53, .inl (fun _ => 0))), (q4, .inl (T 0, 658, .inl (fun _ => 0))), (q5, .inl (T 0, 272, .inl (fun _ => 0))), (q6, .inl (T 0, 34, .inl (fun _ => 0))), (q7, .inl (T 1, 12, .inr (.inl (fun _ => 0))))]) M w 0 19 clX12 rfl (by decide) G1486 rfl rfl hin rfl rfl rfl (Nat.le_of_ble_eq_true rfl) rfl dX12_init_61 (fun H locs w => ?_)
  refine lv_aload_n hx hb dX12_init_64 rfl (lv_at hl 0 rfl) ?_
  refine lv_bipush (v := 12) hx hb dX12_init_65 (by decide) ?_
  refine r_newal (N := 12) (ce := 8) (sl := 2310) (ws' := fun q8 => [(a0, .inr (11, [.int 0, .ref q1, .int 0, .int 0, .int 0, .int 0, .int 0, .int 0, .int 0, .int 0, .int 0, .int 0, .long 0, .int 0, .ref q2, .ref q3, .ref q4, .ref q5, .ref q6, .ref q7, .null, .null, .null, .null, .int 0, .null, .null, .null, .null, .int 0, .int 0, .int 0, .null, .int 0, .int 0, .null, .null, .int 0, .null, .int 0, .int 0, .null, .null, .int 0, .int 0, .null, .int 0, .int 0, .int 0, .int 0])), (q1, .inl (T 0, 940, .inl (fun _ => 0))), (q2, .inl (T 0, 329, .inl (fun _ => 0))), (q3, .inl (T 0, 53, .inl (fun _ => 0))), (q4, .inl (T 0, 658, .inl (fun _ => 0))), (q5, .inl (T 0, 272, .inl (fun _ => 0))), (q6, .inl (T 0, 34, .inl (fun _ => 0))), (q7, .inl (T 1, 12, .inr (.inl (fun _ => 0)))), (q8, .inl (T 1, 12, .inr (.inl (fun _ => 0))))]) M w G444 (by decide) (by decide +kernel) (by decide) rfl rfl (by decide) (by decide) (fun _ => rfl) dX12_init_67 (fun q8 H w => ?_)
  refine r_putF (ws' := [(a0, .inr (11, [.int 0, .ref q1, .int 0, .int 0, .int 0, .int 0, .int 0, .int 0, .int 0, .int 0, .int 0, .int 0, .long 0, .int 0, .ref q2, .ref q3, .ref q4, .ref q5, .ref q6, .ref q7, .ref q8, .null, .null, .null, .int 0, .null, .null, .null, .null, .int 0, .int 0, .int 0, .null, .int 0, .int 0, .null, .null, .int 0, .null, .int 0, .int 0, .null, .null, .int 0, .int 0, .null, .int 0, .int 0, .int 0, .int 0])), (q1, .inl (T 0, 940, .inl (fun _ => 0))), (q2, .inl (T 0, 329, .inl (fun _ => 0))), (q3, .inl (T 0, 53, .inl (fun _ => 0))), (q4, .inl (T 0, 658, .inl (fun _ => 0))), (q5, .inl (T 0, 272, .inl (fun _ => 0))), (q6, .inl (T 0, 34, .inl (fun _ => 0))), (q7, .inl (T 1, 12, .inr (.inl (fun _ => 0)))), (q8, .inl (T 1, 12, .inr (.inl (fun _ => 0))))]) M w 0 20 clX12 rfl (by decide) G1487 rfl rfl hin rfl rfl rfl (Nat.le_of_ble_eq_true rfl) rfl dX12_init_69 (fun H locs w => ?_)
  refine lv_aload_n hx hb dX12_init_72 rfl (lv_at hl 0 rfl) ?_
  refine lv_bipush (v := 24) hx hb dX12_init_73 (by decide) ?_
  refine r_newal (N := 24) (ce := 9) (sl := 2334) (ws' := fun q9 => [(a0, .inr (11, [.int 0, .ref q1, .int 0, .int 0, .int 0, .int 0, .int 0, .int 0, .int 0, .int 0, .int 0, .int 0, .long 0, .int 0, .ref q2, .ref q3, .ref q4, .ref q5, .ref q6, .ref q7, .ref q8, .null, .null, .null, .int 0, .null, .null, .null, .null, .int 0, .int 0, .int 0, .null, .int 0, .int 0, .null, .null, .int 0, .null, .int 0, .int 0, .null, .null, .int 0, .int 0, .null, .int 0, .int 0, .int 0, .int 0])), (q1, .inl (T 0, 940, .inl (fun _ => 0))), (q2, .inl (T 0, 329, .inl (fun _ => 0))), (q3, .inl (T 0, 53, .inl (fun _ => 0))), (q4, .inl (T 0, 658, .inl (fun _ => 0))), (q5, .inl (T 0, 272, .inl (fun _ => 0))), (q6, .inl (T 0, 34, .inl (fun _ => 0))), (q7, .inl (T 1, 12, .inr (.inl (fun _ => 0)))), (q8, .inl (T 1, 12, .inr (.inl (fun _ => 0)))), (q9, .inl (T 1, 24, .inr (.inl (fun _ => 0))))]) M w G444 (by decide) (by decide +kernel) (by decide) rfl rfl (by decide) (by decide) (fun _ => rfl) dX12_init_75 (fun q9 H w => ?_)
  refine r_putF (ws' := [(a0, .inr (11, [.int 0, .ref q1, .int 0, .int 0, .int 0, .int 0, .int 0, .int 0, .int 0, .int 0, .int 0, .int 0, .long 0, .int 0, .ref q2, .ref q3, .ref q4, .ref q5, .ref q6, .ref q7, .ref q8, .ref q9, .null, .null, .int 0, .null, .null, .null, .null, .int 0, .int 0, .int 0, .null, .int 0, .int 0, .null, .null, .int 0, .null, .int 0, .int 0, .null, .null, .int 0, .int 0, .null, .int 0, .int 0, .int 0, .int 0])), (q1, .inl (T 0, 940, .inl (fun _ => 0))), (q2, .inl (T 0, 329, .inl (fun _ => 0))), (q3, .inl (T 0, 53, .inl (fun _ => 0))), (q4, .inl (T 0, 658, .inl (fun _ => 0))), (q5, .inl (T 0, 272, .inl (fun _ => 0))), (q6, .inl (T 0, 34, .inl (fun _ => 0))), (q7, .inl (T 1, 12, .inr (.inl (fun _ => 0)))), (q8, .inl (T 1, 12, .inr (.inl (fun _ => 0)))), (q9, .inl (T 1, 24, .inr (.inl (fun _ => 0))))]) M w 0 21 clX12 rfl (by decide) G1488 rfl rfl hin rfl rfl rfl (Nat.le_of_ble_eq_true rfl) rfl dX12_init_77 (fun H locs w => ?_)
  refine lv_aload_n hx hb dX12_init_80 rfl (lv_at hl 0 rfl) ?_
  refine lv_iconst (v := 2) hx hb dX12_init_81 (by decide) ?_
  refine r_newaz (N := 2) (ce := 10) (sl := 2336) (ws' := fun q10 => [(a0, .inr (11, [.int 0, .ref q1, .int 0, .int 0, .int 0, .int 0, .int 0, .int 0, .int 0, .int 0, .int 0, .int 0, .long 0, .int 0, .ref q2, .ref q3, .ref q4, .ref q5, .ref q6, .ref q7, .ref q8, .ref q9, .null, .null, .int 0, .null, .null, .null, .null, .int 0, .int 0, .int 0, .null, .int 0, .int 0, .null, .null, .int 0, .null, .int 0, .int 0, .null, .null, .int 0, .int 0, .null, .int 0, .int 0, .int 0, .int 0])), (q1, .inl (T 0, 940, .inl (fun _ => 0))), (q2, .inl (T 0, 329, .inl (fun _ => 0))), (q3, .inl (T 0, 53, .inl (fun _ => 0))), (q4, .inl (T 0, 658, .inl (fun _ => 0))), (q5, .inl (T 0, 272, .inl (fun _ => 0))), (q6, .inl (T 0, 34, .inl (fun _ => 0))), (q7, .inl (T 1, 12, .inr (.inl (fun _ => 0)))), (q8, .inl (T 1, 12, .inr (.inl (fun _ => 0)))), (q9, .inl (T 1, 24, .inr (.inl (fun _ => 0)))), (q10, .inl (T 2, 2, .inl (fun _ => 0)))]) M w G1618 (by decide) (by decide +kernel) (by decide) rfl rfl (by decide) (by decide) (fun _ => rfl) dX12_init_82 (fun q10 H w => ?_)
  refine r_putF (ws' := [(a0, .inr (11, [.int 0, .ref q1, .int 0, .int 0, .int 0, .int 0, .int 0, .int 0, .int 0, .int 0, .int 0, .int 0, .long 0, .int 0, .ref q2, .ref q3, .ref q4, .ref q5, .ref q6, .ref q7, .ref q8, .ref q9, .ref q10, .null, .int 0, .null, .null, .null, .null, .int 0, .int 0, .int 0, .null, .int 0, .int 0, .null, .null, .int 0, .null, .int 0, .int 0, .null, .null, .int 0, .int 0, .null, .int 0, .int 0, .int 0, .int 0])), (q1, .inl (T 0, 940, .inl (fun _ => 0))), (q2, .inl (T 0, 329, .inl (fun _ => 0))), (q3, .inl (T 0, 53, .inl (fun _ => 0))), (q4, .inl (T 0, 658, .inl (fun _ => 0))), (q5, .inl (T 0, 272, .inl (fun _ => 0))), (q6, .inl (T 0, 34, .inl (fun _ => 0))), (q7, .inl (T 1, 12, .inr (.inl (fun _ => 0)))), (q8, .inl (T 1, 12, .inr (.inl (fun _ => 0)))), (q9, .inl (T 1, 24, .inr (.inl (fun _ => 0)))), (q10, .inl (T 2, 2, .inl (fun _ => 0)))]) M w 0 22 clX12 rfl (by decide) G1489 rfl rfl hin rfl rfl rfl (Nat.le_of_ble_eq_true rfl) rfl dX12_init_84 (fun H locs w => ?_)
  refine lv_aload_n hx hb dX12_init_87 rfl (lv_at hl 0 rfl) ?_
  refine lv_iconst (v := 3) hx hb dX12_init_88 (by decide) ?_
  refine r_newaz (N := 3) (ce := 11) (sl := 2339) (ws' := fun q11 => [(a0, .inr (11, [.int 0, .ref q1, .int 0, .int 0, .int 0, .int 0, .int 0, .int 0, .int 0, .int 0, .int 0, .int 0, .long 0, .int 0, .ref q2, .ref q3, .ref q4, .ref q5, .ref q6, .ref q7, .ref q8, .ref q9, .ref q10, .null, .int 0, .null, .null, .null, .null, .int 0, .int 0, .int 0, .null, .int 0, .int 0, .null, .null, .int 0, .null, .int 0, .int 0, .null, .null, .int 0, .int 0, .null, .int 0, .int 0, .int 0, .int 0])), (q1, .inl (T 0, 940, .inl (fun _ => 0))), (q2, .inl (T 0, 329, .inl (fun _ => 0))), (q3, .inl (T 0, 53, .inl (fun _ => 0))), (q4, .inl (T 0, 658, .inl (fun _ => 0))), (q5, .inl (T 0, 272, .inl (fun _ => 0))), (q6, .inl (T 0, 34, .inl (fun _ => 0))), (q7, .inl (T 1, 12, .inr (.inl (fun _ => 0)))), (q8, .inl (T 1, 12, .inr (.inl (fun _ => 0)))), (q9, .inl (T 1, 24, .inr (.inl (fun _ => 0)))), (q10, .inl (T 2, 2, .inl (fun _ => 0))), (q11, .inl (T 2, 3, .inl (fun _ => 0)))]) M w G1618 (by decide) (by decide +kernel) (by decide) rfl rfl (by decide) (by decide) (fun _ => rfl) dX12_init_89 (fun q11 H w => ?_)
  refine r_putF (ws' := [(a0, .inr (11, [.int 0, .ref q1, .int 0, .int 0, .int 0, .int 0, .int 0, .int 0, .int 0, .int 0, .int 0, .int 0, .long 0, .int 0, .ref q2, .ref q3, .ref q4, .ref q5, .ref q6, .ref q7, .ref q8, .ref q9, .ref q10, .ref q11, .int 0, .null, .null, .null, .null, .int 0, .int 0, .int 0, .null, .int 0, .int 0, .null, .null, .int 0, .null, .int 0, .int 0, .null, .null, .int 0, .int 0, .null, .int 0, .int 0, .int 0, .int 0])), (q1, .inl (T 0, 940, .inl (fun _ => 0))), (q2, .inl (T 0, 329, .inl (fun _ => 0))), (q3, .inl (T 0, 53, .inl (fun _ => 0))), (q4, .inl (T 0, 658, .inl (fun _ => 0))), (q5, .inl (T 0, 272, .inl (fun _ => 0))), (q6, .inl (T 0, 34, .inl (fun _ => 0))), (q7, .inl (T 1, 12, .inr (.inl (fun _ => 0)))), (q8, .inl (T 1, 12, .inr (.inl (fun _ => 0)))), (q9, .inl (T 1, 24, .inr (.inl (fun _ => 0)))), (q10, .inl (T 2, 2, .inl (fun _ => 0))), (q11, .inl (T 2, 3, .inl (fun _ => 0)))]) M w 0 23 clX12 rfl (by decide) G1490 rfl rfl hin rfl rfl rfl (Nat.le_of_ble_eq_true rfl) rfl dX12_init_91 (fun H locs w => ?_)
  refine lv_aload_n hx hb dX12_init_94 rfl (lv_at hl 0 rfl) ?_
  refine lv_bipush (v := 9) hx hb dX12_init_95 (by decide) ?_
  refine r_newai (N := 9) (ce := 12) (sl := 2348) (ws' := fun q12 => [(a0, .inr (11, [.int 0, .ref q1, .int 0, .int 0, .int 0, .int 0, .int 0, .int 0, .int 0, .int 0, .int 0, .int 0, .long 0, .int 0, .ref q2, .ref q3, .ref q4, .ref q5, .ref q6, .ref q7, .ref q8, .ref q9, .ref q10, .ref q11, .int 0, .null, .null, .null, .null, .int 0, .int 0, .int 0, .null, .int 0, .int 0, .null, .null, .int 0, .null, .int 0, .int 0, .null, .null, .int 0, .int 0, .null, .int 0, .int 0, .int 0, .int 0])), (q1, .inl (T 0, 940, .inl (fun _ => 0))), (q2, .inl (T 0, 329, .inl (fun _ => 0))), (q3, .inl (T 0, 53, .inl (fun _ => 0))), (q4, .inl (T 0, 658, .inl (fun _ => 0))), (q5, .inl (T 0, 272, .inl (fun _ => 0))), (q6, .inl (T 0, 34, .inl (fun _ => 0))), (q7, .inl (T 1, 12, .inr (.inl (fun _ => 0)))), (q8, .inl (T 1, 12, .inr (.inl (fun _ => 0)))), (q9, .inl (T 1, 24, .inr (.inl (fun _ => 0)))), (q10, .inl (T 2, 2, .inl (fun _ => 0))), (q11, .inl (T 2, 3, .inl (fun _ => 0))), (q12, .inl (T 0, 9, .inl (fun _ => 0)))]) M w G208 (by decide) (by decide +kernel) (by decide) rfl rfl (by decide) (by decide) (fun _ => rfl) dX12_init_97 (fun q12 H w => ?_)
  refine r_putF (ws' := [(a0, .inr (11, [.int 0, .ref q1, .int 0, .int 0, .int 0, .int 0, .int 0, .int 0, .int 0, .int 0, .int 0, .int 0, .long 0, .int 0, .ref q2, .ref q3, .ref q4, .ref q5, .ref q6, .ref q7, .ref q8, .ref q9, .ref q10, .ref q11, .int 0, .ref q12, .null, .null, .null, .int 0, .int 0, .int 0, .null, .int 0, .int 0, .null, .null, .int 0, .null, .int 0, .int 0, .null, .null, .int 0, .int 0, .null, .int 0, .int 0, .int 0, .int 0])), (q1, .inl (T 0, 940, .inl (fun _ => 0))), (q2, .inl (T 0, 329, .inl (fun _ => 0))), (q3, .inl (T 0, 53, .inl (fun _ => 0))), (q4, .inl (T 0, 658, .inl (fun _ => 0))), (q5, .inl (T 0, 272, .inl (fun _ => 0))), (q6, .inl (T 0, 34, .inl (fun _ => 0))), (q7, .inl (T 1, 12, .inr (.inl (fun _ => 0)))), (q8, .inl (T 1, 12, .inr (.inl (fun _ => 0)))), (q9, .inl (T 1, 24, .inr (.inl (fun _ => 0)))), (q10, .inl (T 2, 2, .inl (fun _ => 0))), (q11, .inl (T 2, 3, .inl (fun _ => 0))), (q12, .inl (T 0, 9, .inl (fun _ => 0)))]) M w 0 25 clX12 rfl (by decide) G1492 rfl rfl hin rfl rfl rfl (Nat.le_of_ble_eq_true rfl) rfl dX12_init_99 (fun H locs w => ?_)
  refine lv_aload_n hx hb dX12_init_102 rfl (lv_at hl 0 rfl) ?_
  refine lv_bipush (v := 9) hx hb dX12_init_103 (by decide) ?_
  refine r_newai (N := 9) (ce := 13) (sl := 2357) (ws' := fun q13 => [(a0, .inr (11, [.int 0, .ref q1, .int 0, .int 0, .int 0, .int 0, .int 0, .int 0, .int 0, .int 0, .int 0, .int 0, .long 0, .int 0, .ref q2, .ref q3, .ref q4, .ref q5, .ref q6, .ref q7, .ref q8, .ref q9, .ref q10, .ref q11, .int 0, .ref q12, .null, .null, .null, .int 0, .int 0, .int 0, .null, .int 0, .int 0, .null, .null, .int 0, .null, .int 0, .int 0, .null, .null, .int 0, .int 0, .null, .int 0, .int 0, .int 0, .int 0])), (q1, .inl (T 0, 940, .inl (fun _ => 0))), (q2, .inl (T 0, 329, .inl (fun _ => 0))), (q3, .inl (T 0, 53, .inl (fun _ => 0))), (q4, .inl (T 0, 658, .inl (fun _ => 0))), (q5, .inl (T 0, 272, .inl (fun _ => 0))), (q6, .inl (T 0, 34, .inl (fun _ => 0))), (q7, .inl (T 1, 12, .inr (.inl (fun _ => 0)))), (q8, .inl (T 1, 12, .inr (.inl (fun _ => 0)))), (q9, .inl (T 1, 24, .inr (.inl (fun _ => 0)))), (q10, .inl (T 2, 2, .inl (fun _ => 0))), (q11, .inl (T 2, 3, .inl (fun _ => 0))), (q12, .inl (T 0, 9, .inl (fun _ => 0))), (q13, .inl (T 0, 9, .inl (fun _ => 0)))]) M w G208 (by decide) (by decide +kernel) (by decide) rfl rfl (by decide) (by decide) (fun _ => rfl) dX12_init_105 (fun q13 H w => ?_)
  refine r_putF (ws' := [(a0, .inr (11, [.int 0, .ref q1, .int 0, .int 0, .int 0, .int 0, .int 0, .int 0, .int 0, .int 0, .int 0, .int 0, .long 0, .int 0, .ref q2, .ref q3, .ref q4, .ref q5, .ref q6, .ref q7, .ref q8, .ref q9, .ref q10, .ref q11, .int 0, .ref q12, .ref q13, .null, .null, .int 0, .int 0, .int 0, .null, .int 0, .int 0, .null, .null, .int 0, .null, .int 0, .int 0, .null, .null, .int 0, .int 0, .null, .int 0, .int 0, .int 0, .int 0])), (q1, .inl (T 0, 940, .inl (fun _ => 0))), (q2, .inl (T 0, 329, .inl (fun _ => 0))), (q3, .inl (T 0, 53, .inl (fun _ => 0))), (q4, .inl (T 0, 658, .inl (fun _ => 0))), (q5, .inl (T 0, 272, .inl (fun _ => 0))), (q6, .inl (T 0, 34, .inl (fun _ => 0))), (q7, .inl (T 1, 12, .inr (.inl (fun _ => 0)))), (q8, .inl (T 1, 12, .inr (.inl (fun _ => 0)))), (q9, .inl (T 1, 24, .inr (.inl (fun _ => 0)))), (q10, .inl (T 2, 2, .inl (fun _ => 0))), (q11, .inl (T 2, 3, .inl (fun _ => 0))), (q12, .inl (T 0, 9, .inl (fun _ => 0))), (q13, .inl (T 0, 9, .inl (fun _ => 0)))]) M w 0 26 clX12 rfl (by decide) G1493 rfl rfl hin rfl rfl rfl (Nat.le_of_ble_eq_true rfl) rfl dX12_init_107 (fun H locs w => ?_)
  refine lv_aload_n hx hb dX12_init_110 rfl (lv_at hl 0 rfl) ?_
  refine lv_bipush (v := 9) hx hb dX12_init_111 (by decide) ?_
  refine r_newaz (N := 9) (ce := 14) (sl := 2366) (ws' := fun q14 => [(a0, .inr (11, [.int 0, .ref q1, .int 0, .int 0, .int 0, .int 0, .int 0, .int 0, .int 0, .int 0, .int 0, .int 0, .long 0, .int 0, .ref q2, .ref q3, .ref q4, .ref q5, .ref q6, .ref q7, .ref q8, .ref q9, .ref q10, .ref q11, .int 0, .ref q12, .ref q13, .null, .null, .int 0, .int 0, .int 0, .null, .int 0, .int 0, .null, .null, .int 0, .null, .int 0, .int 0, .null, .null, .int 0, .int 0, .null, .int 0, .int 0, .int 0, .int 0])), (q1, .inl (T 0, 940, .inl (fun _ => 0))), (q2, .inl (T 0, 329, .inl (fun _ => 0))), (q3, .inl (T 0, 53, .inl (fun _ => 0))), (q4, .inl (T 0, 658, .inl (fun _ => 0))), (q5, .inl (T 0, 272, .inl (fun _ => 0))), (q6, .inl (T 0, 34, .inl (fun _ => 0))), (q7, .inl (T 1, 12, .inr (.inl (fun _ => 0)))), (q8, .inl (T 1, 12, .inr (.inl (fun _ => 0)))), (q9, .inl (T 1, 24, .inr (.inl (fun _ => 0)))), (q10, .inl (T 2, 2, .inl (fun _ => 0))), (q11, .inl (T 2, 3, .inl (fun _ => 0))), (q12, .inl (T 0, 9, .inl (fun _ => 0))), (q13, .inl (T 0, 9, .inl (fun _ => 0))), (q14, .inl (T 2, 9, .inl (fun _ => 0)))]) M w G1618 (by decide) (by decide +kernel) (by decide) rfl rfl (by decide) (by decide) (fun _ => rfl) dX12_init_113 (fun q14 H w => ?_)
  refine r_putF (ws' := [(a0, .inr (11, [.int 0, .ref q1, .int 0, .int 0, .int 0, .int 0, .int 0, .int 0, .int 0, .int 0, .int 0, .int 0, .long 0, .int 0, .ref q2, .ref q3, .ref q4, .ref q5, .ref q6, .ref q7, .ref q8, .ref q9, .ref q10, .ref q11, .int 0, .ref q12, .ref q13, .ref q14, .null, .int 0, .int 0, .int 0, .null, .int 0, .int 0, .null, .null, .int 0, .null, .int 0, .int 0, .null, .null, .int 0, .int 0, .null, .int 0, .int 0, .int 0, .int 0])), (q1, .inl (T 0, 940, .inl (fun _ => 0))), (q2, .inl (T 0, 329, .inl (fun _ => 0))), (q3, .inl (T 0, 53, .inl (fun _ => 0))), (q4, .inl (T 0, 658, .inl (fun _ => 0))), (q5, .inl (T 0, 272, .inl (fun _ => 0))), (q6, .inl (T 0, 34, .inl (fun _ => 0))), (q7, .inl (T 1, 12, .inr (.inl (fun _ => 0)))), (q8, .inl (T 1, 12, .inr (.inl (fun _ => 0)))), (q9, .inl (T 1, 24, .inr (.inl (fun _ => 0)))), (q10, .inl (T 2, 2, .inl (fun _ => 0))), (q11, .inl (T 2, 3, .inl (fun _ => 0))), (q12, .inl (T 0, 9, .inl (fun _ => 0))), (q13, .inl (T 0, 9, .inl (fun _ => 0))), (q14, .inl (T 2, 9, .inl (fun _ => 0)))]) M w 0 27 clX12 rfl (by decide) G1494 rfl rfl hin rfl rfl rfl (Nat.le_of_ble_eq_true rfl) rfl dX12_init_115 (fun H locs w => ?_)
  refine lv_aload_n hx hb dX12_init_118 rfl (lv_at hl 0 rfl) ?_
  refine lv_bipush (v := 9) hx hb dX12_init_119 (by decide) ?_
  refine r_newaz (N := 9) (ce := 15) (sl := 2375) (ws' := fun q15 => [(a0, .inr (11, [.int 0, .ref q1, .int 0, .int 0, .int 0, .int 0, .int 0, .int 0, .int 0, .int 0, .int 0, .int 0, .long 0, .int 0, .ref q2, .ref q3, .ref q4, .ref q5, .ref q6, .ref q7, .ref q8, .ref q9, .ref q10, .ref q11, .int 0, .ref q12, .ref q13, .ref q14, .null, .int 0, .int 0, .int 0, .null, .int 0, .int 0, .null, .null, .int 0, .null, .int 0, .int 0, .null, .null, .int 0, .int 0, .null, .int 0, .int 0, .int 0, .int 0])), (q1, .inl (T 0, 940, .inl (fun _ => 0))), (q2, .inl (T 0, 329, .inl (fun _ => 0))), (q3, .inl (T 0, 53, .inl (fun _ => 0))), (q4, .inl (T 0, 658, .inl (fun _ => 0))), (q5, .inl (T 0, 272, .inl (fun _ => 0))), (q6, .inl (T 0, 34, .inl (fun _ => 0))), (q7, .inl (T 1, 12, .inr (.inl (fun _ => 0)))), (q8, .inl (T 1, 12, .inr (.inl (fun _ => 0)))), (q9, .inl (T 1, 24, .inr (.inl (fun _ => 0)))), (q10, .inl (T 2, 2, .inl (fun _ => 0))), (q11, .inl (T 2, 3, .inl (fun _ => 0))), (q12, .inl (T 0, 9, .inl (fun _ => 0))), (q13, .inl (T 0, 9, .inl (fun _ => 0))), (q14, .inl (T 2, 9, .inl (fun _ => 0))), (q15, .inl (T 2, 9, .inl (fun _ => 0)))]) M w G1618 (by decide) (by decide +kernel) (by decide) rfl rfl (by decide) (by decide) (fun _ => rfl) dX12_init_121 (fun q15 H w => ?_)
  refine r_putF (ws' := [(a0, .inr (11, [.int 0, .ref q1, .int 0, .int 0, .int 0, .int 0, .int 0, .int 0, .int 0, .int 0, .int 0, .int 0, .long 0, .int 0, .ref q2, .ref q3, .ref q4, .ref q5, .ref q6, .ref q7, .ref q8, .ref q9, .ref q10, .ref q11, .int 0, .ref q12, .ref q13, .ref q14, .ref q15, .int 0, .int 0, .int 0, .null, .int 0, .int 0, .null, .null, .int 0, .null, .int 0, .int 0, .null, .null, .int 0, .int 0, .null, .int 0, .int 0, .int 0, .int 0])), (q1, .inl (T 0, 940, .inl (fun _ => 0))), (q2, .inl (T 0, 329, .inl (fun _ => 0))), (q3, .inl (T 0, 53, .inl (fun _ => 0))), (q4, .inl (T 0, 658, .inl (fun _ => 0))), (q5, .inl (T 0, 272, .inl (fun _ => 0))), (q6, .inl (T 0, 34, .inl (fun _ => 0))), (q7, .inl (T 1, 12, .inr (.inl (fun _ => 0)))), (q8, .inl (T 1, 12, .inr (.inl (fun _ => 0)))), (q9, .inl (T 1, 24, .inr (.inl (fun _ => 0)))), (q10, .inl (T 2, 2, .inl (fun _ => 0))), (q11, .inl (T 2, 3, .inl (fun _ => 0))), (q12, .inl (T 0, 9, .inl (fun _ => 0))), (q13, .inl (T 0, 9, .inl (fun _ => 0))), (q14, .inl (T 2, 9, .inl (fun _ => 0))), (q15, .inl (T 2, 9, .inl (fun _ => 0)))]) M w 0 28 clX12 rfl (by decide) G1495 rfl rfl hin rfl rfl rfl (Nat.le_of_ble_eq_true rfl) rfl dX12_init_123 (fun H locs w => ?_)
  refine lv_aload_n hx hb dX12_init_126 rfl (lv_at hl 0 rfl) ?_
  refine lv_bipush (v := 10) hx hb dX12_init_127 (by decide) ?_
  refine r_newai (N := 10) (ce := 16) (sl := 2385) (ws' := fun q16 => [(a0, .inr (11, [.int 0, .ref q1, .int 0, .int 0, .int 0, .int 0, .int 0, .int 0, .int 0, .int 0, .int 0, .int 0, .long 0, .int 0, .ref q2, .ref q3, .ref q4, .ref q5, .ref q6, .ref q7, .ref q8, .ref q9, .ref q10, .ref q11, .int 0, .ref q12, .ref q13, .ref q14, .ref q15, .int 0, .int 0, .int 0, .null, .int 0, .int 0, .null, .null, .int 0, .null, .int 0, .int 0, .null, .null, .int 0, .int 0, .null, .int 0, .int 0, .int 0, .int 0])), (q1, .inl (T 0, 940, .inl (fun _ => 0))), (q2, .inl (T 0, 329, .inl (fun _ => 0))), (q3, .inl (T 0, 53, .inl (fun _ => 0))), (q4, .inl (T 0, 658, .inl (fun _ => 0))), (q5, .inl (T 0, 272, .inl (fun _ => 0))), (q6, .inl (T 0, 34, .inl (fun _ => 0))), (q7, .inl (T 1, 12, .inr (.inl (fun _ => 0)))), (q8, .inl (T 1, 12, .inr (.inl (fun _ => 0)))), (q9, .inl (T 1, 24, .inr (.inl (fun _ => 0)))), (q10, .inl (T 2, 2, .inl (fun _ => 0))), (q11, .inl (T 2, 3, .inl (fun _ => 0))), (q12, .inl (T 0, 9, .inl (fun _ => 0))), (q13, .inl (T 0, 9, .inl (fun _ => 0))), (q14, .inl (T 2, 9, .inl (fun _ => 0))), (q15, .inl (T 2, 9, .inl (fun _ => 0))), (q16, .inl (T 0, 10, .inl (fun _ => 0)))]) M w G208 (by decide) (by decide +kernel) (by decide) rfl rfl (by decide) (by decide) (fun _ => rfl) dX12_init_129 (fun q16 H w => ?_)
  refine r_putF (ws' := [(a0, .inr (11, [.int 0, .ref q1, .int 0, .int 0, .int 0, .int 0, .int 0, .int 0, .int 0, .int 0, .int 0, .int 0, .long 0, .int 0, .ref q2, .ref q3, .ref q4, .ref q5, .ref q6, .ref q7, .ref q8, .ref q9, .ref q10, .ref q11, .int 0, .ref q12, .ref q13, .ref q14, .ref q15, .int 0, .int 0, .int 0, .ref q16, .int 0, .int 0, .null, .null, .int 0, .null, .int 0, .int 0, .null, .null, .int 0, .int 0, .null, .int 0, .int 0, .int 0, .int 0])), (q1, .inl (T 0, 940, .inl (fun _ => 0))), (q2, .inl (T 0, 329, .inl (fun _ => 0))), (q3, .inl (T 0, 53, .inl (fun _ => 0))), (q4, .inl (T 0, 658, .inl (fun _ => 0))), (q5, .inl (T 0, 272, .inl (fun _ => 0))), (q6, .inl (T 0, 34, .inl (fun _ => 0))), (q7, .inl (T 1, 12, .inr (.inl (fun _ => 0)))), (q8, .inl (T 1, 12, .inr (.inl (fun _ => 0)))), (q9, .inl (T 1, 24, .inr (.inl (fun _ => 0)))), (q10, .inl (T 2, 2, .inl (fun _ => 0))), (q11, .inl (T 2, 3, .inl (fun _ => 0))), (q12, .inl (T 0, 9, .inl (fun _ => 0))), (q13, .inl (T 0, 9, .inl (fun _ => 0))), (q14, .inl (T 2, 9, .inl (fun _ => 0))), (q15, .inl (T 2, 9, .inl (fun _ => 0))), (q16, .inl (T 0, 10, .inl (fun _ => 0)))]) M w 0 32 clX12 rfl (by decide) G1499 rfl rfl hin rfl rfl rfl (Nat.le_of_ble_eq_true rfl) rfl dX12_init_131 (fun H locs w => ?_)
  refine lv_aload_n hx hb dX12_init_134 rfl (lv_at hl 0 rfl) ?_
  refine lv_iconst (v := (-1)) hx hb dX12_init_135 (by decide) ?_
  refine r_put (ws' := [(a0, .inr (11, [.int 0, .ref q1, .int 0, .int 0, .int 0, .int 0, .int 0, .int 0, .int 0, .int 0, .int 0, .int 0, .long 0, .int 0, .ref q2, .ref q3, .ref q4, .ref q5, .ref q6, .ref q7, .ref q8, .ref q9, .ref q10, .ref q11, .int 0, .ref q12, .ref q13, .ref q14, .ref q15, .int 0, .int 0, .int 0, .ref q16, .int (-1), .int 0, .null, .null, .int 0, .null, .int 0, .int 0, .null, .null, .int 0, .int 0, .null, .int 0, .int 0, .int 0, .int 0])), (q1, .inl (T 0, 940, .inl (fun _ => 0))), (q2, .inl (T 0, 329, .inl (fun _ => 0))), (q3, .inl (T 0, 53, .inl (fun _ => 0))), (q4, .inl (T 0, 658, .inl (fun _ => 0))), (q5, .inl (T 0, 272, .inl (fun _ => 0))), (q6, .inl (T 0, 34, .inl (fun _ => 0))), (q7, .inl (T 1, 12, .inr (.inl (fun _ => 0)))), (q8, .inl (T 1, 12, .inr (.inl (fun _ => 0)))), (q9, .inl (T 1, 24, .inr (.inl (fun _ => 0)))), (q10, .inl (T 2, 2, .inl (fun _ => 0))), (q11, .inl (T 2, 3, .inl (fun _ => 0))), (q12, .inl (T 0, 9, .inl (fun _ => 0))), (q13, .inl (T 0, 9, .inl (fun _ => 0))), (q14, .inl (T 2, 9, .inl (fun _ => 0))), (q15, .inl (T 2, 9, .inl (fun _ => 0))), (q16, .inl (T 0, 10, .inl (fun _ => 0)))]) M w 0 33 clX12 rfl (by decide) G1500 rfl rfl rfl rfl (Nat.le_of_ble_eq_true rfl) rfl dX12_init_136 (fun H locs w => ?_)
  refine lv_aload_n hx hb dX12_init_139 rfl (lv_at hl 0 rfl) ?_
  refine lv_iconst (v := (-1)) hx hb dX12_init_140 (by decide) ?_
  refine r_put (ws' := [(a0, .inr (11, [.int 0, .ref q1, .int 0, .int 0, .int 0, .int 0, .int 0, .int 0, .int 0, .int 0, .int 0, .int 0, .long 0, .int 0, .ref q2, .ref q3, .ref q4, .ref q5, .ref q6, .ref q7, .ref q8, .ref q9, .ref q10, .ref q11, .int 0, .ref q12, .ref q13, .ref q14, .ref q15, .int 0, .int 0, .int 0, .ref q16, .int (-1), .int (-1), .null, .null, .int 0, .null, .int 0, .int 0, .null, .null, .int 0, .int 0, .null, .int 0, .int 0, .int 0, .int 0])), (q1, .inl (T 0, 940, .inl (fun _ => 0))), (q2, .inl (T 0, 329, .inl (fun _ => 0))), (q3, .inl (T 0, 53, .inl (fun _ => 0))), (q4, .inl (T 0, 658, .inl (fun _ => 0))), (q5, .inl (T 0, 272, .inl (fun _ => 0))), (q6, .inl (T 0, 34, .inl (fun _ => 0))), (q7, .inl (T 1, 12, .inr (.inl (fun _ => 0)))), (q8, .inl (T 1, 12, .inr (.inl (fun _ => 0)))), (q9, .inl (T 1, 24, .inr (.inl (fun _ => 0)))), (q10, .inl (T 2, 2, .inl (fun _ => 0))), (q11, .inl (T 2, 3, .inl (fun _ => 0))), (q12, .inl (T 0, 9, .inl (fun _ => 0))), (q13, .inl (T 0, 9, .inl (fun _ => 0))), (q14, .inl (T 2, 9, .inl (fun _ => 0))), (q15, .inl (T 2, 9, .inl (fun _ => 0))), (q16, .inl (T 0, 10, .inl (fun _ => 0)))]) M w 0 34 clX12 rfl (by decide) G1501 rfl rfl rfl rfl (Nat.le_of_ble_eq_true rfl) rfl dX12_init_141 (fun H locs w => ?_)
  refine lv_aload_n hx hb dX12_init_144 rfl (lv_at hl 0 rfl) ?_
  refine lv_bipush (v := 9) hx hb dX12_init_145 (by decide) ?_
  refine r_newai (N := 9) (ce := 17) (sl := 2394) (ws' := fun q17 => [(a0, .inr (11, [.int 0, .ref q1, .int 0, .int 0, .int 0, .int 0, .int 0, .int 0, .int 0, .int 0, .int 0, .int 0, .long 0, .int 0, .ref q2, .ref q3, .ref q4, .ref q5, .ref q6, .ref q7, .ref q8, .ref q9, .ref q10, .ref q11, .int 0, .ref q12, .ref q13, .ref q14, .ref q15, .int 0, .int 0, .int 0, .ref q16, .int (-1), .int (-1), .null, .null, .int 0, .null, .int 0, .int 0, .null, .null, .int 0, .int 0, .null, .int 0, .int 0, .int 0, .int 0])), (q1, .inl (T 0, 940, .inl (fun _ => 0))), (q2, .inl (T 0, 329, .inl (fun _ => 0))), (q3, .inl (T 0, 53, .inl (fun _ => 0))), (q4, .inl (T 0, 658, .inl (fun _ => 0))), (q5, .inl (T 0, 272, .inl (fun _ => 0))), (q6, .inl (T 0, 34, .inl (fun _ => 0))), (q7, .inl (T 1, 12, .inr (.inl (fun _ => 0)))), (q8, .inl (T 1, 12, .inr (.inl (fun _ => 0)))), (q9, .inl (T 1, 24, .inr (.inl (fun _ => 0)))), (q10, .inl (T 2, 2, .inl (fun _ => 0))), (q11, .inl (T 2, 3, .inl (fun _ => 0))), (q12, .inl (T 0, 9, .inl (fun _ => 0))), (q13, .inl (T 0, 9, .inl (fun _ => 0))), (q14, .inl (T 2, 9, .inl (fun _ => 0))), (q15, .inl (T 2, 9, .inl (fun _ => 0))), (q16, .inl (T 0, 10, .inl (fun _ => 0))), (q17, .inl (T 0, 9, .inl (fun _ => 0)))]) M w G208 (by decide) (by decide +kernel) (by decide) rfl rfl (by decide) (by decide) (fun _ => rfl) dX12_init_147 (fun q17 H w => ?_)
  refine r_putF (ws' := [(a0, .inr (11, [.int 0, .ref q1, .int 0, .int 0, .int 0, .int 0, .int 0, .int 0, .int 0, .int 0, .int 0, .int 0, .long 0, .int 0, .ref q2, .ref q3, .ref q4, .ref q5, .ref q6, .ref q7, .ref q8, .ref q9, .ref q10, .ref q11, .int 0, .ref q12, .ref q13, .ref q14, .ref q15, .int 0, .int 0, .int 0, .ref q16, .int (-1), .int (-1), .ref q17, .null, .int 0, .null, .int 0, .int 0, .null, .null, .int 0, .int 0, .null, .int 0, .int 0, .int 0, .int 0])), (q1, .inl (T 0, 940, .inl (fun _ => 0))), (q2, .inl (T 0, 329, .inl (fun _ => 0))), (q3, .inl (T 0, 53, .inl (fun _ => 0))), (q4, .inl (T 0, 658, .inl (fun _ => 0))), (q5, .inl (T 0, 272, .inl (fun _ => 0))), (q6, .inl (T 0, 34, .inl (fun _ => 0))), (q7, .inl (T 1, 12, .inr (.inl (fun _ => 0)))), (q8, .inl (T 1, 12, .inr (.inl (fun _ => 0)))), (q9, .inl (T 1, 24, .inr (.inl (fun _ => 0)))), (q10, .inl (T 2, 2, .inl (fun _ => 0))), (q11, .inl (T 2, 3, .inl (fun _ => 0))), (q12, .inl (T 0, 9, .inl (fun _ => 0))), (q13, .inl (T 0, 9, .inl (fun _ => 0))), (q14, .inl (T 2, 9, .inl (fun _ => 0))), (q15, .inl (T 2, 9, .inl (fun _ => 0))), (q16, .inl (T 0, 10, .inl (fun _ => 0))), (q17, .inl (T 0, 9, .inl (fun _ => 0)))]) M w 0 35 clX12 rfl (by decide) G1502 rfl rfl hin rfl rfl rfl (Nat.le_of_ble_eq_true rfl) rfl dX12_init_149 (fun H locs w => ?_)
  refine lv_aload_n hx hb dX12_init_152 rfl (lv_at hl 0 rfl) ?_
  refine lv_bipush (v := 9) hx hb dX12_init_153 (by decide) ?_
  refine r_newai (N := 9) (ce := 18) (sl := 2403) (ws' := fun q18 => [(a0, .inr (11, [.int 0, .ref q1, .int 0, .int 0, .int 0, .int 0, .int 0, .int 0, .int 0, .int 0, .int 0, .int 0, .long 0, .int 0, .ref q2, .ref q3, .ref q4, .ref q5, .ref q6, .ref q7, .ref q8, .ref q9, .ref q10, .ref q11, .int 0, .ref q12, .ref q13, .ref q14, .ref q15, .int 0, .int 0, .int 0, .ref q16, .int (-1), .int (-1), .ref q17, .null, .int 0, .null, .int 0, .int 0, .null, .null, .int 0, .int 0, .null, .int 0, .int 0, .int 0, .int 0])), (q1, .inl (T 0, 940, .inl (fun _ => 0))), (q2, .inl (T 0, 329, .inl (fun _ => 0))), (q3, .inl (T 0, 53, .inl (fun _ => 0))), (q4, .inl (T 0, 658, .inl (fun _ => 0))), (q5, .inl (T 0, 272, .inl (fun _ => 0))), (q6, .inl (T 0, 34, .inl (fun _ => 0))), (q7, .inl (T 1, 12, .inr (.inl (fun _ => 0)))), (q8, .inl (T 1, 12, .inr (.inl (fun _ => 0)))), (q9, .inl (T 1, 24, .inr (.inl (fun _ => 0)))), (q10, .inl (T 2, 2, .inl (fun _ => 0))), (q11, .inl (T 2, 3, .inl (fun _ => 0))), (q12, .inl (T 0, 9, .inl (fun _ => 0))), (q13, .inl (T 0, 9, .inl (fun _ => 0))), (q14, .inl (T 2, 9, .inl (fun _ => 0))), (q15, .inl (T 2, 9, .inl (fun _ => 0))), (q16, .inl (T 0, 10, .inl (fun _ => 0))), (q17, .inl (T 0, 9, .inl (fun _ => 0))), (q18, .inl (T 0, 9, .inl (fun _ => 0)))]) M w G208 (by decide) (by decide +kernel) (by decide) rfl rfl (by decide) (by decide) (fun _ => rfl) dX12_init_155 (fun q18 H w => ?_)
  refine r_putF (ws' := [(a0, .inr (11, [.int 0, .ref q1, .int 0, .int 0, .int 0, .int 0, .int 0, .int 0, .int 0, .int 0, .int 0, .int 0, .long 0, .int 0, .ref q2, .ref q3, .ref q4, .ref q5, .ref q6, .ref q7, .ref q8, .ref q9, .ref q10, .ref q11, .int 0, .ref q12, .ref q13, .ref q14, .ref q15, .int 0, .int 0, .int 0, .ref q16, .int (-1), .int (-1), .ref q17, .ref q18, .int 0, .null, .int 0, .int 0, .null, .null, .int 0, .int 0, .null, .int 0, .int 0, .int 0, .int 0])), (q1, .inl (T 0, 940, .inl (fun _ => 0))), (q2, .inl (T 0, 329, .inl (fun _ => 0))), (q3, .inl (T 0, 53, .inl (fun _ => 0))), (q4, .inl (T 0, 658, .inl (fun _ => 0))), (q5, .inl (T 0, 272, .inl (fun _ => 0))), (q6, .inl (T 0, 34, .inl (fun _ => 0))), (q7, .inl (T 1, 12, .inr (.inl (fun _ => 0)))), (q8, .inl (T 1, 12, .inr (.inl (fun _ => 0)))), (q9, .inl (T 1, 24, .inr (.inl (fun _ => 0)))), (q10, .inl (T 2, 2, .inl (fun _ => 0))), (q11, .inl (T 2, 3, .inl (fun _ => 0))), (q12, .inl (T 0, 9, .inl (fun _ => 0))), (q13, .inl (T 0, 9, .inl (fun _ => 0))), (q14, .inl (T 2, 9, .inl (fun _ => 0))), (q15, .inl (T 2, 9, .inl (fun _ => 0))), (q16, .inl (T 0, 10, .inl (fun _ => 0))), (q17, .inl (T 0, 9, .inl (fun _ => 0))), (q18, .inl (T 0, 9, .inl (fun _ => 0)))]) M w 0 36 clX12 rfl (by decide) G1503 rfl rfl hin rfl rfl rfl (Nat.le_of_ble_eq_true rfl) rfl dX12_init_157 (fun H locs w => ?_)
  refine lv_aload_n hx hb dX12_init_160 rfl (lv_at hl 0 rfl) ?_
  refine lv_bipush (v := 64) hx hb dX12_init_161 (by decide) ?_
  refine r_newai (N := 64) (ce := 19) (sl := 2467) (ws' := fun q19 => [(a0, .inr (11, [.int 0, .ref q1, .int 0, .int 0, .int 0, .int 0, .int 0, .int 0, .int 0, .int 0, .int 0, .int 0, .long 0, .int 0, .ref q2, .ref q3, .ref q4, .ref q5, .ref q6, .ref q7, .ref q8, .ref q9, .ref q10, .ref q11, .int 0, .ref q12, .ref q13, .ref q14, .ref q15, .int 0, .int 0, .int 0, .ref q16, .int (-1), .int (-1), .ref q17, .ref q18, .int 0, .null, .int 0, .int 0, .null, .null, .int 0, .int 0, .null, .int 0, .int 0, .int 0, .int 0])), (q1, .inl (T 0, 940, .inl (fun _ => 0))), (q2, .inl (T 0, 329, .inl (fun _ => 0))), (q3, .inl (T 0, 53, .inl (fun _ => 0))), (q4, .inl (T 0, 658, .inl (fun _ => 0))), (q5, .inl (T 0, 272, .inl (fun _ => 0))), (q6, .inl (T 0, 34, .inl (fun _ => 0))), (q7, .inl (T 1, 12, .inr (.inl (fun _ => 0)))), (q8, .inl (T 1, 12, .inr (.inl (fun _ => 0)))), (q9, .inl (T 1, 24, .inr (.inl (fun _ => 0)))), (q10, .inl (T 2, 2, .inl (fun _ => 0))), (q11, .inl (T 2, 3, .inl (fun _ => 0))), (q12, .inl (T 0, 9, .inl (fun _ => 0))), (q13, .inl (T 0, 9, .inl (fun _ => 0))), (q14, .inl (T 2, 9, .inl (fun _ => 0))), (q15, .inl (T 2, 9, .inl (fun _ => 0))), (q16, .inl (T 0, 10, .inl (fun _ => 0))), (q17, .inl (T 0, 9, .inl (fun _ => 0))), (q18, .inl (T 0, 9, .inl (fun _ => 0))), (q19, .inl (T 0, 64, .inl (fun _ => 0)))]) M w G208 (by decide) (by decide +kernel) (by decide) rfl rfl (by decide) (by decide) (fun _ => rfl) dX12_init_163 (fun q19 H w => ?_)
  refine r_putF (ws' := [(a0, .inr (11, [.int 0, .ref q1, .int 0, .int 0, .int 0, .int 0, .int 0, .int 0, .int 0, .int 0, .int 0, .int 0, .long 0, .int 0, .ref q2, .ref q3, .ref q4, .ref q5, .ref q6, .ref q7, .ref q8, .ref q9, .ref q10, .ref q11, .int 0, .ref q12, .ref q13, .ref q14, .ref q15, .int 0, .int 0, .int 0, .ref q16, .int (-1), .int (-1), .ref q17, .ref q18, .int 0, .ref q19, .int 0, .int 0, .null, .null, .int 0, .int 0, .null, .int 0, .int 0, .int 0, .int 0])), (q1, .inl (T 0, 940, .inl (fun _ => 0))), (q2, .inl (T 0, 329, .inl (fun _ => 0))), (q3, .inl (T 0, 53, .inl (fun _ => 0))), (q4, .inl (T 0, 658, .inl (fun _ => 0))), (q5, .inl (T 0, 272, .inl (fun _ => 0))), (q6, .inl (T 0, 34, .inl (fun _ => 0))), (q7, .inl (T 1, 12, .inr (.inl (fun _ => 0)))), (q8, .inl (T 1, 12, .inr (.inl (fun _ => 0)))), (q9, .inl (T 1, 24, .inr (.inl (fun _ => 0)))), (q10, .inl (T 2, 2, .inl (fun _ => 0))), (q11, .inl (T 2, 3, .inl (fun _ => 0))), (q12, .inl (T 0, 9, .inl (fun _ => 0))), (q13, .inl (T 0, 9, .inl (fun _ => 0))), (q14, .inl (T 2, 9, .inl (fun _ => 0))), (q15, .inl (T 2, 9, .inl (fun _ => 0))), (q16, .inl (T 0, 10, .inl (fun _ => 0))), (q17, .inl (T 0, 9, .inl (fun _ => 0))), (q18, .inl (T 0, 9, .inl (fun _ => 0))), (q19, .inl (T 0, 64, .inl (fun _ => 0)))]) M w 0 38 clX12 rfl (by decide) G1505 rfl rfl hin rfl rfl rfl (Nat.le_of_ble_eq_true rfl) rfl dX12_init_165 (fun H locs w => ?_)
  refine lv_aload_n hx hb dX12_init_168 rfl (lv_at hl 0 rfl) ?_
  refine lv_sipush (v := 160) hx hb dX12_init_169 (by decide) ?_
  refine r_newai (N := 160) (ce := 20) (sl := 2627) (ws' := fun q20 => [(a0, .inr (11, [.int 0, .ref q1, .int 0, .int 0, .int 0, .int 0, .int 0, .int 0, .int 0, .int 0, .int 0, .int 0, .long 0, .int 0, .ref q2, .ref q3, .ref q4, .ref q5, .ref q6, .ref q7, .ref q8, .ref q9, .ref q10, .ref q11, .int 0, .ref q12, .ref q13, .ref q14, .ref q15, .int 0, .int 0, .int 0, .ref q16, .int (-1), .int (-1), .ref q17, .ref q18, .int 0, .ref q19, .int 0, .int 0, .null, .null, .int 0, .int 0, .null, .int 0, .int 0, .int 0, .int 0])), (q1, .inl (T 0, 940, .inl (fun _ => 0))), (q2, .inl (T 0, 329, .inl (fun _ => 0))), (q3, .inl (T 0, 53, .inl (fun _ => 0))), (q4, .inl (T 0, 658, .inl (fun _ => 0))), (q5, .inl (T 0, 272, .inl (fun _ => 0))), (q6, .inl (T 0, 34, .inl (fun _ => 0))), (q7, .inl (T 1, 12, .inr (.inl (fun _ => 0)))), (q8, .inl (T 1, 12, .inr (.inl (fun _ => 0)))), (q9, .inl (T 1, 24, .inr (.inl (fun _ => 0)))), (q10, .inl (T 2, 2, .inl (fun _ => 0))), (q11, .inl (T 2, 3, .inl (fun _ => 0))), (q12, .inl (T 0, 9, .inl (fun _ => 0))), (q13, .inl (T 0, 9, .inl (fun _ => 0))), (q14, .inl (T 2, 9, .inl (fun _ => 0))), (q15, .inl (T 2, 9, .inl (fun _ => 0))), (q16, .inl (T 0, 10, .inl (fun _ => 0))), (q17, .inl (T 0, 9, .inl (fun _ => 0))), (q18, .inl (T 0, 9, .inl (fun _ => 0))), (q19, .inl (T 0, 64, .inl (fun _ => 0))), (q20, .inl (T 0, 160, .inl (fun _ => 0)))]) M w G208 (by decide) (by decide +kernel) (by decide) rfl rfl (by decide) (by decide) (fun _ => rfl) dX12_init_172 (fun q20 H w => ?_)
  refine r_putF (ws' := [(a0, .inr (11, [.int 0, .ref q1, .int 0, .int 0, .int 0, .int 0, .int 0, .int 0, .int 0, .int 0, .int 0, .int 0, .long 0, .int 0, .ref q2, .ref q3, .ref q4, .ref q5, .ref q6, .ref q7, .ref q8, .ref q9, .ref q10, .ref q11, .int 0, .ref q12, .ref q13, .ref q14, .ref q15, .int 0, .int 0, .int 0, .ref q16, .int (-1), .int (-1), .ref q17, .ref q18, .int 0, .ref q19, .int 0, .int 0, .ref q20, .null, .int 0, .int 0, .null, .int 0, .int 0, .int 0, .int 0])), (q1, .inl (T 0, 940, .inl (fun _ => 0))), (q2, .inl (T 0, 329, .inl (fun _ => 0))), (q3, .inl (T 0, 53, .inl (fun _ => 0))), (q4, .inl (T 0, 658, .inl (fun _ => 0))), (q5, .inl (T 0, 272, .inl (fun _ => 0))), (q6, .inl (T 0, 34, .inl (fun _ => 0))), (q7, .inl (T 1, 12, .inr (.inl (fun _ => 0)))), (q8, .inl (T 1, 12, .inr (.inl (fun _ => 0)))), (q9, .inl (T 1, 24, .inr (.inl (fun _ => 0)))), (q10, .inl (T 2, 2, .inl (fun _ => 0))), (q11, .inl (T 2, 3, .inl (fun _ => 0))), (q12, .inl (T 0, 9, .inl (fun _ => 0))), (q13, .inl (T 0, 9, .inl (fun _ => 0))), (q14, .inl (T 2, 9, .inl (fun _ => 0))), (q15, .inl (T 2, 9, .inl (fun _ => 0))), (q16, .inl (T 0, 10, .inl (fun _ => 0))), (q17, .inl (T 0, 9, .inl (fun _ => 0))), (q18, .inl (T 0, 9, .inl (fun _ => 0))), (q19, .inl (T 0, 64, .inl (fun _ => 0))), (q20, .inl (T 0, 160, .inl (fun _ => 0)))]) M w 0 41 clX12 rfl (by decide) G1508 rfl rfl hin rfl rfl rfl (Nat.le_of_ble_eq_true rfl) rfl dX12_init_174 (fun H locs w => ?_)
  refine lv_aload_n hx hb dX12_init_177 rfl (lv_at hl 0 rfl) ?_
  refine lv_iconst (v := 4) hx hb dX12_init_178 (by decide) ?_
  refine r_newai (N := 4) (ce := 21) (sl := 2631) (ws' := fun q21 => [(a0, .inr (11, [.int 0, .ref q1, .int 0, .int 0, .int 0, .int 0, .int 0, .int 0, .int 0, .int 0, .int 0, .int 0, .long 0, .int 0, .ref q2, .ref q3, .ref q4, .ref q5, .ref q6, .ref q7, .ref q8, .ref q9, .ref q10, .ref q11, .int 0, .ref q12, .ref q13, .ref q14, .ref q15, .int 0, .int 0, .int 0, .ref q16, .int (-1), .int (-1), .ref q17, .ref q18, .int 0, .ref q19, .int 0, .int 0, .ref q20, .null, .int 0, .int 0, .null, .int 0, .int 0, .int 0, .int 0])), (q1, .inl (T 0, 940, .inl (fun _ => 0))), (q2, .inl (T 0, 329, .inl (fun _ => 0))), (q3, .inl (T 0, 53, .inl (fun _ => 0))), (q4, .inl (T 0, 658, .inl (fun _ => 0))), (q5, .inl (T 0, 272, .inl (fun _ => 0))), (q6, .inl (T 0, 34, .inl (fun _ => 0))), (q7, .inl (T 1, 12, .inr (.inl (fun _ => 0)))), (q8, .inl (T 1, 12, .inr (.inl (fun _ => 0)))), (q9, .inl (T 1, 24, .inr (.inl (fun _ => 0)))), (q10, .inl (T 2, 2, .inl (fun _ => 0))), (q11, .inl (T 2, 3, .inl (fun _ => 0))), (q12, .inl (T 0, 9, .inl (fun _ => 0))), (q13, .inl (T 0, 9, .inl (fun _ => 0))), (q14, .inl (T 2, 9, .inl (fun _ => 0))), (q15, .inl (T 2, 9, .inl (fun _ => 0))), (q16, .inl (T 0, 10, .inl (fun _ => 0))), (q17, .inl (T 0, 9, .inl (fun _ => 0))), (q18, .inl (T 0, 9, .inl (fun _ => 0))), (q19, .inl (T 0, 64, .inl (fun _ => 0))), (q20, .inl (T 0, 160, .inl (fun _ => 0))), (q21, .inl (T 0, 4, .inl (fun _ => 0)))]) M w G208 (by decide) (by decide +kernel) (by decide) rfl rfl (by decide) (by decide) (fun _ => rfl) dX12_init_179 (fun q21 H w => ?_)
  refine r_putF (ws' := [(a0, .inr (11, [.int 0, .ref q1, .int 0, .int 0, .int 0, .int 0, .int 0, .int 0, .int 0, .int 0, .int 0, .int 0, .long 0, .int 0, .ref q2, .ref q3, .ref q4, .ref q5, .ref q6, .ref q7, .ref q8, .ref q9, .ref q10, .ref q11, .int 0, .ref q12, .ref q13, .ref q14, .ref q15, .int 0, .int 0, .int 0, .ref q16, .int (-1), .int (-1), .ref q17, .ref q18, .int 0, .ref q19, .int 0, .int 0, .ref q20, .ref q21, .int 0, .int 0, .null, .int 0, .int 0, .int 0, .int 0])), (q1, .inl (T 0, 940, .inl (fun _ => 0))), (q2, .inl (T 0, 329, .inl (fun _ => 0))), (q3, .inl (T 0, 53, .inl (fun _ => 0))), (q4, .inl (T 0, 658, .inl (fun _ => 0))), (q5, .inl (T 0, 272, .inl (fun _ => 0))), (q6, .inl (T 0, 34, .inl (fun _ => 0))), (q7, .inl (T 1, 12, .inr (.inl (fun _ => 0)))), (q8, .inl (T 1, 12, .inr (.inl (fun _ => 0)))), (q9, .inl (T 1, 24, .inr (.inl (fun _ => 0)))), (q10, .inl (T 2, 2, .inl (fun _ => 0))), (q11, .inl (T 2, 3, .inl (fun _ => 0))), (q12, .inl (T 0, 9, .inl (fun _ => 0))), (q13, .inl (T 0, 9, .inl (fun _ => 0))), (q14, .inl (T 2, 9, .inl (fun _ => 0))), (q15, .inl (T 2, 9, .inl (fun _ => 0))), (q16, .inl (T 0, 10, .inl (fun _ => 0))), (q17, .inl (T 0, 9, .inl (fun _ => 0))), (q18, .inl (T 0, 9, .inl (fun _ => 0))), (q19, .inl (T 0, 64, .inl (fun _ => 0))), (q20, .inl (T 0, 160, .inl (fun _ => 0))), (q21, .inl (T 0, 4, .inl (fun _ => 0)))]) M w 0 42 clX12 rfl (by decide) G1509 rfl rfl hin rfl rfl rfl (Nat.le_of_ble_eq_true rfl) rfl dX12_init_181 (fun H locs w => ?_)
  refine lv_aload_n hx hb dX12_init_184 rfl (lv_at hl 0 rfl) ?_
  refine lv_sipush (v := 240) hx hb dX12_init_185 (by decide) ?_
  refine r_newai (N := 240) (ce := 22) (sl := 2871) (ws' := fun q22 => [(a0, .inr (11, [.int 0, .ref q1, .int 0, .int 0, .int 0, .int 0, .int 0, .int 0, .int 0, .int 0, .int 0, .int 0, .long 0, .int 0, .ref q2, .ref q3, .ref q4, .ref q5, .ref q6, .ref q7, .ref q8, .ref q9, .ref q10, .ref q11, .int 0, .ref q12, .ref q13, .ref q14, .ref q15, .int 0, .int 0, .int 0, .ref q16, .int (-1), .int (-1), .ref q17, .ref q18, .int 0, .ref q19, .int 0, .int 0, .ref q20, .ref q21, .int 0, .int 0, .null, .int 0, .int 0, .int 0, .int 0])), (q1, .inl (T 0, 940, .inl (fun _ => 0))), (q2, .inl (T 0, 329, .inl (fun _ => 0))), (q3, .inl (T 0, 53, .inl (fun _ => 0))), (q4, .inl (T 0, 658, .inl (fun _ => 0))), (q5, .inl (T 0, 272, .inl (fun _ => 0))), (q6, .inl (T 0, 34, .inl (fun _ => 0))), (q7, .inl (T 1, 12, .inr (.inl (fun _ => 0)))), (q8, .inl (T 1, 12, .inr (.inl (fun _ => 0)))), (q9, .inl (T 1, 24, .inr (.inl (fun _ => 0)))), (q10, .inl (T 2, 2, .inl (fun _ => 0))), (q11, .inl (T 2, 3, .inl (fun _ => 0))), (q12, .inl (T 0, 9, .inl (fun _ => 0))), (q13, .inl (T 0, 9, .inl (fun _ => 0))), (q14, .inl (T 2, 9, .inl (fun _ => 0))), (q15, .inl (T 2, 9, .inl (fun _ => 0))), (q16, .inl (T 0, 10, .inl (fun _ => 0))), (q17, .inl (T 0, 9, .inl (fun _ => 0))), (q18, .inl (T 0, 9, .inl (fun _ => 0))), (q19, .inl (T 0, 64, .inl (fun _ => 0))), (q20, .inl (T 0, 160, .inl (fun _ => 0))), (q21, .inl (T 0, 4, .inl (fun _ => 0))), (q22, .inl (T 0, 240, .inl (fun _ => 0)))]) M w G208 (by decide) (by decide +kernel) (by decide) rfl rfl (by decide) (by decide) (fun _ => rfl) dX12_init_188 (fun q22 H w => ?_)
  refine r_putF (ws' := [(a0, .inr (11, [.int 0, .ref q1, .int 0, .int 0, .int 0, .int 0, .int 0, .int 0, .int 0, .int 0, .int 0, .int 0, .long 0, .int 0, .ref q2, .ref q3, .ref q4, .ref q5, .ref q6, .ref q7, .ref q8, .ref q9, .ref q10, .ref q11, .int 0, .ref q12, .ref q13, .ref q14, .ref q15, .int 0, .int 0, .int 0, .ref q16, .int (-1), .int (-1), .ref q17, .ref q18, .int 0, .ref q19, .int 0, .int 0, .ref q20, .ref q21, .int 0, .int 0, .ref q22, .int 0, .int 0, .int 0, .int 0])), (q1, .inl (T 0, 940, .inl (fun _ => 0))), (q2, .inl (T 0, 329, .inl (fun _ => 0))), (q3, .inl (T 0, 53, .inl (fun _ => 0))), (q4, .inl (T 0, 658, .inl (fun _ => 0))), (q5, .inl (T 0, 272, .inl (fun _ => 0))), (q6, .inl (T 0, 34, .inl (fun _ => 0))), (q7, .inl (T 1, 12, .inr (.inl (fun _ => 0)))), (q8, .inl (T 1, 12, .inr (.inl (fun _ => 0)))), (q9, .inl (T 1, 24, .inr (.inl (fun _ => 0)))), (q10, .inl (T 2, 2, .inl (fun _ => 0))), (q11, .inl (T 2, 3, .inl (fun _ => 0))), (q12, .inl (T 0, 9, .inl (fun _ => 0))), (q13, .inl (T 0, 9, .inl (fun _ => 0))), (q14, .inl (T 2, 9, .inl (fun _ => 0))), (q15, .inl (T 2, 9, .inl (fun _ => 0))), (q16, .inl (T 0, 10, .inl (fun _ => 0))), (q17, .inl (T 0, 9, .inl (fun _ => 0))), (q18, .inl (T 0, 9, .inl (fun _ => 0))), (q19, .inl (T 0, 64, .inl (fun _ => 0))), (q20, .inl (T 0, 160, .inl (fun _ => 0))), (q21, .inl (T 0, 4, .inl (fun _ => 0))), (q22, .inl (T 0, 240, .inl (fun _ => 0)))]) M w 0 45 clX12 rfl (by decide) G1512 rfl rfl hin rfl rfl rfl (Nat.le_of_ble_eq_true rfl) rfl dX12_init_190 (fun H locs w => ?_)
  refine lv_aload_n hx hb dX12_init_193 rfl (lv_at hl 0 rfl) ?_
  refine k_V (ce := 22) (sl := 2871) (rest := []) (wr := [(q1, .inl (T 0, 940, .inl (fun _ => 0))), (q2, .inl (T 0, 329, .inl (fun _ => 0))), (q4, .inl (T 0, 658, .inl (fun _ => 0))), (q5, .inl (T 0, 272, .inl (fun _ => 0))), (q6, .inl (T 0, 34, .inl (fun _ => 0))), (q7, .inl (T 1, 12, .inr (.inl (fun _ => 0)))), (q8, .inl (T 1, 12, .inr (.inl (fun _ => 0)))), (q9, .inl (T 1, 24, .inr (.inl (fun _ => 0)))), (q10, .inl (T 2, 2, .inl (fun _ => 0))), (q12, .inl (T 0, 9, .inl (fun _ => 0))), (q13, .inl (T 0, 9, .inl (fun _ => 0))), (q14, .inl (T 2, 9, .inl (fun _ => 0))), (q15, .inl (T 2, 9, .inl (fun _ => 0))), (q16, .inl (T 0, 10, .inl (fun _ => 0))), (q17, .inl (T 0, 9, .inl (fun _ => 0))), (q18, .inl (T 0, 9, .inl (fun _ => 0))), (q19, .inl (T 0, 64, .inl (fun _ => 0))), (q20, .inl (T 0, 160, .inl (fun _ => 0))), (q21, .inl (T 0, 4, .inl (fun _ => 0))), (q22, .inl (T 0, 240, .inl (fun _ => 0)))]) (r_V (f := 0) [0, 3, 11] M w V_HookedCityModel_169 G1461 G45 (c13_X12_startRead l D T _ a0 q1 q2 q3 q4 q5 q6 q7 q8 q9 q10 q11 q12 q13 q14 q15 q16 q17 q18 q19 q20 q21 q22) 0 clX12 rfl rfl (by decide) rfl hl.1 rfl (Nat.le_of_ble_eq_true rfl) dX12_init_194 (by decide) (by decide) (by decide) (by decide)) w [0, 3, 11] [1, 2, 4, 5, 6, 7, 8, 9, 10, 12, 13, 14, 15, 16, 17, 18, 19, 20, 21, 22] rfl rfl (by decide) (by decide) rfl rfl (fun _ H locs hp w => ?_)
  have w : WD D A s.heap [(q1, .inl (T 0, 940, .inl (fun _ => 0))), (q2, .inl (T 0, 329, .inl (fun _ => 0))), (q4, .inl (T 0, 658, .inl (fun _ => 0))), (q5, .inl (T 0, 272, .inl (fun _ => 0))), (q6, .inl (T 0, 34, .inl (fun _ => 0))), (q7, .inl (T 1, 12, .inr (.inl (fun _ => 0)))), (q8, .inl (T 1, 12, .inr (.inl (fun _ => 0)))), (q9, .inl (T 1, 24, .inr (.inl (fun _ => 0)))), (q10, .inl (T 2, 2, .inl (fun _ => 0))), (q12, .inl (T 0, 9, .inl (fun _ => 0))), (q13, .inl (T 0, 9, .inl (fun _ => 0))), (q14, .inl (T 2, 9, .inl (fun _ => 0))), (q15, .inl (T 2, 9, .inl (fun _ => 0))), (q16, .inl (T 0, 10, .inl (fun _ => 0))), (q17, .inl (T 0, 9, .inl (fun _ => 0))), (q18, .inl (T 0, 9, .inl (fun _ => 0))), (q19, .inl (T 0, 64, .inl (fun _ => 0))), (q20, .inl (T 0, 160, .inl (fun _ => 0))), (q21, .inl (T 0, 4, .inl (fun _ => 0))), (q22, .inl (T 0, 240, .inl (fun _ => 0))), (a0, .inr (11, [.int 0, .ref q1, .int 0, .int 0, .int 0, .int 0, .int 0, .int 0, .int 0, .int 0, .int 0, .int 0, .long 0, .int 0, .ref q2, .ref q3, .ref q4, .ref q5, .ref q6, .ref q7, .ref q8, .ref q9, .ref q10, .ref q11, .int 0, .ref q12, .ref q13, .ref q14, .ref q15, .int 0, .int 0, .int 0, .ref q16, .int (-1), .int (-1), .ref q17, .ref q18, .int 0, .ref q19, .int 0, .int 0, .ref q20, .ref q21, .int 0, .int 0, .ref q22, .int 0, .int 0, .int 0, .int 0])), (q3, .inl (T 0, 53, .inl cn13)), (q11, .inl (T 2, 3, .inl cn9))] H locs := w
  refine lv_iconst (v := 0) hx hb dX12_init_197 (by decide) ?_
  refine lv_istore_n (lv' := [(1, .int 0), (0, .ref a0)]) hx hb dX12_init_198 rfl hl (by decide) rfl (fun ls hl => ?_)
  have w : WD D A s.heap [(q1, .inl (T 0, 940, .inl (fun _ => 0))), (q2, .inl (T 0, 329, .inl (shc 0 0 0 0 cn13 (fun _ => 0)))), (q4, .inl (T 0, 658, .inl (fun _ => 0))), (q5, .inl (T 0, 272, .inl (fun _ => 0))), (q6, .inl (T 0, 34, .inl (fun _ => 0))), (q7, .inl (T 1, 12, .inr (.inl (fun _ => 0)))), (q8, .inl (T 1, 12, .inr (.inl (fun _ => 0)))), (q9, .inl (T 1, 24, .inr (.inl (fun _ => 0)))), (q10, .inl (T 2, 2, .inl (fun _ => 0))), (q12, .inl (T 0, 9, .inl (fun _ => 0))), (q13, .inl (T 0, 9, .inl (fun _ => 0))), (q14, .inl (T 2, 9, .inl (fun _ => 0))), (q15, .inl (T 2, 9, .inl (fun _ => 0))), (q16, .inl (T 0, 10, .inl (fun _ => 0))), (q17, .inl (T 0, 9, .inl (fun _ => 0))), (q18, .inl (T 0, 9, .inl (fun _ => 0))), (q19, .inl (T 0, 64, .inl (fun _ => 0))), (q20, .inl (T 0, 160, .inl (fun _ => 0))), (q21, .inl (T 0, 4, .inl (fun _ => 0))), (q22, .inl (T 0, 240, .inl (fun _ => 0))), (a0, .inr (11, [.int 0, .ref q1, .int 0, .int 0, .int 0, .int 0, .int 0, .int 0, .int 0, .int 0, .int 0, .int 0, .long 0, .int 0, .ref q2, .ref q3, .ref q4, .ref q5, .ref q6, .ref q7, .ref q8, .ref q9, .ref q10, .ref q11, .int 0, .ref q12, .ref q13, .ref q14, .ref q15, .int 0, .int 0, .int 0, .ref q16, .int (-1), .int (-1), .ref q17, .ref q18, .int 0, .ref q19, .int 0, .int 0, .ref q20, .ref q21, .int 0, .int 0, .ref q22, .int 0, .int 0, .int 0, .int 0])), (q3, .inl (T 0, 53, .inl cn13)), (q11, .inl (T 2, 3, .inl cn9))] _ _ := w.to (by simp only [shc_0])
  have loop : ∀ (k i : Nat) (H : Heap) (locs : List Loc) (ls : Array Slot), 0 ≤ i → i ≤ 53 → 53 < i + k → WD D A s.heap [(q1, .inl (T 0, 940, .inl (fun _ => 0))), (q2, .inl (T 0, 329, .inl (shc 0 i 0 0 cn13 (fun _ => 0)))), (q4, .inl (T 0, 658, .inl (fun _ => 0))), (q5, .inl (T 0, 272, .inl (fun _ => 0))), (q6, .inl (T 0, 34, .inl (fun _ => 0))), (q7, .inl (T 1, 12, .inr (.inl (fun _ => 0)))), (q8, .inl (T 1, 12, .inr (.inl (fun _ => 0)))), (q9, .inl (T 1, 24, .inr (.inl (fun _ => 0)))), (q10, .inl (T 2, 2, .inl (fun _ => 0))), (q12, .inl (T 0, 9, .inl (fun _ => 0))), (q13, .inl (T 0, 9, .inl (fun _ => 0))), (q14, .inl (T 2, 9, .inl (fun _ => 0))), (q15, .inl (T 2, 9, .inl (fun _ => 0))), (q16, .inl (T 0, 10, .inl (fun _ => 0))), (q17, .inl (T 0, 9, .inl (fun _ => 0))), (q18, .inl (T 0, 9, .inl (fun _ => 0))), (q19, .inl (T 0, 64, .inl (fun _ => 0))), (q20, .inl (T 0, 160, .inl (fun _ => 0))), (q21, .inl (T 0, 4, .inl (fun _ => 0))), (q22, .inl (T 0, 240, .inl (fun _ => 0))), (a0, .inr (11, [.int 0, .ref q1, .int 0, .int 0, .int 0, .int 0, .int 0, .int 0, .int 0, .int 0, .int 0, .int 0, .long 0, .int 0, .ref q2, .ref q3, .ref q4, .ref q5, .ref q6, .ref q7, .ref q8, .ref q9, .ref q10, .ref q11, .int 0, .ref q12, .ref q13, .ref q14, .ref q15, .int 0, .int 0, .int 0, .ref q16, .int (-1), .int (-1), .ref q17, .ref q18, .int 0, .ref q19, .int 0, .int 0, .ref q20, .ref q21, .int 0, .int 0, .ref q22, .int 0, .int 0, .int 0, .int 0])), (q3, .inl (T 0, 53, .inl cn13)), (q11, .inl (T 2, 3, .inl cn9))] H locs → lv_has ls 2 [(1, .int (nI i)), (0, .ref a0)] → W p l e (Rm 1 22 2871) s m args below meth c H locs 22 2871 Q (F0 m 199 ls []) := by
    intro k
    induction k with
    | zero => intro i H locs ls h0 h1 h2; exact absurd h2 (by omega)
    | succ k ih =>
      intro i H locs ls hi0 hi1 hi2 w hl
      refine lv_iload_n hx hb dX12_init_199 rfl (lv_at hl 0 rfl) ?_
      refine lv_bipush (v := 53) hx hb dX12_init_200 (by decide) ?_
      refine lv_icmp_ge (tgt := 223) hx hb dX12_init_202 (by decide) (fun c_23 => ?_) (fun c_23 => ?_)
      · have hi2 : 53 ≤ i := ix_exit (n := 53) (by decide) (by omega) (by decide) c_23
        obtain rfl : i = 53 := by omega
        have w : WD D A s.heap [(q1, .inl (T 0, 940, .inl (fun _ => 0))), (q2, .inl (T 0, 329, .inl cn15)), (q4, .inl (T 0, 658, .inl (fun _ => 0))), (q5, .inl (T 0, 272, .inl (fun _ => 0))), (q6, .inl (T 0, 34, .inl (fun _ => 0))), (q7, .inl (T 1, 12, .inr (.inl (fun _ => 0)))), (q8, .inl (T 1, 12, .inr (.inl (fun _ => 0)))), (q9, .inl (T 1, 24, .inr (.inl (fun _ => 0)))), (q10, .inl (T 2, 2, .inl (fun _ => 0))), (q12, .inl (T 0, 9, .inl (fun _ => 0))), (q13, .inl (T 0, 9, .inl (fun _ => 0))), (q14, .inl (T 2, 9, .inl (fun _ => 0))), (q15, .inl (T 2, 9, .inl (fun _ => 0))), (q16, .inl (T 0, 10, .inl (fun _ => 0))), (q17, .inl (T 0, 9, .inl (fun _ => 0))), (q18, .inl (T 0, 9, .inl (fun _ => 0))), (q19, .inl (T 0, 64, .inl (fun _ => 0))), (q20, .inl (T 0, 160, .inl (fun _ => 0))), (q21, .inl (T 0, 4, .inl (fun _ => 0))), (q22, .inl (T 0, 240, .inl (fun _ => 0))), (a0, .inr (11, [.int 0, .ref q1, .int 0, .int 0, .int 0, .int 0, .int 0, .int 0, .int 0, .int 0, .int 0, .int 0, .long 0, .int 0, .ref q2, .ref q3, .ref q4, .ref q5, .ref q6, .ref q7, .ref q8, .ref q9, .ref q10, .ref q11, .int 0, .ref q12, .ref q13, .ref q14, .ref q15, .int 0, .int 0, .int 0, .ref q16, .int (-1), .int (-1), .ref q17, .ref q18, .int 0, .ref q19, .int 0, .int 0, .ref q20, .ref q21, .int 0, .int 0, .ref q22, .int 0, .int 0, .int 0, .int 0])), (q3, .inl (T 0, 53, .inl cn13)), (q11, .inl (T 2, 3, .inl cn9))] H locs := w
        have hl : lv_has ls 2 [(1, .int 53), (0, .ref a0)] := hl
        refine lv_aload_n hx hb dX12_init_223 rfl (lv_at hl 1 rfl) ?_
        refine k_V (ce := 22) (sl := 2871) (rest := []) (wr := [(q1, .inl (T 0, 940, .inl (fun _ => 0))), (q4, .inl (T 0, 658, .inl (fun _ => 0))), (q5, .inl (T 0, 272, .inl (fun _ => 0))), (q6, .inl (T 0, 34, .inl (fun _ => 0))), (q7, .inl (T 1, 12, .inr (.inl (fun _ => 0)))), (q8, .inl (T 1, 12, .inr (.inl (fun _ => 0)))), (q9, .inl (T 1, 24, .inr (.inl (fun _ => 0)))), (q10, .inl (T 2, 2, .inl (fun _ => 0))), (q12, .inl (T 0, 9, .inl (fun _ => 0))), (q13, .inl (T 0, 9, .inl (fun _ => 0))), (q14, .inl (T 2, 9, .inl (fun _ => 0))), (q15, .inl (T 2, 9, .inl (fun _ => 0))), (q16, .inl (T 0, 10, .inl (fun _ => 0))), (q17, .inl (T 0, 9, .inl (fun _ => 0))), (q18, .inl (T 0, 9, .inl (fun _ => 0))), (q19, .inl (T 0, 64, .inl (fun _ => 0))), (q20, .inl (T 0, 160, .inl (fun _ => 0))), (q21, .inl (T 0, 4, .inl (fun _ => 0))), (q22, .inl (T 0, 240, .inl (fun _ => 0))), (q3, .inl (T 0, 53, .inl cn13)), (q11, .inl (T 2, 3, .inl cn9))]) (r_V (f := 0) [20, 1] M w V_HookedCityModel_172 G1465 G46 (c14_X12_startSo l D T _ a0 q1 q2 q3 q4 q5 q6 q7 q8 q9 q10 q11 q12 q13 q14 q15 q16 q17 q18 q19 q20 q21 q22) 20 clX12 rfl rfl (by decide) rfl hl.1 rfl (Nat.le_of_ble_eq_true rfl) dX12_init_224 (by decide) (by decide) (by decide) (by decide)) w [20, 1] [0, 2, 3, 4, 5, 6, 7, 8, 9, 10, 11, 12, 13, 14, 15, 16, 17, 18, 19, 21, 22] rfl rfl (by decide) (by decide) rfl rfl (fun _ H locs hp w => ?_)
        have w : WD D A s.heap [(q1, .inl (T 0, 940, .inl (fun _ => 0))), (q4, .inl (T 0, 658, .inl (fun _ => 0))), (q5, .inl (T 0, 272, .inl (fun _ => 0))), (q6, .inl (T 0, 34, .inl (fun _ => 0))), (q7, .inl (T 1, 12, .inr (.inl (fun _ => 0)))), (q8, .inl (T 1, 12, .inr (.inl (fun _ => 0)))), (q9, .inl (T 1, 24, .inr (.inl (fun _ => 0)))), (q10, .inl (T 2, 2, .inl (fun _ => 0))), (q12, .inl (T 0, 9, .inl (fun _ => 0))), (q13, .inl (T 0, 9, .inl (fun _ => 0))), (q14, .inl (T 2, 9, .inl (fun _ => 0))), (q15, .inl (T 2, 9, .inl (fun _ => 0))), (q16, .inl (T 0, 10, .inl (fun _ => 0))), (q17, .inl (T 0, 9, .inl (fun _ => 0))), (q18, .inl (T 0, 9, .inl (fun _ => 0))), (q19, .inl (T 0, 64, .inl (fun _ => 0))), (q20, .inl (T 0, 160, .inl (fun _ => 0))), (q21, .inl (T 0, 4, .inl (fun _ => 0))), (q22, .inl (T 0, 240, .inl (fun _ => 0))), (q3, .inl (T 0, 53, .inl cn13)), (q11, .inl (T 2, 3, .inl cn9)), (a0, .inr (11, [.int 0, .ref q1, .int 0, .int 0, .int 0, .int 0, .int 0, .int 0, .int 0, .int 0, .int 0, .int 0, .long 0, .int 0, .ref q2, .ref q3, .ref q4, .ref q5, .ref q6, .ref q7, .ref q8, .ref q9, .ref q10, .ref q11, .int 0, .ref q12, .ref q13, .ref q14, .ref q15, .int 0, .int 0, .int 0, .ref q16, .int (-1), .int (-1), .ref q17, .ref q18, .int 0, .ref q19, .int 0, .int 0, .ref q20, .ref q21, .int 0, .int 0, .ref q22, .int 0, .int 0, .int 0, .int 0])), (q2, .inl (T 0, 329, .inl cn45))] H locs := w
        exact ret (q1, q4, q5, q6, q7, q8, q9, q10, q12, q13, q14, q15, q16, q17, q18, q19, q20, q21, q22, q3, q11, q2) _ _ _ _ _ [21, 0, 1, 2, 3, 4, 5, 6, 7, 8, 9, 10, 11, 12, 13, 14, 15, 16, 17, 18, 19, 20, 22] dX12_init_227 trivial w (by decide) rfl
      · have hi2 : i < 53 := ix_in2 (n := 53) (by decide) (by omega) (by decide) c_23
        refine lv_aload_n hx hb dX12_init_205 rfl (lv_at hl 1 rfl) ?_
        refine r_get (v := .ref q2) M w 20 14 clX12 rfl (by decide) G1481 rfl rfl dX12_init_206 ?_
        refine lv_iload_n hx hb dX12_init_209 rfl (lv_at hl 0 rfl) ?_
        refine lv_aload_n hx hb dX12_init_210 rfl (lv_at hl 1 rfl) ?_
        refine r_get (v := .ref q3) M w 20 15 clX12 rfl (by decide) G1482 rfl rfl dX12_init_211 ?_
        refine lv_iload_n hx hb dX12_init_214 rfl (lv_at hl 0 rfl) ?_
        refine r_iald (v := (cn13 (Int32.toNatClampNeg (nI i)))) M w 21 rfl (ix_in (by omega) (by decide)) rfl dX12_init_215 ?_
        refine r_iast (ws' := [(q1, .inl (T 0, 940, .inl (fun _ => 0))), (q2, .inl (T 0, 329, .inl (upd (shc 0 i 0 0 cn13 (fun _ => 0)) (Int32.toNatClampNeg (nI i)) (cn13 (Int32.toNatClampNeg (nI i)))))), (q4, .inl (T 0, 658, .inl (fun _ => 0))), (q5, .inl (T 0, 272, .inl (fun _ => 0))), (q6, .inl (T 0, 34, .inl (fun _ => 0))), (q7, .inl (T 1, 12, .inr (.inl (fun _ => 0)))), (q8, .inl (T 1, 12, .inr (.inl (fun _ => 0)))), (q9, .inl (T 1, 24, .inr (.inl (fun _ => 0)))), (q10, .inl (T 2, 2, .inl (fun _ => 0))), (q12, .inl (T 0, 9, .inl (fun _ => 0))), (q13, .inl (T 0, 9, .inl (fun _ => 0))), (q14, .inl (T 2, 9, .inl (fun _ => 0))), (q15, .inl (T 2, 9, .inl (fun _ => 0))), (q16, .inl (T 0, 10, .inl (fun _ => 0))), (q17, .inl (T 0, 9, .inl (fun _ => 0))), (q18, .inl (T 0, 9, .inl (fun _ => 0))), (q19, .inl (T 0, 64, .inl (fun _ => 0))), (q20, .inl (T 0, 160, .inl (fun _ => 0))), (q21, .inl (T 0, 4, .inl (fun _ => 0))), (q22, .inl (T 0, 240, .inl (fun _ => 0))), (a0, .inr (11, [.int 0, .ref q1, .int 0, .int 0, .int 0, .int 0, .int 0, .int 0, .int 0, .int 0, .int 0, .int 0, .long 0, .int 0, .ref q2, .ref q3, .ref q4, .ref q5, .ref q6, .ref q7, .ref q8, .ref q9, .ref q10, .ref q11, .int 0, .ref q12, .ref q13, .ref q14, .ref q15, .int 0, .int 0, .int 0, .ref q16, .int (-1), .int (-1), .ref q17, .ref q18, .int 0, .ref q19, .int 0, .int 0, .ref q20, .ref q21, .int 0, .int 0, .ref q22, .int 0, .int 0, .int 0, .int 0])), (q3, .inl (T 0, 53, .inl cn13)), (q11, .inl (T 2, 3, .inl cn9))]) M w 1 rfl (ix_in (by omega) (by decide)) rfl dX12_init_216 (fun H locs w => ?_)
        refine lv_iinc (v := (nI (i + 1))) (lv' := [(1, .int (nI (i + 1))), (0, .ref a0)]) hx hb dX12_init_217 hl (k := 0) rfl (ix_add (k := 1) (by decide) (by omega)) (by decide) rfl (fun ls hl => ?_)
        refine lv_goto (tgt := 199) hx hb dX12_init_220 (by decide) ?_
        rw [show (upd (shc 0 i 0 0 cn13 (fun _ => 0)) (Int32.toNatClampNeg (nI i)) (cn13 (Int32.toNatClampNeg (nI i)))) = (shc 0 (i + 1) 0 0 cn13 (fun _ => 0)) from shc_step (g := cn13) (k := (Int32.toNatClampNeg (nI i))) (i := (Int32.toNatClampNeg (nI i))) (nI_clamp (by omega)) ((nI_clamp (by omega)).trans (by omega)) (by omega)] at w
        exact ih (i + 1) _ _ _ (by omega) (by omega) (by omega) w (lv_sub hl [0, 1] rfl)
  exact loop 54 0 _ _ _ (by decide) (by decide) (by decide) w hl
