theorem dX11_person_0 : decode cX11_person 0 = .ok (.aload_n 0, 1) := by decide +kernel
theorem dX11_person_1 : decode cX11_person 1 = .ok (.iload_n 1, 1) := by decide +kernel
theorem dX11_person_2 : decode cX11_person 2 = .ok (.invokevirtual 134, 3) := by decide +kernel
theorem dX11_person_5 : decode cX11_person 5 = .ok (.ifCond .eq 13, 3) := by decide +kernel
theorem dX11_person_8 : decode cX11_person 8 = .ok (.iload_n 2, 1) := by decide +kernel
theorem dX11_person_9 : decode cX11_person 9 = .ok (.ifCond .lt 9, 3) := by decide +kernel
theorem dX11_person_12 : decode cX11_person 12 = .ok (.iload_n 2, 1) := by decide +kernel
theorem dX11_person_13 : decode cX11_person 13 = .ok (.bipush 7, 2) := by decide +kernel
theorem dX11_person_15 : decode cX11_person 15 = .ok (.if_icmp .le 11, 3) := by decide +kernel
theorem dX11_person_26 : decode cX11_person 26 = .ok (.iload_n 2, 1) := by decide +kernel
theorem dX11_person_27 : decode cX11_person 27 = .ok (.tableswitch 110 0 6 #[41, 51, 61, 71, 81, 91, 101], 41) := by decide +kernel
theorem dX11_person_68 : decode cX11_person 68 = .ok (.aload_n 0, 1) := by decide +kernel
theorem dX11_person_69 : decode cX11_person 69 = .ok (.getfield 74, 3) := by decide +kernel
theorem dX11_person_72 : decode cX11_person 72 = .ok (.getfield 140, 3) := by decide +kernel
theorem N369 : Cond.fieldLinkNest "HookedCity" 140 "HookedCity$Town" "loops" "[I" "HookedCity" ∈ lw_tbl := List.mem_of_getElem? (i := 369) (by decide +kernel)
theorem dX11_person_75 : decode cX11_person 75 = .ok (.iload_n 1, 1) := by decide +kernel
theorem dX11_person_76 : decode cX11_person 76 = .ok (.iaload, 1) := by decide +kernel
theorem dX11_person_77 : decode cX11_person 77 = .ok (.ireturn, 1) := by decide +kernel
theorem dX11_person_78 : decode cX11_person 78 = .ok (.aload_n 0, 1) := by decide +kernel
theorem dX11_person_79 : decode cX11_person 79 = .ok (.getfield 74, 3) := by decide +kernel
theorem dX11_person_82 : decode cX11_person 82 = .ok (.getfield 144, 3) := by decide +kernel
theorem N371 : Cond.fieldLinkNest "HookedCity" 144 "HookedCity$Town" "buttons" "[I" "HookedCity" ∈ lw_tbl := List.mem_of_getElem? (i := 371) (by decide +kernel)
theorem dX11_person_85 : decode cX11_person 85 = .ok (.iload_n 1, 1) := by decide +kernel
theorem dX11_person_86 : decode cX11_person 86 = .ok (.iaload, 1) := by decide +kernel
theorem dX11_person_87 : decode cX11_person 87 = .ok (.ireturn, 1) := by decide +kernel
theorem dX11_person_88 : decode cX11_person 88 = .ok (.aload_n 0, 1) := by decide +kernel
theorem dX11_person_89 : decode cX11_person 89 = .ok (.getfield 74, 3) := by decide +kernel
theorem dX11_person_92 : decode cX11_person 92 = .ok (.getfield 147, 3) := by decide +kernel
theorem N374 : Cond.fieldLinkNest "HookedCity" 147 "HookedCity$Town" "strengths" "[I" "HookedCity" ∈ lw_tbl := List.mem_of_getElem? (i := 374) (by decide +kernel)
theorem dX11_person_95 : decode cX11_person 95 = .ok (.iload_n 1, 1) := by decide +kernel
theorem dX11_person_96 : decode cX11_person 96 = .ok (.iaload, 1) := by decide +kernel
theorem dX11_person_97 : decode cX11_person 97 = .ok (.ireturn, 1) := by decide +kernel
theorem dX11_person_98 : decode cX11_person 98 = .ok (.aload_n 0, 1) := by decide +kernel
theorem dX11_person_99 : decode cX11_person 99 = .ok (.getfield 19, 3) := by decide +kernel
theorem dX11_person_102 : decode cX11_person 102 = .ok (.getfield 150, 3) := by decide +kernel
theorem N218 : Cond.fieldLinkNest "HookedCity" 150 "HookedCity$State" "left" "[I" "HookedCity" ∈ lw_tbl := List.mem_of_getElem? (i := 218) (by decide +kernel)
theorem dX11_person_105 : decode cX11_person 105 = .ok (.iload_n 1, 1) := by decide +kernel
theorem dX11_person_106 : decode cX11_person 106 = .ok (.iaload, 1) := by decide +kernel
theorem dX11_person_107 : decode cX11_person 107 = .ok (.ireturn, 1) := by decide +kernel
theorem dX11_person_108 : decode cX11_person 108 = .ok (.aload_n 0, 1) := by decide +kernel
theorem dX11_person_109 : decode cX11_person 109 = .ok (.getfield 19, 3) := by decide +kernel
theorem dX11_person_112 : decode cX11_person 112 = .ok (.getfield 153, 3) := by decide +kernel
theorem dX11_person_115 : decode cX11_person 115 = .ok (.iload_n 1, 1) := by decide +kernel
theorem dX11_person_116 : decode cX11_person 116 = .ok (.iaload, 1) := by decide +kernel
theorem dX11_person_117 : decode cX11_person 117 = .ok (.ireturn, 1) := by decide +kernel
theorem dX11_person_118 : decode cX11_person 118 = .ok (.aload_n 0, 1) := by decide +kernel
theorem dX11_person_119 : decode cX11_person 119 = .ok (.getfield 19, 3) := by decide +kernel
theorem dX11_person_122 : decode cX11_person 122 = .ok (.getfield 156, 3) := by decide +kernel
theorem N226 : Cond.fieldLinkNest "HookedCity" 156 "HookedCity$State" "from" "[I" "HookedCity" ∈ lw_tbl := List.mem_of_getElem? (i := 226) (by decide +kernel)
theorem dX11_person_125 : decode cX11_person 125 = .ok (.iload_n 1, 1) := by decide +kernel
theorem dX11_person_126 : decode cX11_person 126 = .ok (.iaload, 1) := by decide +kernel
theorem dX11_person_127 : decode cX11_person 127 = .ok (.ireturn, 1) := by decide +kernel
theorem dX11_person_128 : decode cX11_person 128 = .ok (.aload_n 0, 1) := by decide +kernel
theorem dX11_person_129 : decode cX11_person 129 = .ok (.getfield 19, 3) := by decide +kernel
theorem dX11_person_132 : decode cX11_person 132 = .ok (.iload_n 1, 1) := by decide +kernel
theorem dX11_person_133 : decode cX11_person 133 = .ok (.invokevirtual 159, 3) := by decide +kernel
theorem G1435 : Cond.methodLink "HookedCity" 159 ⟨"HookedCity$State", "chainOf", "(I)I"⟩ ∈ GW := gw_i 1435 (by decide +kernel) rfl
theorem V_HookedCity_159 : VL "HookedCity" 159 yX7_chainOf cX7_chainOf 4 (some .int) 1 := ⟨G1328, G1435, G121, by decide +kernel, by decide +kernel, by decide +kernel⟩
theorem dX11_person_136 : decode cX11_person 136 = .ok (.ireturn, 1) := by decide +kernel
theorem dX11_person_137 : decode cX11_person 137 = .ok (.aload_n 0, 1) := by decide +kernel
theorem dX11_person_138 : decode cX11_person 138 = .ok (.getfield 19, 3) := by decide +kernel
theorem dX11_person_141 : decode cX11_person 141 = .ok (.iload_n 1, 1) := by decide +kernel
theorem dX11_person_142 : decode cX11_person 142 = .ok (.invokevirtual 163, 3) := by decide +kernel
theorem G1436 : Cond.methodLink "HookedCity" 163 ⟨"HookedCity$State", "onRing", "(I)Z"⟩ ∈ GW := gw_i 1436 (by decide +kernel) rfl
theorem V_HookedCity_163 : VL "HookedCity" 163 yX7_onRing cX7_onRing 4 (some .boolean) 1 := ⟨G949, G1436, G121, by decide +kernel, by decide +kernel, by decide +kernel⟩
theorem dX11_person_145 : decode cX11_person 145 = .ok (.ifCond .eq 7, 3) := by decide +kernel
theorem dX11_person_152 : decode cX11_person 152 = .ok (.iconst 0, 1) := by decide +kernel
theorem dX11_person_153 : decode cX11_person 153 = .ok (.ireturn, 1) := by decide +kernel
theorem dX11_person_148 : decode cX11_person 148 = .ok (.iconst 1, 1) := by decide +kernel
theorem dX11_person_149 : decode cX11_person 149 = .ok (.goto 4, 3) := by decide +kernel
theorem dX11_person_18 : decode cX11_person 18 = .ok (.new 137, 3) := by decide +kernel
theorem dX11_person_21 : decode cX11_person 21 = .ok (.dup, 1) := by decide +kernel
theorem dX11_person_22 : decode cX11_person 22 = .ok (.invokespecial 139, 3) := by decide +kernel
theorem dX11_person_25 : decode cX11_person 25 = .ok (.athrow, 1) := by decide +kernel
theorem G1374 : Cond.classLink "HookedCity" 137 "java/util/NoSuchElementException" ∈ GW := gw_i 1374 (by decide +kernel) rfl
theorem G144 : Cond.initialized "java/util/NoSuchElementException" ∈ GW := gw_i 144 (by decide +kernel) rfl
theorem dL_person_0 : decode cL_person 0 = .ok (.aload_n 3, 1) := by decide +kernel
theorem dL_person_1 : decode cL_person 1 = .ok (.iconst 0, 1) := by decide +kernel
theorem dL_person_2 : decode cL_person 2 = .ok (.aload_n 0, 1) := by decide +kernel
theorem dL_person_3 : decode cL_person 3 = .ok (.iload_n 1, 1) := by decide +kernel
theorem dL_person_4 : decode cL_person 4 = .ok (.iload_n 2, 1) := by decide +kernel
theorem dL_person_5 : decode cL_person 5 = .ok (.invokevirtual 7, 3) := by decide +kernel
theorem dL_person_8 : decode cL_person 8 = .ok (.i2l, 1) := by decide +kernel
theorem dL_person_9 : decode cL_person 9 = .ok (.lastore, 1) := by decide +kernel
theorem dL_person_10 : decode cL_person 10 = .ok (.goto 7, 3) := by decide +kernel
theorem dL_person_13 : decode cL_person 13 = .ok (.astore 4, 2) := by decide +kernel
theorem dL_person_15 : decode cL_person 15 = .ok (.iconst 1, 1) := by decide +kernel
theorem dL_person_16 : decode cL_person 16 = .ok (.ireturn, 1) := by decide +kernel
theorem dL_person_17 : decode cL_person 17 = .ok (.iconst 0, 1) := by decide +kernel
theorem dL_person_18 : decode cL_person 18 = .ok (.ireturn, 1) := by decide +kernel
theorem G1373 : Cond.code ⟨"HookedCity", "person", "(II)I"⟩ prog_1_method_6_code 3 (some .int) ∈ GW := gw_i 1373 (by decide +kernel) rfl
theorem G1370 : Cond.methodLink "HookedCityLaw" 7 ⟨"HookedCity", "person", "(II)I"⟩ ∈ GW := gw_i 1370 (by decide +kernel) rfl
theorem V_HookedCityLaw_7 : VL "HookedCityLaw" 7 yX11_person cX11_person 3 (some .int) 2 := ⟨G1373, G1370, G119, by decide +kernel, by decide +kernel, by decide +kernel⟩
theorem G1371 : Cond.instanceMethod ⟨"HookedCity", "person", "(II)I"⟩ ∈ GW := gw_i 1371 (by decide +kernel) rfl
theorem G1372 : Cond.selects "HookedCity" ⟨"HookedCity", "person", "(II)I"⟩ ⟨"HookedCity", "person", "(II)I"⟩ ∈ GW := gw_i 1372 (by decide +kernel) rfl
theorem G1369 : Cond.classLink "HookedCityLaw" 13 "java/util/NoSuchElementException" ∈ GW := gw_i 1369 (by decide +kernel) rfl

def NSE : String := "java/util/NoSuchElementException"
def ZT (T : Nat → ClassId) (U : State) (H : Heap) : Prop := vx_Zq Bundle.tN "UNASSIGNED_STACK" Bundle.steD (fun q => T 6 ≤ q) U H ∧ vx_Zq Bundle.tN "SUPPRESSED_SENTINEL" Bundle.listD (fun q => T 6 ≤ q) U H
theorem ZT.go {T : Nat → ClassId} {s U : State} {A : Nat → Prop} {H : Heap} {locs : List Loc} (h : ZT T s s.heap) (hA : ∀ q, A q → T 6 ≤ q) (hS : va_S A s.heap H locs) (hvm : s.vm.Alike U.vm) : ZT T U H := ⟨vx_Zq.moved hvm (h.1.kept (fun a h1 h2 => hS.2.1 a h1 (fun q => h2 (hA a q)))), vx_Zq.moved hvm (h.2.kept (fun a h1 h2 => hS.2.1 a h1 (fun q => h2 (hA a q))))⟩
def PW : List Cond := [.castable NSE NSE, .declares ⟨"java/lang/RuntimeException", "<init>", "()V"⟩, .declares ⟨"java/lang/Exception", "<init>", "()V"⟩, .declares ⟨"java/lang/Throwable", "<init>", "()V"⟩]
theorem PW_tab (w : Cond) (h : w ∈ PW) : w.onTables = true := by
  simp only [PW, List.mem_cons, List.not_mem_nil, or_false] at h
  rcases h with rfl | rfl | rfl | rfl <;> rfl
theorem PW_in : PW.all (fun w => decide (w ∈ lw_tbl)) = true := by decide +kernel
def HC (s : State) : Prop := ∀ w ∈ PW, va_Nw w s
theorem HC.warm {s U : State} (h : HC s) (hW : s.WarmedH U.vm) : HC U := by
  intro w hw
  have h1 := h w hw
  simp only [PW, List.mem_cons, List.not_mem_nil, or_false] at hw
  rcases hw with rfl | rfl | rfl | rfl
  · exact va_Nw.warmC hW h1
  · exact va_Nw.warmD hW h1
  · exact va_Nw.warmD hW h1
  · exact va_Nw.warmD hW h1
theorem HC.same {u U : State} (h : HC u) (e : u.vm = U.vm) : HC U := fun w hw => va_Nw.same (PW_tab w hw) e (h w hw)
theorem HC.of {args : Array Value} {s : State} (h : ∀ w ∈ lw_tbl, w.before args s = true) : HC s := fun w hw => va_Nw.of (PW_tab w hw) (h w (of_decide_eq_true (List.all_eq_true.mp PW_in w hw)))
def pPre (av : List Value) (D : va_G) (T : Nat → ClassId) (ws : va_W) (sz : Nat) : Array Value → State → Prop := fun a U => cPre av D T ws sz a U ∧ ZT T U U.heap ∧ HC U
theorem pPre.blind {av : List Value} {D : va_G} {T : Nat → ClassId} {ws : va_W} {sz : Nat} : FrameBlind (pPre av D T ws sz) := fun a U g mk q => ⟨cPre.blind a U g mk q.1, ⟨vx_Zq.moved (u := U) (U := U.calling g mk a) (Vm.Alike.refl U.vm) q.2.1.1, vx_Zq.moved (u := U) (U := U.calling g mk a) (Vm.Alike.refl U.vm) q.2.1.2⟩, HC.same (u := U) q.2.2 rfl⟩
theorem pPre.mk {av : List Value} {D : va_G} {T : Nat → ClassId} {ws : va_W} {s U : State} {A : Nat → Prop} {H : Heap} {locs : List Loc} (hU : U.heap = H) (hW : s.WarmedH U.vm) (hX : CX D T s) (hA : ∀ q, A q → T 6 ≤ q) (hz : T 6 ≤ s.heap.size) (hZ : ZX T s s.heap) (hS : va_S A s.heap H locs) (hP : va_P D vwCl ws H) (hD : va_D A ws) (hZT : ZT T s s.heap) (hca : HC s) : pPre av D T ws H.size av.toArray U :=
  ⟨cPre.mk hU hW hX hA hz hZ hS hP hD, by rw [hU]; exact hZT.go hA hS hW.alike, hca.warm hW⟩
theorem pat_all : (vx_at0 RX11 139 NSE ["java/lang/RuntimeException", "java/lang/Exception"]).all (fun w => decide (w ∈ lw_tbl) && (goodWord w || decide (w ∈ PW))) = true := by decide +kernel
theorem pat {args : Array Value} {s : State} (hG : ∀ w ∈ GW, w.before args s = true) (hca : HC s) : ∀ w ∈ vx_at0 RX11 139 NSE ["java/lang/RuntimeException", "java/lang/Exception"], w.before args s = true := by
  intro w hw
  have h1 := List.all_eq_true.mp pat_all w hw
  simp only [Bool.and_eq_true, Bool.or_eq_true, decide_eq_true_eq] at h1
  rcases h1.2 with h | h
  · exact hG w (List.mem_filter.mpr ⟨h1.1, h⟩)
  · exact va_Nw.use (PW_tab w h) (hca w h)
theorem pgood : ∀ w ∈ Cond.classLink RX11 137 NSE :: Cond.initialized NSE :: vx_at0 RX11 139 NSE ["java/lang/RuntimeException", "java/lang/Exception"], vx_ot w = true := by
  have h : (Cond.classLink RX11 137 NSE :: Cond.initialized NSE :: vx_at0 RX11 139 NSE ["java/lang/RuntimeException", "java/lang/Exception"]).all vx_ot = true := by decide +kernel
  exact fun w hw => List.all_eq_true.mp h w hw
/-- a throw, as the body of person sees it -/
def thrP (p : Program) (l : Launch) (e : Env) (R : Room) (s : State) (m : MethodId) (args : Array Value) (below : List Frame) (meth : Method) (c : Code) (Q : State → Prop) (D : va_G) (A : Nat → Prop) (ws0 : va_W) : Prop := ∀ (ws : va_W) (H : Heap) (locs : List Loc) (ls : Array Slot) (is : List Nat), ls.size = 3 → WD D A s.heap ws H locs → va_nd is = true → is.map (fun i => ws[i]?) = ws0.map some → W p l e R s m args below meth c H locs 0 0 Q (F0 m 18 ls [])
def xcP (D : va_G) (ws0 : va_W) (sz : Nat) : String → State → State → Prop := vx_X (fun _ : Unit => True) (fun E _ t => E = NSE ∧ va_P D vwCl ws0 t.heap ∧ va_D (va_A ws0 sz) ws0) (va_A ws0 sz)
theorem e_P {l : Launch} (hl9 : l.stackTraces = false) {S : Type} {sz : Nat} {ws0 : va_W} {D : va_G} {T : Nat → ClassId} {av : List Value} {post : Int32 → S → Prop} {wf : S → va_W} (hl : (lg_sl av).length ≤ 3) (body : ∀ (p : Program) (e : Env) (s : State) (m : MethodId) (args : Array Value) (below : List Frame) (meth : Method) (c : Code) (A : Nat → Prop) (Q : State → Prop) (ls : Array Slot), MC p s m args c cX11_person yX11_person.cls 3 D T A → WD D A s.heap ws0 s.heap [] → retI p l e (Rm 8 1 6) s m args below meth c Q cX11_person D A 1 6 post wf → thrP p l e (Rm 8 1 6) s m args below meth c Q D A ws0 → lv_has ls 3 (lv_args 0 av) → W p l e (Rm 8 1 6) s m args below meth c s.heap [] 0 0 Q (F0 m 0 ls [])) : vx_Met l yX11_person (Cond.code yX11_person cX11_person 3 (some .int) :: GW) (Rm 8 1 6) (pPre av D T ws0 sz) (qI D ws0 sz post wf) (xcP D ws0 sz) 1 6 (va_A ws0 sz) := by
  refine vx_ofW (cc := cX11_person) (maxL := 3) (ret := some .int) (by decide) rfl ?_
  intro p e s m args below meth c s₁ B hml hex hv
  obtain ⟨⟨rfl, hsz, hP, hX, hD, hz, hZ⟩, hZT, hca⟩ := hv
  subst hsz
  have hts := atoms_spec (ws := Cond.code yX11_person cX11_person 3 (some .int) :: GW) B.pre
  have hlv := lv_entry av (n := 3) hl
  rw [lg_entry_eq]
  generalize (lg_sl av ++ List.replicate (3 - (lg_sl av).length) Slot.unset).toArray = ls at hlv ⊢
  have M : MC p s m _ c cX11_person yX11_person.cls 3 D T (va_A ws0 s.heap.size) := ⟨⟨B.exec, B.bytes, hml, findClass_of_methodNamed B.named, fun w h => hts w (List.mem_cons_of_mem _ h)⟩, hX, fun q hq => hq.elim (fun ⟨k, e, h⟩ => hD.2 k _ h) (fun h => Nat.le_trans hz h), hz, hZ⟩
  refine body p e s m _ below meth c (va_A ws0 s.heap.size) _ ls M ⟨hP, hD.self, va_S.rf, fun q h => Or.inr h⟩ ?_ ?_ hlv
  · exact fun v u ws H locs pc ls is hdg hp w hn hs => vx_ret (W.iret B.exec B.bytes B.returns (fun t ht hW => ⟨⟨v, u, rfl, hp, ⟨by rw [ht]; exact wsub w.1 is hs, w.2.1.sub is hn hs⟩⟩, w.2.2.1.F ht⟩) w.2.2.1.2.2 hdg (hlocks := B.notSynchronized))
  · intro ws H locs ls is hls w hn hs
    exact vx_throw0 (own := RX11) (cls := NSE) (names := ["java/lang/RuntimeException", "java/lang/Exception"]) (ik := 137) (ic := 139) (A := va_A ws0 s.heap.size) (rest := []) B.exec B.bytes hl9 M.1.2.2.2.1 (by decide +kernel) (by decide +kernel) (M.1.2.2.2.2 _ G1374) (M.1.2.2.2.2 _ G144) (pat M.1.2.2.2.2 hca) pgood (vx_Zq.narrow hZT.1 M.2.2.1) (vx_Zq.narrow hZT.2 M.2.2.1) w.2.2.1 (hls.trans M.1.2.2.1.symm) dX11_person_18 dX11_person_21 dX11_person_22 dX11_person_25 (fun x hx => (hex x hx).elim) (by decide) (by decide) (by decide) (by decide) B.notSynchronized (fun t h1 h2 h3 => ⟨(), trivial, ⟨rfl, (wsub w.1 is hs).kept (fun k q hq => h3 q.1 ((wsub w.1 is hs) k q hq).lt), w.2.1.sub is hn hs⟩, Nat.le_trans w.2.2.1.1 h2, fun q q1 q2 => (h3 q (Nat.lt_of_lt_of_le q1 w.2.2.1.1)).trans (w.2.2.1.2.1 q q1 q2)⟩) w.2.2.1.2.2 (by decide) (by decide)
theorem k_X {p : Program} {l : Launch} {e : Env} {R : Room} {s : State} {m : MethodId} {args : Array Value} {below : List Frame} {meth : Method} {c : Code} {H : Heap} {locs : List Loc} {cells slots : Nat} {Q : State → Prop} {pc : Nat} {ls : Array Slot} {rest : List Value} {D : va_G} {A : Nat → Prop} {ws : va_W} {H0 : Heap} {st0 : List Value} {av : Array Value} {mc ms ce sl : Nat} {wc wr : va_W} {S : Type} {post : Int32 → S → Prop} {wf : S → va_W} (hr : vx_Run p l e R s m args below meth c H locs cells slots mc ms (F0 m pc ls st0) rest (qI D wc H.size post wf av) (xcP D wc H.size) (va_A wc H.size)) (w : WD D A H0 ws H locs) (isC isR : List Nat) (hC : isC.map (fun i => ws[i]?) = wc.map some) (hR : isR.map (fun i => ws[i]?) = wr.map some) (hn : va_nd isR = true) (hdis : ∀ i ∈ isR, i ∉ isC) (hce : cells + mc = ce) (hsl : slots + ms = sl) (kx : ∀ (cl : Cell) (q9 : Addr) (H1 : Heap) (locs1 : List Loc), WD D A H0 (wr ++ wc) H1 locs1 → H1[q9]? = some cl → cl.vm = .none → s.vm.findClass NSE = some cl.cls → vx_W p l e R s m args below meth c H1 locs1 ce sl Q (F0 m pc ls rest) q9) (kk : ∀ (v : Int32) (u : S) (H1 : Heap) (locs1 : List Loc), post v u → WD D A H0 (wr ++ wf u) H1 locs1 → W p l e R s m args below meth c H1 locs1 ce sl Q (F0 m (pc + 3) ls (.int v :: rest))) : W p l e R s m args below meth c H locs cells slots Q (F0 m pc ls st0) := by
  subst hce; subst hsl
  have hF := va_free w.2.1 w.2.2.1 w.2.2.2 isC hC
  refine vx_calli hr w.2.2.1 (fun q _ h => hF q h) hF (fun q _ h => hF q h) (fun E cl q9 u t H1 locs1 ht hvm hpx hB hz hk hS hce hcv hcl => ?_) (fun v u t H1 locs1 ht hvm hp hB hz hk hS => ?_)
  · obtain ⟨hE, hP1, hD1⟩ := hB
    subst hE
    rw [ht] at hP1
    obtain ⟨hP2, hD2⟩ := va_join w.1 w.2.1 isC isR hC hR hn hdis hk hF hP1 hD1
    exact kx cl q9 H1 locs1 ⟨hP2, hD2, hS, w.2.2.2⟩ hce hcv hcl
  · obtain ⟨hP1, hD1⟩ := hB
    rw [ht] at hP1
    obtain ⟨hP2, hD2⟩ := va_join w.1 w.2.1 isC isR hC hR hn hdis hk hF hP1 hD1
    exact kk v u H1 locs1 hp ⟨hP2, hD2, hS, w.2.2.2⟩
set_option maxRecDepth 100000 in
set_option maxHeartbeats 4000000 in
theorem c_person (l : Launch) (hl9 : l.stackTraces = false) (D : va_G) (T : Nat → ClassId) (sz : Nat) (a0 : Nat) (x0 : Int) (x1 : Int) (a1 : Nat) (a2 : Nat) (a3 : Nat) (a4 : Nat) (a5 : Nat) (a6 : Nat) (a7 : Nat) (a8 : Nat) (a9 : Nat) (a10 : Nat) (a11 : Nat) (a12 : Nat) (a13 : Nat) (a14 : Nat) (r0 : Int32) (x2 : Int) (r1 : Int32) (a15 : Nat) (a16 : Nat) (a17 : Nat) (a18 : Nat) (r2 : Int32) (r3 : Int32) (r4 : Int32) (r5 : Int32) (a19 : Nat) (a20 : Nat) (a21 : Nat) (a22 : Nat) (a23 : Nat) (a24 : Nat) (a25 : Nat) (a26 : Nat) (a27 : Nat) (x3 : Int) (x4 : Int) (x5 : Int) (x6 : Int) (x7 : Int) (x8 : Int) (x9 : Int) (x10 : Int) (x11 : Int) (f0 : Nat → Int32) (f1 : Int → Int) (f2 : Int → Int) (f3 : Int → Int) (f4 : Int → Int) (f5 : Int → Int) (x0_a : (-2147483648) ≤ x0) (x0_b : x0 ≤ 2147483647) (x1_a : (-2147483648) ≤ x1) (x1_b : x1 ≤ 2147483647) (x2_a : 0 ≤ x2) (x2_b : x2 ≤ 7) (x3_a : 0 ≤ x3) (x3_b : x3 ≤ 9) (x4_a : 0 ≤ x4) (x4_b : x4 ≤ 3) (x5_a : 0 ≤ x5) (x5_b : x5 ≤ 900) (x6_a : (-2147483648) ≤ x6) (x6_b : x6 ≤ 2147483647) (x7_a : (-2147483648) ≤ x7) (x7_b : x7 ≤ 2147483647) (x8_a : (-2147483648) ≤ x8) (x8_b : x8 ≤ 2147483647) (x9_a : 0 ≤ x9) (x9_b : x9 ≤ 1) (x10_a : 0 ≤ x10) (x10_b : x10 ≤ 1) (x11_a : 0 ≤ x11) (x11_b : x11 ≤ 1) (f1_h : rng (-1) 8 f1) (f2_h : rng (-1) 8 f2) (f3_h : rng (-2147483648) 2147483647 f3) (f4_h : rng (-2147483648) 2147483647 f4) (f5_h : rng (-2147483648) 2147483647 f5) : vx_Met l yX11_person (Cond.code yX11_person cX11_person 3 (some .int) :: GW) (Rm 8 1 6) (pPre [.ref a0, .int (iI x0), .int (iI x1)] D T [(a0, .inr (10, [.ref a1, .ref a2, .ref a3, .ref a4, .ref a5, .ref a6, .ref a7, .ref a8, .ref a9, .ref a10, .ref a11, .ref a12, .ref a13, .ref a14, .int r0, .int (iI x2), .int r1])), (a2, .inr (7, [.ref a15, .ref a16, .ref a17, .ref a18, .int r2, .int r3, .int r4, .int r5])), (a11, .inr (9, [.ref a19, .ref a20, .ref a21, .ref a22, .ref a23, .ref a24, .ref a25, .ref a26, .ref a27, .int (iI x3), .int (iI x4), .int (iI x5), .int (iI x6), .int (iI x7), .int (iI x8), .int (iI x9), .int (iI x10), .int (iI x11)])), (a15, .inl (T 0, 9, .inl f0)), (a16, .inl (T 0, 9, .inl (cI f1))), (a17, .inl (T 0, 9, .inl (cI f2))), (a20, .inl (T 0, 9, .inl (cI f3))), (a21, .inl (T 0, 9, .inl (cI f4))), (a22, .inl (T 0, 9, .inl (cI f5)))] sz) (qI D [(a0, .inr (10, [.ref a1, .ref a2, .ref a3, .ref a4, .ref a5, .ref a6, .ref a7, .ref a8, .ref a9, .ref a10, .ref a11, .ref a12, .ref a13, .ref a14, .int r0, .int (iI x2), .int r1])), (a2, .inr (7, [.ref a15, .ref a16, .ref a17, .ref a18, .int r2, .int r3, .int r4, .int r5])), (a11, .inr (9, [.ref a19, .ref a20, .ref a21, .ref a22, .ref a23, .ref a24, .ref a25, .ref a26, .ref a27, .int (iI x3), .int (iI x4), .int (iI x5), .int (iI x6), .int (iI x7), .int (iI x8), .int (iI x9), .int (iI x10), .int (iI x11)])), (a15, .inl (T 0, 9, .inl f0)), (a16, .inl (T 0, 9, .inl (cI f1))), (a17, .inl (T 0, 9, .inl (cI f2))), (a20, .inl (T 0, 9, .inl (cI f3))), (a21, .inl (T 0, 9, .inl (cI f4))), (a22, .inl (T 0, 9, .inl (cI f5)))] sz (fun (v : Int32) (u : Int) => iI u = v ∧ (-2147483648) ≤ u ∧ u ≤ 2147483647) (fun u => [(a0, .inr (10, [.ref a1, .ref a2, .ref a3, .ref a4, .ref a5, .ref a6, .ref a7, .ref a8, .ref a9, .ref a10, .ref a11, .ref a12, .ref a13, .ref a14, .int r0, .int (iI x2), .int r1])), (a2, .inr (7, [.ref a15, .ref a16, .ref a17, .ref a18, .int r2, .int r3, .int r4, .int r5])), (a11, .inr (9, [.ref a19, .ref a20, .ref a21, .ref a22, .ref a23, .ref a24, .ref a25, .ref a26, .ref a27, .int (iI x3), .int (iI x4), .int (iI x5), .int (iI x6), .int (iI x7), .int (iI x8), .int (iI x9), .int (iI x10), .int (iI x11)])), (a15, .inl (T 0, 9, .inl f0)), (a16, .inl (T 0, 9, .inl (cI f1))), (a17, .inl (T 0, 9, .inl (cI f2))), (a20, .inl (T 0, 9, .inl (cI f3))), (a21, .inl (T 0, 9, .inl (cI f4))), (a22, .inl (T 0, 9, .inl (cI f5)))])) (xcP D [(a0, .inr (10, [.ref a1, .ref a2, .ref a3, .ref a4, .ref a5, .ref a6, .ref a7, .ref a8, .ref a9, .ref a10, .ref a11, .ref a12, .ref a13, .ref a14, .int r0, .int (iI x2), .int r1])), (a2, .inr (7, [.ref a15, .ref a16, .ref a17, .ref a18, .int r2, .int r3, .int r4, .int r5])), (a11, .inr (9, [.ref a19, .ref a20, .ref a21, .ref a22, .ref a23, .ref a24, .ref a25, .ref a26, .ref a27, .int (iI x3), .int (iI x4), .int (iI x5), .int (iI x6), .int (iI x7), .int (iI x8), .int (iI x9), .int (iI x10), .int (iI x11)])), (a15, .inl (T 0, 9, .inl f0)), (a16, .inl (T 0, 9, .inl (cI f1))), (a17, .inl (T 0, 9, .inl (cI f2))), (a20, .inl (T 0, 9, .inl (cI f3))), (a21, .inl (T 0, 9, .inl (cI f4))), (a22, .inl (T 0, 9, .inl (cI f5)))] sz) 1 6 (va_A [(a0, .inr (10, [.ref a1, .ref a2, .ref a3, .ref a4, .ref a5, .ref a6, .ref a7, .ref a8, .ref a9, .ref a10, .ref a11, .ref a12, .ref a13, .ref a14, .int r0, .int (iI x2), .int r1])), (a2, .inr (7, [.ref a15, .ref a16, .ref a17, .ref a18, .int r2, .int r3, .int r4, .int r5])), (a11, .inr (9, [.ref a19, .ref a20, .ref a21, .ref a22, .ref a23, .ref a24, .ref a25, .ref a26, .ref a27, .int (iI x3), .int (iI x4), .int (iI x5), .int (iI x6), .int (iI x7), .int (iI x8), .int (iI x9), .int (iI x10), .int (iI x11)])), (a15, .inl (T 0, 9, .inl f0)), (a16, .inl (T 0, 9, .inl (cI f1))), (a17, .inl (T 0, 9, .inl (cI f2))), (a20, .inl (T 0, 9, .inl (cI f3))), (a21, .inl (T 0, 9, .inl (cI f4))), (a22, .inl (T 0, 9, .inl (cI f5)))] sz) := by
  refine e_P hl9 (Nat.le_of_ble_eq_true rfl) ?_
  intro p e s m args below meth c A Q ls M w ret thr hl
  have hx := M.1.1
  have hb := M.1.2.1
  have hl : lv_has ls 3 [(0, .ref a0), (1, .int (iI x0)), (2, .int (iI x1))] := hl
  refine lv_aload_n hx hb dX11_person_0 rfl (lv_at hl 0 rfl) ?_
  refine lv_iload_n hx hb dX11_person_1 rfl (lv_at hl 1 rfl) ?_
  refine k_I (ce := 0) (sl := 0) (rest := []) (wr := [(a2, .inr (7, [.ref a15, .ref a16, .ref a17, .ref a18, .int r2, .int r3, .int r4, .int r5])), (a15, .inl (T 0, 9, .inl f0)), (a16, .inl (T 0, 9, .inl (cI f1))), (a17, .inl (T 0, 9, .inl (cI f2))), (a20, .inl (T 0, 9, .inl (cI f3))), (a21, .inl (T 0, 9, .inl (cI f4))), (a22, .inl (T 0, 9, .inl (cI f5)))]) (r_V (f := 0) [0, 2] M w V_HookedCity_134 G841 G16 (c418_X11_isPerson l D T _ a0 x0 a1 a2 a3 a4 a5 a6 a7 a8 a9 a10 a11 a12 a13 a14 r0 x2 r1 a19 a20 a21 a22 a23 a24 a25 a26 a27 x3 x4 x5 x6 x7 x8 x9 x10 x11 x0_a x0_b x2_a x2_b x3_a x3_b x4_a x4_b x5_a x5_b x6_a x6_b x7_a x7_b x8_a x8_b x9_a x9_b x10_a x10_b x11_a x11_b) 0 clX11 rfl rfl (by decide) rfl hl.1 rfl (Nat.le_of_ble_eq_true rfl) dX11_person_2 (by decide) (by decide) (by decide) (by decide)) w [0, 2] [1, 3, 4, 5, 6, 7, 8] rfl rfl (by decide) (by decide) rfl rfl (fun v z1 H locs hp w => ?_)
  have hv : iI z1 = v := hp.1
  subst hv
  have z1_a : 0 ≤ z1 := hp.2.1
  have z1_b : z1 ≤ 1 := hp.2.2.1
  have w : WD D A s.heap [(a2, .inr (7, [.ref a15, .ref a16, .ref a17, .ref a18, .int r2, .int r3, .int r4, .int r5])), (a15, .inl (T 0, 9, .inl f0)), (a16, .inl (T 0, 9, .inl (cI f1))), (a17, .inl (T 0, 9, .inl (cI f2))), (a20, .inl (T 0, 9, .inl (cI f3))), (a21, .inl (T 0, 9, .inl (cI f4))), (a22, .inl (T 0, 9, .inl (cI f5))), (a0, .inr (10, [.ref a1, .ref a2, .ref a3, .ref a4, .ref a5, .ref a6, .ref a7, .ref a8, .ref a9, .ref a10, .ref a11, .ref a12, .ref a13, .ref a14, .int r0, .int (iI x2), .int r1])), (a11, .inr (9, [.ref a19, .ref a20, .ref a21, .ref a22, .ref a23, .ref a24, .ref a25, .ref a26, .ref a27, .int (iI x3), .int (iI x4), .int (iI x5), .int (iI x6), .int (iI x7), .int (iI x8), .int (iI x9), .int (iI x10), .int (iI x11)]))] H locs := w
  rcases hp.2.2.2 with ⟨c_2, hr⟩ | ⟨c_3, c_4, hr⟩ | ⟨c_5, c_6, hr⟩
  · subst hr
    refine lv_if_eq (tgt := 18) hx hb dX11_person_5 (by decide) (fun _ => ?_) (fun c => absurd (by decide +kernel) c)
    exact thr _ _ _ _ [7, 0, 8, 1, 2, 3, 4, 5, 6] hl.1 w (by decide) rfl
  · subst hr
    refine lv_if_eq (tgt := 18) hx hb dX11_person_5 (by decide) (fun _ => ?_) (fun c => absurd (by decide +kernel) c)
    exact thr _ _ _ _ [7, 0, 8, 1, 2, 3, 4, 5, 6] hl.1 w (by decide) rfl
  · subst hr
    refine lv_if_eq (tgt := 18) hx hb dX11_person_5 (by decide) (fun c => absurd c (by decide +kernel)) (fun _ => ?_)
    refine lv_iload_n hx hb dX11_person_8 rfl (lv_at hl 2 rfl) ?_
    refine lv_if_lt (tgt := 18) hx hb dX11_person_9 (by decide) (fun c_7 => ?_) (fun c_7 => ?_)
    · replace c_7 := (iz_lt (Int.le_trans (by decide) x1_a) (Int.le_trans x1_b (by decide))).mp c_7
      exact thr _ _ _ _ [7, 0, 8, 1, 2, 3, 4, 5, 6] hl.1 w (by decide) rfl
    · replace c_7 : 0 ≤ x1 := Int.not_lt.mp (fun h => c_7 ((iz_lt (Int.le_trans (by decide) x1_a) (Int.le_trans x1_b (by decide))).mpr h))
      refine lv_iload_n hx hb dX11_person_12 rfl (lv_at hl 2 rfl) ?_
      refine lv_bipush (v := iI 7) hx hb dX11_person_13 (by decide +kernel) ?_
      refine lv_icmp_le (tgt := 26) hx hb dX11_person_15 (by decide) (fun c_8 => ?_) (fun c_8 => ?_)
      · replace c_8 := (iI_le (Int.le_trans (by decide) x1_a) (Int.le_trans x1_b (by decide)) (by decide) (by decide)).mp c_8
        refine lv_iload_n hx hb dX11_person_26 rfl (lv_at hl 2 rfl) ?_
        by_cases c_9 : x1 = 0
        · refine lv_tableIn (off := 41) (tgt := 68) hx hb dX11_person_27 (by rw [c_9]; decide +kernel) (by rw [c_9]; decide +kernel) (by rw [c_9]; decide +kernel) (by decide) ?_
          refine lv_aload_n hx hb dX11_person_68 rfl (lv_at hl 0 rfl) ?_
          refine r_get (v := .ref a11) M w 7 10 clX11 rfl (by decide) G507 rfl rfl dX11_person_69 ?_
          refine r_getN (v := .ref a20) M w 8 1 clX9 rfl (by decide) N369 rfl rfl dX11_person_72 ?_
          refine lv_iload_n hx hb dX11_person_75 rfl (lv_at hl 1 rfl) ?_
          refine r_iald (v := iI (f3 x0)) M w 4 rfl (iI_in (by omega) (by omega) (by decide)) (cI_at (by omega) (by omega)) dX11_person_76 ?_
          have hh10 : (-2147483648) ≤ (f3 x0) ∧ (f3 x0) ≤ 2147483647 := f3_h x0
          refine W.widen (k := 1) (n := 6) (by decide) (by decide) ?_
          exact ret _ (f3 x0) _ _ _ _ _ [7, 0, 8, 1, 2, 3, 4, 5, 6] dX11_person_77 ⟨rfl, (show (-2147483648) ≤ (f3 x0) from by omega), (show (f3 x0) ≤ 2147483647 from by omega)⟩ w (by decide) rfl
        by_cases c_11 : x1 = 1
        · refine lv_tableIn (off := 51) (tgt := 78) hx hb dX11_person_27 (by rw [c_11]; decide +kernel) (by rw [c_11]; decide +kernel) (by rw [c_11]; decide +kernel) (by decide) ?_
          refine lv_aload_n hx hb dX11_person_78 rfl (lv_at hl 0 rfl) ?_
          refine r_get (v := .ref a11) M w 7 10 clX11 rfl (by decide) G507 rfl rfl dX11_person_79 ?_
          refine r_getN (v := .ref a21) M w 8 2 clX9 rfl (by decide) N371 rfl rfl dX11_person_82 ?_
          refine lv_iload_n hx hb dX11_person_85 rfl (lv_at hl 1 rfl) ?_
          refine r_iald (v := iI (f4 x0)) M w 5 rfl (iI_in (by omega) (by omega) (by decide)) (cI_at (by omega) (by omega)) dX11_person_86 ?_
          have hh12 : (-2147483648) ≤ (f4 x0) ∧ (f4 x0) ≤ 2147483647 := f4_h x0
          refine W.widen (k := 1) (n := 6) (by decide) (by decide) ?_
          exact ret _ (f4 x0) _ _ _ _ _ [7, 0, 8, 1, 2, 3, 4, 5, 6] dX11_person_87 ⟨rfl, (show (-2147483648) ≤ (f4 x0) from by omega), (show (f4 x0) ≤ 2147483647 from by omega)⟩ w (by decide) rfl
        by_cases c_13 : x1 = 2
        · refine lv_tableIn (off := 61) (tgt := 88) hx hb dX11_person_27 (by rw [c_13]; decide +kernel) (by rw [c_13]; decide +kernel) (by rw [c_13]; decide +kernel) (by decide) ?_
          refine lv_aload_n hx hb dX11_person_88 rfl (lv_at hl 0 rfl) ?_
          refine r_get (v := .ref a11) M w 7 10 clX11 rfl (by decide) G507 rfl rfl dX11_person_89 ?_
          refine r_getN (v := .ref a22) M w 8 3 clX9 rfl (by decide) N374 rfl rfl dX11_person_92 ?_
          refine lv_iload_n hx hb dX11_person_95 rfl (lv_at hl 1 rfl) ?_
          refine r_iald (v := iI (f5 x0)) M w 6 rfl (iI_in (by omega) (by omega) (by decide)) (cI_at (by omega) (by omega)) dX11_person_96 ?_
          have hh14 : (-2147483648) ≤ (f5 x0) ∧ (f5 x0) ≤ 2147483647 := f5_h x0
          refine W.widen (k := 1) (n := 6) (by decide) (by decide) ?_
          exact ret _ (f5 x0) _ _ _ _ _ [7, 0, 8, 1, 2, 3, 4, 5, 6] dX11_person_97 ⟨rfl, (show (-2147483648) ≤ (f5 x0) from by omega), (show (f5 x0) ≤ 2147483647 from by omega)⟩ w (by decide) rfl
        by_cases c_15 : x1 = 3
        · refine lv_tableIn (off := 71) (tgt := 98) hx hb dX11_person_27 (by rw [c_15]; decide +kernel) (by rw [c_15]; decide +kernel) (by rw [c_15]; decide +kernel) (by decide) ?_
          refine lv_aload_n hx hb dX11_person_98 rfl (lv_at hl 0 rfl) ?_
          refine r_get (v := .ref a2) M w 7 1 clX11 rfl (by decide) G498 rfl rfl dX11_person_99 ?_
          refine r_getN (v := .ref a15) M w 0 0 clX7 rfl (by decide) N218 rfl rfl dX11_person_102 ?_
          refine lv_iload_n hx hb dX11_person_105 rfl (lv_at hl 1 rfl) ?_
          refine r_iald (v := _) M w 1 rfl (iI_in (by omega) (by omega) (by decide)) rfl dX11_person_106 ?_
          refine b_any (fun z16 z16_a z16_b => ?_)
          refine W.widen (k := 1) (n := 6) (by decide) (by decide) ?_
          exact ret _ z16 _ _ _ _ _ [7, 0, 8, 1, 2, 3, 4, 5, 6] dX11_person_107 ⟨rfl, z16_a, z16_b⟩ w (by decide) rfl
        by_cases c_17 : x1 = 4
        · refine lv_tableIn (off := 81) (tgt := 108) hx hb dX11_person_27 (by rw [c_17]; decide +kernel) (by rw [c_17]; decide +kernel) (by rw [c_17]; decide +kernel) (by decide) ?_
          refine lv_aload_n hx hb dX11_person_108 rfl (lv_at hl 0 rfl) ?_
          refine r_get (v := .ref a2) M w 7 1 clX11 rfl (by decide) G498 rfl rfl dX11_person_109 ?_
          refine r_getN (v := .ref a16) M w 0 1 clX7 rfl (by decide) N222 rfl rfl dX11_person_112 ?_
          refine lv_iload_n hx hb dX11_person_115 rfl (lv_at hl 1 rfl) ?_
          refine r_iald (v := iI (f1 x0)) M w 2 rfl (iI_in (by omega) (by omega) (by decide)) (cI_at (by omega) (by omega)) dX11_person_116 ?_
          have hh18 : (-1) ≤ (f1 x0) ∧ (f1 x0) ≤ 8 := f1_h x0
          refine W.widen (k := 1) (n := 6) (by decide) (by decide) ?_
          exact ret _ (f1 x0) _ _ _ _ _ [7, 0, 8, 1, 2, 3, 4, 5, 6] dX11_person_117 ⟨rfl, (show (-2147483648) ≤ (f1 x0) from by omega), (show (f1 x0) ≤ 2147483647 from by omega)⟩ w (by decide) rfl
        by_cases c_19 : x1 = 5
        · refine lv_tableIn (off := 91) (tgt := 118) hx hb dX11_person_27 (by rw [c_19]; decide +kernel) (by rw [c_19]; decide +kernel) (by rw [c_19]; decide +kernel) (by decide) ?_
          refine lv_aload_n hx hb dX11_person_118 rfl (lv_at hl 0 rfl) ?_
          refine r_get (v := .ref a2) M w 7 1 clX11 rfl (by decide) G498 rfl rfl dX11_person_119 ?_
          refine r_getN (v := .ref a17) M w 0 2 clX7 rfl (by decide) N226 rfl rfl dX11_person_122 ?_
          refine lv_iload_n hx hb dX11_person_125 rfl (lv_at hl 1 rfl) ?_
          refine r_iald (v := iI (f2 x0)) M w 3 rfl (iI_in (by omega) (by omega) (by decide)) (cI_at (by omega) (by omega)) dX11_person_126 ?_
          have hh20 : (-1) ≤ (f2 x0) ∧ (f2 x0) ≤ 8 := f2_h x0
          refine W.widen (k := 1) (n := 6) (by decide) (by decide) ?_
          exact ret _ (f2 x0) _ _ _ _ _ [7, 0, 8, 1, 2, 3, 4, 5, 6] dX11_person_127 ⟨rfl, (show (-2147483648) ≤ (f2 x0) from by omega), (show (f2 x0) ≤ 2147483647 from by omega)⟩ w (by decide) rfl
        by_cases c_21 : x1 = 6
        · refine lv_tableIn (off := 101) (tgt := 128) hx hb dX11_person_27 (by rw [c_21]; decide +kernel) (by rw [c_21]; decide +kernel) (by rw [c_21]; decide +kernel) (by decide) ?_
          refine lv_aload_n hx hb dX11_person_128 rfl (lv_at hl 0 rfl) ?_
          refine r_get (v := .ref a2) M w 7 1 clX11 rfl (by decide) G498 rfl rfl dX11_person_129 ?_
          refine lv_iload_n hx hb dX11_person_132 rfl (lv_at hl 1 rfl) ?_
          refine k_I (ce := 0) (sl := 0) (rest := []) (wr := [(a15, .inl (T 0, 9, .inl f0)), (a17, .inl (T 0, 9, .inl (cI f2))), (a20, .inl (T 0, 9, .inl (cI f3))), (a21, .inl (T 0, 9, .inl (cI f4))), (a22, .inl (T 0, 9, .inl (cI f5))), (a0, .inr (10, [.ref a1, .ref a2, .ref a3, .ref a4, .ref a5, .ref a6, .ref a7, .ref a8, .ref a9, .ref a10, .ref a11, .ref a12, .ref a13, .ref a14, .int r0, .int (iI x2), .int r1])), (a11, .inr (9, [.ref a19, .ref a20, .ref a21, .ref a22, .ref a23, .ref a24, .ref a25, .ref a26, .ref a27, .int (iI x3), .int (iI x4), .int (iI x5), .int (iI x6), .int (iI x7), .int (iI x8), .int (iI x9), .int (iI x10), .int (iI x11)]))]) (r_V (f := 0) [0, 2] M w V_HookedCity_159 G1326 G1327 (c239_X7_chainOf l D T _ a2 x0 a15 a16 a17 a18 r2 r3 r4 r5 f1 (by omega) (by omega) f1_h) 0 clX7 rfl rfl (by decide) rfl hl.1 rfl (Nat.le_of_ble_eq_true rfl) dX11_person_133 (by decide) (by decide) (by decide) (by decide)) w [0, 2] [1, 3, 4, 5, 6, 7, 8] rfl rfl (by decide) (by decide) rfl rfl (fun v z22 H locs hp w => ?_)
          have hv : iI z22 = v := hp.1
          subst hv
          have z22_a : (-2147483648) ≤ z22 := hp.2.1
          have z22_b : z22 ≤ 2147483647 := hp.2.2
          have w : WD D A s.heap [(a15, .inl (T 0, 9, .inl f0)), (a17, .inl (T 0, 9, .inl (cI f2))), (a20, .inl (T 0, 9, .inl (cI f3))), (a21, .inl (T 0, 9, .inl (cI f4))), (a22, .inl (T 0, 9, .inl (cI f5))), (a0, .inr (10, [.ref a1, .ref a2, .ref a3, .ref a4, .ref a5, .ref a6, .ref a7, .ref a8, .ref a9, .ref a10, .ref a11, .ref a12, .ref a13, .ref a14, .int r0, .int (iI x2), .int r1])), (a11, .inr (9, [.ref a19, .ref a20, .ref a21, .ref a22, .ref a23, .ref a24, .ref a25, .ref a26, .ref a27, .int (iI x3), .int (iI x4), .int (iI x5), .int (iI x6), .int (iI x7), .int (iI x8), .int (iI x9), .int (iI x10), .int (iI x11)])), (a2, .inr (7, [.ref a15, .ref a16, .ref a17, .ref a18, .int r2, .int r3, .int r4, .int r5])), (a16, .inl (T 0, 9, .inl (cI f1)))] H locs := w
          refine W.widen (k := 1) (n := 6) (by decide) (by decide) ?_
          exact ret _ z22 _ _ _ _ _ [5, 7, 6, 0, 8, 1, 2, 3, 4] dX11_person_136 ⟨rfl, z22_a, z22_b⟩ w (by decide) rfl
        refine lv_tableOut (tgt := 137) hx hb dX11_person_27 (by rw [iI_i (Int.le_trans (by decide) x1_a) (Int.le_trans x1_b (by decide))]; omega) (by decide) ?_
        refine lv_aload_n hx hb dX11_person_137 rfl (lv_at hl 0 rfl) ?_
        refine r_get (v := .ref a2) M w 7 1 clX11 rfl (by decide) G498 rfl rfl dX11_person_138 ?_
        refine lv_iload_n hx hb dX11_person_141 rfl (lv_at hl 1 rfl) ?_
        refine k_I (ce := 0) (sl := 0) (rest := []) (wr := [(a15, .inl (T 0, 9, .inl f0)), (a17, .inl (T 0, 9, .inl (cI f2))), (a20, .inl (T 0, 9, .inl (cI f3))), (a21, .inl (T 0, 9, .inl (cI f4))), (a22, .inl (T 0, 9, .inl (cI f5))), (a0, .inr (10, [.ref a1, .ref a2, .ref a3, .ref a4, .ref a5, .ref a6, .ref a7, .ref a8, .ref a9, .ref a10, .ref a11, .ref a12, .ref a13, .ref a14, .int r0, .int (iI x2), .int r1])), (a11, .inr (9, [.ref a19, .ref a20, .ref a21, .ref a22, .ref a23, .ref a24, .ref a25, .ref a26, .ref a27, .int (iI x3), .int (iI x4), .int (iI x5), .int (iI x6), .int (iI x7), .int (iI x8), .int (iI x9), .int (iI x10), .int (iI x11)]))]) (r_V (f := 0) [0, 2] M w V_HookedCity_163 G947 G948 (c240_X7_onRing l D T _ a2 x0 a15 a16 a17 a18 r2 r3 r4 r5 f1 (by omega) (by omega) f1_h) 0 clX7 rfl rfl (by decide) rfl hl.1 rfl (Nat.le_of_ble_eq_true rfl) dX11_person_142 (by decide) (by decide) (by decide) (by decide)) w [0, 2] [1, 3, 4, 5, 6, 7, 8] rfl rfl (by decide) (by decide) rfl rfl (fun v z23 H locs hp w => ?_)
        have hv : iI z23 = v := hp.1
        subst hv
        have z23_a : 0 ≤ z23 := hp.2.1
        have z23_b : z23 ≤ 1 := hp.2.2
        have w : WD D A s.heap [(a15, .inl (T 0, 9, .inl f0)), (a17, .inl (T 0, 9, .inl (cI f2))), (a20, .inl (T 0, 9, .inl (cI f3))), (a21, .inl (T 0, 9, .inl (cI f4))), (a22, .inl (T 0, 9, .inl (cI f5))), (a0, .inr (10, [.ref a1, .ref a2, .ref a3, .ref a4, .ref a5, .ref a6, .ref a7, .ref a8, .ref a9, .ref a10, .ref a11, .ref a12, .ref a13, .ref a14, .int r0, .int (iI x2), .int r1])), (a11, .inr (9, [.ref a19, .ref a20, .ref a21, .ref a22, .ref a23, .ref a24, .ref a25, .ref a26, .ref a27, .int (iI x3), .int (iI x4), .int (iI x5), .int (iI x6), .int (iI x7), .int (iI x8), .int (iI x9), .int (iI x10), .int (iI x11)])), (a2, .inr (7, [.ref a15, .ref a16, .ref a17, .ref a18, .int r2, .int r3, .int r4, .int r5])), (a16, .inl (T 0, 9, .inl (cI f1)))] H locs := w
        refine lv_if_eq (tgt := 152) hx hb dX11_person_145 (by decide) (fun c_24 => ?_) (fun c_24 => ?_)
        · replace c_24 := (iz_eq (Int.le_trans (by decide) z23_a) (Int.le_trans z23_b (by decide))).mp c_24
          refine lv_iconst (v := iI 0) hx hb dX11_person_152 (by decide +kernel) ?_
          refine W.widen (k := 1) (n := 6) (by decide) (by decide) ?_
          exact ret _ 0 _ _ _ _ _ [5, 7, 6, 0, 8, 1, 2, 3, 4] dX11_person_153 ⟨rfl, (show (-2147483648) ≤ 0 from by decide), (show (0 : Int) ≤ 2147483647 from by decide)⟩ w (by decide) rfl
        · replace c_24 : ¬ z23 = 0 := fun h => c_24 ((iz_eq (Int.le_trans (by decide) z23_a) (Int.le_trans z23_b (by decide))).mpr h)
          refine lv_iconst (v := iI 1) hx hb dX11_person_148 (by decide +kernel) ?_
          refine lv_goto (tgt := 153) hx hb dX11_person_149 (by decide) ?_
          refine W.widen (k := 1) (n := 6) (by decide) (by decide) ?_
          exact ret _ 1 _ _ _ _ _ [5, 7, 6, 0, 8, 1, 2, 3, 4] dX11_person_153 ⟨rfl, (show (-2147483648) ≤ 1 from by decide), (show (1 : Int) ≤ 2147483647 from by decide)⟩ w (by decide) rfl
      · replace c_8 : 7 < x1 := Int.not_le.mp (fun h => c_8 ((iI_le (Int.le_trans (by decide) x1_a) (Int.le_trans x1_b (by decide)) (by decide) (by decide)).mpr h))
        exact thr _ _ _ _ [7, 0, 8, 1, 2, 3, 4, 5, 6] hl.1 w (by decide) rfl
set_option maxRecDepth 100000 in
set_option maxHeartbeats 4000000 in
theorem c_lperson (l : Launch) (hl9 : l.stackTraces = false) (D : va_G) (T : Nat → ClassId) (sz : Nat) (a0 : Nat) (x0 : Int) (x1 : Int) (a1 : Nat) (a2 : Nat) (a3 : Nat) (a4 : Nat) (a5 : Nat) (a6 : Nat) (a7 : Nat) (a8 : Nat) (a9 : Nat) (a10 : Nat) (a11 : Nat) (a12 : Nat) (a13 : Nat) (a14 : Nat) (r0 : Int32) (x2 : Int) (r1 : Int32) (a15 : Nat) (a16 : Nat) (a17 : Nat) (a18 : Nat) (r2 : Int32) (r3 : Int32) (r4 : Int32) (r5 : Int32) (a19 : Nat) (a20 : Nat) (a21 : Nat) (a22 : Nat) (a23 : Nat) (a24 : Nat) (a25 : Nat) (a26 : Nat) (a27 : Nat) (x3 : Int) (x4 : Int) (x5 : Int) (x6 : Int) (x7 : Int) (x8 : Int) (x9 : Int) (x10 : Int) (x11 : Int) (f0 : Nat → Int32) (f1 : Int → Int) (f2 : Int → Int) (f3 : Int → Int) (f4 : Int → Int) (f5 : Int → Int) (x0_a : (-2147483648) ≤ x0) (x0_b : x0 ≤ 2147483647) (x1_a : (-2147483648) ≤ x1) (x1_b : x1 ≤ 2147483647) (x2_a : 0 ≤ x2) (x2_b : x2 ≤ 7) (x3_a : 0 ≤ x3) (x3_b : x3 ≤ 9) (x4_a : 0 ≤ x4) (x4_b : x4 ≤ 3) (x5_a : 0 ≤ x5) (x5_b : x5 ≤ 900) (x6_a : (-2147483648) ≤ x6) (x6_b : x6 ≤ 2147483647) (x7_a : (-2147483648) ≤ x7) (x7_b : x7 ≤ 2147483647) (x8_a : (-2147483648) ≤ x8) (x8_b : x8 ≤ 2147483647) (x9_a : 0 ≤ x9) (x9_b : x9 ≤ 1) (x10_a : 0 ≤ x10) (x10_b : x10 ≤ 1) (x11_a : 0 ≤ x11) (x11_b : x11 ≤ 1) (f1_h : rng (-1) 8 f1) (f2_h : rng (-1) 8 f2) (f3_h : rng (-2147483648) 2147483647 f3) (f4_h : rng (-2147483648) 2147483647 f4) (f5_h : rng (-2147483648) 2147483647 f5) (oo : Nat) (h9 : Nat → Int64) : Met l yL_person (Cond.codeWith yL_person cL_person 5 (some .int) [(0, 10, 13, 13)] :: GW) (Rm 9 1 6) (pPre [.ref a0, .int (iI x0), .int (iI x1), .ref oo] D T [(a0, .inr (10, [.ref a1, .ref a2, .ref a3, .ref a4, .ref a5, .ref a6, .ref a7, .ref a8, .ref a9, .ref a10, .ref a11, .ref a12, .ref a13, .ref a14, .int r0, .int (iI x2), .int r1])), (a2, .inr (7, [.ref a15, .ref a16, .ref a17, .ref a18, .int r2, .int r3, .int r4, .int r5])), (a11, .inr (9, [.ref a19, .ref a20, .ref a21, .ref a22, .ref a23, .ref a24, .ref a25, .ref a26, .ref a27, .int (iI x3), .int (iI x4), .int (iI x5), .int (iI x6), .int (iI x7), .int (iI x8), .int (iI x9), .int (iI x10), .int (iI x11)])), (a15, .inl (T 0, 9, .inl f0)), (a16, .inl (T 0, 9, .inl (cI f1))), (a17, .inl (T 0, 9, .inl (cI f2))), (a20, .inl (T 0, 9, .inl (cI f3))), (a21, .inl (T 0, 9, .inl (cI f4))), (a22, .inl (T 0, 9, .inl (cI f5))), (oo, .inl (T 1, 1, .inr (.inl h9)))] sz) (qI D [(a0, .inr (10, [.ref a1, .ref a2, .ref a3, .ref a4, .ref a5, .ref a6, .ref a7, .ref a8, .ref a9, .ref a10, .ref a11, .ref a12, .ref a13, .ref a14, .int r0, .int (iI x2), .int r1])), (a2, .inr (7, [.ref a15, .ref a16, .ref a17, .ref a18, .int r2, .int r3, .int r4, .int r5])), (a11, .inr (9, [.ref a19, .ref a20, .ref a21, .ref a22, .ref a23, .ref a24, .ref a25, .ref a26, .ref a27, .int (iI x3), .int (iI x4), .int (iI x5), .int (iI x6), .int (iI x7), .int (iI x8), .int (iI x9), .int (iI x10), .int (iI x11)])), (a15, .inl (T 0, 9, .inl f0)), (a16, .inl (T 0, 9, .inl (cI f1))), (a17, .inl (T 0, 9, .inl (cI f2))), (a20, .inl (T 0, 9, .inl (cI f3))), (a21, .inl (T 0, 9, .inl (cI f4))), (a22, .inl (T 0, 9, .inl (cI f5))), (oo, .inl (T 1, 1, .inr (.inl h9)))] sz (fun (_ : Int32) (_ : Nat → Int64) => True) (fun u => [(a0, .inr (10, [.ref a1, .ref a2, .ref a3, .ref a4, .ref a5, .ref a6, .ref a7, .ref a8, .ref a9, .ref a10, .ref a11, .ref a12, .ref a13, .ref a14, .int r0, .int (iI x2), .int r1])), (a2, .inr (7, [.ref a15, .ref a16, .ref a17, .ref a18, .int r2, .int r3, .int r4, .int r5])), (a11, .inr (9, [.ref a19, .ref a20, .ref a21, .ref a22, .ref a23, .ref a24, .ref a25, .ref a26, .ref a27, .int (iI x3), .int (iI x4), .int (iI x5), .int (iI x6), .int (iI x7), .int (iI x8), .int (iI x9), .int (iI x10), .int (iI x11)])), (a15, .inl (T 0, 9, .inl f0)), (a16, .inl (T 0, 9, .inl (cI f1))), (a17, .inl (T 0, 9, .inl (cI f2))), (a20, .inl (T 0, 9, .inl (cI f3))), (a21, .inl (T 0, 9, .inl (cI f4))), (a22, .inl (T 0, 9, .inl (cI f5))), (oo, .inl (T 1, 1, .inr (.inl u)))])) 1 6 (va_A [(a0, .inr (10, [.ref a1, .ref a2, .ref a3, .ref a4, .ref a5, .ref a6, .ref a7, .ref a8, .ref a9, .ref a10, .ref a11, .ref a12, .ref a13, .ref a14, .int r0, .int (iI x2), .int r1])), (a2, .inr (7, [.ref a15, .ref a16, .ref a17, .ref a18, .int r2, .int r3, .int r4, .int r5])), (a11, .inr (9, [.ref a19, .ref a20, .ref a21, .ref a22, .ref a23, .ref a24, .ref a25, .ref a26, .ref a27, .int (iI x3), .int (iI x4), .int (iI x5), .int (iI x6), .int (iI x7), .int (iI x8), .int (iI x9), .int (iI x10), .int (iI x11)])), (a15, .inl (T 0, 9, .inl f0)), (a16, .inl (T 0, 9, .inl (cI f1))), (a17, .inl (T 0, 9, .inl (cI f2))), (a20, .inl (T 0, 9, .inl (cI f3))), (a21, .inl (T 0, 9, .inl (cI f4))), (a22, .inl (T 0, 9, .inl (cI f5))), (oo, .inl (T 1, 1, .inr (.inl h9)))] sz) := by
  refine va_MetW (cc := cL_person) (maxL := 5) (ret := some .int) (hh := [(0, 10, 13, 13)]) (by decide) rfl ?_
  intro p e s m args below meth c s₁ B hml hv
  obtain ⟨⟨rfl, hsz, hP, hX, hD, hz, hZ⟩, hZT, hca⟩ := hv
  subst hsz
  have hts := atoms_spec (ws := Cond.codeWith yL_person cL_person 5 (some .int) [(0, 10, 13, 13)] :: GW) B.pre
  have htab := vx_table (x := yL_person) B (hts _ List.mem_cons_self)
  have hl := lv_entry [.ref a0, .int (iI x0), .int (iI x1), .ref oo] (n := 5) (Nat.le_of_ble_eq_true rfl)
  rw [lg_entry_eq]
  generalize (lg_sl [.ref a0, .int (iI x0), .int (iI x1), .ref oo] ++ List.replicate (5 - (lg_sl [.ref a0, .int (iI x0), .int (iI x1), .ref oo]).length) Slot.unset).toArray = ls at hl ⊢
  have M : MC p s m _ c cL_person yL_person.cls 5 D T (va_A [(a0, .inr (10, [.ref a1, .ref a2, .ref a3, .ref a4, .ref a5, .ref a6, .ref a7, .ref a8, .ref a9, .ref a10, .ref a11, .ref a12, .ref a13, .ref a14, .int r0, .int (iI x2), .int r1])), (a2, .inr (7, [.ref a15, .ref a16, .ref a17, .ref a18, .int r2, .int r3, .int r4, .int r5])), (a11, .inr (9, [.ref a19, .ref a20, .ref a21, .ref a22, .ref a23, .ref a24, .ref a25, .ref a26, .ref a27, .int (iI x3), .int (iI x4), .int (iI x5), .int (iI x6), .int (iI x7), .int (iI x8), .int (iI x9), .int (iI x10), .int (iI x11)])), (a15, .inl (T 0, 9, .inl f0)), (a16, .inl (T 0, 9, .inl (cI f1))), (a17, .inl (T 0, 9, .inl (cI f2))), (a20, .inl (T 0, 9, .inl (cI f3))), (a21, .inl (T 0, 9, .inl (cI f4))), (a22, .inl (T 0, 9, .inl (cI f5))), (oo, .inl (T 1, 1, .inr (.inl h9)))] s.heap.size) := ⟨⟨B.exec, B.bytes, hml, findClass_of_methodNamed B.named, fun w h => hts w (List.mem_cons_of_mem _ h)⟩, hX, fun q hq => hq.elim (fun ⟨k, e, h⟩ => hD.2 k _ h) (fun h => Nat.le_trans hz h), hz, hZ⟩
  have w : WD D (va_A [(a0, .inr (10, [.ref a1, .ref a2, .ref a3, .ref a4, .ref a5, .ref a6, .ref a7, .ref a8, .ref a9, .ref a10, .ref a11, .ref a12, .ref a13, .ref a14, .int r0, .int (iI x2), .int r1])), (a2, .inr (7, [.ref a15, .ref a16, .ref a17, .ref a18, .int r2, .int r3, .int r4, .int r5])), (a11, .inr (9, [.ref a19, .ref a20, .ref a21, .ref a22, .ref a23, .ref a24, .ref a25, .ref a26, .ref a27, .int (iI x3), .int (iI x4), .int (iI x5), .int (iI x6), .int (iI x7), .int (iI x8), .int (iI x9), .int (iI x10), .int (iI x11)])), (a15, .inl (T 0, 9, .inl f0)), (a16, .inl (T 0, 9, .inl (cI f1))), (a17, .inl (T 0, 9, .inl (cI f2))), (a20, .inl (T 0, 9, .inl (cI f3))), (a21, .inl (T 0, 9, .inl (cI f4))), (a22, .inl (T 0, 9, .inl (cI f5))), (oo, .inl (T 1, 1, .inr (.inl h9)))] s.heap.size) s.heap [(a0, .inr (10, [.ref a1, .ref a2, .ref a3, .ref a4, .ref a5, .ref a6, .ref a7, .ref a8, .ref a9, .ref a10, .ref a11, .ref a12, .ref a13, .ref a14, .int r0, .int (iI x2), .int r1])), (a2, .inr (7, [.ref a15, .ref a16, .ref a17, .ref a18, .int r2, .int r3, .int r4, .int r5])), (a11, .inr (9, [.ref a19, .ref a20, .ref a21, .ref a22, .ref a23, .ref a24, .ref a25, .ref a26, .ref a27, .int (iI x3), .int (iI x4), .int (iI x5), .int (iI x6), .int (iI x7), .int (iI x8), .int (iI x9), .int (iI x10), .int (iI x11)])), (a15, .inl (T 0, 9, .inl f0)), (a16, .inl (T 0, 9, .inl (cI f1))), (a17, .inl (T 0, 9, .inl (cI f2))), (a20, .inl (T 0, 9, .inl (cI f3))), (a21, .inl (T 0, 9, .inl (cI f4))), (a22, .inl (T 0, 9, .inl (cI f5))), (oo, .inl (T 1, 1, .inr (.inl h9)))] s.heap [] := ⟨hP, hD.self, va_S.rf, fun q h => Or.inr h⟩
  have hx := M.1.1
  have hb := M.1.2.1
  have hl : lv_has ls 5 [(0, .ref a0), (1, .int (iI x0)), (2, .int (iI x1)), (3, .ref oo)] := hl
  refine lv_aload_n hx hb dL_person_0 rfl (lv_at hl 3 rfl) ?_
  refine lv_iconst (v := iI 0) hx hb dL_person_1 (by decide +kernel) ?_
  refine lv_aload_n hx hb dL_person_2 rfl (lv_at hl 0 rfl) ?_
  refine lv_iload_n hx hb dL_person_3 rfl (lv_at hl 1 rfl) ?_
  refine lv_iload_n hx hb dL_person_4 rfl (lv_at hl 2 rfl) ?_
  refine k_X (ce := 1) (sl := 6) (rest := [.int (iI 0), .ref oo]) (wr := [(oo, .inl (T 1, 1, .inr (.inl h9)))]) (vx_runV M.1 (c_person l hl9 D T _ a0 x0 x1 a1 a2 a3 a4 a5 a6 a7 a8 a9 a10 a11 a12 a13 a14 r0 x2 r1 a15 a16 a17 a18 r2 r3 r4 r5 a19 a20 a21 a22 a23 a24 a25 a26 a27 x3 x4 x5 x6 x7 x8 x9 x10 x11 f0 f1 f2 f3 f4 f5 x0_a x0_b x1_a x1_b x2_a x2_b x3_a x3_b x4_a x4_b x5_a x5_b x6_a x6_b x7_a x7_b x8_a x8_b x9_a x9_b x10_a x10_b x11_a x11_b f1_h f2_h f3_h f4_h f5_h) ⟨callB_of 2 M.1.2.2.2.2 (gw_goodG V_HookedCityLaw_7.1) rfl rfl rfl (M.1.2.2.2.2 _ V_HookedCityLaw_7.2.2.1) (M.1.2.2.2.2 _ V_HookedCityLaw_7.2.1) V_HookedCityLaw_7.2.2.2 ⟨by decide, by decide⟩, M.1.2.2.2.2 _ G1371, M.1.2.2.2.2 _ G1372⟩ ⟨pPre.blind, va_recv M.2.1.1 w.1 clX11.1 (q0 := 0) rfl, fun U hU hW1 => pPre.mk hU hW1 M.2.1 M.2.2.1 M.2.2.2.1 M.2.2.2.2 w.2.2.1 (wsub w.1 [0, 1, 2, 3, 4, 5, 6, 7, 8] rfl) (w.2.1.sub [0, 1, 2, 3, 4, 5, 6, 7, 8] (by decide) rfl) hZT hca⟩ rfl rfl hl.1 rfl (Nat.le_of_ble_eq_true rfl) dL_person_5 ⟨by decide, by decide⟩) w [0, 1, 2, 3, 4, 5, 6, 7, 8] [9] rfl rfl (by decide) (by decide) rfl rfl (fun cl q9 H locs w hce hcv hcl => ?_) (fun v u H locs hp w => ?_)
  · refine vx_catch (own := RL) (name := NSE) M.1.2.2.2.1 [] ⟨0, 10, 13, 13⟩ [] htab (fun z hz => nomatch hz) (by decide) (by decide) (M.1.2.2.2.2 _ G1369) (va_Nw.use rfl (hca _ List.mem_cons_self)) hce hcv hcl ?_
    refine lv_astore (lv' := [(4, .ref q9), (0, .ref a0), (1, .int (iI x0)), (2, .int (iI x1)), (3, .ref oo)]) hx hb dL_person_13 hl (by decide) rfl (fun ls hl => ?_)
    refine lv_iconst (v := 1) hx hb dL_person_15 (by decide) ?_
    exact W.iret (v := 1) hx hb B.returns (fun t ht hW => ⟨⟨1, h9, rfl, trivial, ⟨by rw [ht]; exact wsub w.1 [1, 2, 3, 4, 5, 6, 7, 8, 9, 0] rfl, w.2.1.sub [1, 2, 3, 4, 5, 6, 7, 8, 9, 0] (by decide) rfl⟩⟩, w.2.2.1.F ht⟩) w.2.2.1.2.2 dL_person_16 (hlocks := B.notSynchronized)
  · have w : WD D (va_A [(a0, .inr (10, [.ref a1, .ref a2, .ref a3, .ref a4, .ref a5, .ref a6, .ref a7, .ref a8, .ref a9, .ref a10, .ref a11, .ref a12, .ref a13, .ref a14, .int r0, .int (iI x2), .int r1])), (a2, .inr (7, [.ref a15, .ref a16, .ref a17, .ref a18, .int r2, .int r3, .int r4, .int r5])), (a11, .inr (9, [.ref a19, .ref a20, .ref a21, .ref a22, .ref a23, .ref a24, .ref a25, .ref a26, .ref a27, .int (iI x3), .int (iI x4), .int (iI x5), .int (iI x6), .int (iI x7), .int (iI x8), .int (iI x9), .int (iI x10), .int (iI x11)])), (a15, .inl (T 0, 9, .inl f0)), (a16, .inl (T 0, 9, .inl (cI f1))), (a17, .inl (T 0, 9, .inl (cI f2))), (a20, .inl (T 0, 9, .inl (cI f3))), (a21, .inl (T 0, 9, .inl (cI f4))), (a22, .inl (T 0, 9, .inl (cI f5))), (oo, .inl (T 1, 1, .inr (.inl h9)))] s.heap.size) s.heap [(oo, .inl (T 1, 1, .inr (.inl h9))), (a0, .inr (10, [.ref a1, .ref a2, .ref a3, .ref a4, .ref a5, .ref a6, .ref a7, .ref a8, .ref a9, .ref a10, .ref a11, .ref a12, .ref a13, .ref a14, .int r0, .int (iI x2), .int r1])), (a2, .inr (7, [.ref a15, .ref a16, .ref a17, .ref a18, .int r2, .int r3, .int r4, .int r5])), (a11, .inr (9, [.ref a19, .ref a20, .ref a21, .ref a22, .ref a23, .ref a24, .ref a25, .ref a26, .ref a27, .int (iI x3), .int (iI x4), .int (iI x5), .int (iI x6), .int (iI x7), .int (iI x8), .int (iI x9), .int (iI x10), .int (iI x11)])), (a15, .inl (T 0, 9, .inl f0)), (a16, .inl (T 0, 9, .inl (cI f1))), (a17, .inl (T 0, 9, .inl (cI f2))), (a20, .inl (T 0, 9, .inl (cI f3))), (a21, .inl (T 0, 9, .inl (cI f4))), (a22, .inl (T 0, 9, .inl (cI f5)))] H locs := w
    refine lv_i2l (v := _) hx hb dL_person_8 rfl ?_
    refine b_anyl (fun y9 => ?_)
    refine r_last (ws' := [(oo, .inl (T 1, 1, .inr (.inl (vp_updL h9 (Int32.toNatClampNeg (iI 0)) y9)))), (a0, .inr (10, [.ref a1, .ref a2, .ref a3, .ref a4, .ref a5, .ref a6, .ref a7, .ref a8, .ref a9, .ref a10, .ref a11, .ref a12, .ref a13, .ref a14, .int r0, .int (iI x2), .int r1])), (a2, .inr (7, [.ref a15, .ref a16, .ref a17, .ref a18, .int r2, .int r3, .int r4, .int r5])), (a11, .inr (9, [.ref a19, .ref a20, .ref a21, .ref a22, .ref a23, .ref a24, .ref a25, .ref a26, .ref a27, .int (iI x3), .int (iI x4), .int (iI x5), .int (iI x6), .int (iI x7), .int (iI x8), .int (iI x9), .int (iI x10), .int (iI x11)])), (a15, .inl (T 0, 9, .inl f0)), (a16, .inl (T 0, 9, .inl (cI f1))), (a17, .inl (T 0, 9, .inl (cI f2))), (a20, .inl (T 0, 9, .inl (cI f3))), (a21, .inl (T 0, 9, .inl (cI f4))), (a22, .inl (T 0, 9, .inl (cI f5)))]) M w 0 rfl (iI_in (by decide) (by decide) (by decide)) rfl dL_person_9 (fun H locs w => ?_)
    refine lv_goto (tgt := 17) hx hb dL_person_10 (by decide) ?_
    refine lv_iconst (v := 0) hx hb dL_person_17 (by decide) ?_
    exact W.iret (v := 0) hx hb B.returns (fun t ht hW => ⟨⟨0, (vp_updL h9 (Int32.toNatClampNeg (iI 0)) y9), rfl, trivial, ⟨by rw [ht]; exact wsub w.1 [1, 2, 3, 4, 5, 6, 7, 8, 9, 0] rfl, w.2.1.sub [1, 2, 3, 4, 5, 6, 7, 8, 9, 0] (by decide) rfl⟩⟩, w.2.2.1.F ht⟩) w.2.2.1.2.2 dL_person_18 (hlocks := B.notSynchronized)
