theorem dX11_person_0 : decode cX11_person 0 = .ok (.aload_n 0, 1) := by decide +kernel
theorem dX11_person_1 : decode cX11_person 1 = .ok (.iload_n 1, 1) := by decide +kernel
theorem dX11_person_2 : decode cX11_person 2 = .ok (.invokevirtual 134, 3) := by decide +kernel
theorem dX11_person_5 : decode cX11_person 5 = .ok (.ifCond .eq 13, 3) := by decide +kernel
theorem dX11_person_18 : decode cX11_person 18 = .ok (.new 137, 3) := by decide +kernel
theorem dX11_person_21 : decode cX11_person 21 = .ok (.dup, 1) := by decide +kernel
theorem dX11_person_22 : decode cX11_person 22 = .ok (.invokespecial 139, 3) := by decide +kernel
theorem dX11_person_25 : decode cX11_person 25 = .ok (.athrow, 1) := by decide +kernel
theorem G1374 : Cond.classLink "HookedCity" 137 "java/util/NoSuchElementException" ∈ GW := gw_i 1374 (by decide +kernel) rfl
theorem G144 : Cond.initialized "java/util/NoSuchElementException" ∈ GW := gw_i 144 (by decide +kernel) rfl
theorem dL_person_0 : decode cL_person 0 = .ok (.aload_n 3, 1) := by decide +kernel
theorem dL_person_1 : decode cL_person 1 = .ok (.iconst 0, 1) := by decide +kernel
theorem dL_person_2 : decode cL_person 2 = .ok (.aload_n 0, 1) := by decide +kernel
theorem dL_person_3 : decode cL_person 3 = .ok (.iload_n 1, 1) := by decide +kernel
theorem dL_person_4 : decode cL_person 4 = .ok (.iload_n 2, 1) := by decide +kernel
theorem dL_person_5 : decode cL_person 5 = .ok (.invokevirtual 7, 3) := by decide +kernel
theorem dL_person_13 : decode cL_person 13 = .ok (.astore 4, 2) := by decide +kernel
theorem dL_person_15 : decode cL_person 15 = .ok (.iconst 1, 1) := by decide +kernel
theorem dL_person_16 : decode cL_person 16 = .ok (.ireturn, 1) := by decide +kernel
theorem G1373 : Cond.code ⟨"HookedCity", "person", "(II)I"⟩ prog_1_method_6_code 3 (some .int) ∈ GW := gw_i 1373 (by decide +kernel) rfl
theorem G1370 : Cond.methodLink "HookedCityLaw" 7 ⟨"HookedCity", "person", "(II)I"⟩ ∈ GW := gw_i 1370 (by decide +kernel) rfl
theorem V_HookedCityLaw_7 : VL "HookedCityLaw" 7 yX11_person cX11_person 3 (some .int) 2 := ⟨G1373, G1370, G119, by decide +kernel, by decide +kernel, by decide +kernel⟩
theorem G1371 : Cond.instanceMethod ⟨"HookedCity", "person", "(II)I"⟩ ∈ GW := gw_i 1371 (by decide +kernel) rfl
theorem G1372 : Cond.selects "HookedCity" ⟨"HookedCity", "person", "(II)I"⟩ ⟨"HookedCity", "person", "(II)I"⟩ ∈ GW := gw_i 1372 (by decide +kernel) rfl
theorem G1369 : Cond.classLink "HookedCityLaw" 13 "java/util/NoSuchElementException" ∈ GW := gw_i 1369 (by decide +kernel) rfl

def NSE : String := "java/util/NoSuchElementException"
def ZT (T : Nat → ClassId) (U : State) (H : Heap) : Prop := vx_Zq Bundle.tN "UNASSIGNED_STACK" Bundle.steD (fun q => T 6 ≤ q) U H ∧ vx_Zq Bundle.tN "SUPPRESSED_SENTINEL" Bundle.listD (fun q => T 6 ≤ q) U H
theorem ZT.go {T : Nat → ClassId} {s U : State} {A : Nat → Prop} {H : Heap} {locs : List Loc} (h : ZT T s s.heap) (hA : ∀ q, A q → T 6 ≤ q) (hS : va_S A s.heap H locs) (hvm : s.vm.Alike U.vm) : ZT T U H := ⟨vx_Zq.moved hvm (h.1.kept (fun a h1 h2 => hS.2.1 a h1 (fun q => h2 (hA a q)))), vx_Zq.moved hvm (h.2.kept (fun a h1 h2 => hS.2.1 a h1 (fun q => h2 (hA a q))))⟩
def PW : List Cond := [.castable NSE NSE, .declares ⟨"java/lang/RuntimeException", "<init>", "()V"⟩, .declares ⟨"java/lang/Exception", "<init>", "()V"⟩, .declares ⟨"java/lang/Throwable", "<init>", "()V"⟩]
theorem PW_tab (w : Cond) (h : w ∈ PW) : w.onTables = true := by
  simp only [PW, List.mem_cons, List.not_mem_nil, or_false] at h
  rcases h with rfl | rfl | rfl | rfl <;> rfl
theorem PW_in : PW.all (fun w => decide (w ∈ lw_tbl)) = true := by decide +kernel
def HC (s : State) : Prop := ∀ w ∈ PW, va_Nw w s
theorem HC.warm {s U : State} (h : HC s) (hW : s.WarmedH U.vm) : HC U := by
  intro w hw
  have h1 := h w hw
  simp only [PW, List.mem_cons, List.not_mem_nil, or_false] at hw
  rcases hw with rfl | rfl | rfl | rfl
  · exact va_Nw.warmC hW h1
  · exact va_Nw.warmD hW h1
  · exact va_Nw.warmD hW h1
  · exact va_Nw.warmD hW h1
theorem HC.same {u U : State} (h : HC u) (e : u.vm = U.vm) : HC U := fun w hw => va_Nw.same (PW_tab w hw) e (h w hw)
theorem HC.of {args : Array Value} {s : State} (h : ∀ w ∈ lw_tbl, w.before args s = true) : HC s := fun w hw => va_Nw.of (PW_tab w hw) (h w (of_decide_eq_true (List.all_eq_true.mp PW_in w hw)))
def pPre (av : List Value) (D : va_G) (T : Nat → ClassId) (ws : va_W) (sz : Nat) : Array Value → State → Prop := fun a U => cPre av D T ws sz a U ∧ ZT T U U.heap ∧ HC U
theorem pPre.blind {av : List Value} {D : va_G} {T : Nat → ClassId} {ws : va_W} {sz : Nat} : FrameBlind (pPre av D T ws sz) := fun a U g mk q => ⟨cPre.blind a U g mk q.1, ⟨vx_Zq.moved (u := U) (U := U.calling g mk a) (Vm.Alike.refl U.vm) q.2.1.1, vx_Zq.moved (u := U) (U := U.calling g mk a) (Vm.Alike.refl U.vm) q.2.1.2⟩, HC.same (u := U) q.2.2 rfl⟩
theorem pPre.mk {av : List Value} {D : va_G} {T : Nat → ClassId} {ws : va_W} {s U : State} {A : Nat → Prop} {H : Heap} {locs : List Loc} (hU : U.heap = H) (hW : s.WarmedH U.vm) (hX : CX D T s) (hA : ∀ q, A q → T 6 ≤ q) (hz : T 6 ≤ s.heap.size) (hZ : ZX T s s.heap) (hS : va_S A s.heap H locs) (hP : va_P D vwCl ws H) (hD : va_D A ws) (hZT : ZT T s s.heap) (hca : HC s) : pPre av D T ws H.size av.toArray U :=
  ⟨cPre.mk hU hW hX hA hz hZ hS hP hD, by rw [hU]; exact hZT.go hA hS hW.alike, hca.warm hW⟩
theorem pat_all : (vx_at0 RX11 139 NSE ["java/lang/RuntimeException", "java/lang/Exception"]).all (fun w => decide (w ∈ lw_tbl) && (goodWord w || decide (w ∈ PW))) = true := by decide +kernel
theorem pat {args : Array Value} {s : State} (hG : ∀ w ∈ GW, w.before args s = true) (hca : HC s) : ∀ w ∈ vx_at0 RX11 139 NSE ["java/lang/RuntimeException", "java/lang/Exception"], w.before args s = true := by
  intro w hw
  have h1 := List.all_eq_true.mp pat_all w hw
  simp only [Bool.and_eq_true, Bool.or_eq_true, decide_eq_true_eq] at h1
  rcases h1.2 with h | h
  · exact hG w (List.mem_filter.mpr ⟨h1.1, h⟩)
  · exact va_Nw.use (PW_tab w h) (hca w h)
theorem pgood : ∀ w ∈ Cond.classLink RX11 137 NSE :: Cond.initialized NSE :: vx_at0 RX11 139 NSE ["java/lang/RuntimeException", "java/lang/Exception"], vx_ot w = true := by
  have h : (Cond.classLink RX11 137 NSE :: Cond.initialized NSE :: vx_at0 RX11 139 NSE ["java/lang/RuntimeException", "java/lang/Exception"]).all vx_ot = true := by decide +kernel
  exact fun w hw => List.all_eq_true.mp h w hw
set_option maxRecDepth 100000 in
set_option maxHeartbeats 4000000 in
theorem c_person (l : Launch) (hl9 : l.stackTraces = false) (D : va_G) (T : Nat → ClassId) (sz : Nat) (a0 a1 a2 a3 a4 a5 a6 a7 a8 a9 a10 a11 a12 a13 a14 a15 a16 a17 a18 a19 a20 a21 a22 a23 : Nat) (x0 : Int32) (x1 : Int32) : vx_Met l yX11_person (Cond.code yX11_person cX11_person 3 (some .int) :: GW) (Rm 8 1 6) (pPre [.ref a0, .int x0, .int x1] D T [(a0, .inr (10, [.ref a1, .ref a2, .ref a3, .ref a4, .ref a5, .ref a6, .ref a7, .ref a8, .ref a9, .ref a10, .ref a11, .ref a12, .ref a13, .ref a14, .int 0, .int 0, .int 0])), (a11, .inr (9, [.ref a15, .ref a16, .ref a17, .ref a18, .ref a19, .ref a20, .ref a21, .ref a22, .ref a23, .int 0, .int 0, .int 0, .int 0, .int 12, .int 1, .int 0, .int 0, .int 0]))] sz) (va_Qi (fun (_ : Int32) (_ : Unit) => False) (fun _ _ => True) (va_A [(a0, .inr (10, [.ref a1, .ref a2, .ref a3, .ref a4, .ref a5, .ref a6, .ref a7, .ref a8, .ref a9, .ref a10, .ref a11, .ref a12, .ref a13, .ref a14, .int 0, .int 0, .int 0])), (a11, .inr (9, [.ref a15, .ref a16, .ref a17, .ref a18, .ref a19, .ref a20, .ref a21, .ref a22, .ref a23, .int 0, .int 0, .int 0, .int 0, .int 12, .int 1, .int 0, .int 0, .int 0]))] sz)) (vx_X (fun _ : Unit => True) (fun E _ _ => E = NSE) (va_A [(a0, .inr (10, [.ref a1, .ref a2, .ref a3, .ref a4, .ref a5, .ref a6, .ref a7, .ref a8, .ref a9, .ref a10, .ref a11, .ref a12, .ref a13, .ref a14, .int 0, .int 0, .int 0])), (a11, .inr (9, [.ref a15, .ref a16, .ref a17, .ref a18, .ref a19, .ref a20, .ref a21, .ref a22, .ref a23, .int 0, .int 0, .int 0, .int 0, .int 12, .int 1, .int 0, .int 0, .int 0]))] sz)) 1 6 (va_A [(a0, .inr (10, [.ref a1, .ref a2, .ref a3, .ref a4, .ref a5, .ref a6, .ref a7, .ref a8, .ref a9, .ref a10, .ref a11, .ref a12, .ref a13, .ref a14, .int 0, .int 0, .int 0])), (a11, .inr (9, [.ref a15, .ref a16, .ref a17, .ref a18, .ref a19, .ref a20, .ref a21, .ref a22, .ref a23, .int 0, .int 0, .int 0, .int 0, .int 12, .int 1, .int 0, .int 0, .int 0]))] sz) := by
  refine vx_ofW (cc := cX11_person) (maxL := 3) (ret := some .int) (by decide) rfl ?_
  intro p e s m args below meth c s₁ B hml hex hv
  obtain ⟨⟨rfl, hsz, hP, hX, hD, hz, hZ⟩, hZT, hca⟩ := hv
  subst hsz
  have hts := atoms_spec (ws := Cond.code yX11_person cX11_person 3 (some .int) :: GW) B.pre
  have hl := lv_entry [.ref a0, .int x0, .int x1] (n := 3) (Nat.le_of_ble_eq_true rfl)
  rw [lg_entry_eq]
  generalize (lg_sl [.ref a0, .int x0, .int x1] ++ List.replicate (3 - (lg_sl [.ref a0, .int x0, .int x1]).length) Slot.unset).toArray = ls at hl ⊢
  have M : MC p s m _ c cX11_person yX11_person.cls 3 D T (va_A [(a0, .inr (10, [.ref a1, .ref a2, .ref a3, .ref a4, .ref a5, .ref a6, .ref a7, .ref a8, .ref a9, .ref a10, .ref a11, .ref a12, .ref a13, .ref a14, .int 0, .int 0, .int 0])), (a11, .inr (9, [.ref a15, .ref a16, .ref a17, .ref a18, .ref a19, .ref a20, .ref a21, .ref a22, .ref a23, .int 0, .int 0, .int 0, .int 0, .int 12, .int 1, .int 0, .int 0, .int 0]))] s.heap.size) := ⟨⟨B.exec, B.bytes, hml, findClass_of_methodNamed B.named, fun w h => hts w (List.mem_cons_of_mem _ h)⟩, hX, fun q hq => hq.elim (fun ⟨k, e, h⟩ => hD.2 k _ h) (fun h => Nat.le_trans hz h), hz, hZ⟩
  have w : WD D (va_A [(a0, .inr (10, [.ref a1, .ref a2, .ref a3, .ref a4, .ref a5, .ref a6, .ref a7, .ref a8, .ref a9, .ref a10, .ref a11, .ref a12, .ref a13, .ref a14, .int 0, .int 0, .int 0])), (a11, .inr (9, [.ref a15, .ref a16, .ref a17, .ref a18, .ref a19, .ref a20, .ref a21, .ref a22, .ref a23, .int 0, .int 0, .int 0, .int 0, .int 12, .int 1, .int 0, .int 0, .int 0]))] s.heap.size) s.heap [(a0, .inr (10, [.ref a1, .ref a2, .ref a3, .ref a4, .ref a5, .ref a6, .ref a7, .ref a8, .ref a9, .ref a10, .ref a11, .ref a12, .ref a13, .ref a14, .int 0, .int 0, .int 0])), (a11, .inr (9, [.ref a15, .ref a16, .ref a17, .ref a18, .ref a19, .ref a20, .ref a21, .ref a22, .ref a23, .int 0, .int 0, .int 0, .int 0, .int 12, .int 1, .int 0, .int 0, .int 0]))] s.heap [] := ⟨hP, hD.self, va_S.rf, fun q h => Or.inr h⟩
  have hx := M.1.1
  have hb := M.1.2.1
  have hl : lv_has ls 3 [(0, .ref a0), (1, .int x0), (2, .int x1)] := hl
  refine lv_aload_n hx hb dX11_person_0 rfl (lv_at hl 0 rfl) ?_
  refine lv_iload_n hx hb dX11_person_1 rfl (lv_at hl 1 rfl) ?_
  refine k_I (ce := 0) (sl := 0) (rest := []) (wr := []) (r_V (f := 0) [0, 1] M w V_HookedCity_134 G841 G16 (c70_X11_isPerson l D T _ a0 a1 a2 a3 a4 a5 a6 a7 a8 a9 a10 a11 a12 a13 a14 a15 a16 a17 a18 a19 a20 a21 a22 a23 x0) 0 clX11 rfl rfl (by decide) rfl hl.1 rfl (Nat.le_of_ble_eq_true rfl) dX11_person_2 (by decide) (by decide) (by decide) (by decide)) w [0, 1] [] rfl rfl (by decide) (by decide) rfl rfl (fun v _ H locs hp w => ?_)
  have hp : (0 : Int32) = v := hp
  subst hp
  have w : WD D (va_A [(a0, .inr (10, [.ref a1, .ref a2, .ref a3, .ref a4, .ref a5, .ref a6, .ref a7, .ref a8, .ref a9, .ref a10, .ref a11, .ref a12, .ref a13, .ref a14, .int 0, .int 0, .int 0])), (a11, .inr (9, [.ref a15, .ref a16, .ref a17, .ref a18, .ref a19, .ref a20, .ref a21, .ref a22, .ref a23, .int 0, .int 0, .int 0, .int 0, .int 12, .int 1, .int 0, .int 0, .int 0]))] s.heap.size) s.heap [(a0, .inr (10, [.ref a1, .ref a2, .ref a3, .ref a4, .ref a5, .ref a6, .ref a7, .ref a8, .ref a9, .ref a10, .ref a11, .ref a12, .ref a13, .ref a14, .int 0, .int 0, .int 0])), (a11, .inr (9, [.ref a15, .ref a16, .ref a17, .ref a18, .ref a19, .ref a20, .ref a21, .ref a22, .ref a23, .int 0, .int 0, .int 0, .int 0, .int 12, .int 1, .int 0, .int 0, .int 0]))] H locs := w
  refine lv_if_eq (tgt := 18) hx hb dX11_person_5 (by decide) (fun _ => ?_) (fun c => absurd (by decide +kernel) c)
  exact vx_throw0 (own := RX11) (cls := NSE) (names := ["java/lang/RuntimeException", "java/lang/Exception"]) (ik := 137) (ic := 139) (A := va_A [(a0, .inr (10, [.ref a1, .ref a2, .ref a3, .ref a4, .ref a5, .ref a6, .ref a7, .ref a8, .ref a9, .ref a10, .ref a11, .ref a12, .ref a13, .ref a14, .int 0, .int 0, .int 0])), (a11, .inr (9, [.ref a15, .ref a16, .ref a17, .ref a18, .ref a19, .ref a20, .ref a21, .ref a22, .ref a23, .int 0, .int 0, .int 0, .int 0, .int 12, .int 1, .int 0, .int 0, .int 0]))] s.heap.size) (rest := []) hx hb hl9 M.1.2.2.2.1 (by decide +kernel) (by decide +kernel) (M.1.2.2.2.2 _ G1374) (M.1.2.2.2.2 _ G144) (pat M.1.2.2.2.2 hca) pgood (vx_Zq.narrow hZT.1 M.2.2.1) (vx_Zq.narrow hZT.2 M.2.2.1) w.2.2.1 (hl.1.trans M.1.2.2.1.symm) dX11_person_18 dX11_person_21 dX11_person_22 dX11_person_25 (fun x hx => (hex x hx).elim) (by decide) (by decide) (by decide) (by decide) B.notSynchronized (fun t h1 h2 h3 => ⟨(), trivial, rfl, Nat.le_trans w.2.2.1.1 h2, fun q q1 q2 => (h3 q (Nat.lt_of_lt_of_le q1 w.2.2.1.1)).trans (w.2.2.1.2.1 q q1 q2)⟩) w.2.2.1.2.2 (by decide) (by decide)
set_option maxRecDepth 100000 in
set_option maxHeartbeats 4000000 in
theorem c_lperson (l : Launch) (hl9 : l.stackTraces = false) (D : va_G) (T : Nat → ClassId) (sz : Nat) (a0 a1 a2 a3 a4 a5 a6 a7 a8 a9 a10 a11 a12 a13 a14 a15 a16 a17 a18 a19 a20 a21 a22 a23 : Nat) (x0 : Int32) (x1 : Int32) (oo : Nat) : Met l yL_person (Cond.codeWith yL_person cL_person 5 (some .int) [(0, 10, 13, 13)] :: GW) (Rm 9 1 6) (pPre [.ref a0, .int x0, .int x1, .ref oo] D T [(a0, .inr (10, [.ref a1, .ref a2, .ref a3, .ref a4, .ref a5, .ref a6, .ref a7, .ref a8, .ref a9, .ref a10, .ref a11, .ref a12, .ref a13, .ref a14, .int 0, .int 0, .int 0])), (a11, .inr (9, [.ref a15, .ref a16, .ref a17, .ref a18, .ref a19, .ref a20, .ref a21, .ref a22, .ref a23, .int 0, .int 0, .int 0, .int 0, .int 12, .int 1, .int 0, .int 0, .int 0])), (oo, .inl (T 1, 1, .inr (.inl (fun _ => 0))))] sz) (qI D [(a0, .inr (10, [.ref a1, .ref a2, .ref a3, .ref a4, .ref a5, .ref a6, .ref a7, .ref a8, .ref a9, .ref a10, .ref a11, .ref a12, .ref a13, .ref a14, .int 0, .int 0, .int 0])), (a11, .inr (9, [.ref a15, .ref a16, .ref a17, .ref a18, .ref a19, .ref a20, .ref a21, .ref a22, .ref a23, .int 0, .int 0, .int 0, .int 0, .int 12, .int 1, .int 0, .int 0, .int 0])), (oo, .inl (T 1, 1, .inr (.inl (fun _ => 0))))] sz (fun (v : Int32) (_ : Unit) => 1 = v) (fun _ => [])) 1 6 (va_A [(a0, .inr (10, [.ref a1, .ref a2, .ref a3, .ref a4, .ref a5, .ref a6, .ref a7, .ref a8, .ref a9, .ref a10, .ref a11, .ref a12, .ref a13, .ref a14, .int 0, .int 0, .int 0])), (a11, .inr (9, [.ref a15, .ref a16, .ref a17, .ref a18, .ref a19, .ref a20, .ref a21, .ref a22, .ref a23, .int 0, .int 0, .int 0, .int 0, .int 12, .int 1, .int 0, .int 0, .int 0])), (oo, .inl (T 1, 1, .inr (.inl (fun _ => 0))))] sz) := by
  refine va_MetW (cc := cL_person) (maxL := 5) (ret := some .int) (hh := [(0, 10, 13, 13)]) (by decide) rfl ?_
  intro p e s m args below meth c s₁ B hml hv
  obtain ⟨⟨rfl, hsz, hP, hX, hD, hz, hZ⟩, hZT, hca⟩ := hv
  subst hsz
  have hts := atoms_spec (ws := Cond.codeWith yL_person cL_person 5 (some .int) [(0, 10, 13, 13)] :: GW) B.pre
  have htab := vx_table (x := yL_person) B (hts _ List.mem_cons_self)
  have hl := lv_entry [.ref a0, .int x0, .int x1, .ref oo] (n := 5) (Nat.le_of_ble_eq_true rfl)
  rw [lg_entry_eq]
  generalize (lg_sl [.ref a0, .int x0, .int x1, .ref oo] ++ List.replicate (5 - (lg_sl [.ref a0, .int x0, .int x1, .ref oo]).length) Slot.unset).toArray = ls at hl ⊢
  have M : MC p s m _ c cL_person yL_person.cls 5 D T (va_A [(a0, .inr (10, [.ref a1, .ref a2, .ref a3, .ref a4, .ref a5, .ref a6, .ref a7, .ref a8, .ref a9, .ref a10, .ref a11, .ref a12, .ref a13, .ref a14, .int 0, .int 0, .int 0])), (a11, .inr (9, [.ref a15, .ref a16, .ref a17, .ref a18, .ref a19, .ref a20, .ref a21, .ref a22, .ref a23, .int 0, .int 0, .int 0, .int 0, .int 12, .int 1, .int 0, .int 0, .int 0])), (oo, .inl (T 1, 1, .inr (.inl (fun _ => 0))))] s.heap.size) := ⟨⟨B.exec, B.bytes, hml, findClass_of_methodNamed B.named, fun w h => hts w (List.mem_cons_of_mem _ h)⟩, hX, fun q hq => hq.elim (fun ⟨k, e, h⟩ => hD.2 k _ h) (fun h => Nat.le_trans hz h), hz, hZ⟩
  have w : WD D (va_A [(a0, .inr (10, [.ref a1, .ref a2, .ref a3, .ref a4, .ref a5, .ref a6, .ref a7, .ref a8, .ref a9, .ref a10, .ref a11, .ref a12, .ref a13, .ref a14, .int 0, .int 0, .int 0])), (a11, .inr (9, [.ref a15, .ref a16, .ref a17, .ref a18, .ref a19, .ref a20, .ref a21, .ref a22, .ref a23, .int 0, .int 0, .int 0, .int 0, .int 12, .int 1, .int 0, .int 0, .int 0])), (oo, .inl (T 1, 1, .inr (.inl (fun _ => 0))))] s.heap.size) s.heap [(a0, .inr (10, [.ref a1, .ref a2, .ref a3, .ref a4, .ref a5, .ref a6, .ref a7, .ref a8, .ref a9, .ref a10, .ref a11, .ref a12, .ref a13, .ref a14, .int 0, .int 0, .int 0])), (a11, .inr (9, [.ref a15, .ref a16, .ref a17, .ref a18, .ref a19, .ref a20, .ref a21, .ref a22, .ref a23, .int 0, .int 0, .int 0, .int 0, .int 12, .int 1, .int 0, .int 0, .int 0])), (oo, .inl (T 1, 1, .inr (.inl (fun _ => 0))))] s.heap [] := ⟨hP, hD.self, va_S.rf, fun q h => Or.inr h⟩
  have hx := M.1.1
  have hb := M.1.2.1
  have hl : lv_has ls 5 [(0, .ref a0), (1, .int x0), (2, .int x1), (3, .ref oo)] := hl
  refine lv_aload_n hx hb dL_person_0 rfl (lv_at hl 3 rfl) ?_
  refine lv_iconst (v := 0) hx hb dL_person_1 (by decide) ?_
  refine lv_aload_n hx hb dL_person_2 rfl (lv_at hl 0 rfl) ?_
  refine lv_iload_n hx hb dL_person_3 rfl (lv_at hl 1 rfl) ?_
  refine lv_iload_n hx hb dL_person_4 rfl (lv_at hl 2 rfl) ?_
  have hF := va_free (wc := [(a0, .inr (10, [.ref a1, .ref a2, .ref a3, .ref a4, .ref a5, .ref a6, .ref a7, .ref a8, .ref a9, .ref a10, .ref a11, .ref a12, .ref a13, .ref a14, .int 0, .int 0, .int 0])), (a11, .inr (9, [.ref a15, .ref a16, .ref a17, .ref a18, .ref a19, .ref a20, .ref a21, .ref a22, .ref a23, .int 0, .int 0, .int 0, .int 0, .int 12, .int 1, .int 0, .int 0, .int 0]))]) w.2.1 w.2.2.1 w.2.2.2 [0, 1] rfl
  refine vx_calli (rest := [.int 0, .ref oo]) (vx_runV M.1 (c_person l hl9 D T _ a0 a1 a2 a3 a4 a5 a6 a7 a8 a9 a10 a11 a12 a13 a14 a15 a16 a17 a18 a19 a20 a21 a22 a23 x0 x1) ⟨callB_of 2 M.1.2.2.2.2 (gw_goodG V_HookedCityLaw_7.1) rfl rfl rfl (M.1.2.2.2.2 _ V_HookedCityLaw_7.2.2.1) (M.1.2.2.2.2 _ V_HookedCityLaw_7.2.1) V_HookedCityLaw_7.2.2.2 ⟨by decide, by decide⟩, M.1.2.2.2.2 _ G1371, M.1.2.2.2.2 _ G1372⟩ ⟨pPre.blind, va_recv M.2.1.1 w.1 clX11.1 (q0 := 0) rfl, fun U hU hW1 => pPre.mk hU hW1 M.2.1 M.2.2.1 M.2.2.2.1 M.2.2.2.2 w.2.2.1 (wsub w.1 [0, 1] rfl) (w.2.1.sub [0, 1] (by decide) rfl) hZT hca⟩ rfl rfl hl.1 rfl (Nat.le_of_ble_eq_true rfl) dL_person_5 ⟨by decide, by decide⟩) w.2.2.1 (fun q _ h => hF q h) hF (fun q _ h => hF q h) (fun E ce q9 u t H1 locs1 ht hvm hpx hB hz1 hk hS hce hcv hcl => ?_) (fun r u t H1 locs1 _ _ hp => hp.elim)
  have hB : E = NSE := hB
  subst hB
  refine vx_catch (own := RL) (name := NSE) M.1.2.2.2.1 [] ⟨0, 10, 13, 13⟩ [] htab (fun z hz => nomatch hz) (by decide) (by decide) (M.1.2.2.2.2 _ G1369) (va_Nw.use rfl (hca _ List.mem_cons_self)) hce hcv hcl ?_
  refine lv_astore (lv' := [(4, .ref q9), (0, .ref a0), (1, .int x0), (2, .int x1), (3, .ref oo)]) hx hb dL_person_13 hl (by decide) rfl (fun ls hl => ?_)
  refine lv_iconst (v := 1) hx hb dL_person_15 (by decide) ?_
  refine W.widen (k := 1) (n := 6) (by decide) (by decide) ?_
  exact W.iret (v := 1) hx hb B.returns (fun t ht hW => ⟨⟨1, (), rfl, rfl, ⟨fun k q h => by simp at h, ⟨fun i j a b h => by simp at h, fun k q h => by simp at h⟩⟩⟩, hS.F ht⟩) hS.2.2 dL_person_16 (hlocks := B.notSynchronized)
