-- ===== words: one list for all methods =====
def GW : List Cond := lw_tbl.filter goodWord
theorem gw_i {w : Cond} (i : Nat) (h : lw_tbl[i]? = some w) (hg : goodWord w = true) : w ∈ GW := List.mem_filter.mpr ⟨List.mem_of_getElem? h, hg⟩
theorem gw_of {ws : List Cond} (ps : List Nat) (hp : ws = ps.filterMap (fun i => lw_tbl[i]?)) (h : ws.all goodWord = true) : ∀ w ∈ ws, w ∈ GW := by
  intro w hw
  have h1 := List.all_eq_true.mp h w hw
  rw [hp] at hw
  obtain ⟨i, -, hi⟩ := List.mem_filterMap.mp hw
  exact gw_i i hi h1
theorem gw_lw : ∀ w ∈ GW, w ∈ lw_tbl := fun _ h => (List.mem_filter.mp h).1
theorem gw_good {c0 c1 : Cond} (h : c1 ∈ GW) : GoodIn (c0 :: GW) (c1 :: GW) := by
  intro w hw
  have key : ∀ w ∈ GW, w ∈ (c0 :: GW) ∧ ((w.onTables && w.keeps) = true ∨ ∃ ty, w = .arrayClass ty) := fun w hw => ⟨List.mem_cons_of_mem _ hw, good_of_word (List.mem_filter.mp hw).2⟩
  rcases List.mem_cons.mp hw with rfl | hw
  · exact key _ h
  · exact key w hw
theorem gw_goodG {c1 : Cond} (h : c1 ∈ GW) : GoodIn GW (c1 :: GW) := by
  intro w hw
  have key : ∀ w ∈ GW, w ∈ GW ∧ ((w.onTables && w.keeps) = true ∨ ∃ ty, w = .arrayClass ty) := fun w hw => ⟨hw, good_of_word (List.mem_filter.mp hw).2⟩
  rcases List.mem_cons.mp hw with rfl | hw
  · exact key _ h
  · exact key w hw
-- ===== nest words =====
def isNest : Cond → Bool
  | .fieldLinkNest .. => true
  | .methodLinkNest .. => true
  | _ => false
theorem nest_tab {w : Cond} (hn : isNest w = true) : w.onTables = true := by
  cases w <;> first | (simp [isNest] at hn; done) | rfl
def NW (U : State) : Prop := (∀ w ∈ lw_tbl, isNest w = true → va_Nw w U) ∧ ∀ C : String, Cond.arrayOver (.object C) ∈ lw_tbl → va_AO C U
theorem NW.warm {s U : State} (hW : s.WarmedH U.vm) (h : NW s) : NW U := by
  refine ⟨fun w hw hn => ?_, fun C hC => va_AO.moved hW.alike (h.2 C hC)⟩
  have h1 := h.1 w hw hn
  cases w <;> first | (simp [isNest] at hn; done) | exact va_Nw.warmF hW h1 | exact va_Nw.warmM hW h1
theorem NW.same {u U : State} (e : u.vm = U.vm) (h : NW u) : NW U := ⟨fun w hw hn => va_Nw.same (nest_tab hn) e (h.1 w hw hn), fun C hC => va_AO.moved (e ▸ Vm.Alike.refl u.vm) (h.2 C hC)⟩
theorem NW.of {args : Array Value} {s : State} (hts : ∀ w ∈ lw_tbl, w.before args s = true) : NW s := ⟨fun w hw hn => va_Nw.of (nest_tab hn) (hts w hw), fun C hC => va_AO.of (hts _ hC)⟩
-- ===== classes, array types, the context =====
abbrev tyl (T : Nat → ClassId) : List (ClassId × FieldType) := [(T 0, .int), (T 1, .long), (T 2, .boolean), (T 3, .object RX7), (T 4, .object RX1), (T 5, .object RX10)]
def CX (D : va_G) (T : Nat → ClassId) (U : State) : Prop := va_K D vwCl (tyl T) U ∧ NW U
theorem CX.warm {D : va_G} {T : Nat → ClassId} {s U : State} (hW : s.WarmedH U.vm) (h : CX D T s) : CX D T U := ⟨va_K.moved hW.alike h.1, h.2.warm hW⟩
theorem CX.call {D : va_G} {T : Nat → ClassId} {U : State} {g : JFrame} {mk : MethodId} {a : Array Value} (h : CX D T U) : CX D T (U.calling g mk a) := ⟨va_K.moved (u := U) (U := U.calling g mk a) (Vm.Alike.refl U.vm) h.1, NW.same (u := U) rfl h.2⟩
/-- a class of the world: its number, name, fields, types -/
def CLS (ci : Nat) (C : String) (F : u_T) (N : Nat) (ty : Nat → FieldType) : Prop := vwCl[ci]? = some (C, F, N) ∧ (∀ w ∈ u_ws C F N, w ∈ GW) ∧ (∀ k, k < N → parseFieldDescriptor (F k).2.2.1 = some (ty k)) ∧ ∀ a, a < N → ∀ b, b < N → a ≠ b → (F a).2.1 ≠ (F b).2.1
-- ===== contracts =====
def wlt : List Int64 := [542723566, 427300, 659100852, 146885, 20448837, 824370, 349593, 16942668, 81349, 2688627, 7734899, 2873769427, 418892979, 431556, 4153, 498, 1476, 14836, 508078, 67141, 671310, 599495, 763528, 463922, 409072, 3409198, 492210354]
def wkd : List Int32 := [-1, -1, -1, -1, -1, -1, -1, 0, 1, 2, 3, -1, -1, -1, -1, -1, -1, -1, -1, -1, -1, -1, -1, -1, -1, -1, -1]
-- what stands from the start: T 6 is the size of the heap at the law's entry, T (10 + k) the address of the k-th word, T 9 that of the row of all, T (50 + k) and T (60 + k) the k-th text and its bytes
def WNM : String := "HookedCity$Word"
def wnm : List String := ["PERSON", "MAID", "STREET", "DONE", "SPARE", "YEAR", "JULY", "PEARL", "BONE", "BRASS", "GLASS", "BUTTONS", "LOOSES", "MEND", "DAY", "OR", "AND", "NOT", "OPEN", "BARE", "TORN", "RING", "WITH", "NEAR", "LOOP", "CHAIN", "NUMBER"]
def sto : List (String × Nat × String × List Int32) := [("HookedCity$Tape", 68, ";<=>()", [59, 60, 61, 62, 40, 41]), ("HookedCity$Label", 34, " open", [32, 111, 112, 101, 110]), ("HookedCity$Label", 40, " in ", [32, 105, 110, 32]), ("HookedCity$Label", 45, " torn", [32, 116, 111, 114, 110]), ("HookedCity$Label", 50, " bare", [32, 98, 97, 114, 101])]
abbrev A6 (T : Nat → ClassId) : Nat → Prop := fun q => T 6 ≤ q
def ZW (T : Nat → ClassId) (U : State) (H : Heap) : Prop := ∀ (k : Nat) (n : String), wnm[k]? = some n → va_Z WNM n "LHookedCity$Word;" (.ref (T (10 + k))) (A6 T) U H ∧ va_O WNM (T (10 + k)) (A6 T) U H ∧ va_OF WNM "letters" "J" (.long (wlt.getD k 0)) (T (10 + k)) (A6 T) U H ∧ va_OF WNM "kind" "I" (.int (wkd.getD k 0)) (T (10 + k)) (A6 T) U H
def ZA (T : Nat → ClassId) (U : State) (H : Heap) : Prop := va_Z WNM "ALL" "[LHookedCity$Word;" (.ref (T 9)) (A6 T) U H ∧ va_T (.object WNM) (T 9) 27 (fun j => .ref (T (10 + j))) (A6 T) U H
def ZS (T : Nat → ClassId) (U : State) (H : Heap) : Prop := va_Z "java/lang/String" "COMPACT_STRINGS" "Z" (.int 1) (A6 T) U H ∧ ∀ (k : Nat) (q : String × Nat × String × List Int32), sto[k]? = some q → va_O "java/lang/String" (T (50 + k)) (A6 T) U H ∧ va_OF "java/lang/String" "value" "[B" (.ref (T (60 + k))) (T (50 + k)) (A6 T) U H ∧ va_OF "java/lang/String" "coder" "B" (.int 0) (T (50 + k)) (A6 T) U H ∧ va_T .byte (T (60 + k)) q.2.2.2.length (fun j => .int (q.2.2.2.getD j 0)) (A6 T) U H
def ZR (T : Nat → ClassId) (U : State) : Prop := ∀ (k : Nat) (q : String × Nat × String × List Int32), sto[k]? = some q → vk_R q.1 q.2.1 q.2.2.1 (T (50 + k)) U
def ZX (T : Nat → ClassId) (U : State) (H : Heap) : Prop := ZW T U H ∧ ZA T U H ∧ ZS T U H ∧ ZR T U ∧ va_Zq "jdk/internal/util/Preconditions" "SIOOBE_FORMATTER" "Ljava/util/function/BiFunction;" (A6 T) U H ∧ ∀ i j : Nat, i < 27 → j < 27 → T (10 + i) = T (10 + j) → i = j
theorem ZX.go {T : Nat → ClassId} {s U : State} {A : Nat → Prop} {H : Heap} {locs : List Loc} (h : ZX T s s.heap) (hA : ∀ q, A q → T 6 ≤ q) (hS : va_S A s.heap H locs) (hW : s.WarmedH U.vm) : ZX T U H := by
  have hk : ∀ a : Nat, a < s.heap.size → ¬ A6 T a → H[a]? = s.heap[a]? := fun a h1 h2 => hS.2.1 a h1 (fun q => h2 (hA a q))
  have hv := hW.alike
  refine ⟨fun k n hn => ?_, ⟨va_Z.moved hv (h.2.1.1.kept hk), va_T.moved hv (h.2.1.2.kept hk)⟩, ⟨va_Z.moved hv (h.2.2.1.1.kept hk), fun k q hq => ?_⟩, fun k q hq => (h.2.2.2.1 k q hq).warm hW, va_Zq.moved hv (h.2.2.2.2.1.kept hk), h.2.2.2.2.2⟩
  · obtain ⟨h1, h2, h3, h4⟩ := h.1 k n hn
    exact ⟨va_Z.moved hv (h1.kept hk), va_O.moved hv (h2.kept hk), va_OF.moved hv (h3.kept hk), va_OF.moved hv (h4.kept hk)⟩
  · obtain ⟨h1, h2, h3, h4⟩ := h.2.2.1.2 k q hq
    exact ⟨va_O.moved hv (h1.kept hk), va_OF.moved hv (h2.kept hk), va_OF.moved hv (h3.kept hk), va_T.moved hv (h4.kept hk)⟩
theorem ZX.call {T : Nat → ClassId} {U : State} {H : Heap} {g : JFrame} {mk : MethodId} {a : Array Value} (h : ZX T U H) : ZX T (U.calling g mk a) H := by
  have hv : U.vm.Alike (U.calling g mk a).vm := Vm.Alike.refl U.vm
  refine ⟨fun k n hn => ?_, ⟨va_Z.moved hv h.2.1.1, va_T.moved hv h.2.1.2⟩, ⟨va_Z.moved hv h.2.2.1.1, fun k q hq => ?_⟩, fun k q hq => vk_R.same (u := U) rfl (h.2.2.2.1 k q hq), va_Zq.moved hv h.2.2.2.2.1, h.2.2.2.2.2⟩
  · obtain ⟨h1, h2, h3, h4⟩ := h.1 k n hn
    exact ⟨va_Z.moved hv h1, va_O.moved hv h2, va_OF.moved hv h3, va_OF.moved hv h4⟩
  · obtain ⟨h1, h2, h3, h4⟩ := h.2.2.1.2 k q hq
    exact ⟨va_O.moved hv h1, va_OF.moved hv h2, va_OF.moved hv h3, va_T.moved hv h4⟩
def wok (T : Nat → ClassId) (r : Option Nat) : Prop := r = none ∨ ∃ k : Nat, k < 27 ∧ r = some (T (10 + k))
def woks (T : Nat → ClassId) (g : Nat → Option Nat) : Prop := ∀ j, wok T (g j)
theorem wok_n {T : Nat → ClassId} : wok T none := Or.inl rfl
theorem wok_k {T : Nat → ClassId} (k : Nat) (h : k < 27) : wok T (some (T (10 + k))) := Or.inr ⟨k, h, rfl⟩
theorem woks_up {T : Nat → ClassId} {g : Nat → Option Nat} {i : Nat} {r : Option Nat} (h : woks T g) (hr : wok T r) : woks T (va_up g i r) := by
  intro j
  unfold va_up
  split
  · exact hr
  · exact h j
def refs (L : List Nat) : Nat → Option Nat := fun j => L[j]?
def cPre (av : List Value) (D : va_G) (T : Nat → ClassId) (ws : va_W) (sz : Nat) : Array Value → State → Prop := va_Pc av (fun U => U.heap.size = sz ∧ va_P D vwCl ws U.heap ∧ CX D T U ∧ va_D (fun q => T 6 ≤ q) ws ∧ T 6 ≤ sz ∧ ZX T U U.heap)
abbrev cB {S : Type} (D : va_G) (ws : va_W) (sz : Nat) (wf : S → va_W) : S → State → Prop := fun u t => va_P D vwCl (wf u) t.heap ∧ va_D (va_A ws sz) (wf u)
def qV {S : Type} (D : va_G) (ws : va_W) (sz : Nat) (post : S → Prop) (wf : S → va_W) := va_Qv post (cB D ws sz wf) (va_A ws sz)
def qI {S : Type} (D : va_G) (ws : va_W) (sz : Nat) (post : Int32 → S → Prop) (wf : S → va_W) := va_Qi post (cB D ws sz wf) (va_A ws sz)
def qL {S : Type} (D : va_G) (ws : va_W) (sz : Nat) (post : Int64 → S → Prop) (wf : S → va_W) := va_Ql post (cB D ws sz wf) (va_A ws sz)
def qQ {S : Type} (D : va_G) (ws : va_W) (sz : Nat) (post : Option Nat → S → Prop) (wf : S → va_W) := va_Qq post (cB D ws sz wf) (va_A ws sz)
abbrev Rm (f k n : Nat) : Room := { frames := f, cells := k, slots := n, locals := 60 * f }
theorem cPre.blind {av : List Value} {D : va_G} {T : Nat → ClassId} {ws : va_W} {sz : Nat} : FrameBlind (cPre av D T ws sz) := fun a U g mk q => ⟨q.1, q.2.1, q.2.2.1, q.2.2.2.1.call, q.2.2.2.2.1, q.2.2.2.2.2.1, ZX.call q.2.2.2.2.2.2⟩
theorem cPre.mk {av : List Value} {D : va_G} {T : Nat → ClassId} {ws : va_W} {s U : State} {A : Nat → Prop} {H : Heap} {locs : List Loc} (hU : U.heap = H) (hW : s.WarmedH U.vm) (hX : CX D T s) (hA : ∀ q, A q → T 6 ≤ q) (hz : T 6 ≤ s.heap.size) (hZ : ZX T s s.heap) (hS : va_S A s.heap H locs) (hP : va_P D vwCl ws H) (hD : va_D A ws) : cPre av D T ws H.size av.toArray U :=
  ⟨rfl, by rw [hU], by rw [hU]; exact hP, hX.warm hW, hD.weaken (fun _ q _ h => hA q.1 h), Nat.le_trans hz hS.1, by rw [hU]; exact hZ.go hA hS hW⟩
theorem clX0 : CLS 0 RX0 TX0 6 tyX0 := ⟨rfl, gw_of [270, 272, 274, 276, 278, 280] (by decide +kernel) (by decide +kernel), tyX0_ok, nmX0⟩
theorem clX1 : CLS 1 RX1 TX1 4 tyX1 := ⟨rfl, gw_of [488, 490, 492, 494] (by decide +kernel) (by decide +kernel), tyX1_ok, nmX1⟩
theorem clX2 : CLS 2 RX2 TX2 2 tyX2 := ⟨rfl, gw_of [352, 354] (by decide +kernel) (by decide +kernel), tyX2_ok, nmX2⟩
theorem clX3 : CLS 3 RX3 TX3 5 tyX3 := ⟨rfl, gw_of [298, 300, 302, 304, 306] (by decide +kernel) (by decide +kernel), tyX3_ok, nmX3⟩
theorem clX4 : CLS 4 RX4 TX4 3 tyX4 := ⟨rfl, gw_of [335, 337, 339] (by decide +kernel) (by decide +kernel), tyX4_ok, nmX4⟩
theorem clX5 : CLS 5 RX5 TX5 6 tyX5 := ⟨rfl, gw_of [459, 461, 463, 465, 467, 469] (by decide +kernel) (by decide +kernel), tyX5_ok, nmX5⟩
theorem clX6 : CLS 6 RX6 TX6 2 tyX6 := ⟨rfl, gw_of [319, 321] (by decide +kernel) (by decide +kernel), tyX6_ok, nmX6⟩
theorem clX7 : CLS 7 RX7 TX7 8 tyX7 := ⟨rfl, gw_of [238, 240, 242, 244, 246, 248, 250, 252] (by decide +kernel) (by decide +kernel), tyX7_ok, nmX7⟩
theorem clX8 : CLS 8 RX8 TX8 12 tyX8 := ⟨rfl, gw_of [183, 185, 187, 189, 191, 193, 195, 197, 199, 201, 203, 205] (by decide +kernel) (by decide +kernel), tyX8_ok, nmX8⟩
theorem clX9 : CLS 9 RX9 TX9 18 tyX9 := ⟨rfl, gw_of [407, 409, 411, 413, 415, 417, 419, 421, 423, 425, 427, 429, 431, 433, 435, 437, 439, 441] (by decide +kernel) (by decide +kernel), tyX9_ok, nmX9⟩
theorem clX11 : CLS 10 RX11 TX11 17 tyX11 := ⟨rfl, gw_of [514, 516, 518, 520, 522, 524, 526, 528, 530, 532, 534, 536, 538, 540, 542, 544, 546] (by decide +kernel) (by decide +kernel), tyX11_ok, nmX11⟩
theorem clX12 : CLS 11 RX12 TX12 50 tyX12 := ⟨rfl, gw_of [1513, 1515, 1517, 1519, 1521, 1523, 1525, 1527, 1529, 1531, 1533, 1535, 1537, 1539, 1541, 1543, 1545, 1547, 1549, 1551, 1553, 1555, 1557, 1559, 1561, 1563, 1565, 1567, 1569, 1571, 1573, 1575, 1577, 1579, 1581, 1583, 1585, 1587, 1589, 1591, 1593, 1595, 1597, 1599, 1601, 1603, 1605, 1607, 1609, 1611] (by decide +kernel) (by decide +kernel), tyX12_ok, nmX12⟩
-- ===== ints by their numbers =====
def iI (z : Int) : Int32 := Int32.ofInt z
theorem iI_i {z : Int} (h0 : -2147483648 ≤ z) (h1 : z ≤ 2147483647) : (iI z).toInt = z := Int32.toInt_ofInt_of_le (Int.le_trans (by decide) h0) (Int.lt_of_le_of_lt h1 (by decide))
theorem iI_x (x : Int32) : iI x.toInt = x := Int32.ofInt_toInt x
theorem ib0 (x : Int32) : -2147483648 ≤ x.toInt := Int.le_trans (by decide) x.le_toInt
theorem ib1 (x : Int32) : x.toInt ≤ 2147483647 := Int.le_of_lt_add_one (Int.lt_of_lt_of_le x.toInt_lt (by decide))
theorem iI_add (a b : Int) : iI a + iI b = iI (a + b) := (Int32.ofInt_add a b).symm
theorem iI_sub (a b : Int) : iI a - iI b = iI (a - b) := (Int32.ofInt_sub a b).symm
theorem iI_mul (a b : Int) : iI a * iI b = iI (a * b) := (Int32.ofInt_mul a b).symm
theorem iI_neg (a : Int) : -iI a = iI (-a) := (Int32.ofInt_neg a).symm
theorem iI_lt {a b : Int} (a0 : -2147483648 ≤ a) (a1 : a ≤ 2147483647) (b0 : -2147483648 ≤ b) (b1 : b ≤ 2147483647) : iI a < iI b ↔ a < b := by rw [Int32.lt_iff_toInt_lt, iI_i a0 a1, iI_i b0 b1]
theorem iI_le {a b : Int} (a0 : -2147483648 ≤ a) (a1 : a ≤ 2147483647) (b0 : -2147483648 ≤ b) (b1 : b ≤ 2147483647) : iI a ≤ iI b ↔ a ≤ b := by rw [Int32.le_iff_toInt_le, iI_i a0 a1, iI_i b0 b1]
theorem iI_eq {a b : Int} (a0 : -2147483648 ≤ a) (a1 : a ≤ 2147483647) (b0 : -2147483648 ≤ b) (b1 : b ≤ 2147483647) : iI a = iI b ↔ a = b := by rw [← Int32.toInt_inj, iI_i a0 a1, iI_i b0 b1]
theorem iI_0 : (0 : Int32) = iI 0 := by decide +kernel
theorem iz_lt {a : Int} (a0 : -2147483648 ≤ a) (a1 : a ≤ 2147483647) : iI a < 0 ↔ a < 0 := by rw [iI_0]; exact iI_lt a0 a1 (by decide) (by decide)
theorem iz_gt {a : Int} (a0 : -2147483648 ≤ a) (a1 : a ≤ 2147483647) : 0 < iI a ↔ 0 < a := by rw [iI_0]; exact iI_lt (by decide) (by decide) a0 a1
theorem iz_le {a : Int} (a0 : -2147483648 ≤ a) (a1 : a ≤ 2147483647) : iI a ≤ 0 ↔ a ≤ 0 := by rw [iI_0]; exact iI_le a0 a1 (by decide) (by decide)
theorem iz_ge {a : Int} (a0 : -2147483648 ≤ a) (a1 : a ≤ 2147483647) : 0 ≤ iI a ↔ 0 ≤ a := by rw [iI_0]; exact iI_le (by decide) (by decide) a0 a1
theorem iz_eq {a : Int} (a0 : -2147483648 ≤ a) (a1 : a ≤ 2147483647) : iI a = 0 ↔ a = 0 := by rw [iI_0]; exact iI_eq a0 a1 (by decide) (by decide)
theorem iz_ne {a : Int} (a0 : -2147483648 ≤ a) (a1 : a ≤ 2147483647) (h : a < 0 ∨ 0 < a) : ¬ iI a = 0 := fun e => by have := (iz_eq a0 a1).mp e; omega
theorem iI_cl {z : Int} (h0 : 0 ≤ z) (h1 : z ≤ 2147483647) : (iI z).toNatClampNeg = z.toNat := Int32.toNatClampNeg_ofInt_of_le (Int.le_trans (by decide) h0) (Int.lt_of_le_of_lt h1 (by decide))
theorem iI_in {z : Int} {n : Nat} (h0 : 0 ≤ z) (h1 : z < (n : Int)) (hn : (n : Int) ≤ 2147483647) : vp_in (iI z) n := by
  intro h
  rcases h with h | h
  · have := (iz_lt (by omega) (by omega)).mp h; omega
  · rw [iI_cl h0 (by omega)] at h; omega
-- ===== contents by their numbers =====
def cI (c : Int → Int) : Nat → Int32 := fun j => iI (c (j : Int))
def upz (c : Int → Int) (k x : Int) : Int → Int := fun j => if j = k then x else c j
theorem cI_at {c : Int → Int} {z : Int} (h0 : 0 ≤ z) (h1 : z ≤ 2147483647) : cI c (iI z).toNatClampNeg = iI (c z) := by
  rw [iI_cl h0 h1]
  show iI (c ((z.toNat : Nat) : Int)) = iI (c z)
  rw [Int.toNat_of_nonneg h0]
theorem cI_up {c : Int → Int} {k x : Int} (h0 : 0 ≤ k) (h1 : k ≤ 2147483647) : upd (cI c) (iI k).toNatClampNeg (iI x) = cI (upz c k x) := by
  rw [iI_cl h0 h1]
  funext j
  simp only [upd, cI, upz]
  by_cases e : j = k.toNat
  · rw [if_pos e, if_pos (by omega)]
  · rw [if_neg e, if_neg (by omega)]
def rng (lo hi : Int) (c : Int → Int) : Prop := ∀ j, lo ≤ c j ∧ c j ≤ hi
theorem rng_up {lo hi k x : Int} {c : Int → Int} (h : rng lo hi c) (h0 : lo ≤ x) (h1 : x ≤ hi) : rng lo hi (upz c k x) := by
  intro j
  simp only [upz]
  by_cases e : j = k
  · rw [if_pos e]; exact ⟨h0, h1⟩
  · rw [if_neg e]; exact h j
def fiz (n x : Int) (c : Int → Int) : Int → Int := fun j => if 0 ≤ j ∧ j < n then x else c j
theorem rng_fi {lo hi n x : Int} {c : Int → Int} (h : rng lo hi c) (h0 : lo ≤ x) (h1 : x ≤ hi) : rng lo hi (fiz n x c) := by
  intro j
  simp only [fiz]
  by_cases e : 0 ≤ j ∧ j < n
  · rw [if_pos e]; exact ⟨h0, h1⟩
  · rw [if_neg e]; exact h j
def cpz (c d : Int → Int) (sp dp n : Int) : Int → Int := fun j => if dp ≤ j ∧ j < dp + n then c (sp + (j - dp)) else d j
theorem rng_cp {lo hi sp dp n : Int} {c d : Int → Int} (h : rng lo hi c) (h2 : rng lo hi d) : rng lo hi (cpz c d sp dp n) := by
  intro j
  simp only [cpz]
  by_cases e : dp ≤ j ∧ j < dp + n
  · rw [if_pos e]; exact h _
  · rw [if_neg e]; exact h2 j
-- ===== small laws of the operations =====
theorem nb_n {z : Int} (h0 : 0 ≤ z) (h1 : z ≤ 1) : narrow .boolean (.int (iI z)) = .int (iI z) := by
  have h : z = 0 ∨ z = 1 := by omega
  rcases h with rfl | rfl <;> decide +kernel
theorem nb_f {z : Int} (h0 : 0 ≤ z) (h1 : z ≤ 1) : fits .boolean (.int (iI z)) = true := by
  have h : z = 0 ∨ z = 1 := by omega
  rcases h with rfl | rfl <;> decide +kernel
theorem nb_z {z : Int} (h0 : 0 ≤ z) (h1 : z ≤ 1) : vp_nar .boolean (iI z) = iI z := by
  have h : z = 0 ∨ z = 1 := by omega
  rcases h with rfl | rfl <;> decide +kernel
theorem nc_n {z : Int} (h0 : 0 ≤ z) (h1 : z ≤ 65535) : narrow .char (.int (iI z)) = .int (iI z) := by
  have e : (iI z).toUInt32.toUInt16.toUInt32.toInt32 = iI z := by
    apply Int32.toInt_inj.mp
    have hz := iI_i (z := z) (by omega) (by omega)
    have h3 : (iI z).toInt = (iI z).toBitVec.toInt := rfl
    have h7 := (iI z).toBitVec.isLt
    have h2 : ((iI z).toBitVec.toNat : Int) = z := by
      rw [h3, BitVec.toInt_eq_toNat_cond] at hz
      split at hz <;> omega
    have h4 : ((iI z).toUInt32.toUInt16.toUInt32).toNat = (iI z).toUInt32.toNat % 65536 := by rw [UInt16.toNat_toUInt32, UInt32.toNat_toUInt16]
    have h8 : ((iI z).toUInt32.toUInt16.toUInt32).toInt32.toBitVec.toNat = ((iI z).toUInt32.toUInt16.toUInt32).toNat := rfl
    have h5 : (iI z).toUInt32.toNat = (iI z).toBitVec.toNat := rfl
    have h6 : ((iI z).toUInt32.toUInt16.toUInt32).toInt32.toInt = ((iI z).toUInt32.toUInt16.toUInt32).toInt32.toBitVec.toInt := rfl
    rw [h6, BitVec.toInt_eq_toNat_cond, h8, h4, h5, if_pos (by omega), hz]
    omega
  show Value.int (iI z).toUInt32.toUInt16.toUInt32.toInt32 = .int (iI z)
  rw [e]
theorem tb_nat {x : Int32} (h : 0 ≤ x.toInt) : (x.toBitVec.toNat : Int) = x.toInt := by
  have h2 : x.toInt = x.toBitVec.toInt := rfl
  rw [h2] at h ⊢
  rw [BitVec.toInt_eq_toNat_cond] at h ⊢
  split at h <;> rename_i q
  · rw [if_pos q]
  · have := x.toBitVec.isLt; omega
theorem ti_of {x : Int32} {n : Nat} (h : x.toBitVec.toNat = n) (hn : n ≤ 2147483647) : x.toInt = n := by
  have h2 : x.toInt = x.toBitVec.toInt := rfl
  rw [h2, BitVec.toInt_eq_toNat_cond, h, if_pos (by omega)]
theorem and_r {x y : Int32} (h : 0 ≤ y.toInt) : 0 ≤ (x &&& y).toInt ∧ (x &&& y).toInt ≤ y.toInt := by
  have e : (x &&& y).toBitVec.toNat = x.toBitVec.toNat &&& y.toBitVec.toNat := by rw [Int32.toBitVec_and, BitVec.toNat_and]
  have h1 := tb_nat h
  have h2 : x.toBitVec.toNat &&& y.toBitVec.toNat ≤ y.toBitVec.toNat := Nat.and_le_right
  have h3 := ib1 y
  have h4 := ti_of e (by omega)
  omega
theorem and_l {x y : Int32} (h : 0 ≤ x.toInt) : 0 ≤ (x &&& y).toInt ∧ (x &&& y).toInt ≤ x.toInt := by
  have e : (x &&& y).toBitVec.toNat = x.toBitVec.toNat &&& y.toBitVec.toNat := by rw [Int32.toBitVec_and, BitVec.toNat_and]
  have h1 := tb_nat h
  have h2 : x.toBitVec.toNat &&& y.toBitVec.toNat ≤ x.toBitVec.toNat := Nat.and_le_left
  have h3 := ib1 x
  have h4 := ti_of e (by omega)
  omega
theorem iand_r {a b : Int} (h0 : 0 ≤ b) (h1 : b ≤ 2147483647) : 0 ≤ (iI a &&& iI b).toInt ∧ (iI a &&& iI b).toInt ≤ b := by
  have h := and_r (x := iI a) (y := iI b) (by rw [iI_i (by omega) h1]; exact h0)
  rw [iI_i (by omega) h1] at h
  exact h
theorem iand_l {a b : Int} (h0 : 0 ≤ a) (h1 : a ≤ 2147483647) : 0 ≤ (iI a &&& iI b).toInt ∧ (iI a &&& iI b).toInt ≤ a := by
  have h := and_l (x := iI a) (y := iI b) (by rw [iI_i (by omega) h1]; exact h0)
  rw [iI_i (by omega) h1] at h
  exact h
theorem iand_rx {x : Int32} {b : Int} (h0 : 0 ≤ b) (h1 : b ≤ 2147483647) : 0 ≤ (x &&& iI b).toInt ∧ (x &&& iI b).toInt ≤ b := by
  have h := and_r (x := x) (y := iI b) (by rw [iI_i (by omega) h1]; exact h0)
  rw [iI_i (by omega) h1] at h
  exact h
theorem ior_9 {a b : Int} (a0 : 0 ≤ a) (a1 : a ≤ 511) (b0 : 0 ≤ b) (b1 : b ≤ 511) : 0 ≤ (iI a ||| iI b).toInt ∧ (iI a ||| iI b).toInt ≤ 511 := by
  have ea := iI_i (z := a) (by omega) (by omega)
  have eb := iI_i (z := b) (by omega) (by omega)
  have e : (iI a ||| iI b).toBitVec.toNat = (iI a).toBitVec.toNat ||| (iI b).toBitVec.toNat := by rw [Int32.toBitVec_or, BitVec.toNat_or]
  have h1 := tb_nat (x := iI a) (by omega)
  have h2 := tb_nat (x := iI b) (by omega)
  have h3 : (iI a).toBitVec.toNat ||| (iI b).toBitVec.toNat < 2 ^ 9 := Nat.or_lt_two_pow (by omega) (by omega)
  have h4 := ti_of e (by omega)
  omega
theorem ishl_9 {q : Int} (h0 : 0 ≤ q) (h1 : q ≤ 8) : 1 ≤ (iI 1 <<< (iI q &&& 31)).toInt ∧ (iI 1 <<< (iI q &&& 31)).toInt ≤ 256 := by
  have h : q = 0 ∨ q = 1 ∨ q = 2 ∨ q = 3 ∨ q = 4 ∨ q = 5 ∨ q = 6 ∨ q = 7 ∨ q = 8 := by omega
  rcases h with rfl | rfl | rfl | rfl | rfl | rfl | rfl | rfl | rfl <;> decide +kernel
theorem irem_r {a b : Int} (a0 : 0 ≤ a) (a1 : a ≤ 2147483647) (b0 : 0 < b) (b1 : b ≤ 2147483647) : 0 ≤ (iI a - iI a / iI b * iI b).toInt ∧ (iI a - iI a / iI b * iI b).toInt ≤ b - 1 := by
  have ea : iI a = nI a.toNat := by rw [nI, ← Int32.ofInt_eq_ofNat, Int.toNat_of_nonneg a0]; rfl
  have eb : iI b = nI b.toNat := by rw [nI, ← Int32.ofInt_eq_ofNat, Int.toNat_of_nonneg (by omega)]; rfl
  have h1 : a.toNat % b.toNat < b.toNat := Nat.mod_lt _ (by omega)
  rw [ea, eb, pk_rem (by omega) (by omega) (by omega), nI_toInt (by omega)]
  omega
theorem i2c_r (x : Int32) : 0 ≤ (x.toUInt32 % 65536).toInt32.toInt ∧ (x.toUInt32 % 65536).toInt32.toInt ≤ 65535 := by
  have h4 : (x.toUInt32 % 65536).toInt32.toBitVec.toNat = x.toUInt32.toNat % 65536 := rfl
  have h5 := ti_of h4 (by omega)
  omega
theorem iushr_8 (x : Int32) : 0 ≤ (x.toUInt32 >>> ((iI 8).toUInt32 &&& Int32.toUInt32 31)).toInt32.toInt ∧ (x.toUInt32 >>> ((iI 8).toUInt32 &&& Int32.toUInt32 31)).toInt32.toInt ≤ 16777215 := by
  have e : ((iI 8).toUInt32 &&& Int32.toUInt32 31) = 8 := by decide +kernel
  rw [e]
  have h1 : (x.toUInt32 >>> 8).toNat = x.toUInt32.toNat >>> 8 := by rw [UInt32.toNat_shiftRight]; rfl
  have h2 : x.toUInt32.toNat >>> 8 = x.toUInt32.toNat / 256 := Nat.shiftRight_eq_div_pow _ 8
  have h3 := x.toUInt32.toNat_lt
  have h4 : (x.toUInt32 >>> 8).toInt32.toBitVec.toNat = (x.toUInt32 >>> 8).toNat := rfl
  have h5 := ti_of (h4.trans (h1.trans h2)) (by omega)
  omega
theorem iushr_d {a : Int} (k : Nat) (hk : (iI (k : Int)).toUInt32 &&& Int32.toUInt32 31 = UInt32.ofNat k ∧ k < 32) (a0 : 0 ≤ a) (a1 : a ≤ 2147483647) : a / ((2 ^ k : Nat) : Int) ≤ ((iI a).toUInt32 >>> ((iI (k : Int)).toUInt32 &&& Int32.toUInt32 31)).toInt32.toInt ∧ ((iI a).toUInt32 >>> ((iI (k : Int)).toUInt32 &&& Int32.toUInt32 31)).toInt32.toInt ≤ a / ((2 ^ k : Nat) : Int) := by
  rw [hk.1]
  have hz := iI_i (z := a) (by omega) a1
  have h0 := tb_nat (x := iI a) (by omega)
  have h1 : ((iI a).toUInt32 >>> UInt32.ofNat k).toNat = (iI a).toUInt32.toNat >>> k := by
    rw [UInt32.toNat_shiftRight, UInt32.toNat_ofNat_of_lt' (by have := hk.2; exact Nat.lt_trans hk.2 (by decide)), Nat.mod_eq_of_lt hk.2]
  have h2 : (iI a).toUInt32.toNat >>> k = (iI a).toUInt32.toNat / 2 ^ k := Nat.shiftRight_eq_div_pow _ k
  have h3 : (iI a).toUInt32.toNat = (iI a).toBitVec.toNat := rfl
  have h4 : ((iI a).toUInt32 >>> UInt32.ofNat k).toInt32.toBitVec.toNat = ((iI a).toUInt32 >>> UInt32.ofNat k).toNat := rfl
  have hle : (iI a).toBitVec.toNat / 2 ^ k ≤ (iI a).toBitVec.toNat := Nat.div_le_self _ _
  have h5 := ti_of (h4.trans (h1.trans (h2.trans (by rw [h3])))) (by omega)
  have h6 : a = (((iI a).toBitVec.toNat : Nat) : Int) := by omega
  have h7 : a / ((2 ^ k : Nat) : Int) = (((iI a).toBitVec.toNat / 2 ^ k : Nat) : Int) := by
    conv => lhs; rw [h6]
    exact (Int.natCast_ediv _ _).symm
  rw [h5, h7]
  exact ⟨Int.le_refl _, Int.le_refl _⟩
theorem ntz_all : ∀ n : Fin 512, ((iI ((n : Nat) : Int) ^^^ iI (-1)) &&& (iI ((n : Nat) : Int) - iI 1)).toInt ≤ 255 ∨ (n : Nat) = 0 := by decide +kernel
theorem ntz_and {a : Int} (h0 : 1 ≤ a) (h1 : a ≤ 511) : 0 ≤ ((iI a ^^^ iI (-1)) &&& (iI (a - 1))).toInt ∧ ((iI a ^^^ iI (-1)) &&& (iI (a - 1))).toInt ≤ 255 := by
  refine ⟨(iand_rx (by omega) (by omega)).1, ?_⟩
  have h := ntz_all ⟨a.toNat, by omega⟩
  simp only at h
  rw [Int.toNat_of_nonneg (by omega), iI_sub] at h
  rcases h with h | h
  · exact h
  · omega
-- ===== the stack's top by a name =====
section BA
variable {p : Program} {l : Launch} {e : Env} {R : Room} {s : State} {m : MethodId} {args : Array Value} {below : List Frame} {meth : Method} {c : Code} {H : Heap} {locs : List Loc} {cells slots : Nat} {Q : State → Prop}
variable {pc : Nat} {ls : Array Slot} {rest : List Value}
theorem b_any {v : Int32} (kk : ∀ z : Int, -2147483648 ≤ z → z ≤ 2147483647 → W p l e R s m args below meth c H locs cells slots Q (F0 m pc ls (.int (iI z) :: rest))) : W p l e R s m args below meth c H locs cells slots Q (F0 m pc ls (.int v :: rest)) := by
  have h := kk v.toInt (ib0 v) (ib1 v)
  rw [iI_x] at h
  exact h
theorem b_rng {v : Int32} {lo hi : Int} (hv : lo ≤ v.toInt ∧ v.toInt ≤ hi) (kk : ∀ z : Int, lo ≤ z → z ≤ hi → W p l e R s m args below meth c H locs cells slots Q (F0 m pc ls (.int (iI z) :: rest))) : W p l e R s m args below meth c H locs cells slots Q (F0 m pc ls (.int v :: rest)) := by
  have h := kk v.toInt hv.1 hv.2
  rw [iI_x] at h
  exact h
theorem b_anyl {v : Int64} (kk : ∀ z : Int64, W p l e R s m args below meth c H locs cells slots Q (F0 m pc ls (.long z :: rest))) : W p l e R s m args below meth c H locs cells slots Q (F0 m pc ls (.long v :: rest)) := kk v
end BA
/-- a method at work: the machine, its code, its class, the words, the context -/
def MC (p : Program) (s : State) (m : MethodId) (args : Array Value) (c : Code) (cc : ByteArray) (own : String) (nL : Nat) (D : va_G) (T : Nat → ClassId) (A : Nat → Prop) : Prop := CallFix p m c cc nL s args GW own ∧ CX D T s ∧ (∀ q, A q → T 6 ≤ q) ∧ T 6 ≤ s.heap.size ∧ ZX T s s.heap
/-- the world at work -/
def WD (D : va_G) (A : Nat → Prop) (H0 : Heap) (ws : va_W) (H : Heap) (locs : List Loc) : Prop := va_P D vwCl ws H ∧ va_D A ws ∧ va_S A H0 H locs ∧ ∀ q, H0.size ≤ q → A q
section RW
variable {p : Program} {l : Launch} {e : Env} {R : Room} {s : State} {m : MethodId} {args : Array Value} {below : List Frame} {meth : Method} {c : Code} {H : Heap} {locs : List Loc} {cells slots : Nat} {Q : State → Prop}
variable {cc : ByteArray} {pc nL : Nat} {ls : Array Slot} {rest : List Value} {D : va_G} {T : Nat → ClassId} {A : Nat → Prop} {a : Nat} {ws : va_W} {H0 : Heap} {own : String}

theorem WD.to {ws ws' : va_W} (w : WD D A H0 ws H locs) (h : ws = ws') : WD D A H0 ws' H locs := h ▸ w
theorem r_get (M : MC p s m args c cc own nL D T A) (w : WD D A H0 ws H locs) (q0 k : Nat) {ci N index : Nat} {C : String} {F : u_T} {ty : Nat → FieldType} (hc : CLS ci C F N ty) {fs : List Value} {v : Value} (he : ws[q0]? = some (a, .inr (ci, fs))) (hk : k < N) (hl : Cond.fieldLink own index C (F k).2.1 (F k).2.2.1 ∈ GW) (hF : (F k).1 = C) (hv : fs[k]? = some v) (hdg : decode cc pc = .ok (.getfield index, 3)) (kk : W p l e R s m args below meth c H locs cells slots Q (F0 m (pc + 3) ls (v :: rest))) : W p l e R s m args below meth c H locs cells slots Q (F0 m pc ls (.ref a :: rest)) :=
  va_get M.1.1 M.1.2.1 M.1.2.2.2.2 hc.2.1 M.1.2.2.2.1 M.2.1.1 w.1 q0 he hc.1 k hk (M.1.2.2.2.2 _ hl) (fun x h => by rw [hF] at h; exact h) hv hdg kk
theorem r_getN (M : MC p s m args c cc own nL D T A) (w : WD D A H0 ws H locs) (q0 k : Nat) {ci N index : Nat} {C : String} {F : u_T} {ty : Nat → FieldType} (hc : CLS ci C F N ty) {fs : List Value} {v : Value} (he : ws[q0]? = some (a, .inr (ci, fs))) {host : String} (hk : k < N) (hl : Cond.fieldLinkNest own index C (F k).2.1 (F k).2.2.1 host ∈ lw_tbl) (hF : (F k).1 = C) (hv : fs[k]? = some v) (hdg : decode cc pc = .ok (.getfield index, 3)) (kk : W p l e R s m args below meth c H locs cells slots Q (F0 m (pc + 3) ls (v :: rest))) : W p l e R s m args below meth c H locs cells slots Q (F0 m pc ls (.ref a :: rest)) :=
  va_getN M.1.1 M.1.2.1 M.1.2.2.2.2 hc.2.1 M.1.2.2.2.1 M.2.1.1 w.1 q0 he hc.1 k hk (va_Nw.use rfl (M.2.1.2.1 _ hl rfl)) (fun x h => by rw [hF] at h; exact h) hv hdg kk
theorem r_put (M : MC p s m args c cc own nL D T A) (w : WD D A H0 ws H locs) (q0 k : Nat) {ci N index : Nat} {C : String} {F : u_T} {ty : Nat → FieldType} (hc : CLS ci C F N ty) {fs : List Value} {v : Value} (he : ws[q0]? = some (a, .inr (ci, fs))) (hk : k < N) (hl : Cond.fieldLink own index C (F k).2.1 (F k).2.2.1 ∈ GW) (hF : (F k).1 = C) (hfin : (F k).2.2.2 = false) (hn : narrow (ty k) v = v) (hfit : fits (ty k) v = true) (hlt : k < fs.length) {ws' : va_W} (hw : ws.set q0 (a, .inr (ci, fs.set k v)) = ws') (hdg : decode cc pc = .ok (.putfield index, 3)) (kk : ∀ (H1 : Heap) (locs1 : List Loc), WD D A H0 ws' H1 locs1 → W p l e R s m args below meth c H1 locs1 cells slots Q (F0 m (pc + 3) ls (rest))) : W p l e R s m args below meth c H locs cells slots Q (F0 m pc ls (v :: .ref a :: rest)) :=
  va_put M.1.1 M.1.2.1 M.1.2.2.2.2 hc.2.1 ty hc.2.2.1 hc.2.2.2 M.1.2.2.2.1 M.2.1.1 w.1 w.2.1 w.2.2.1 q0 he hc.1 k hk (M.1.2.2.2.2 _ hl) (fun x h => by rw [hF] at h; exact h) hfin (hc.2.2.1 k hk) hn hfit hlt hdg (fun H1 locs1 h1 h2 h3 => kk H1 locs1 (hw ▸ ⟨h1, h2, h3, w.2.2.2⟩))
theorem r_putF (M : MC p s m args c cc own nL D T A) (w : WD D A H0 ws H locs) (q0 k : Nat) {ci N index : Nat} {C : String} {F : u_T} {ty : Nat → FieldType} (hc : CLS ci C F N ty) {fs : List Value} {v : Value} (he : ws[q0]? = some (a, .inr (ci, fs))) (hk : k < N) (hl : Cond.fieldLink own index C (F k).2.1 (F k).2.2.1 ∈ GW) (hF : (F k).1 = C) (hfin : (F k).2.2.2 = true) (hin : meth.name = "<init>") (hd : (F k).1 = own) (hn : narrow (ty k) v = v) (hfit : fits (ty k) v = true) (hlt : k < fs.length) {ws' : va_W} (hw : ws.set q0 (a, .inr (ci, fs.set k v)) = ws') (hdg : decode cc pc = .ok (.putfield index, 3)) (kk : ∀ (H1 : Heap) (locs1 : List Loc), WD D A H0 ws' H1 locs1 → W p l e R s m args below meth c H1 locs1 cells slots Q (F0 m (pc + 3) ls (rest))) : W p l e R s m args below meth c H locs cells slots Q (F0 m pc ls (v :: .ref a :: rest)) :=
  va_putF M.1.1 M.1.2.1 M.1.2.2.2.2 hc.2.1 ty hc.2.2.1 hc.2.2.2 M.1.2.2.2.1 M.2.1.1 w.1 w.2.1 w.2.2.1 q0 he hc.1 k hk (M.1.2.2.2.2 _ hl) (fun x h => by rw [hF] at h; exact h) hfin hin hd (hc.2.2.1 k hk) hn hfit hlt hdg (fun H1 locs1 h1 h2 h3 => kk H1 locs1 (hw ▸ ⟨h1, h2, h3, w.2.2.2⟩))
theorem r_putN (M : MC p s m args c cc own nL D T A) (w : WD D A H0 ws H locs) (q0 k : Nat) {ci N index : Nat} {C : String} {F : u_T} {ty : Nat → FieldType} (hc : CLS ci C F N ty) {fs : List Value} {v : Value} (he : ws[q0]? = some (a, .inr (ci, fs))) {host : String} (hk : k < N) (hl : Cond.fieldLinkNest own index C (F k).2.1 (F k).2.2.1 host ∈ lw_tbl) (hF : (F k).1 = C) (hfin : (F k).2.2.2 = false) (hn : narrow (ty k) v = v) (hfit : fits (ty k) v = true) (hlt : k < fs.length) {ws' : va_W} (hw : ws.set q0 (a, .inr (ci, fs.set k v)) = ws') (hdg : decode cc pc = .ok (.putfield index, 3)) (kk : ∀ (H1 : Heap) (locs1 : List Loc), WD D A H0 ws' H1 locs1 → W p l e R s m args below meth c H1 locs1 cells slots Q (F0 m (pc + 3) ls (rest))) : W p l e R s m args below meth c H locs cells slots Q (F0 m pc ls (v :: .ref a :: rest)) :=
  va_putN M.1.1 M.1.2.1 M.1.2.2.2.2 hc.2.1 ty hc.2.2.1 hc.2.2.2 M.1.2.2.2.1 M.2.1.1 w.1 w.2.1 w.2.2.1 q0 he hc.1 k hk (va_Nw.use rfl (M.2.1.2.1 _ hl rfl)) (fun x h => by rw [hF] at h; exact h) hfin (hc.2.2.1 k hk) hn hfit hlt hdg (fun H1 locs1 h1 h2 h3 => kk H1 locs1 (hw ▸ ⟨h1, h2, h3, w.2.2.2⟩))
theorem r_iald (M : MC p s m args c cc own nL D T A) (w : WD D A H0 ws H locs) (q0 : Nat) {n : Nat} {f : Nat → Int32} {i : Int32} {v : Int32} (ha : ws[q0]? = some (a, .inl (T 0, n, .inl f))) (hin : vp_in i n) (hv : f i.toNatClampNeg = v) (hdg : decode cc pc = .ok (.iaload, 1)) (kk : W p l e R s m args below meth c H locs cells slots Q (F0 m (pc + 1) ls (.int v :: rest))) : W p l e R s m args below meth c H locs cells slots Q (F0 m pc ls (.int i :: .ref a :: rest)) :=
  va_iald M.1.1 M.1.2.1 M.2.1.1 w.1 q0 0 ha rfl hin hdg (hv ▸ kk)
theorem r_zald (M : MC p s m args c cc own nL D T A) (w : WD D A H0 ws H locs) (q0 : Nat) {n : Nat} {f : Nat → Int32} {i : Int32} {v : Int32} (ha : ws[q0]? = some (a, .inl (T 2, n, .inl f))) (hin : vp_in i n) (hv : f i.toNatClampNeg = v) (hdg : decode cc pc = .ok (.baload, 1)) (kk : W p l e R s m args below meth c H locs cells slots Q (F0 m (pc + 1) ls (.int v :: rest))) : W p l e R s m args below meth c H locs cells slots Q (F0 m pc ls (.int i :: .ref a :: rest)) :=
  va_zald M.1.1 M.1.2.1 M.2.1.1 w.1 q0 2 ha rfl hin hdg (hv ▸ kk)
theorem r_lald (M : MC p s m args c cc own nL D T A) (w : WD D A H0 ws H locs) (q0 : Nat) {n : Nat} {f : Nat → Int64} {i : Int32} {v : Int64} (ha : ws[q0]? = some (a, .inl (T 1, n, .inr (.inl f)))) (hin : vp_in i n) (hv : f i.toNatClampNeg = v) (hdg : decode cc pc = .ok (.laload, 1)) (kk : W p l e R s m args below meth c H locs cells slots Q (F0 m (pc + 1) ls (.long v :: rest))) : W p l e R s m args below meth c H locs cells slots Q (F0 m pc ls (.int i :: .ref a :: rest)) :=
  va_lald M.1.1 M.1.2.1 M.2.1.1 w.1 q0 1 ha rfl hin hdg (hv ▸ kk)
theorem r_iast (M : MC p s m args c cc own nL D T A) (w : WD D A H0 ws H locs) (q0 : Nat) {n : Nat} {f : Nat → Int32} {i : Int32} {x : Int32} (ha : ws[q0]? = some (a, .inl (T 0, n, .inl f))) (hin : vp_in i n) {ws' : va_W} (hw : ws.set q0 (a, .inl (T 0, n, .inl (upd f i.toNatClampNeg x))) = ws') (hdg : decode cc pc = .ok (.iastore, 1)) (kk : ∀ (H1 : Heap) (locs1 : List Loc), WD D A H0 ws' H1 locs1 → W p l e R s m args below meth c H1 locs1 cells slots Q (F0 m (pc + 1) ls (rest))) : W p l e R s m args below meth c H locs cells slots Q (F0 m pc ls (.int x :: .int i :: .ref a :: rest)) :=
  va_iast M.1.1 M.1.2.1 M.2.1.1 w.1 w.2.1 w.2.2.1 q0 0 ha rfl hin hdg (fun H1 locs1 h1 h2 h3 => kk H1 locs1 (hw ▸ ⟨h1, h2, h3, w.2.2.2⟩))
theorem r_last (M : MC p s m args c cc own nL D T A) (w : WD D A H0 ws H locs) (q0 : Nat) {n : Nat} {f : Nat → Int64} {i : Int32} {x : Int64} (ha : ws[q0]? = some (a, .inl (T 1, n, .inr (.inl f)))) (hin : vp_in i n) {ws' : va_W} (hw : ws.set q0 (a, .inl (T 1, n, .inr (.inl (vp_updL f i.toNatClampNeg x)))) = ws') (hdg : decode cc pc = .ok (.lastore, 1)) (kk : ∀ (H1 : Heap) (locs1 : List Loc), WD D A H0 ws' H1 locs1 → W p l e R s m args below meth c H1 locs1 cells slots Q (F0 m (pc + 1) ls (rest))) : W p l e R s m args below meth c H locs cells slots Q (F0 m pc ls (.long x :: .int i :: .ref a :: rest)) :=
  va_last M.1.1 M.1.2.1 M.2.1.1 w.1 w.2.1 w.2.2.1 q0 1 ha rfl hin hdg (fun H1 locs1 h1 h2 h3 => kk H1 locs1 (hw ▸ ⟨h1, h2, h3, w.2.2.2⟩))
theorem r_alen (M : MC p s m args c cc own nL D T A) (w : WD D A H0 ws H locs) (q0 t0 : Nat) {cA : ClassId} {x : vp_A} {ty : FieldType} {v : Int32} (ha : ws[q0]? = some (a, .inl (cA, x))) (ht : (tyl T)[t0]? = some (cA, ty)) (hv : Int32.ofNat x.1 = v) (hdg : decode cc pc = .ok (.arraylength, 1)) (kk : W p l e R s m args below meth c H locs cells slots Q (F0 m (pc + 1) ls (.int v :: rest))) : W p l e R s m args below meth c H locs cells slots Q (F0 m pc ls (.ref a :: rest)) :=
  va_alen M.1.1 M.1.2.1 M.2.1.1 w.1 q0 t0 ha ht hv hdg kk
theorem r_aald (M : MC p s m args c cc own nL D T A) (w : WD D A H0 ws H locs) (q0 t0 : Nat) {cA : ClassId} {C : String} {n : Nat} {f : Nat → Option Nat} {i : Int32} {v : Value} (ha : ws[q0]? = some (a, .inl (cA, n, .inr (.inr (.inr (.inr f)))))) (ht : (tyl T)[t0]? = some (cA, .object C)) (hin : vp_in i n) (hv : va_rf (f i.toNatClampNeg) = v) (hdg : decode cc pc = .ok (.aaload, 1)) (kk : W p l e R s m args below meth c H locs cells slots Q (F0 m (pc + 1) ls (v :: rest))) : W p l e R s m args below meth c H locs cells slots Q (F0 m pc ls (.int i :: .ref a :: rest)) :=
  va_aldq M.1.1 M.1.2.1 M.2.1.1 w.1 q0 t0 ha ht hin hdg (hv ▸ kk)
theorem r_aast (M : MC p s m args c cc own nL D T A) (w : WD D A H0 ws H locs) (q0 t0 qk ci : Nat) {cA : ClassId} {r : vw_C} {n v : Nat} {vs : List Value} {f : Nat → Option Nat} {i : Int32} (ha : ws[q0]? = some (a, .inl (cA, n, .inr (.inr (.inr (.inr f)))))) (ht : (tyl T)[t0]? = some (cA, .object r.1)) (hv : ws[qk]? = some (v, .inr (ci, vs))) (hc : vwCl[ci]? = some r) (hin : vp_in i n) {ws' : va_W} (hw : ws.set q0 (a, .inl (cA, n, .inr (.inr (.inr (.inr (va_up f i.toNatClampNeg (some v))))))) = ws') (hdg : decode cc pc = .ok (.aastore, 1)) (kk : ∀ (H1 : Heap) (locs1 : List Loc), WD D A H0 ws' H1 locs1 → W p l e R s m args below meth c H1 locs1 cells slots Q (F0 m (pc + 1) ls (rest))) : W p l e R s m args below meth c H locs cells slots Q (F0 m pc ls (.ref v :: .int i :: .ref a :: rest)) :=
  va_astq M.1.1 M.1.2.1 M.2.1.1 w.1 w.2.1 w.2.2.1 q0 t0 qk ci ha ht hv hc hin hdg (fun H1 locs1 h1 h2 h3 => kk H1 locs1 (hw ▸ ⟨h1, h2, h3, w.2.2.2⟩))
theorem r_new (M : MC p s m args c cc own nL D T A) (w : WD D A H0 ws H locs) {ci N index : Nat} {C : String} {F : u_T} {ty : Nat → FieldType} (hc : CLS ci C F N ty) {fs : List Value} (hl : Cond.classLink own index C ∈ GW) (hi : Cond.instantiable C N ∈ GW) (hini : Cond.initialized C ∈ GW) (hfs : ∀ j, j < N → defaultValue (ty j) = vp_V fs j) {ce sl : Nat} (hce : cells + 1 = ce) (hsl : slots + N = sl) (hcells : ce ≤ R.cells) (hslots : sl ≤ R.slots) {ws' : Nat → va_W} (hw : ∀ q, ws ++ [(q, .inr (ci, fs))] = ws' q) (hdg : decode cc pc = .ok (.new index, 3)) (kk : ∀ (q : Nat) (H1 : Heap), WD D A H0 (ws' q) H1 locs → W p l e R s m args below meth c H1 locs ce sl Q (F0 m (pc + 3) ls (.ref q :: rest))) : W p l e R s m args below meth c H locs cells slots Q (F0 m pc ls (rest)) := by
  subst hce; subst hsl
  exact va_new M.1.1 M.1.2.1 M.1.2.2.2.2 hc.2.1 ty hc.2.2.1 M.1.2.2.2.1 (M.1.2.2.2.2 _ hl) (M.1.2.2.2.2 _ hi) (M.1.2.2.2.2 _ hini) M.2.1.1 w.1 w.2.1 w.2.2.1 w.2.2.2 hc.1 hfs hcells hslots hdg (fun q H1 h1 h2 h3 => kk q H1 (hw q ▸ ⟨h1, h2, h3, w.2.2.2⟩))
theorem r_newai (M : MC p s m args c cc own nL D T A) (w : WD D A H0 ws H locs) {n : Int32} {N : Nat} (hl : Cond.arrayClass .int ∈ GW) (hn : ¬ n < 0) (hN : n.toNatClampNeg = N) (hb : N * 8 ≤ 536870912) {ce sl : Nat} (hce : cells + 1 = ce) (hsl : slots + N = sl) (hcells : ce ≤ R.cells) (hslots : sl ≤ R.slots) {ws' : Nat → va_W} (hw : ∀ q, ws ++ [(q, .inl (T 0, N, .inl (fun _ => 0)))] = ws' q) (hdg : decode cc pc = .ok (.newarray .int, 2)) (kk : ∀ (q : Nat) (H1 : Heap), WD D A H0 (ws' q) H1 locs → W p l e R s m args below meth c H1 locs ce sl Q (F0 m (pc + 2) ls (.ref q :: rest))) : W p l e R s m args below meth c H locs cells slots Q (F0 m pc ls (.int n :: rest)) := by
  subst hce; subst hsl
  refine va_newa (atype := .int) (ty := .int) M.1.1 M.1.2.1 (M.1.2.2.2.2 _ hl) rfl M.2.1.1 w.1 w.2.1 w.2.2.1 w.2.2.2 (a0 := (N, .inl (fun _ => 0))) (fun cA => rfl) hn hN (by simp only [componentBytes]; omega) hcells hslots hdg (fun q cA H1 hk h1 h2 h3 => ?_)
  have e1 := (hk.2 6 (cA, .int) rfl).2
  have e2 := (M.2.1.1.2 0 (T 0, .int) rfl).2
  have e3 : cA = T 0 := Option.some.inj (Eq.trans (Eq.symm e1) e2)
  subst e3
  exact kk q H1 (hw q ▸ ⟨h1, h2, h3, w.2.2.2⟩)
theorem r_newaz (M : MC p s m args c cc own nL D T A) (w : WD D A H0 ws H locs) {n : Int32} {N : Nat} (hl : Cond.arrayClass .boolean ∈ GW) (hn : ¬ n < 0) (hN : n.toNatClampNeg = N) (hb : N * 8 ≤ 536870912) {ce sl : Nat} (hce : cells + 1 = ce) (hsl : slots + N = sl) (hcells : ce ≤ R.cells) (hslots : sl ≤ R.slots) {ws' : Nat → va_W} (hw : ∀ q, ws ++ [(q, .inl (T 2, N, .inl (fun _ => 0)))] = ws' q) (hdg : decode cc pc = .ok (.newarray .boolean, 2)) (kk : ∀ (q : Nat) (H1 : Heap), WD D A H0 (ws' q) H1 locs → W p l e R s m args below meth c H1 locs ce sl Q (F0 m (pc + 2) ls (.ref q :: rest))) : W p l e R s m args below meth c H locs cells slots Q (F0 m pc ls (.int n :: rest)) := by
  subst hce; subst hsl
  refine va_newa (atype := .boolean) (ty := .boolean) M.1.1 M.1.2.1 (M.1.2.2.2.2 _ hl) rfl M.2.1.1 w.1 w.2.1 w.2.2.1 w.2.2.2 (a0 := (N, .inl (fun _ => 0))) (fun cA => rfl) hn hN (by simp only [componentBytes]; omega) hcells hslots hdg (fun q cA H1 hk h1 h2 h3 => ?_)
  have e1 := (hk.2 6 (cA, .boolean) rfl).2
  have e2 := (M.2.1.1.2 2 (T 2, .boolean) rfl).2
  have e3 : cA = T 2 := Option.some.inj (Eq.trans (Eq.symm e1) e2)
  subst e3
  exact kk q H1 (hw q ▸ ⟨h1, h2, h3, w.2.2.2⟩)
theorem r_newal (M : MC p s m args c cc own nL D T A) (w : WD D A H0 ws H locs) {n : Int32} {N : Nat} (hl : Cond.arrayClass .long ∈ GW) (hn : ¬ n < 0) (hN : n.toNatClampNeg = N) (hb : N * 8 ≤ 536870912) {ce sl : Nat} (hce : cells + 1 = ce) (hsl : slots + N = sl) (hcells : ce ≤ R.cells) (hslots : sl ≤ R.slots) {ws' : Nat → va_W} (hw : ∀ q, ws ++ [(q, .inl (T 1, N, .inr (.inl (fun _ => 0))))] = ws' q) (hdg : decode cc pc = .ok (.newarray .long, 2)) (kk : ∀ (q : Nat) (H1 : Heap), WD D A H0 (ws' q) H1 locs → W p l e R s m args below meth c H1 locs ce sl Q (F0 m (pc + 2) ls (.ref q :: rest))) : W p l e R s m args below meth c H locs cells slots Q (F0 m pc ls (.int n :: rest)) := by
  subst hce; subst hsl
  refine va_newa (atype := .long) (ty := .long) M.1.1 M.1.2.1 (M.1.2.2.2.2 _ hl) rfl M.2.1.1 w.1 w.2.1 w.2.2.1 w.2.2.2 (a0 := (N, .inr (.inl (fun _ => 0)))) (fun cA => rfl) hn hN (by simp only [componentBytes]; omega) hcells hslots hdg (fun q cA H1 hk h1 h2 h3 => ?_)
  have e1 := (hk.2 6 (cA, .long) rfl).2
  have e2 := (M.2.1.1.2 1 (T 1, .long) rfl).2
  have e3 : cA = T 1 := Option.some.inj (Eq.trans (Eq.symm e1) e2)
  subst e3
  exact kk q H1 (hw q ▸ ⟨h1, h2, h3, w.2.2.2⟩)
theorem r_newq (M : MC p s m args c cc own nL D T A) (w : WD D A H0 ws H locs) {n : Int32} {N t0 index : Nat} {C : String} {cA : ClassId} (hl : Cond.classLink own index C ∈ GW) (ho : Cond.arrayOver (.object C) ∈ lw_tbl) (ht : (tyl T)[t0]? = some (cA, .object C)) (hn : ¬ n < 0) (hN : n.toNatClampNeg = N) (hb : N * 4 ≤ 536870912) {ce sl : Nat} (hce : cells + 1 = ce) (hsl : slots + N = sl) (hcells : ce ≤ R.cells) (hslots : sl ≤ R.slots) {ws' : Nat → va_W} (hw : ∀ q, ws ++ [(q, .inl (cA, N, .inr (.inr (.inr (.inr (fun _ => none))))))] = ws' q) (hdg : decode cc pc = .ok (.anewarray index, 3)) (kk : ∀ (q : Nat) (H1 : Heap), WD D A H0 (ws' q) H1 locs → W p l e R s m args below meth c H1 locs ce sl Q (F0 m (pc + 3) ls (.ref q :: rest))) : W p l e R s m args below meth c H locs cells slots Q (F0 m pc ls (.int n :: rest)) := by
  subst hce; subst hsl
  refine va_newq M.1.1 M.1.2.1 M.1.2.2.2.1 (M.1.2.2.2.2 _ hl) (M.2.1.2.2 _ ho) M.2.1.1 w.1 w.2.1 w.2.2.1 w.2.2.2 hn hN hb hcells hslots hdg (fun q c2 H1 hk h1 h2 h3 => ?_)
  obtain ⟨-, -, -, -, -, e1⟩ := (hk.2 6 (c2, .object C) rfl).2
  obtain ⟨-, -, -, -, -, e2⟩ := (M.2.1.1.2 t0 (cA, .object C) ht).2
  have e3 : c2 = cA := Option.some.inj (Eq.trans (Eq.symm e1) e2)
  subst e3
  exact kk q H1 (hw q ▸ ⟨h1, h2, h3, w.2.2.2⟩)
theorem r_obj (M : MC p s m args c cc own nL D T A) {idx : Nat} (hl : Cond.methodLink own idx objectInit ∈ GW) (hi : Cond.instanceMethod objectInit ∈ GW) (hc : Cond.code objectInit ⟨#[0xb1]⟩ 1 none ∈ GW) (hls : ls.size = nL) (hdg : decode cc pc = .ok (.invokespecial idx, 3)) (hf : 1 ≤ R.frames) (hlo : (rest.map fun v => v.category).sum + 12 ≤ R.locals) (kk : W p l e R s m args below meth c H locs cells slots Q (F0 m (pc + 3) ls (rest))) : W p l e R s m args below meth c H locs cells slots Q (F0 m pc ls (.ref a :: rest)) :=
  W.objInit M.1.1 M.1.2.1 M.1.2.2.2.1 (M.1.2.2.2.2 _ hl) (M.1.2.2.2.2 _ hi) (M.1.2.2.2.2 _ hc) rfl (hls.trans M.1.2.2.1.symm) rfl hdg hf (by simpa [JFrame.monitorRoom] using hlo) (W.eq rfl kk)
theorem r_copyi (M : MC p s m args c cc own nL D T A) (w : WD D A H0 ws H locs) (q0 q1 : Nat) {a0 n0 n1 index : Nat} {f g : Nat → Int32} {sp dp n : Int32} (hl : Cond.methodLink own index arraycopyName ∈ GW) (hna : Cond.native arraycopyName ∈ GW) (hst : Cond.static arraycopyName ∈ GW) (hini : Cond.initialized "java/lang/System" ∈ GW) (hls : ls.size = nL) (ha0 : ws[q0]? = some (a0, .inl (T 0, n0, .inl f))) (ha1 : ws[q1]? = some (a, .inl (T 0, n1, .inl g))) (h1 : ¬ sp < 0) (h2 : ¬ dp < 0) (h3 : ¬ n < 0) (h4 : sp.toNatClampNeg + n.toNatClampNeg ≤ n0) (h5 : dp.toNatClampNeg + n.toNatClampNeg ≤ n1) (hf : 1 ≤ R.frames) (hlo : (rest.map fun v => v.category).sum + (nativeFrameWords "java/lang/System" "arraycopy" 5 + 11) ≤ R.locals) {ws' : va_W} (hw : ws.set q1 (a, .inl (T 0, n1, .inl (va_cpy f g sp.toNatClampNeg dp.toNatClampNeg n.toNatClampNeg))) = ws') (hdg : decode cc pc = .ok (.invokestatic index, 3)) (kk : ∀ (H1 : Heap) (locs1 : List Loc), WD D A H0 ws' H1 locs1 → W p l e R s m args below meth c H1 locs1 cells slots Q (F0 m (pc + 3) ls (rest))) : W p l e R s m args below meth c H locs cells slots Q (F0 m pc ls (.int n :: .int dp :: .ref a :: .int sp :: .ref a0 :: rest)) :=
  va_copyi M.1.1 M.1.2.1 (M.1.2.2.1.trans hls.symm) M.1.2.2.2.1 (M.1.2.2.2.2 _ hl) (M.1.2.2.2.2 _ hna) (M.1.2.2.2.2 _ hst) (M.1.2.2.2.2 _ hini) M.2.1.1 w.1 w.2.1 w.2.2.1 q0 q1 0 0 ha0 ha1 rfl rfl rfl h1 h2 h3 h4 h5 (fun _ _ => rfl) hf hlo hdg (fun H1 locs1 e1 e2 e3 => kk H1 locs1 (hw ▸ ⟨e1, e2, e3, w.2.2.2⟩))
theorem r_copyl (M : MC p s m args c cc own nL D T A) (w : WD D A H0 ws H locs) (q0 q1 : Nat) {a0 n0 n1 index : Nat} {f g : Nat → Int64} {sp dp n : Int32} (hl : Cond.methodLink own index arraycopyName ∈ GW) (hna : Cond.native arraycopyName ∈ GW) (hst : Cond.static arraycopyName ∈ GW) (hini : Cond.initialized "java/lang/System" ∈ GW) (hls : ls.size = nL) (ha0 : ws[q0]? = some (a0, .inl (T 1, n0, .inr (.inl f)))) (ha1 : ws[q1]? = some (a, .inl (T 1, n1, .inr (.inl g)))) (h1 : ¬ sp < 0) (h2 : ¬ dp < 0) (h3 : ¬ n < 0) (h4 : sp.toNatClampNeg + n.toNatClampNeg ≤ n0) (h5 : dp.toNatClampNeg + n.toNatClampNeg ≤ n1) (hf : 1 ≤ R.frames) (hlo : (rest.map fun v => v.category).sum + (nativeFrameWords "java/lang/System" "arraycopy" 5 + 11) ≤ R.locals) {ws' : va_W} (hw : ws.set q1 (a, .inl (T 1, n1, .inr (.inl (va_cpy f g sp.toNatClampNeg dp.toNatClampNeg n.toNatClampNeg)))) = ws') (hdg : decode cc pc = .ok (.invokestatic index, 3)) (kk : ∀ (H1 : Heap) (locs1 : List Loc), WD D A H0 ws' H1 locs1 → W p l e R s m args below meth c H1 locs1 cells slots Q (F0 m (pc + 3) ls (rest))) : W p l e R s m args below meth c H locs cells slots Q (F0 m pc ls (.int n :: .int dp :: .ref a :: .int sp :: .ref a0 :: rest)) :=
  va_copyl M.1.1 M.1.2.1 (M.1.2.2.1.trans hls.symm) M.1.2.2.2.1 (M.1.2.2.2.2 _ hl) (M.1.2.2.2.2 _ hna) (M.1.2.2.2.2 _ hst) (M.1.2.2.2.2 _ hini) M.2.1.1 w.1 w.2.1 w.2.2.1 q0 q1 1 1 ha0 ha1 rfl rfl rfl h1 h2 h3 h4 h5 (fun _ _ => rfl) hf hlo hdg (fun H1 locs1 e1 e2 e3 => kk H1 locs1 (hw ▸ ⟨e1, e2, e3, w.2.2.2⟩))
theorem r_iadd (M : MC p s m args c cc own nL D T A) {x y v : Int32} (hv : x + y = v) (hdg : decode cc pc = .ok (.iadd, 1)) (kk : W p l e R s m args below meth c H locs cells slots Q (F0 m (pc + 1) ls (.int v :: rest))) : W p l e R s m args below meth c H locs cells slots Q (F0 m pc ls (.int y :: .int x :: rest)) :=
  lv_iadd M.1.1 M.1.2.1 hdg (hv ▸ kk)
theorem r_isub (M : MC p s m args c cc own nL D T A) {x y v : Int32} (hv : x - y = v) (hdg : decode cc pc = .ok (.isub, 1)) (kk : W p l e R s m args below meth c H locs cells slots Q (F0 m (pc + 1) ls (.int v :: rest))) : W p l e R s m args below meth c H locs cells slots Q (F0 m pc ls (.int y :: .int x :: rest)) :=
  lv_isub M.1.1 M.1.2.1 hdg (hv ▸ kk)
theorem r_imul (M : MC p s m args c cc own nL D T A) {x y v : Int32} (hv : x * y = v) (hdg : decode cc pc = .ok (.imul, 1)) (kk : W p l e R s m args below meth c H locs cells slots Q (F0 m (pc + 1) ls (.int v :: rest))) : W p l e R s m args below meth c H locs cells slots Q (F0 m pc ls (.int y :: .int x :: rest)) :=
  lv_imul M.1.1 M.1.2.1 hdg (hv ▸ kk)
theorem r_iand (M : MC p s m args c cc own nL D T A) {x y v : Int32} (hv : x &&& y = v) (hdg : decode cc pc = .ok (.iand, 1)) (kk : W p l e R s m args below meth c H locs cells slots Q (F0 m (pc + 1) ls (.int v :: rest))) : W p l e R s m args below meth c H locs cells slots Q (F0 m pc ls (.int y :: .int x :: rest)) :=
  lv_iand M.1.1 M.1.2.1 hdg (hv ▸ kk)
theorem r_ior (M : MC p s m args c cc own nL D T A) {x y v : Int32} (hv : x ||| y = v) (hdg : decode cc pc = .ok (.ior, 1)) (kk : W p l e R s m args below meth c H locs cells slots Q (F0 m (pc + 1) ls (.int v :: rest))) : W p l e R s m args below meth c H locs cells slots Q (F0 m pc ls (.int y :: .int x :: rest)) :=
  lv_ior M.1.1 M.1.2.1 hdg (hv ▸ kk)
theorem r_ixor (M : MC p s m args c cc own nL D T A) {x y v : Int32} (hv : x ^^^ y = v) (hdg : decode cc pc = .ok (.ixor, 1)) (kk : W p l e R s m args below meth c H locs cells slots Q (F0 m (pc + 1) ls (.int v :: rest))) : W p l e R s m args below meth c H locs cells slots Q (F0 m pc ls (.int y :: .int x :: rest)) :=
  lv_ixor M.1.1 M.1.2.1 hdg (hv ▸ kk)
theorem r_ishl (M : MC p s m args c cc own nL D T A) {x y v : Int32} (hv : x <<< (y &&& 31) = v) (hdg : decode cc pc = .ok (.ishl, 1)) (kk : W p l e R s m args below meth c H locs cells slots Q (F0 m (pc + 1) ls (.int v :: rest))) : W p l e R s m args below meth c H locs cells slots Q (F0 m pc ls (.int y :: .int x :: rest)) :=
  lv_ishl M.1.1 M.1.2.1 hdg (hv ▸ kk)
theorem r_ishr (M : MC p s m args c cc own nL D T A) {x y v : Int32} (hv : x >>> (y &&& 31) = v) (hdg : decode cc pc = .ok (.ishr, 1)) (kk : W p l e R s m args below meth c H locs cells slots Q (F0 m (pc + 1) ls (.int v :: rest))) : W p l e R s m args below meth c H locs cells slots Q (F0 m pc ls (.int y :: .int x :: rest)) :=
  lv_ishr M.1.1 M.1.2.1 hdg (hv ▸ kk)
theorem r_iushr (M : MC p s m args c cc own nL D T A) {x y v : Int32} (hv : (x.toUInt32 >>> (y.toUInt32 &&& Int32.toUInt32 31)).toInt32 = v) (hdg : decode cc pc = .ok (.iushr, 1)) (kk : W p l e R s m args below meth c H locs cells slots Q (F0 m (pc + 1) ls (.int v :: rest))) : W p l e R s m args below meth c H locs cells slots Q (F0 m pc ls (.int y :: .int x :: rest)) :=
  lv_iushr M.1.1 M.1.2.1 hdg hv kk
theorem r_idiv (M : MC p s m args c cc own nL D T A) {x y v : Int32} (hv : x / y = v) (hne : ¬ y = 0) (hdg : decode cc pc = .ok (.idiv, 1)) (kk : W p l e R s m args below meth c H locs cells slots Q (F0 m (pc + 1) ls (.int v :: rest))) : W p l e R s m args below meth c H locs cells slots Q (F0 m pc ls (.int y :: .int x :: rest)) :=
  lv_idiv M.1.1 M.1.2.1 hdg hne (hv ▸ kk)
theorem r_irem (M : MC p s m args c cc own nL D T A) {x y v : Int32} (hv : x - x / y * y = v) (hne : ¬ y = 0) (hdg : decode cc pc = .ok (.irem, 1)) (kk : W p l e R s m args below meth c H locs cells slots Q (F0 m (pc + 1) ls (.int v :: rest))) : W p l e R s m args below meth c H locs cells slots Q (F0 m pc ls (.int y :: .int x :: rest)) :=
  lv_irem M.1.1 M.1.2.1 hdg hne (hv ▸ kk)
theorem r_ineg (M : MC p s m args c cc own nL D T A) {x v : Int32} (hv : -x = v) (hdg : decode cc pc = .ok (.ineg, 1)) (kk : W p l e R s m args below meth c H locs cells slots Q (F0 m (pc + 1) ls (.int v :: rest))) : W p l e R s m args below meth c H locs cells slots Q (F0 m pc ls (.int x :: rest)) :=
  lv_ineg M.1.1 M.1.2.1 hdg (hv ▸ kk)
theorem r_ladd (M : MC p s m args c cc own nL D T A) {x y v : Int64} (hv : x + y = v) (hdg : decode cc pc = .ok (.ladd, 1)) (kk : W p l e R s m args below meth c H locs cells slots Q (F0 m (pc + 1) ls (.long v :: rest))) : W p l e R s m args below meth c H locs cells slots Q (F0 m pc ls (.long y :: .long x :: rest)) :=
  lv_ladd M.1.1 M.1.2.1 hdg (hv ▸ kk)
theorem r_lsub (M : MC p s m args c cc own nL D T A) {x y v : Int64} (hv : x - y = v) (hdg : decode cc pc = .ok (.lsub, 1)) (kk : W p l e R s m args below meth c H locs cells slots Q (F0 m (pc + 1) ls (.long v :: rest))) : W p l e R s m args below meth c H locs cells slots Q (F0 m pc ls (.long y :: .long x :: rest)) :=
  lv_lsub M.1.1 M.1.2.1 hdg (hv ▸ kk)
theorem r_lmul (M : MC p s m args c cc own nL D T A) {x y v : Int64} (hv : x * y = v) (hdg : decode cc pc = .ok (.lmul, 1)) (kk : W p l e R s m args below meth c H locs cells slots Q (F0 m (pc + 1) ls (.long v :: rest))) : W p l e R s m args below meth c H locs cells slots Q (F0 m pc ls (.long y :: .long x :: rest)) :=
  lv_lmul M.1.1 M.1.2.1 hdg (hv ▸ kk)
theorem r_lor (M : MC p s m args c cc own nL D T A) {x y v : Int64} (hv : x ||| y = v) (hdg : decode cc pc = .ok (.lor, 1)) (kk : W p l e R s m args below meth c H locs cells slots Q (F0 m (pc + 1) ls (.long v :: rest))) : W p l e R s m args below meth c H locs cells slots Q (F0 m pc ls (.long y :: .long x :: rest)) :=
  lv_lor M.1.1 M.1.2.1 hdg (hv ▸ kk)
theorem r_land (M : MC p s m args c cc own nL D T A) {x y v : Int64} (hv : x &&& y = v) (hdg : decode cc pc = .ok (.land, 1)) (kk : W p l e R s m args below meth c H locs cells slots Q (F0 m (pc + 1) ls (.long v :: rest))) : W p l e R s m args below meth c H locs cells slots Q (F0 m pc ls (.long y :: .long x :: rest)) :=
  lv_land M.1.1 M.1.2.1 hdg (hv ▸ kk)
theorem r_ldiv (M : MC p s m args c cc own nL D T A) {x y v : Int64} (hv : x / y = v) (hne : ¬ y = 0) (hdg : decode cc pc = .ok (.ldiv, 1)) (kk : W p l e R s m args below meth c H locs cells slots Q (F0 m (pc + 1) ls (.long v :: rest))) : W p l e R s m args below meth c H locs cells slots Q (F0 m pc ls (.long y :: .long x :: rest)) :=
  lv_ldiv M.1.1 M.1.2.1 hdg hne (hv ▸ kk)
theorem r_lrem (M : MC p s m args c cc own nL D T A) {x y v : Int64} (hv : x - x / y * y = v) (hne : ¬ y = 0) (hdg : decode cc pc = .ok (.lrem, 1)) (kk : W p l e R s m args below meth c H locs cells slots Q (F0 m (pc + 1) ls (.long v :: rest))) : W p l e R s m args below meth c H locs cells slots Q (F0 m pc ls (.long y :: .long x :: rest)) :=
  lv_lrem M.1.1 M.1.2.1 hdg hne (hv ▸ kk)
theorem r_lcmp (M : MC p s m args c cc own nL D T A) {x y : Int64} {v : Int32} (hv : lg_cmp x y = v) (hdg : decode cc pc = .ok (.lcmp, 1)) (kk : W p l e R s m args below meth c H locs cells slots Q (F0 m (pc + 1) ls (.int v :: rest))) : W p l e R s m args below meth c H locs cells slots Q (F0 m pc ls (.long y :: .long x :: rest)) :=
  W.lcmp M.1.1 M.1.2.1 hdg (hv ▸ kk)
theorem r_zast (M : MC p s m args c cc own nL D T A) (w : WD D A H0 ws H locs) (q0 : Nat) {n : Nat} {f : Nat → Int32} {i x x2 : Int32} (ha : ws[q0]? = some (a, .inl (T 2, n, .inl f))) (hin : vp_in i n) (hx2 : vp_nar .boolean x = x2) {ws' : va_W} (hw : ws.set q0 (a, .inl (T 2, n, .inl (upd f i.toNatClampNeg x2))) = ws') (hdg : decode cc pc = .ok (.bastore, 1)) (kk : ∀ (H1 : Heap) (locs1 : List Loc), WD D A H0 ws' H1 locs1 → W p l e R s m args below meth c H1 locs1 cells slots Q (F0 m (pc + 1) ls (rest))) : W p l e R s m args below meth c H locs cells slots Q (F0 m pc ls (.int x :: .int i :: .ref a :: rest)) := by
  subst hx2
  exact va_zast M.1.1 M.1.2.1 M.2.1.1 w.1 w.2.1 w.2.2.1 q0 2 ha rfl hin hdg (fun H1 locs1 h1 h2 h3 => kk H1 locs1 (hw ▸ ⟨h1, h2, h3, w.2.2.2⟩))
theorem r_min (M : MC p s m args c cc own nL D T A) {index : Nat} {x y v : Int32} (hl : Cond.methodLink own index Lib.Math.min.name ∈ GW) (hst : Cond.static Lib.Math.min.name ∈ GW) (hini : Cond.initialized "java/lang/Math" ∈ GW) (hco : Cond.code Lib.Math.min.name Lib.Math.min.code 2 (some .int) ∈ GW) (hls : ls.size = nL) (hf : 1 ≤ R.frames) (hlo : (rest.map fun v => v.category).sum + 13 ≤ R.locals) (hc : cells ≤ R.cells) (hs : slots ≤ R.slots) (hv : (if y < x then y else x) = v) (hdg : decode cc pc = .ok (.invokestatic index, 3)) (kk : W p l e R s m args below meth c H locs cells slots Q (F0 m (pc + 3) ls (.int v :: rest))) : W p l e R s m args below meth c H locs cells slots Q (F0 m pc ls (.int y :: .int x :: rest)) :=
  va_mmin M.1.1 M.1.2.1 (M.1.2.2.1.trans hls.symm) M.1.2.2.2.1 (M.1.2.2.2.2 _ hl) (M.1.2.2.2.2 _ hst) (M.1.2.2.2.2 _ hini) (M.1.2.2.2.2 _ hco) hf hlo hc hs hdg (hv ▸ kk)
theorem r_max (M : MC p s m args c cc own nL D T A) {index : Nat} {x y v : Int32} (hl : Cond.methodLink own index Lib.Math.max.name ∈ GW) (hst : Cond.static Lib.Math.max.name ∈ GW) (hini : Cond.initialized "java/lang/Math" ∈ GW) (hco : Cond.code Lib.Math.max.name Lib.Math.max.code 2 (some .int) ∈ GW) (hls : ls.size = nL) (hf : 1 ≤ R.frames) (hlo : (rest.map fun v => v.category).sum + 13 ≤ R.locals) (hc : cells ≤ R.cells) (hs : slots ≤ R.slots) (hv : (if x < y then y else x) = v) (hdg : decode cc pc = .ok (.invokestatic index, 3)) (kk : W p l e R s m args below meth c H locs cells slots Q (F0 m (pc + 3) ls (.int v :: rest))) : W p l e R s m args below meth c H locs cells slots Q (F0 m pc ls (.int y :: .int x :: rest)) :=
  va_mmax M.1.1 M.1.2.1 (M.1.2.2.1.trans hls.symm) M.1.2.2.2.1 (M.1.2.2.2.2 _ hl) (M.1.2.2.2.2 _ hst) (M.1.2.2.2.2 _ hini) (M.1.2.2.2.2 _ hco) hf hlo hc hs hdg (hv ▸ kk)
theorem r_gets (M : MC p s m args c cc own nL D T A) (w : WD D A s.heap ws H locs) (k : Nat) {n : String} {index : Nat} (hn : wnm[k]? = some n) (hl : Cond.fieldLink own index WNM n "LHookedCity$Word;" ∈ GW) (hdg : decode cc pc = .ok (.getstatic index, 3)) (kk : W p l e R s m args below meth c H locs cells slots Q (F0 m (pc + 3) ls (.ref (T (10 + k)) :: rest))) : W p l e R s m args below meth c H locs cells slots Q (F0 m pc ls (rest)) :=
  va_gets M.1.1 M.1.2.1 ((M.2.2.2.2.1 k n hn).1.narrow M.2.2.1) w.2.2.1 M.1.2.2.2.1 (M.1.2.2.2.2 _ hl) (fun _ h => h) hdg kk
theorem r_getAll (M : MC p s m args c cc own nL D T A) (w : WD D A s.heap ws H locs) {index : Nat} (hl : Cond.fieldLink own index WNM "ALL" "[LHookedCity$Word;" ∈ GW) (hdg : decode cc pc = .ok (.getstatic index, 3)) (kk : W p l e R s m args below meth c H locs cells slots Q (F0 m (pc + 3) ls (.ref (T 9) :: rest))) : W p l e R s m args below meth c H locs cells slots Q (F0 m pc ls (rest)) :=
  va_gets M.1.1 M.1.2.1 (M.2.2.2.2.2.1.1.narrow M.2.2.1) w.2.2.1 M.1.2.2.2.1 (M.1.2.2.2.2 _ hl) (fun _ h => h) hdg kk
theorem r_getCS (M : MC p s m args c cc own nL D T A) (w : WD D A s.heap ws H locs) {index : Nat} (hl : Cond.fieldLink own index "java/lang/String" "COMPACT_STRINGS" "Z" ∈ GW) (hdg : decode cc pc = .ok (.getstatic index, 3)) (kk : W p l e R s m args below meth c H locs cells slots Q (F0 m (pc + 3) ls (.int (iI 1) :: rest))) : W p l e R s m args below meth c H locs cells slots Q (F0 m pc ls (rest)) := by
  have e9 : iI 1 = (1 : Int32) := by decide +kernel
  rw [e9] at kk
  exact va_gets M.1.1 M.1.2.1 (M.2.2.2.2.2.2.1.1.narrow M.2.2.1) w.2.2.1 M.1.2.2.2.1 (M.1.2.2.2.2 _ hl) (fun _ h => h) hdg kk
theorem r_getSF (M : MC p s m args c cc own nL D T A) (w : WD D A s.heap ws H locs) {index : Nat} {ref : String} (hl : Cond.fieldLink own index ref "SIOOBE_FORMATTER" "Ljava/util/function/BiFunction;" ∈ GW) (hdg : decode cc pc = .ok (.getstatic index, 3)) (k0 : W p l e R s m args below meth c H locs cells slots Q (F0 m (pc + 3) ls (.null :: rest))) (k1 : ∀ t : Nat, W p l e R s m args below meth c H locs cells slots Q (F0 m (pc + 3) ls (.ref t :: rest))) (hr : ref = "jdk/internal/util/Preconditions" := by rfl) : W p l e R s m args below meth c H locs cells slots Q (F0 m pc ls (rest)) := by
  subst hr
  rcases M.2.2.2.2.2.2.2.2.1 with h | ⟨t, h⟩
  · exact va_gets M.1.1 M.1.2.1 (h.narrow M.2.2.1) w.2.2.1 M.1.2.2.2.1 (M.1.2.2.2.2 _ hl) (fun _ h => h) hdg k0
  · exact va_gets M.1.1 M.1.2.1 (h.narrow M.2.2.1) w.2.2.1 M.1.2.2.2.1 (M.1.2.2.2.2 _ hl) (fun _ h => h) hdg (k1 t)
theorem r_allLen (M : MC p s m args c cc own nL D T A) (w : WD D A s.heap ws H locs) (hdg : decode cc pc = .ok (.arraylength, 1)) (kk : W p l e R s m args below meth c H locs cells slots Q (F0 m (pc + 1) ls (.int (iI 27) :: rest))) : W p l e R s m args below meth c H locs cells slots Q (F0 m pc ls (.ref (T 9) :: rest)) :=
  va_tlen M.1.1 M.1.2.1 (M.2.2.2.2.2.1.2.narrow M.2.2.1) w.2.2.1 (v := iI 27) (by decide +kernel) hdg kk
theorem r_allAt (M : MC p s m args c cc own nL D T A) (w : WD D A s.heap ws H locs) {z : Int} (h0 : 0 ≤ z) (h1 : z ≤ 26) (hdg : decode cc pc = .ok (.aaload, 1)) (kk : ∀ q : Nat, wok T (some q) → W p l e R s m args below meth c H locs cells slots Q (F0 m (pc + 1) ls (.ref q :: rest))) : W p l e R s m args below meth c H locs cells slots Q (F0 m pc ls (.int (iI z) :: .ref (T 9) :: rest)) := by
  refine vb_tq M.1.1 M.1.2.1 (M.2.2.2.2.2.1.2.narrow M.2.2.1) w.2.2.1 (iI_in h0 (n := 27) (by omega) (by decide)) rfl hdg ?_
  refine kk _ (wok_k _ ?_)
  rw [iI_cl h0 (by omega)]
  omega
theorem wok_at {T : Nat → ClassId} {q : Nat} {U : State} {H : Heap} (h : wok T (some q)) (hZ : ZX T U H) : va_O WNM q (A6 T) U H ∧ (∃ v : Int64, va_OF WNM "letters" "J" (.long v) q (A6 T) U H) ∧ ∃ v : Int32, va_OF WNM "kind" "I" (.int v) q (A6 T) U H := by
  rcases h with h | ⟨k, hk, h⟩
  · cases h
  · cases h
    have hl : wnm[k]? = some (wnm[k]'(by simpa [wnm] using hk)) := List.getElem?_eq_getElem _
    exact ⟨(hZ.1 k _ hl).2.1, ⟨_, (hZ.1 k _ hl).2.2.1⟩, ⟨_, (hZ.1 k _ hl).2.2.2⟩⟩
theorem r_wkind (M : MC p s m args c cc own nL D T A) (w : WD D A s.heap ws H locs) {q index : Nat} (hq : wok T (some q)) (hl : Cond.fieldLink own index WNM "kind" "I" ∈ GW) (hdg : decode cc pc = .ok (.getfield index, 3)) (kk : ∀ v : Int32, W p l e R s m args below meth c H locs cells slots Q (F0 m (pc + 3) ls (.int v :: rest))) : W p l e R s m args below meth c H locs cells slots Q (F0 m pc ls (.ref q :: rest)) := by
  obtain ⟨-, -, v, h⟩ := wok_at hq M.2.2.2.2
  exact vk_getf M.1.1 M.1.2.1 (h.narrow M.2.2.1) w.2.2.1 M.1.2.2.2.1 (M.1.2.2.2.2 _ hl) (fun _ h => h) hdg (kk v)
theorem r_wkindN (M : MC p s m args c cc own nL D T A) (w : WD D A s.heap ws H locs) {q index : Nat} {host : String} (hq : wok T (some q)) (hl : Cond.fieldLinkNest own index WNM "kind" "I" host ∈ lw_tbl) (hdg : decode cc pc = .ok (.getfield index, 3)) (kk : ∀ v : Int32, W p l e R s m args below meth c H locs cells slots Q (F0 m (pc + 3) ls (.int v :: rest))) : W p l e R s m args below meth c H locs cells slots Q (F0 m pc ls (.ref q :: rest)) := by
  obtain ⟨-, -, v, h⟩ := wok_at hq M.2.2.2.2
  obtain ⟨cf, k, fi, f, cell, h1, h2, h3, h4, h5, h6⟩ := (h.narrow M.2.2.1).kept w.2.2.1.2.1
  exact va_Wgetf M.1.1 M.1.2.1 M.1.2.2.2.1 (va_Nw.use rfl (M.2.1.2.1 _ hl rfl)) h1 h2 h3 h4 (v := .int v) h5 rfl rfl hdg (kk v)
theorem r_wlet (M : MC p s m args c cc own nL D T A) (w : WD D A s.heap ws H locs) {q index : Nat} (hq : wok T (some q)) (hl : Cond.fieldLink own index WNM "letters" "J" ∈ GW) (hdg : decode cc pc = .ok (.getfield index, 3)) (kk : ∀ v : Int64, W p l e R s m args below meth c H locs cells slots Q (F0 m (pc + 3) ls (.long v :: rest))) : W p l e R s m args below meth c H locs cells slots Q (F0 m pc ls (.ref q :: rest)) := by
  obtain ⟨-, ⟨v, h⟩, -⟩ := wok_at hq M.2.2.2.2
  exact vk_getf M.1.1 M.1.2.1 (h.narrow M.2.2.1) w.2.2.1 M.1.2.2.2.1 (M.1.2.2.2.2 _ hl) (fun _ h => h) hdg (kk v)
theorem r_wast (M : MC p s m args c cc own nL D T A) (w : WD D A s.heap ws H locs) (q0 : Nat) {n v : Nat} {f : Nat → Option Nat} {i : Int32} (ha : ws[q0]? = some (a, .inl (T 5, n, .inr (.inr (.inr (.inr f)))))) (hr : wok T (some v)) (hin : vp_in i n) {ws' : va_W} (hw : ws.set q0 (a, .inl (T 5, n, .inr (.inr (.inr (.inr (va_up f i.toNatClampNeg (some v))))))) = ws') (hdg : decode cc pc = .ok (.aastore, 1)) (kk : ∀ (H1 : Heap) (locs1 : List Loc), WD D A s.heap ws' H1 locs1 → W p l e R s m args below meth c H1 locs1 cells slots Q (F0 m (pc + 1) ls (rest))) : W p l e R s m args below meth c H locs cells slots Q (F0 m pc ls (.ref v :: .int i :: .ref a :: rest)) := by
  obtain ⟨⟨cell, c1, c2, c3, c4⟩, -⟩ := wok_at hr M.2.2.2.2
  obtain ⟨kC, hkC, -⟩ := Vm.findClass_spec c3
  refine va_astqM (E := WNM) M.1.1 M.1.2.1 M.2.1.1 w.1 w.2.1 w.2.2.1 q0 5 ha rfl ⟨cell, ?_, c2, ⟨kC, hkC⟩, fun comp hc => ?_⟩ hin hdg (fun H1 locs1 h1 h2 h3 => kk H1 locs1 (hw ▸ ⟨h1, h2, h3, w.2.2.2⟩))
  · rw [w.2.2.1.2.1 v (Array.getElem?_eq_some_iff.mp c1).1 (fun h => c4 (M.2.2.1 v h))]; exact c1
  · cases Option.some.inj (hc.symm.trans c3)
    show s.vm.assignableAux (255 + 1) _ _ = true
    rw [Vm.assignableAux]
    simp only [beq_self_eq_true, Bool.true_or]
theorem r_wastN (M : MC p s m args c cc own nL D T A) (w : WD D A s.heap ws H locs) (q0 : Nat) {n : Nat} {f : Nat → Option Nat} {i : Int32} (ha : ws[q0]? = some (a, .inl (T 5, n, .inr (.inr (.inr (.inr f)))))) (hin : vp_in i n) {ws' : va_W} (hw : ws.set q0 (a, .inl (T 5, n, .inr (.inr (.inr (.inr (va_up f i.toNatClampNeg none)))))) = ws') (hdg : decode cc pc = .ok (.aastore, 1)) (kk : ∀ (H1 : Heap) (locs1 : List Loc), WD D A s.heap ws' H1 locs1 → W p l e R s m args below meth c H1 locs1 cells slots Q (F0 m (pc + 1) ls (rest))) : W p l e R s m args below meth c H locs cells slots Q (F0 m pc ls (.null :: .int i :: .ref a :: rest)) :=
  va_astqN (C := WNM) M.1.1 M.1.2.1 M.2.1.1 w.1 w.2.1 w.2.2.1 q0 5 ha rfl hin hdg (fun H1 locs1 h1 h2 h3 => kk H1 locs1 (hw ▸ ⟨h1, h2, h3, w.2.2.2⟩))
theorem r_ldcS (M : MC p s m args c cc own nL D T A) (k : Nat) {index : Nat} {tx : String} {bs : List Int32} (hq : sto[k]? = some (own, index, tx, bs)) (hdg : decode cc pc = .ok (.ldc index, 2)) (kk : W p l e R s m args below meth c H locs cells slots Q (F0 m (pc + 2) ls (.ref (T (50 + k)) :: rest))) : W p l e R s m args below meth c H locs cells slots Q (F0 m pc ls (rest)) :=
  va_ldcS M.1.1 M.1.2.1 M.1.2.2.2.1 (M.2.2.2.2.2.2.2.1 k _ hq) hdg kk
theorem r_sval (M : MC p s m args c cc own nL D T A) (w : WD D A s.heap ws H locs) (k : Nat) {q : String × Nat × String × List Int32} {index : Nat} (hq : sto[k]? = some q) (hl : Cond.fieldLink own index "java/lang/String" "value" "[B" ∈ GW) (hdg : decode cc pc = .ok (.getfield index, 3)) (kk : W p l e R s m args below meth c H locs cells slots Q (F0 m (pc + 3) ls (.ref (T (60 + k)) :: rest))) : W p l e R s m args below meth c H locs cells slots Q (F0 m pc ls (.ref (T (50 + k)) :: rest)) :=
  vk_getf M.1.1 M.1.2.1 ((M.2.2.2.2.2.2.1.2 k q hq).2.1.narrow M.2.2.1) w.2.2.1 M.1.2.2.2.1 (M.1.2.2.2.2 _ hl) (fun _ h => h) hdg kk
theorem r_scod (M : MC p s m args c cc own nL D T A) (w : WD D A s.heap ws H locs) (k : Nat) {q : String × Nat × String × List Int32} {index : Nat} (hq : sto[k]? = some q) (hl : Cond.fieldLink own index "java/lang/String" "coder" "B" ∈ GW) (hdg : decode cc pc = .ok (.getfield index, 3)) (kk : W p l e R s m args below meth c H locs cells slots Q (F0 m (pc + 3) ls (.int (iI 0) :: rest))) : W p l e R s m args below meth c H locs cells slots Q (F0 m pc ls (.ref (T (50 + k)) :: rest)) := by
  have e9 : iI 0 = (0 : Int32) := by decide +kernel
  rw [e9] at kk
  exact vk_getf M.1.1 M.1.2.1 ((M.2.2.2.2.2.2.1.2 k q hq).2.2.1.narrow M.2.2.1) w.2.2.1 M.1.2.2.2.1 (M.1.2.2.2.2 _ hl) (fun _ h => h) hdg kk
theorem r_slen (M : MC p s m args c cc own nL D T A) (w : WD D A s.heap ws H locs) (k : Nat) {q : String × Nat × String × List Int32} (hq : sto[k]? = some q) {z : Int} (hz : Int32.ofNat q.2.2.2.length = iI z) (hdg : decode cc pc = .ok (.arraylength, 1)) (kk : W p l e R s m args below meth c H locs cells slots Q (F0 m (pc + 1) ls (.int (iI z) :: rest))) : W p l e R s m args below meth c H locs cells slots Q (F0 m pc ls (.ref (T (60 + k)) :: rest)) :=
  va_tlen M.1.1 M.1.2.1 ((M.2.2.2.2.2.2.1.2 k q hq).2.2.2.narrow M.2.2.1) w.2.2.1 hz hdg kk
theorem r_sbyt (M : MC p s m args c cc own nL D T A) (w : WD D A s.heap ws H locs) (k : Nat) {q : String × Nat × String × List Int32} (hq : sto[k]? = some q) {i : Int32} (hin : vp_in i q.2.2.2.length) (hdg : decode cc pc = .ok (.baload, 1)) (kk : ∀ v : Int32, W p l e R s m args below meth c H locs cells slots Q (F0 m (pc + 1) ls (.int v :: rest))) : W p l e R s m args below meth c H locs cells slots Q (F0 m pc ls (.int i :: .ref (T (60 + k)) :: rest)) :=
  va_tb M.1.1 M.1.2.1 ((M.2.2.2.2.2.2.1.2 k q hq).2.2.2.narrow M.2.2.1) w.2.2.1 hin rfl hdg (kk _)
end RW
theorem vin {i : Int32} {n : Nat} (h : ¬ (i < 0 ∨ n ≤ i.toNatClampNeg)) : vp_in i n := h
theorem fa_lt (a b : Int32) : a < b ↔ a.toInt < b.toInt := Int32.lt_iff_toInt_lt
theorem fa_le (a b : Int32) : a ≤ b ↔ a.toInt ≤ b.toInt := Int32.le_iff_toInt_le
theorem fa_eq (a b : Int32) : a = b ↔ a.toInt = b.toInt := Int32.toInt_inj.symm
theorem wsub {D : va_G} {ws ws' : va_W} {H : Heap} (hP : va_P D vwCl ws H) (is : List Nat) (hs : is.map (fun i => ws[i]?) = ws'.map some) : va_P D vwCl ws' H := by
  intro k q hk
  have h1 : (is.map (fun i => ws[i]?))[k]? = some (some q) := by rw [hs, List.getElem?_map, hk]; rfl
  rw [List.getElem?_map] at h1
  cases hi : is[k]? with
  | none => rw [hi] at h1; cases h1
  | some i => rw [hi] at h1; exact hP i q (Option.some.inj h1)
/-- what a call site knows of the method that it calls -/
def VL (own : String) (idx : Nat) (y : MethodName) (bytes : ByteArray) (maxL : Nat) (ret : Option FieldType) (n : Nat) : Prop := Cond.code y bytes maxL ret ∈ GW ∧ Cond.methodLink own idx y ∈ GW ∧ Cond.initialized y.cls ∈ GW ∧ y.cls ≠ "java/lang/invoke/MethodHandle" ∧ y.cls ≠ "java/lang/invoke/VarHandle" ∧ (parseMethodDescriptor y.desc).map (fun d => d.parameters.length) = some n
def VN (own : String) (idx : Nat) (y : MethodName) (host : String) (bytes : ByteArray) (maxL : Nat) (ret : Option FieldType) (n : Nat) : Prop := Cond.code y bytes maxL ret ∈ GW ∧ Cond.methodLinkNest own idx y host ∈ lw_tbl ∧ Cond.initialized y.cls ∈ GW ∧ y.cls ≠ "java/lang/invoke/MethodHandle" ∧ y.cls ≠ "java/lang/invoke/VarHandle" ∧ (parseMethodDescriptor y.desc).map (fun d => d.parameters.length) = some n
/-- a method's return, as its body sees it -/
def retV {S : Type} (p : Program) (l : Launch) (e : Env) (R : Room) (s : State) (m : MethodId) (args : Array Value) (below : List Frame) (meth : Method) (c : Code) (Q : State → Prop) (cc : ByteArray) (D : va_G) (A : Nat → Prop) (mc ms : Nat) (post : S → Prop) (wf : S → va_W) : Prop := ∀ (u : S) (ws : va_W) (H : Heap) (locs : List Loc) (pc : Nat) (ls : Array Slot) (is : List Nat), decode cc pc = .ok (.return_, 1) → post u → WD D A s.heap ws H locs → va_nd is = true → is.map (fun i => ws[i]?) = (wf u).map some → W p l e R s m args below meth c H locs mc ms Q (F0 m pc ls [])
theorem e_V {l : Launch} {S : Type} {y : MethodName} {cc : ByteArray} {maxL f mc ms sz : Nat} {ws0 : va_W} {D : va_G} {T : Nat → ClassId} {av : List Value} {post : S → Prop} {wf : S → va_W} (hy : plainName y.cls = true) (hl : (lg_sl av).length ≤ maxL) (body : ∀ (p : Program) (e : Env) (s : State) (m : MethodId) (args : Array Value) (below : List Frame) (meth : Method) (c : Code) (A : Nat → Prop) (Q : State → Prop) (ls : Array Slot), MC p s m args c cc y.cls maxL D T A → meth.name = y.name → WD D A s.heap ws0 s.heap [] → retV p l e (Rm f mc ms) s m args below meth c Q cc D A mc ms post wf → lv_has ls maxL (lv_args 0 av) → W p l e (Rm f mc ms) s m args below meth c s.heap [] 0 0 Q (F0 m 0 ls [])) : Met l y (Cond.code y cc maxL none :: GW) (Rm f mc ms) (cPre av D T ws0 sz) (qV D ws0 sz post wf) mc ms (va_A ws0 sz) := by
  refine Met.ofW (cc := cc) (maxL := maxL) (ret := none) hy rfl ?_
  intro p e s m args below meth c s₁ B hml hv
  obtain ⟨rfl, hsz, hP, hX, hD, hz, hZ⟩ := hv
  subst hsz
  have hts := atoms_spec (ws := Cond.code y cc maxL none :: GW) B.pre
  have hlv := lv_entry av (n := maxL) hl
  rw [lg_entry_eq]
  generalize (lg_sl av ++ List.replicate (maxL - (lg_sl av).length) Slot.unset).toArray = ls at hlv ⊢
  refine body p e s m _ below meth c (va_A ws0 s.heap.size) _ ls ⟨⟨B.exec, B.bytes, hml, findClass_of_methodNamed B.named, fun w h => hts w (List.mem_cons_of_mem _ h)⟩, hX, fun q hq => hq.elim (fun ⟨k, e, h⟩ => hD.2 k _ h) (fun h => Nat.le_trans hz h), hz, hZ⟩ (name_of_methodNamed B.named B.method).1 ⟨hP, hD.self, va_S.rf, fun q h => Or.inr h⟩ ?_ hlv
  exact fun u ws H locs pc ls is hdg hp w hn hs => W.vret B.exec B.bytes B.returns (fun t ht hW => ⟨⟨u, rfl, hp, ⟨by rw [ht]; exact wsub w.1 is hs, w.2.1.sub is hn hs⟩⟩, w.2.2.1.F ht⟩) w.2.2.1.2.2 hdg (hlocks := B.notSynchronized)
theorem k_V {p : Program} {l : Launch} {e : Env} {R : Room} {s : State} {m : MethodId} {args : Array Value} {below : List Frame} {meth : Method} {c : Code} {H : Heap} {locs : List Loc} {cells slots : Nat} {Q : State → Prop} {pc : Nat} {ls : Array Slot} {rest : List Value} {D : va_G} {A : Nat → Prop} {ws : va_W} {H0 : Heap} {st0 : List Value} {av : Array Value} {mc ms ce sl : Nat} {wc wr : va_W} {S : Type} {post : S → Prop} {wf : S → va_W} (hr : va_Run p l e R s m args below meth c H locs cells slots mc ms (F0 m pc ls st0) rest (qV D wc H.size post wf av) (va_A wc H.size)) (w : WD D A H0 ws H locs) (isC isR : List Nat) (hC : isC.map (fun i => ws[i]?) = wc.map some) (hR : isR.map (fun i => ws[i]?) = wr.map some) (hn : va_nd isR = true) (hdis : ∀ i ∈ isR, i ∉ isC) (hce : cells + mc = ce) (hsl : slots + ms = sl) (kk : ∀ (u : S) (H1 : Heap) (locs1 : List Loc), post u → WD D A H0 (wr ++ wf u) H1 locs1 → W p l e R s m args below meth c H1 locs1 ce sl Q (F0 m (pc + 3) ls (rest))) : W p l e R s m args below meth c H locs cells slots Q (F0 m pc ls st0) := by
  subst hce; subst hsl
  have hF := va_free w.2.1 w.2.2.1 w.2.2.2 isC hC
  refine va_callv hr w.2.2.1 (fun q _ h => hF q h) hF (fun u t H1 locs1 ht hvm hp hB hz hk hS => ?_)
  obtain ⟨hP1, hD1⟩ := hB
  rw [ht] at hP1
  obtain ⟨hP2, hD2⟩ := va_join w.1 w.2.1 isC isR hC hR hn hdis hk hF hP1 hD1
  exact kk u H1 locs1 hp ⟨hP2, hD2, hS, w.2.2.2⟩
/-- a method's return, as its body sees it -/
def retI {S : Type} (p : Program) (l : Launch) (e : Env) (R : Room) (s : State) (m : MethodId) (args : Array Value) (below : List Frame) (meth : Method) (c : Code) (Q : State → Prop) (cc : ByteArray) (D : va_G) (A : Nat → Prop) (mc ms : Nat) (post : Int32 → S → Prop) (wf : S → va_W) : Prop := ∀ (v : Int32) (u : S) (ws : va_W) (H : Heap) (locs : List Loc) (pc : Nat) (ls : Array Slot) (is : List Nat), decode cc pc = .ok (.ireturn, 1) → post v u → WD D A s.heap ws H locs → va_nd is = true → is.map (fun i => ws[i]?) = (wf u).map some → W p l e R s m args below meth c H locs mc ms Q (F0 m pc ls [.int v])
theorem e_I {l : Launch} {S : Type} {y : MethodName} {cc : ByteArray} {maxL f mc ms sz : Nat} {ws0 : va_W} {D : va_G} {T : Nat → ClassId} {av : List Value} {post : Int32 → S → Prop} {wf : S → va_W} (hy : plainName y.cls = true) (hl : (lg_sl av).length ≤ maxL) (body : ∀ (p : Program) (e : Env) (s : State) (m : MethodId) (args : Array Value) (below : List Frame) (meth : Method) (c : Code) (A : Nat → Prop) (Q : State → Prop) (ls : Array Slot), MC p s m args c cc y.cls maxL D T A → meth.name = y.name → WD D A s.heap ws0 s.heap [] → retI p l e (Rm f mc ms) s m args below meth c Q cc D A mc ms post wf → lv_has ls maxL (lv_args 0 av) → W p l e (Rm f mc ms) s m args below meth c s.heap [] 0 0 Q (F0 m 0 ls [])) : Met l y (Cond.code y cc maxL (some .int) :: GW) (Rm f mc ms) (cPre av D T ws0 sz) (qI D ws0 sz post wf) mc ms (va_A ws0 sz) := by
  refine Met.ofW (cc := cc) (maxL := maxL) (ret := (some .int)) hy rfl ?_
  intro p e s m args below meth c s₁ B hml hv
  obtain ⟨rfl, hsz, hP, hX, hD, hz, hZ⟩ := hv
  subst hsz
  have hts := atoms_spec (ws := Cond.code y cc maxL (some .int) :: GW) B.pre
  have hlv := lv_entry av (n := maxL) hl
  rw [lg_entry_eq]
  generalize (lg_sl av ++ List.replicate (maxL - (lg_sl av).length) Slot.unset).toArray = ls at hlv ⊢
  refine body p e s m _ below meth c (va_A ws0 s.heap.size) _ ls ⟨⟨B.exec, B.bytes, hml, findClass_of_methodNamed B.named, fun w h => hts w (List.mem_cons_of_mem _ h)⟩, hX, fun q hq => hq.elim (fun ⟨k, e, h⟩ => hD.2 k _ h) (fun h => Nat.le_trans hz h), hz, hZ⟩ (name_of_methodNamed B.named B.method).1 ⟨hP, hD.self, va_S.rf, fun q h => Or.inr h⟩ ?_ hlv
  exact fun v u ws H locs pc ls is hdg hp w hn hs => W.iret B.exec B.bytes B.returns (fun t ht hW => ⟨⟨v, u, rfl, hp, ⟨by rw [ht]; exact wsub w.1 is hs, w.2.1.sub is hn hs⟩⟩, w.2.2.1.F ht⟩) w.2.2.1.2.2 hdg (hlocks := B.notSynchronized)
theorem k_I {p : Program} {l : Launch} {e : Env} {R : Room} {s : State} {m : MethodId} {args : Array Value} {below : List Frame} {meth : Method} {c : Code} {H : Heap} {locs : List Loc} {cells slots : Nat} {Q : State → Prop} {pc : Nat} {ls : Array Slot} {rest : List Value} {D : va_G} {A : Nat → Prop} {ws : va_W} {H0 : Heap} {st0 : List Value} {av : Array Value} {mc ms ce sl : Nat} {wc wr : va_W} {S : Type} {post : Int32 → S → Prop} {wf : S → va_W} (hr : va_Run p l e R s m args below meth c H locs cells slots mc ms (F0 m pc ls st0) rest (qI D wc H.size post wf av) (va_A wc H.size)) (w : WD D A H0 ws H locs) (isC isR : List Nat) (hC : isC.map (fun i => ws[i]?) = wc.map some) (hR : isR.map (fun i => ws[i]?) = wr.map some) (hn : va_nd isR = true) (hdis : ∀ i ∈ isR, i ∉ isC) (hce : cells + mc = ce) (hsl : slots + ms = sl) (kk : ∀ (v : Int32) (u : S) (H1 : Heap) (locs1 : List Loc), post v u → WD D A H0 (wr ++ wf u) H1 locs1 → W p l e R s m args below meth c H1 locs1 ce sl Q (F0 m (pc + 3) ls (.int v :: rest))) : W p l e R s m args below meth c H locs cells slots Q (F0 m pc ls st0) := by
  subst hce; subst hsl
  have hF := va_free w.2.1 w.2.2.1 w.2.2.2 isC hC
  refine va_calli hr w.2.2.1 (fun q _ h => hF q h) hF (fun v u t H1 locs1 ht hvm hp hB hz hk hS => ?_)
  obtain ⟨hP1, hD1⟩ := hB
  rw [ht] at hP1
  obtain ⟨hP2, hD2⟩ := va_join w.1 w.2.1 isC isR hC hR hn hdis hk hF hP1 hD1
  exact kk v u H1 locs1 hp ⟨hP2, hD2, hS, w.2.2.2⟩
/-- a method's return, as its body sees it -/
def retZ {S : Type} (p : Program) (l : Launch) (e : Env) (R : Room) (s : State) (m : MethodId) (args : Array Value) (below : List Frame) (meth : Method) (c : Code) (Q : State → Prop) (cc : ByteArray) (D : va_G) (A : Nat → Prop) (mc ms : Nat) (post : Int32 → S → Prop) (wf : S → va_W) : Prop := ∀ (v : Int32) (u : S) (ws : va_W) (H : Heap) (locs : List Loc) (pc : Nat) (ls : Array Slot) (is : List Nat), decode cc pc = .ok (.ireturn, 1) → narrow .boolean (.int v) = .int v → post v u → WD D A s.heap ws H locs → va_nd is = true → is.map (fun i => ws[i]?) = (wf u).map some → W p l e R s m args below meth c H locs mc ms Q (F0 m pc ls [.int v])
theorem e_Z {l : Launch} {S : Type} {y : MethodName} {cc : ByteArray} {maxL f mc ms sz : Nat} {ws0 : va_W} {D : va_G} {T : Nat → ClassId} {av : List Value} {post : Int32 → S → Prop} {wf : S → va_W} (hy : plainName y.cls = true) (hl : (lg_sl av).length ≤ maxL) (body : ∀ (p : Program) (e : Env) (s : State) (m : MethodId) (args : Array Value) (below : List Frame) (meth : Method) (c : Code) (A : Nat → Prop) (Q : State → Prop) (ls : Array Slot), MC p s m args c cc y.cls maxL D T A → meth.name = y.name → WD D A s.heap ws0 s.heap [] → retZ p l e (Rm f mc ms) s m args below meth c Q cc D A mc ms post wf → lv_has ls maxL (lv_args 0 av) → W p l e (Rm f mc ms) s m args below meth c s.heap [] 0 0 Q (F0 m 0 ls [])) : Met l y (Cond.code y cc maxL (some .boolean) :: GW) (Rm f mc ms) (cPre av D T ws0 sz) (qI D ws0 sz post wf) mc ms (va_A ws0 sz) := by
  refine Met.ofW (cc := cc) (maxL := maxL) (ret := (some .boolean)) hy rfl ?_
  intro p e s m args below meth c s₁ B hml hv
  obtain ⟨rfl, hsz, hP, hX, hD, hz, hZ⟩ := hv
  subst hsz
  have hts := atoms_spec (ws := Cond.code y cc maxL (some .boolean) :: GW) B.pre
  have hlv := lv_entry av (n := maxL) hl
  rw [lg_entry_eq]
  generalize (lg_sl av ++ List.replicate (maxL - (lg_sl av).length) Slot.unset).toArray = ls at hlv ⊢
  refine body p e s m _ below meth c (va_A ws0 s.heap.size) _ ls ⟨⟨B.exec, B.bytes, hml, findClass_of_methodNamed B.named, fun w h => hts w (List.mem_cons_of_mem _ h)⟩, hX, fun q hq => hq.elim (fun ⟨k, e, h⟩ => hD.2 k _ h) (fun h => Nat.le_trans hz h), hz, hZ⟩ (name_of_methodNamed B.named B.method).1 ⟨hP, hD.self, va_S.rf, fun q h => Or.inr h⟩ ?_ hlv
  exact fun v u ws H locs pc ls is hdg hz hp w hn hs => W.zret B.exec B.bytes B.returns hz (fun t ht hW => ⟨⟨v, u, rfl, hp, ⟨by rw [ht]; exact wsub w.1 is hs, w.2.1.sub is hn hs⟩⟩, w.2.2.1.F ht⟩) w.2.2.1.2.2 hdg (hlocks := B.notSynchronized)
/-- a method's return, as its body sees it -/
def retL {S : Type} (p : Program) (l : Launch) (e : Env) (R : Room) (s : State) (m : MethodId) (args : Array Value) (below : List Frame) (meth : Method) (c : Code) (Q : State → Prop) (cc : ByteArray) (D : va_G) (A : Nat → Prop) (mc ms : Nat) (post : Int64 → S → Prop) (wf : S → va_W) : Prop := ∀ (v : Int64) (u : S) (ws : va_W) (H : Heap) (locs : List Loc) (pc : Nat) (ls : Array Slot) (is : List Nat), decode cc pc = .ok (.lreturn, 1) → post v u → WD D A s.heap ws H locs → va_nd is = true → is.map (fun i => ws[i]?) = (wf u).map some → W p l e R s m args below meth c H locs mc ms Q (F0 m pc ls [.long v])
theorem e_L {l : Launch} {S : Type} {y : MethodName} {cc : ByteArray} {maxL f mc ms sz : Nat} {ws0 : va_W} {D : va_G} {T : Nat → ClassId} {av : List Value} {post : Int64 → S → Prop} {wf : S → va_W} (hy : plainName y.cls = true) (hl : (lg_sl av).length ≤ maxL) (body : ∀ (p : Program) (e : Env) (s : State) (m : MethodId) (args : Array Value) (below : List Frame) (meth : Method) (c : Code) (A : Nat → Prop) (Q : State → Prop) (ls : Array Slot), MC p s m args c cc y.cls maxL D T A → meth.name = y.name → WD D A s.heap ws0 s.heap [] → retL p l e (Rm f mc ms) s m args below meth c Q cc D A mc ms post wf → lv_has ls maxL (lv_args 0 av) → W p l e (Rm f mc ms) s m args below meth c s.heap [] 0 0 Q (F0 m 0 ls [])) : Met l y (Cond.code y cc maxL (some .long) :: GW) (Rm f mc ms) (cPre av D T ws0 sz) (qL D ws0 sz post wf) mc ms (va_A ws0 sz) := by
  refine Met.ofW (cc := cc) (maxL := maxL) (ret := (some .long)) hy rfl ?_
  intro p e s m args below meth c s₁ B hml hv
  obtain ⟨rfl, hsz, hP, hX, hD, hz, hZ⟩ := hv
  subst hsz
  have hts := atoms_spec (ws := Cond.code y cc maxL (some .long) :: GW) B.pre
  have hlv := lv_entry av (n := maxL) hl
  rw [lg_entry_eq]
  generalize (lg_sl av ++ List.replicate (maxL - (lg_sl av).length) Slot.unset).toArray = ls at hlv ⊢
  refine body p e s m _ below meth c (va_A ws0 s.heap.size) _ ls ⟨⟨B.exec, B.bytes, hml, findClass_of_methodNamed B.named, fun w h => hts w (List.mem_cons_of_mem _ h)⟩, hX, fun q hq => hq.elim (fun ⟨k, e, h⟩ => hD.2 k _ h) (fun h => Nat.le_trans hz h), hz, hZ⟩ (name_of_methodNamed B.named B.method).1 ⟨hP, hD.self, va_S.rf, fun q h => Or.inr h⟩ ?_ hlv
  exact fun v u ws H locs pc ls is hdg hp w hn hs => W.lret B.exec B.bytes B.returns (fun t ht hW => ⟨⟨v, u, rfl, hp, ⟨by rw [ht]; exact wsub w.1 is hs, w.2.1.sub is hn hs⟩⟩, w.2.2.1.F ht⟩) w.2.2.1.2.2 hdg (hlocks := B.notSynchronized)
theorem k_L {p : Program} {l : Launch} {e : Env} {R : Room} {s : State} {m : MethodId} {args : Array Value} {below : List Frame} {meth : Method} {c : Code} {H : Heap} {locs : List Loc} {cells slots : Nat} {Q : State → Prop} {pc : Nat} {ls : Array Slot} {rest : List Value} {D : va_G} {A : Nat → Prop} {ws : va_W} {H0 : Heap} {st0 : List Value} {av : Array Value} {mc ms ce sl : Nat} {wc wr : va_W} {S : Type} {post : Int64 → S → Prop} {wf : S → va_W} (hr : va_Run p l e R s m args below meth c H locs cells slots mc ms (F0 m pc ls st0) rest (qL D wc H.size post wf av) (va_A wc H.size)) (w : WD D A H0 ws H locs) (isC isR : List Nat) (hC : isC.map (fun i => ws[i]?) = wc.map some) (hR : isR.map (fun i => ws[i]?) = wr.map some) (hn : va_nd isR = true) (hdis : ∀ i ∈ isR, i ∉ isC) (hce : cells + mc = ce) (hsl : slots + ms = sl) (kk : ∀ (v : Int64) (u : S) (H1 : Heap) (locs1 : List Loc), post v u → WD D A H0 (wr ++ wf u) H1 locs1 → W p l e R s m args below meth c H1 locs1 ce sl Q (F0 m (pc + 3) ls (.long v :: rest))) : W p l e R s m args below meth c H locs cells slots Q (F0 m pc ls st0) := by
  subst hce; subst hsl
  have hF := va_free w.2.1 w.2.2.1 w.2.2.2 isC hC
  refine va_calll hr w.2.2.1 (fun q _ h => hF q h) hF (fun v u t H1 locs1 ht hvm hp hB hz hk hS => ?_)
  obtain ⟨hP1, hD1⟩ := hB
  rw [ht] at hP1
  obtain ⟨hP2, hD2⟩ := va_join w.1 w.2.1 isC isR hC hR hn hdis hk hF hP1 hD1
  exact kk v u H1 locs1 hp ⟨hP2, hD2, hS, w.2.2.2⟩
/-- a method's return, as its body sees it -/
def retC {S : Type} (p : Program) (l : Launch) (e : Env) (R : Room) (s : State) (m : MethodId) (args : Array Value) (below : List Frame) (meth : Method) (c : Code) (Q : State → Prop) (cc : ByteArray) (D : va_G) (A : Nat → Prop) (mc ms : Nat) (post : Int32 → S → Prop) (wf : S → va_W) : Prop := ∀ (v : Int32) (u : S) (ws : va_W) (H : Heap) (locs : List Loc) (pc : Nat) (ls : Array Slot) (is : List Nat), decode cc pc = .ok (.ireturn, 1) → narrow .char (.int v) = .int v → post v u → WD D A s.heap ws H locs → va_nd is = true → is.map (fun i => ws[i]?) = (wf u).map some → W p l e R s m args below meth c H locs mc ms Q (F0 m pc ls [.int v])
theorem e_C {l : Launch} {S : Type} {y : MethodName} {cc : ByteArray} {maxL f mc ms sz : Nat} {ws0 : va_W} {D : va_G} {T : Nat → ClassId} {av : List Value} {post : Int32 → S → Prop} {wf : S → va_W} (hy : plainName y.cls = true) (hl : (lg_sl av).length ≤ maxL) (body : ∀ (p : Program) (e : Env) (s : State) (m : MethodId) (args : Array Value) (below : List Frame) (meth : Method) (c : Code) (A : Nat → Prop) (Q : State → Prop) (ls : Array Slot), MC p s m args c cc y.cls maxL D T A → meth.name = y.name → WD D A s.heap ws0 s.heap [] → retC p l e (Rm f mc ms) s m args below meth c Q cc D A mc ms post wf → lv_has ls maxL (lv_args 0 av) → W p l e (Rm f mc ms) s m args below meth c s.heap [] 0 0 Q (F0 m 0 ls [])) : Met l y (Cond.code y cc maxL (some .char) :: GW) (Rm f mc ms) (cPre av D T ws0 sz) (qI D ws0 sz post wf) mc ms (va_A ws0 sz) := by
  refine Met.ofW (cc := cc) (maxL := maxL) (ret := (some .char)) hy rfl ?_
  intro p e s m args below meth c s₁ B hml hv
  obtain ⟨rfl, hsz, hP, hX, hD, hz, hZ⟩ := hv
  subst hsz
  have hts := atoms_spec (ws := Cond.code y cc maxL (some .char) :: GW) B.pre
  have hlv := lv_entry av (n := maxL) hl
  rw [lg_entry_eq]
  generalize (lg_sl av ++ List.replicate (maxL - (lg_sl av).length) Slot.unset).toArray = ls at hlv ⊢
  refine body p e s m _ below meth c (va_A ws0 s.heap.size) _ ls ⟨⟨B.exec, B.bytes, hml, findClass_of_methodNamed B.named, fun w h => hts w (List.mem_cons_of_mem _ h)⟩, hX, fun q hq => hq.elim (fun ⟨k, e, h⟩ => hD.2 k _ h) (fun h => Nat.le_trans hz h), hz, hZ⟩ (name_of_methodNamed B.named B.method).1 ⟨hP, hD.self, va_S.rf, fun q h => Or.inr h⟩ ?_ hlv
  exact fun v u ws H locs pc ls is hdg hz hp w hn hs => W.zret B.exec B.bytes B.returns hz (fun t ht hW => ⟨⟨v, u, rfl, hp, ⟨by rw [ht]; exact wsub w.1 is hs, w.2.1.sub is hn hs⟩⟩, w.2.2.1.F ht⟩) w.2.2.1.2.2 hdg (hlocks := B.notSynchronized)
/-- a method's return, as its body sees it -/
def retB {S : Type} (p : Program) (l : Launch) (e : Env) (R : Room) (s : State) (m : MethodId) (args : Array Value) (below : List Frame) (meth : Method) (c : Code) (Q : State → Prop) (cc : ByteArray) (D : va_G) (A : Nat → Prop) (mc ms : Nat) (post : Int32 → S → Prop) (wf : S → va_W) : Prop := ∀ (v : Int32) (u : S) (ws : va_W) (H : Heap) (locs : List Loc) (pc : Nat) (ls : Array Slot) (is : List Nat), decode cc pc = .ok (.ireturn, 1) → narrow .byte (.int v) = .int v → post v u → WD D A s.heap ws H locs → va_nd is = true → is.map (fun i => ws[i]?) = (wf u).map some → W p l e R s m args below meth c H locs mc ms Q (F0 m pc ls [.int v])
theorem e_B {l : Launch} {S : Type} {y : MethodName} {cc : ByteArray} {maxL f mc ms sz : Nat} {ws0 : va_W} {D : va_G} {T : Nat → ClassId} {av : List Value} {post : Int32 → S → Prop} {wf : S → va_W} (hy : plainName y.cls = true) (hl : (lg_sl av).length ≤ maxL) (body : ∀ (p : Program) (e : Env) (s : State) (m : MethodId) (args : Array Value) (below : List Frame) (meth : Method) (c : Code) (A : Nat → Prop) (Q : State → Prop) (ls : Array Slot), MC p s m args c cc y.cls maxL D T A → meth.name = y.name → WD D A s.heap ws0 s.heap [] → retB p l e (Rm f mc ms) s m args below meth c Q cc D A mc ms post wf → lv_has ls maxL (lv_args 0 av) → W p l e (Rm f mc ms) s m args below meth c s.heap [] 0 0 Q (F0 m 0 ls [])) : Met l y (Cond.code y cc maxL (some .byte) :: GW) (Rm f mc ms) (cPre av D T ws0 sz) (qI D ws0 sz post wf) mc ms (va_A ws0 sz) := by
  refine Met.ofW (cc := cc) (maxL := maxL) (ret := (some .byte)) hy rfl ?_
  intro p e s m args below meth c s₁ B hml hv
  obtain ⟨rfl, hsz, hP, hX, hD, hz, hZ⟩ := hv
  subst hsz
  have hts := atoms_spec (ws := Cond.code y cc maxL (some .byte) :: GW) B.pre
  have hlv := lv_entry av (n := maxL) hl
  rw [lg_entry_eq]
  generalize (lg_sl av ++ List.replicate (maxL - (lg_sl av).length) Slot.unset).toArray = ls at hlv ⊢
  refine body p e s m _ below meth c (va_A ws0 s.heap.size) _ ls ⟨⟨B.exec, B.bytes, hml, findClass_of_methodNamed B.named, fun w h => hts w (List.mem_cons_of_mem _ h)⟩, hX, fun q hq => hq.elim (fun ⟨k, e, h⟩ => hD.2 k _ h) (fun h => Nat.le_trans hz h), hz, hZ⟩ (name_of_methodNamed B.named B.method).1 ⟨hP, hD.self, va_S.rf, fun q h => Or.inr h⟩ ?_ hlv
  exact fun v u ws H locs pc ls is hdg hz hp w hn hs => W.zret B.exec B.bytes B.returns hz (fun t ht hW => ⟨⟨v, u, rfl, hp, ⟨by rw [ht]; exact wsub w.1 is hs, w.2.1.sub is hn hs⟩⟩, w.2.2.1.F ht⟩) w.2.2.1.2.2 hdg (hlocks := B.notSynchronized)
/-- a method's return, as its body sees it -/
def retQ {S : Type} (p : Program) (l : Launch) (e : Env) (R : Room) (s : State) (m : MethodId) (args : Array Value) (below : List Frame) (meth : Method) (c : Code) (Q : State → Prop) (cc : ByteArray) (D : va_G) (A : Nat → Prop) (mc ms : Nat) (post : Option Nat → S → Prop) (wf : S → va_W) : Prop := ∀ (v : Option Nat) (u : S) (ws : va_W) (H : Heap) (locs : List Loc) (pc : Nat) (ls : Array Slot) (is : List Nat), decode cc pc = .ok (.areturn, 1) → post v u → WD D A s.heap ws H locs → va_nd is = true → is.map (fun i => ws[i]?) = (wf u).map some → W p l e R s m args below meth c H locs mc ms Q (F0 m pc ls [(va_rf v)])
theorem e_Q {l : Launch} {S : Type} {y : MethodName} {cc : ByteArray} {maxL f mc ms sz : Nat} {ws0 : va_W} {D : va_G} {T : Nat → ClassId} {av : List Value} {post : Option Nat → S → Prop} {wf : S → va_W} (hy : plainName y.cls = true) (hl : (lg_sl av).length ≤ maxL) (body : ∀ (p : Program) (e : Env) (s : State) (m : MethodId) (args : Array Value) (below : List Frame) (meth : Method) (c : Code) (A : Nat → Prop) (Q : State → Prop) (ls : Array Slot), MC p s m args c cc y.cls maxL D T A → meth.name = y.name → WD D A s.heap ws0 s.heap [] → retQ p l e (Rm f mc ms) s m args below meth c Q cc D A mc ms post wf → lv_has ls maxL (lv_args 0 av) → W p l e (Rm f mc ms) s m args below meth c s.heap [] 0 0 Q (F0 m 0 ls [])) : Met l y (Cond.code y cc maxL (some (.object WNM)) :: GW) (Rm f mc ms) (cPre av D T ws0 sz) (qQ D ws0 sz post wf) mc ms (va_A ws0 sz) := by
  refine Met.ofW (cc := cc) (maxL := maxL) (ret := (some (.object WNM))) hy rfl ?_
  intro p e s m args below meth c s₁ B hml hv
  obtain ⟨rfl, hsz, hP, hX, hD, hz, hZ⟩ := hv
  subst hsz
  have hts := atoms_spec (ws := Cond.code y cc maxL (some (.object WNM)) :: GW) B.pre
  have hlv := lv_entry av (n := maxL) hl
  rw [lg_entry_eq]
  generalize (lg_sl av ++ List.replicate (maxL - (lg_sl av).length) Slot.unset).toArray = ls at hlv ⊢
  refine body p e s m _ below meth c (va_A ws0 s.heap.size) _ ls ⟨⟨B.exec, B.bytes, hml, findClass_of_methodNamed B.named, fun w h => hts w (List.mem_cons_of_mem _ h)⟩, hX, fun q hq => hq.elim (fun ⟨k, e, h⟩ => hD.2 k _ h) (fun h => Nat.le_trans hz h), hz, hZ⟩ (name_of_methodNamed B.named B.method).1 ⟨hP, hD.self, va_S.rf, fun q h => Or.inr h⟩ ?_ hlv
  exact fun v u ws H locs pc ls is hdg hp w hn hs => W.aret B.exec B.bytes B.returns (Or.inl ⟨_, rfl⟩) (va_rf_or v) (fun t ht hW => ⟨⟨v, u, rfl, hp, ⟨by rw [ht]; exact wsub w.1 is hs, w.2.1.sub is hn hs⟩⟩, w.2.2.1.F ht⟩) w.2.2.1.2.2 hdg (hlocks := B.notSynchronized)
theorem k_Q {p : Program} {l : Launch} {e : Env} {R : Room} {s : State} {m : MethodId} {args : Array Value} {below : List Frame} {meth : Method} {c : Code} {H : Heap} {locs : List Loc} {cells slots : Nat} {Q : State → Prop} {pc : Nat} {ls : Array Slot} {rest : List Value} {D : va_G} {A : Nat → Prop} {ws : va_W} {H0 : Heap} {st0 : List Value} {av : Array Value} {mc ms ce sl : Nat} {wc wr : va_W} {S : Type} {post : Option Nat → S → Prop} {wf : S → va_W} (hr : va_Run p l e R s m args below meth c H locs cells slots mc ms (F0 m pc ls st0) rest (qQ D wc H.size post wf av) (va_A wc H.size)) (w : WD D A H0 ws H locs) (isC isR : List Nat) (hC : isC.map (fun i => ws[i]?) = wc.map some) (hR : isR.map (fun i => ws[i]?) = wr.map some) (hn : va_nd isR = true) (hdis : ∀ i ∈ isR, i ∉ isC) (hce : cells + mc = ce) (hsl : slots + ms = sl) (kk : ∀ (v : Option Nat) (u : S) (H1 : Heap) (locs1 : List Loc), post v u → WD D A H0 (wr ++ wf u) H1 locs1 → W p l e R s m args below meth c H1 locs1 ce sl Q (F0 m (pc + 3) ls ((va_rf v) :: rest))) : W p l e R s m args below meth c H locs cells slots Q (F0 m pc ls st0) := by
  subst hce; subst hsl
  have hF := va_free w.2.1 w.2.2.1 w.2.2.2 isC hC
  refine va_callq hr w.2.2.1 (fun q _ h => hF q h) hF (fun v u t H1 locs1 ht hvm hp hB hz hk hS => ?_)
  obtain ⟨hP1, hD1⟩ := hB
  rw [ht] at hP1
  obtain ⟨hP2, hD2⟩ := va_join w.1 w.2.1 isC isR hC hR hn hdis hk hF hP1 hD1
  exact kk v u H1 locs1 hp ⟨hP2, hD2, hS, w.2.2.2⟩
theorem r_V {p : Program} {l : Launch} {e : Env} {R : Room} {s : State} {m : MethodId} {args : Array Value} {below : List Frame} {meth : Method} {c : Code} {H : Heap} {locs : List Loc} {cells slots : Nat} {cc : ByteArray} {pc nL : Nat} {ls : Array Slot} {rest : List Value} {D : va_G} {T : Nat → ClassId} {A : Nat → Prop} {ws : va_W} {own : String} {y : MethodName} {bytes : ByteArray} {maxL mc ms n index f : Nat} {ret : Option FieldType} {Qc : Array Value → State → Outcome → State → Prop} {free : Addr → Prop} {As : List Value} {wc : va_W} {b : Nat} {st0 : List Value} (isC : List Nat) (M : MC p s m args c cc own nL D T A) (w : WD D A s.heap ws H locs) (V : VL own index y bytes maxL ret n) (hi : Cond.instanceMethod y ∈ GW) (hse : Cond.selects y.cls y y ∈ GW) (hM : Met l y (Cond.code y bytes maxL ret :: GW) (Rm f mc ms) (cPre (.ref b :: As) D T wc H.size) Qc mc ms free) (q0 : Nat) {ci N : Nat} {F : u_T} {ty : Nat → FieldType} {fs : List Value} (hcl : CLS ci y.cls F N ty) (he : ws[q0]? = some (b, .inr (ci, fs))) (hC : isC.map (fun i => ws[i]?) = wc.map some) (hnC : va_nd isC = true) (hg1 : As.length = n) (hls : ls.size = nL) (hst : st0 = As.reverse ++ .ref b :: rest) (hW : (rest.map fun v => v.category).sum ≤ 8) (hdg : decode cc pc = .ok (.invokevirtual index, 3)) (hR1 : f + 1 ≤ R.frames) (hR2 : 8 + (maxL + 11) + 60 * f ≤ R.locals) (hc1 : cells + mc ≤ R.cells) (hc2 : slots + ms ≤ R.slots) : va_Run p l e R s m args below meth c H locs cells slots mc ms (F0 m pc ls st0) rest (Qc (Value.ref b :: As).toArray) free :=
  va_runV M.1 hM ⟨callB_of n M.1.2.2.2.2 (gw_goodG V.1) rfl rfl rfl (M.1.2.2.2.2 _ V.2.2.1) (M.1.2.2.2.2 _ V.2.1) V.2.2.2 ⟨hR1, hR2⟩, M.1.2.2.2.2 _ hi, M.1.2.2.2.2 _ hse⟩ ⟨cPre.blind, va_recv M.2.1.1 w.1 hcl.1 he, fun U hU hW1 => cPre.mk hU hW1 M.2.1 M.2.2.1 M.2.2.2.1 M.2.2.2.2 w.2.2.1 (wsub w.1 isC hC) (w.2.1.sub isC hnC hC)⟩ rfl hg1 hls hst (by simpa [JFrame.monitorRoom] using hW) hdg ⟨hc1, hc2⟩
theorem r_VN {p : Program} {l : Launch} {e : Env} {R : Room} {s : State} {m : MethodId} {args : Array Value} {below : List Frame} {meth : Method} {c : Code} {H : Heap} {locs : List Loc} {cells slots : Nat} {cc : ByteArray} {pc nL : Nat} {ls : Array Slot} {rest : List Value} {D : va_G} {T : Nat → ClassId} {A : Nat → Prop} {ws : va_W} {own : String} {y : MethodName} {bytes : ByteArray} {maxL mc ms n index f : Nat} {ret : Option FieldType} {Qc : Array Value → State → Outcome → State → Prop} {free : Addr → Prop} {As : List Value} {wc : va_W} {b : Nat} {st0 : List Value} {host : String} (isC : List Nat) (M : MC p s m args c cc own nL D T A) (w : WD D A s.heap ws H locs) (V : VN own index y host bytes maxL ret n) (hi : Cond.instanceMethod y ∈ GW) (hse : Cond.selects y.cls y y ∈ GW) (hM : Met l y (Cond.code y bytes maxL ret :: GW) (Rm f mc ms) (cPre (.ref b :: As) D T wc H.size) Qc mc ms free) (q0 : Nat) {ci N : Nat} {F : u_T} {ty : Nat → FieldType} {fs : List Value} (hcl : CLS ci y.cls F N ty) (he : ws[q0]? = some (b, .inr (ci, fs))) (hC : isC.map (fun i => ws[i]?) = wc.map some) (hnC : va_nd isC = true) (hg1 : As.length = n) (hls : ls.size = nL) (hst : st0 = As.reverse ++ .ref b :: rest) (hW : (rest.map fun v => v.category).sum ≤ 8) (hdg : decode cc pc = .ok (.invokevirtual index, 3)) (hR1 : f + 1 ≤ R.frames) (hR2 : 8 + (maxL + 11) + 60 * f ≤ R.locals) (hc1 : cells + mc ≤ R.cells) (hc2 : slots + ms ≤ R.slots) : va_Run p l e R s m args below meth c H locs cells slots mc ms (F0 m pc ls st0) rest (Qc (Value.ref b :: As).toArray) free :=
  va_runVN M.1 hM ⟨va_cnB n M.1.2.2.2.2 (gw_goodG V.1) rfl rfl rfl (M.2.1.2.1 _ V.2.1 rfl) (M.1.2.2.2.2 _ V.2.2.1) V.2.2.2 ⟨hR1, hR2⟩, M.1.2.2.2.2 _ hi, M.1.2.2.2.2 _ hse⟩ ⟨cPre.blind, va_recv M.2.1.1 w.1 hcl.1 he, fun U hU hW1 => cPre.mk hU hW1 M.2.1 M.2.2.1 M.2.2.2.1 M.2.2.2.2 w.2.2.1 (wsub w.1 isC hC) (w.2.1.sub isC hnC hC)⟩ rfl hg1 hls hst (by simpa [JFrame.monitorRoom] using hW) hdg ⟨hc1, hc2⟩
theorem r_VT {p : Program} {l : Launch} {e : Env} {R : Room} {s : State} {m : MethodId} {args : Array Value} {below : List Frame} {meth : Method} {c : Code} {H : Heap} {locs : List Loc} {cells slots : Nat} {cc : ByteArray} {pc nL : Nat} {ls : Array Slot} {rest : List Value} {D : va_G} {T : Nat → ClassId} {A : Nat → Prop} {ws : va_W} {own : String} {y : MethodName} {bytes : ByteArray} {maxL mc ms n index f : Nat} {ret : Option FieldType} {Qc : Array Value → State → Outcome → State → Prop} {free : Addr → Prop} {As : List Value} {wc : va_W} {b : Nat} {st0 : List Value} (isC : List Nat) (M : MC p s m args c cc own nL D T A) (w : WD D A s.heap ws H locs) (V : VL own index y bytes maxL ret n) (hi : Cond.instanceMethod y ∈ GW) (hse : Cond.selects y.cls y y ∈ GW) (hM : Met l y (Cond.code y bytes maxL ret :: GW) (Rm f mc ms) (cPre (.ref b :: As) D T wc H.size) Qc mc ms free) (hr : va_O y.cls b (A6 T) s s.heap) (hC : isC.map (fun i => ws[i]?) = wc.map some) (hnC : va_nd isC = true) (hg1 : As.length = n) (hls : ls.size = nL) (hst : st0 = As.reverse ++ .ref b :: rest) (hW : (rest.map fun v => v.category).sum ≤ 8) (hdg : decode cc pc = .ok (.invokevirtual index, 3)) (hR1 : f + 1 ≤ R.frames) (hR2 : 8 + (maxL + 11) + 60 * f ≤ R.locals) (hc1 : cells + mc ≤ R.cells) (hc2 : slots + ms ≤ R.slots) : va_Run p l e R s m args below meth c H locs cells slots mc ms (F0 m pc ls st0) rest (Qc (Value.ref b :: As).toArray) free := by
  obtain ⟨cell, k1, k2, k3, k4⟩ := (hr.narrow M.2.2.1).kept w.2.2.1.2.1
  exact va_runV M.1 hM ⟨callB_of n M.1.2.2.2.2 (gw_goodG V.1) rfl rfl rfl (M.1.2.2.2.2 _ V.2.2.1) (M.1.2.2.2.2 _ V.2.1) V.2.2.2 ⟨hR1, hR2⟩, M.1.2.2.2.2 _ hi, M.1.2.2.2.2 _ hse⟩ ⟨cPre.blind, ⟨cell, k1, k2, k3⟩, fun U hU hW1 => cPre.mk hU hW1 M.2.1 M.2.2.1 M.2.2.2.1 M.2.2.2.2 w.2.2.1 (wsub w.1 isC hC) (w.2.1.sub isC hnC hC)⟩ rfl hg1 hls hst (by simpa [JFrame.monitorRoom] using hW) hdg ⟨hc1, hc2⟩
theorem r_SN {p : Program} {l : Launch} {e : Env} {R : Room} {s : State} {m : MethodId} {args : Array Value} {below : List Frame} {meth : Method} {c : Code} {H : Heap} {locs : List Loc} {cells slots : Nat} {cc : ByteArray} {pc nL : Nat} {ls : Array Slot} {rest : List Value} {D : va_G} {T : Nat → ClassId} {A : Nat → Prop} {ws : va_W} {own : String} {y : MethodName} {bytes : ByteArray} {maxL mc ms n index f : Nat} {ret : Option FieldType} {Qc : Array Value → State → Outcome → State → Prop} {free : Addr → Prop} {As : List Value} {wc : va_W} {st0 : List Value} {host : String} (isC : List Nat) (M : MC p s m args c cc own nL D T A) (w : WD D A s.heap ws H locs) (V : VN own index y host bytes maxL ret n) (hi : Cond.static y ∈ GW) (hM : Met l y (Cond.code y bytes maxL ret :: GW) (Rm f mc ms) (cPre As D T wc H.size) Qc mc ms free) (hC : isC.map (fun i => ws[i]?) = wc.map some) (hnC : va_nd isC = true) (hg1 : As.length = n) (hls : ls.size = nL) (hst : st0 = As.reverse ++ rest) (hW : (rest.map fun v => v.category).sum ≤ 8) (hdg : decode cc pc = .ok (.invokestatic index, 3)) (hR1 : f + 1 ≤ R.frames) (hR2 : 8 + (maxL + 11) + 60 * f ≤ R.locals) (hc1 : cells + mc ≤ R.cells) (hc2 : slots + ms ≤ R.slots) : va_Run p l e R s m args below meth c H locs cells slots mc ms (F0 m pc ls st0) rest (Qc As.toArray) free :=
  va_runSN M.1 hM ⟨va_cnB n M.1.2.2.2.2 (gw_goodG V.1) rfl rfl rfl (M.2.1.2.1 _ V.2.1 rfl) (M.1.2.2.2.2 _ V.2.2.1) V.2.2.2 ⟨hR1, hR2⟩, M.1.2.2.2.2 _ hi, trivial⟩ ⟨cPre.blind, fun U hU hW1 => cPre.mk hU hW1 M.2.1 M.2.2.1 M.2.2.2.1 M.2.2.2.2 w.2.2.1 (wsub w.1 isC hC) (w.2.1.sub isC hnC hC)⟩ rfl hg1 hls hst (by simpa [JFrame.monitorRoom] using hW) hdg ⟨hc1, hc2⟩
theorem r_S {p : Program} {l : Launch} {e : Env} {R : Room} {s : State} {m : MethodId} {args : Array Value} {below : List Frame} {meth : Method} {c : Code} {H : Heap} {locs : List Loc} {cells slots : Nat} {cc : ByteArray} {pc nL : Nat} {ls : Array Slot} {rest : List Value} {D : va_G} {T : Nat → ClassId} {A : Nat → Prop} {ws : va_W} {own : String} {y : MethodName} {bytes : ByteArray} {maxL mc ms n index f : Nat} {ret : Option FieldType} {Qc : Array Value → State → Outcome → State → Prop} {free : Addr → Prop} {As : List Value} {wc : va_W} {st0 : List Value} (isC : List Nat) (M : MC p s m args c cc own nL D T A) (w : WD D A s.heap ws H locs) (V : VL own index y bytes maxL ret n) (hi : Cond.static y ∈ GW) (hM : Met l y (Cond.code y bytes maxL ret :: GW) (Rm f mc ms) (cPre As D T wc H.size) Qc mc ms free) (hC : isC.map (fun i => ws[i]?) = wc.map some) (hnC : va_nd isC = true) (hg1 : As.length = n) (hls : ls.size = nL) (hst : st0 = As.reverse ++ rest) (hW : (rest.map fun v => v.category).sum ≤ 8) (hdg : decode cc pc = .ok (.invokestatic index, 3)) (hR1 : f + 1 ≤ R.frames) (hR2 : 8 + (maxL + 11) + 60 * f ≤ R.locals) (hc1 : cells + mc ≤ R.cells) (hc2 : slots + ms ≤ R.slots) : va_Run p l e R s m args below meth c H locs cells slots mc ms (F0 m pc ls st0) rest (Qc As.toArray) free :=
  va_runS M.1 hM ⟨callB_of n M.1.2.2.2.2 (gw_goodG V.1) rfl rfl rfl (M.1.2.2.2.2 _ V.2.2.1) (M.1.2.2.2.2 _ V.2.1) V.2.2.2 ⟨hR1, hR2⟩, M.1.2.2.2.2 _ hi⟩ ⟨cPre.blind, fun U hU hW1 => cPre.mk hU hW1 M.2.1 M.2.2.1 M.2.2.2.1 M.2.2.2.2 w.2.2.1 (wsub w.1 isC hC) (w.2.1.sub isC hnC hC)⟩ rfl hg1 hls hst (by simpa [JFrame.monitorRoom] using hW) hdg ⟨hc1, hc2⟩
theorem r_I {p : Program} {l : Launch} {e : Env} {R : Room} {s : State} {m : MethodId} {args : Array Value} {below : List Frame} {meth : Method} {c : Code} {H : Heap} {locs : List Loc} {cells slots : Nat} {cc : ByteArray} {pc nL : Nat} {ls : Array Slot} {rest : List Value} {D : va_G} {T : Nat → ClassId} {A : Nat → Prop} {ws : va_W} {own : String} {y : MethodName} {bytes : ByteArray} {maxL mc ms n index f : Nat} {Qc : Array Value → State → Outcome → State → Prop} {free : Addr → Prop} {As : List Value} {wc : va_W} {b : Nat} {st0 : List Value} (isC : List Nat) (M : MC p s m args c cc own nL D T A) (w : WD D A s.heap ws H locs) (V : VL own index y bytes maxL none n) (hy : y.name = "<init>") (hi : Cond.instanceMethod y ∈ GW) (hM : Met l y (Cond.code y bytes maxL none :: GW) (Rm f mc ms) (cPre (.ref b :: As) D T wc H.size) Qc mc ms free) (hC : isC.map (fun i => ws[i]?) = wc.map some) (hnC : va_nd isC = true) (hg1 : As.length = n) (hls : ls.size = nL) (hst : st0 = As.reverse ++ .ref b :: rest) (hW : (rest.map fun v => v.category).sum ≤ 8) (hdg : decode cc pc = .ok (.invokespecial index, 3)) (hR1 : f + 1 ≤ R.frames) (hR2 : 8 + (maxL + 11) + 60 * f ≤ R.locals) (hc1 : cells + mc ≤ R.cells) (hc2 : slots + ms ≤ R.slots) : va_Run p l e R s m args below meth c H locs cells slots mc ms (F0 m pc ls st0) rest (Qc (Value.ref b :: As).toArray) free :=
  va_runI M.1 hM ⟨callB_of n M.1.2.2.2.2 (gw_goodG V.1) rfl rfl rfl (M.1.2.2.2.2 _ V.2.2.1) (M.1.2.2.2.2 _ V.2.1) V.2.2.2 ⟨hR1, hR2⟩, hy, M.1.2.2.2.2 _ hi⟩ ⟨cPre.blind, fun U hU hW1 => cPre.mk hU hW1 M.2.1 M.2.2.1 M.2.2.2.1 M.2.2.2.2 w.2.2.1 (wsub w.1 isC hC) (w.2.1.sub isC hnC hC)⟩ rfl hg1 hls hst (by simpa [JFrame.monitorRoom] using hW) hdg ⟨hc1, hc2⟩
theorem r_IN {p : Program} {l : Launch} {e : Env} {R : Room} {s : State} {m : MethodId} {args : Array Value} {below : List Frame} {meth : Method} {c : Code} {H : Heap} {locs : List Loc} {cells slots : Nat} {cc : ByteArray} {pc nL : Nat} {ls : Array Slot} {rest : List Value} {D : va_G} {T : Nat → ClassId} {A : Nat → Prop} {ws : va_W} {own : String} {y : MethodName} {bytes : ByteArray} {maxL mc ms n index f : Nat} {Qc : Array Value → State → Outcome → State → Prop} {free : Addr → Prop} {As : List Value} {wc : va_W} {b : Nat} {host : String} {st0 : List Value} (isC : List Nat) (M : MC p s m args c cc own nL D T A) (w : WD D A s.heap ws H locs) (V : VN own index y host bytes maxL none n) (hy : y.name = "<init>") (hi : Cond.instanceMethod y ∈ GW) (hM : Met l y (Cond.code y bytes maxL none :: GW) (Rm f mc ms) (cPre (.ref b :: As) D T wc H.size) Qc mc ms free) (hC : isC.map (fun i => ws[i]?) = wc.map some) (hnC : va_nd isC = true) (hg1 : As.length = n) (hls : ls.size = nL) (hst : st0 = As.reverse ++ .ref b :: rest) (hW : (rest.map fun v => v.category).sum ≤ 8) (hdg : decode cc pc = .ok (.invokespecial index, 3)) (hR1 : f + 1 ≤ R.frames) (hR2 : 8 + (maxL + 11) + 60 * f ≤ R.locals) (hc1 : cells + mc ≤ R.cells) (hc2 : slots + ms ≤ R.slots) : va_Run p l e R s m args below meth c H locs cells slots mc ms (F0 m pc ls st0) rest (Qc (Value.ref b :: As).toArray) free :=
  va_runIN M.1 hM ⟨va_cnB n M.1.2.2.2.2 (gw_goodG V.1) rfl rfl rfl (M.2.1.2.1 _ V.2.1 rfl) (M.1.2.2.2.2 _ V.2.2.1) V.2.2.2 ⟨hR1, hR2⟩, hy, M.1.2.2.2.2 _ hi⟩ ⟨cPre.blind, fun U hU hW1 => cPre.mk hU hW1 M.2.1 M.2.2.1 M.2.2.2.1 M.2.2.2.2 w.2.2.1 (wsub w.1 isC hC) (w.2.1.sub isC hnC hC)⟩ rfl hg1 hls hst (by simpa [JFrame.monitorRoom] using hW) hdg ⟨hc1, hc2⟩
theorem WD.sub {D : va_G} {A : Nat → Prop} {H0 : Heap} {ws ws' : va_W} {H : Heap} {locs : List Loc} (w : WD D A H0 ws H locs) (is : List Nat) (hn : va_nd is = true) (hs : is.map (fun i => ws[i]?) = ws'.map some) : WD D A H0 ws' H locs := ⟨wsub w.1 is hs, w.2.1.sub is hn hs, w.2.2.1, w.2.2.2⟩
theorem ii_inc {z n : Int} {x : Int32} (hx : x = iI n) : iI z + x = iI (z + n) := by rw [hx, iI_add]
theorem cI_cp {c d : Int → Int} {sp dp n : Int} (a0 : 0 ≤ sp) (a1 : sp ≤ 2147483647) (b0 : 0 ≤ dp) (b1 : dp ≤ 2147483647) (c0 : 0 ≤ n) (c1 : n ≤ 2147483647) : va_cpy (cI c) (cI d) (iI sp).toNatClampNeg (iI dp).toNatClampNeg (iI n).toNatClampNeg = cI (cpz c d sp dp n) := by
  rw [iI_cl a0 a1, iI_cl b0 b1, iI_cl c0 c1]
  funext j
  simp only [va_cpy, cI, cpz]
  by_cases e : dp.toNat ≤ j ∧ j < dp.toNat + n.toNat
  · rw [if_pos e, if_pos (by omega)]
    congr 2
    omega
  · rw [if_neg e, if_neg (by omega)]
section BB
variable {p : Program} {l : Launch} {e : Env} {R : Room} {s : State} {m : MethodId} {args : Array Value} {below : List Frame} {meth : Method} {c : Code} {H : Heap} {locs : List Loc} {cells slots : Nat} {Q : State → Prop}
variable {pc : Nat} {ls : Array Slot} {rest : List Value}
theorem b_lit {v : Int32} {z : Int} (hv : v = iI z) (kk : W p l e R s m args below meth c H locs cells slots Q (F0 m pc ls (.int (iI z) :: rest))) : W p l e R s m args below meth c H locs cells slots Q (F0 m pc ls (.int v :: rest)) := hv ▸ kk
theorem b_ref {T : Nat → ClassId} {r : Option Nat} (h : wok T r) (k0 : r = none → W p l e R s m args below meth c H locs cells slots Q (F0 m pc ls (.null :: rest))) (k1 : ∀ q : Nat, r = some q → wok T (some q) → W p l e R s m args below meth c H locs cells slots Q (F0 m pc ls (.ref q :: rest))) : W p l e R s m args below meth c H locs cells slots Q (F0 m pc ls (va_rf r :: rest)) := by
  cases r with
  | none => exact k0 rfl
  | some q => exact k1 q rfl h
end BB
-- ===== rows that are kept up to a place; the lines of a book =====
def kp (n : Int) (f g : Int → Int) : Prop := ∀ j, j < n → g j = f j
def kpo (n : Int) (f g : Nat → Option Nat) : Prop := ∀ j : Nat, (j : Int) < n → g j = f j
theorem kp_rfl {n : Int} {f : Int → Int} : kp n f f := fun _ _ => rfl
theorem kpo_rfl {n : Int} {f : Nat → Option Nat} : kpo n f f := fun _ _ => rfl
theorem kp_tr {n : Int} {f g h : Int → Int} (a : kp n f g) (b : kp n g h) : kp n f h := fun j hj => (b j hj).trans (a j hj)
theorem kpo_tr {n : Int} {f g h : Nat → Option Nat} (a : kpo n f g) (b : kpo n g h) : kpo n f h := fun j hj => (b j hj).trans (a j hj)
theorem kp_up {n k x : Int} {f g : Int → Int} (a : kp n f g) (h : n ≤ k) : kp n f (upz g k x) := by
  intro j hj
  simp only [upz]
  rw [if_neg (by omega)]
  exact a j hj
theorem kpo_up {n k : Int} {r : Option Nat} {f g : Nat → Option Nat} (a : kpo n f g) (h : n ≤ k) (h0 : 0 ≤ k) (h1 : k ≤ 2147483647) : kpo n f (va_up g (iI k).toNatClampNeg r) := by
  intro j hj
  rw [iI_cl h0 h1, va_up_ne _ _ (by omega)]
  exact a j hj
theorem upz_s (f : Int → Int) (k x : Int) : upz f k x k = x := by simp [upz]
def bk1 (T : Nat → ClassId) (r : Option Nat) (a b c : Int) : Prop := (r = some (T (10 + 11)) → 0 ≤ a ∧ 0 ≤ b ∧ b ≤ 8 ∧ 0 ≤ c) ∧ (r = some (T (10 + 12)) → 0 ≤ a ∧ 0 ≤ b ∧ b ≤ 8) ∧ (r = some (T (10 + 13)) → 0 ≤ b ∧ b ≤ 8)
def bkI (T : Nat → ClassId) (g : Nat → Option Nat) (a b c : Int → Int) (n : Int) : Prop := ∀ j : Nat, (j : Int) < n → bk1 T (g j) (a j) (b j) (c j)
theorem bkI_0 {T : Nat → ClassId} {g : Nat → Option Nat} {a b c : Int → Int} {n : Int} (h : n ≤ 0) : bkI T g a b c n := fun j hj => absurd hj (by omega)
theorem bkI_s {T : Nat → ClassId} {g g' : Nat → Option Nat} {a b c a' b' c' : Int → Int} {n : Int} (h : bkI T g a b c n) (h0 : 0 ≤ n) (hn : n ≤ 2147483647) (kg : kpo n g g') (ka : kp n a a') (kb : kp n b b') (kc : kp n c c') (h1 : bk1 T (g' (iI n).toNatClampNeg) (a' n) (b' n) (c' n)) : bkI T g' a' b' c' (n + 1) := by
  intro j hj
  by_cases e : (j : Int) < n
  · rw [kg j e, ka _ e, kb _ e, kc _ e]; exact h j e
  · have e2 : (j : Int) = n := by omega
    have e3 : (iI n).toNatClampNeg = j := by rw [iI_cl h0 hn]; omega
    rw [e3, ← e2] at h1
    exact h1
theorem bkI_at {T : Nat → ClassId} {g : Nat → Option Nat} {a b c : Int → Int} {n k : Int} (h : bkI T g a b c n) (h0 : 0 ≤ k) (h1 : k < n) (hn : k ≤ 2147483647) : bk1 T (g (iI k).toNatClampNeg) (a k) (b k) (c k) := by
  have e := h k.toNat (by omega)
  rw [Int.toNat_of_nonneg h0] at e
  rw [iI_cl h0 hn]
  exact e
/-- the words differ -/
def wdif (T : Nat → ClassId) : Prop := ∀ i j : Nat, i < 27 → j < 27 → T (10 + i) = T (10 + j) → i = j
theorem bk1_n {T : Nat → ClassId} {a b c : Int} : bk1 T none a b c := ⟨fun h => (by cases h), fun h => (by cases h), fun h => (by cases h)⟩
theorem wd_ne {T : Nat → ClassId} (hw : ∀ i j : Nat, i < 27 → j < 27 → T (10 + i) = T (10 + j) → i = j) {q i j : Nat} (hi : i < 27) (hj : j < 27) (h1 : some q = some (T (10 + i))) (h2 : some q = some (T (10 + j))) : i = j := hw i j hi hj (Option.some.inj (h1.symm.trans h2))
theorem bk1_b {T : Nat → ClassId} (hw : ∀ i j : Nat, i < 27 → j < 27 → T (10 + i) = T (10 + j) → i = j) {q : Nat} {a b c : Int} (hq : some q = some (T (10 + 11))) (ha : 0 ≤ a) (hb : 0 ≤ b ∧ b ≤ 8) (hc : 0 ≤ c) : bk1 T (some q) a b c := ⟨fun _ => ⟨ha, hb.1, hb.2, hc⟩, fun _ => ⟨ha, hb⟩, fun _ => hb⟩
theorem bk1_l {T : Nat → ClassId} (hw : ∀ i j : Nat, i < 27 → j < 27 → T (10 + i) = T (10 + j) → i = j) {q : Nat} {a b c : Int} (hq : some q = some (T (10 + 12))) (ha : 0 ≤ a) (hb : 0 ≤ b ∧ b ≤ 8) : bk1 T (some q) a b c := ⟨fun h => absurd (wd_ne hw (by decide) (by decide) hq h) (by decide), fun _ => ⟨ha, hb⟩, fun _ => hb⟩
theorem bk1_m {T : Nat → ClassId} (hw : ∀ i j : Nat, i < 27 → j < 27 → T (10 + i) = T (10 + j) → i = j) {q : Nat} {a b c : Int} (hq : some q = some (T (10 + 13))) (hb : 0 ≤ b ∧ b ≤ 8) : bk1 T (some q) a b c := ⟨fun h => absurd (wd_ne hw (by decide) (by decide) hq h) (by decide), fun h => absurd (wd_ne hw (by decide) (by decide) hq h) (by decide), fun _ => hb⟩
theorem bk1_d {T : Nat → ClassId} (hw : ∀ i j : Nat, i < 27 → j < 27 → T (10 + i) = T (10 + j) → i = j) {q : Nat} {a b c : Int} (hq : some q = some (T (10 + 14))) : bk1 T (some q) a b c := ⟨fun h => absurd (wd_ne hw (by decide) (by decide) hq h) (by decide), fun h => absurd (wd_ne hw (by decide) (by decide) hq h) (by decide), fun h => absurd (wd_ne hw (by decide) (by decide) hq h) (by decide)⟩
theorem idiv_d {a b : Int} (a0 : 0 ≤ a) (a1 : a ≤ 2147483647) (b0 : 0 < b) (b1 : b ≤ 2147483647) : a / b ≤ (iI a / iI b).toInt ∧ (iI a / iI b).toInt ≤ a / b := by
  have ea : iI a = nI a.toNat := by rw [nI, ← Int32.ofInt_eq_ofNat, Int.toNat_of_nonneg a0]; rfl
  have eb : iI b = nI b.toNat := by rw [nI, ← Int32.ofInt_eq_ofNat, Int.toNat_of_nonneg (by omega)]; rfl
  have hle : a.toNat / b.toNat ≤ a.toNat := Nat.div_le_self _ _
  have e : (iI a / iI b).toInt = ((a.toNat / b.toNat : Nat) : Int) := by rw [ea, eb, pk_div (by omega) (by omega) (by omega), nI_toInt (by omega)]
  have e2 : a / b = ((a.toNat / b.toNat : Nat) : Int) := by
    conv => lhs; rw [← Int.toNat_of_nonneg a0, ← Int.toNat_of_nonneg (Int.le_of_lt b0)]
    exact (Int.natCast_ediv _ _).symm
  rw [e, e2]
  exact ⟨Int.le_refl _, Int.le_refl _⟩
-- ===== what the calls of the tape and of the images answer =====
def fdT (r t t' : Int) : Prop := (t ≤ 920 ∧ t' = t + 20 ∧ r = t + 20) ∨ (920 < t ∧ t' = t ∧ r = -1)
def enT (r n t t' : Int) : Prop := (0 ≤ n ∧ n ≤ t ∧ t' = n ∧ r = 1) ∨ ((n < 0 ∨ t < n) ∧ t' = t ∧ r = 0)
def bkT (k t t' : Int) : Prop := (0 ≤ k ∧ k ≤ 1 ∧ t' = 0) ∨ ((k < 0 ∨ 1 < k) ∧ t' = t)
def imT (r k : Int) (f g : Int → Int) : Prop := (0 ≤ k ∧ k ≤ 1 ∧ r = 1 ∧ g = upz f k 1) ∨ ((k < 0 ∨ 1 < k) ∧ r = 0 ∧ g = f)
def rsT (r k : Int) (f : Int → Int) : Prop := (0 ≤ k ∧ k ≤ 1 ∧ f k = 1 ∧ r = 1) ∨ ((k < 0 ∨ 1 < k ∨ f k = 0) ∧ r = 0)
def imX (r k a b a' b' : Int) : Prop := (k = 0 ∧ r = 1 ∧ a' = 1 ∧ b' = b) ∨ (k = 1 ∧ r = 1 ∧ a' = a ∧ b' = 1) ∨ ((k < 0 ∨ 1 < k) ∧ r = 0 ∧ a' = a ∧ b' = b)
def rsX (r k a b : Int) : Prop := (k = 0 ∧ a = 1 ∧ r = 1) ∨ (k = 1 ∧ b = 1 ∧ r = 1) ∨ ((k < 0 ∨ 1 < k ∨ (k = 0 ∧ a = 0) ∨ (k = 1 ∧ b = 0)) ∧ r = 0)
