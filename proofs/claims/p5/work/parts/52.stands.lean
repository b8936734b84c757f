theorem N133 : Cond.initialized "HookedCity$Word" ∈ lw_tbl := List.mem_of_getElem? (i := 133) (by decide +kernel)
theorem N134 : Cond.initialized "java/lang/String" ∈ lw_tbl := List.mem_of_getElem? (i := 134) (by decide +kernel)
theorem N138 : Cond.initialized "jdk/internal/util/Preconditions" ∈ lw_tbl := List.mem_of_getElem? (i := 138) (by decide +kernel)
theorem N141 : Cond.initialized "java/lang/Throwable" ∈ lw_tbl := List.mem_of_getElem? (i := 141) (by decide +kernel)
theorem N208 : Cond.arrayClass .int ∈ lw_tbl := List.mem_of_getElem? (i := 208) (by decide +kernel)
theorem N444 : Cond.arrayClass .long ∈ lw_tbl := List.mem_of_getElem? (i := 444) (by decide +kernel)
theorem N1614 : Cond.arrayClass .boolean ∈ lw_tbl := List.mem_of_getElem? (i := 1614) (by decide +kernel)
theorem N1401 : Cond.laysStatic "java/lang/Throwable" "UNASSIGNED_STACK" "[Ljava/lang/StackTraceElement;" ∈ lw_tbl := List.mem_of_getElem? (i := 1401) (by decide +kernel)
theorem N1403 : Cond.laysStatic "java/lang/Throwable" "SUPPRESSED_SENTINEL" "Ljava/util/List;" ∈ lw_tbl := List.mem_of_getElem? (i := 1403) (by decide +kernel)
theorem G147 : Cond.instantiable "HookedCity" 17 ∈ GW := gw_i 147 (by decide +kernel) rfl
theorem G1444 : Cond.instantiable "HookedCityModel" 50 ∈ GW := gw_i 1444 (by decide +kernel) rfl
theorem G146 : Cond.classLink "HookedCityLaw" 8 "HookedCity" ∈ GW := gw_i 146 (by decide +kernel) rfl
theorem G150 : Cond.code ⟨"HookedCity", "<init>", "()V"⟩ prog_1_method_1_code 2 none ∈ GW := gw_i 150 (by decide +kernel) rfl
theorem G148 : Cond.methodLink "HookedCityLaw" 15 ⟨"HookedCity", "<init>", "()V"⟩ ∈ GW := gw_i 148 (by decide +kernel) rfl
theorem V_HookedCityLaw_15 : VL "HookedCityLaw" 15 yX11_init cX11_init 2 none 0 := ⟨G150, G148, G119, by decide +kernel, by decide +kernel, by decide +kernel⟩
theorem G149 : Cond.instanceMethod ⟨"HookedCity", "<init>", "()V"⟩ ∈ GW := gw_i 149 (by decide +kernel) rfl
theorem G1450 : Cond.classLink "HookedCityLaw" 16 "HookedCityModel" ∈ GW := gw_i 1450 (by decide +kernel) rfl
theorem G1453 : Cond.code ⟨"HookedCityModel", "<init>", "()V"⟩ prog_14_method_26_code 2 none ∈ GW := gw_i 1453 (by decide +kernel) rfl
theorem G1451 : Cond.methodLink "HookedCityLaw" 18 ⟨"HookedCityModel", "<init>", "()V"⟩ ∈ GW := gw_i 1451 (by decide +kernel) rfl
theorem V_HookedCityLaw_18 : VL "HookedCityLaw" 18 yX12_init cX12_init 2 none 0 := ⟨G1453, G1451, G131, by decide +kernel, by decide +kernel, by decide +kernel⟩
theorem G1452 : Cond.instanceMethod ⟨"HookedCityModel", "<init>", "()V"⟩ ∈ GW := gw_i 1452 (by decide +kernel) rfl
theorem N607 : Cond.laysStatic "HookedCity$Word" "ALL" "[LHookedCity$Word;" ∈ lw_tbl := List.mem_of_getElem? (i := 607) (by decide +kernel)
theorem N622 : Cond.laysStatic "java/lang/String" "COMPACT_STRINGS" "Z" ∈ lw_tbl := List.mem_of_getElem? (i := 622) (by decide +kernel)
theorem N665 : Cond.laysStatic "jdk/internal/util/Preconditions" "SIOOBE_FORMATTER" "Ljava/util/function/BiFunction;" ∈ lw_tbl := List.mem_of_getElem? (i := 665) (by decide +kernel)
theorem law_D {args : Array Value} {s : State} (hG : ∀ w ∈ GW, w.before args s = true) : ∃ D : va_G, ∀ (k : Nat) (q : vw_C), vwCl[k]? = some q → u_Kn s q.1 q.2.1 q.2.2 (D.1 k) (D.2 k) := by
  have h : ∀ k : Nat, ∃ z : ClassId × (Nat → Nat), ∀ q : vw_C, vwCl[k]? = some q → u_Kn s q.1 q.2.1 q.2.2 z.1 z.2 := by
    intro k
    match k with
    | 0 => obtain ⟨c, i, h⟩ := u_known (C := RX0) (T := TX0) (N := 6) (n := 6) hG clX0.2.1 (hG _ G256); exact ⟨(c, i), fun q hq => by cases hq; exact h⟩
    | 1 => obtain ⟨c, i, h⟩ := u_known (C := RX1) (T := TX1) (N := 4) (n := 4) hG clX1.2.1 (hG _ G472); exact ⟨(c, i), fun q hq => by cases hq; exact h⟩
    | 2 => obtain ⟨c, i, h⟩ := u_known (C := RX2) (T := TX2) (N := 2) (n := 2) hG clX2.2.1 (hG _ G343); exact ⟨(c, i), fun q hq => by cases hq; exact h⟩
    | 3 => obtain ⟨c, i, h⟩ := u_known (C := RX3) (T := TX3) (N := 5) (n := 5) hG clX3.2.1 (hG _ G284); exact ⟨(c, i), fun q hq => by cases hq; exact h⟩
    | 4 => obtain ⟨c, i, h⟩ := u_known (C := RX4) (T := TX4) (N := 3) (n := 3) hG clX4.2.1 (hG _ G325); exact ⟨(c, i), fun q hq => by cases hq; exact h⟩
    | 5 => obtain ⟨c, i, h⟩ := u_known (C := RX5) (T := TX5) (N := 6) (n := 6) hG clX5.2.1 (hG _ G446); exact ⟨(c, i), fun q hq => by cases hq; exact h⟩
    | 6 => obtain ⟨c, i, h⟩ := u_known (C := RX6) (T := TX6) (N := 2) (n := 2) hG clX6.2.1 (hG _ G310); exact ⟨(c, i), fun q hq => by cases hq; exact h⟩
    | 7 => obtain ⟨c, i, h⟩ := u_known (C := RX7) (T := TX7) (N := 8) (n := 8) hG clX7.2.1 (hG _ G210); exact ⟨(c, i), fun q hq => by cases hq; exact h⟩
    | 8 => obtain ⟨c, i, h⟩ := u_known (C := RX8) (T := TX8) (N := 12) (n := 12) hG clX8.2.1 (hG _ G155); exact ⟨(c, i), fun q hq => by cases hq; exact h⟩
    | 9 => obtain ⟨c, i, h⟩ := u_known (C := RX9) (T := TX9) (N := 18) (n := 18) hG clX9.2.1 (hG _ G361); exact ⟨(c, i), fun q hq => by cases hq; exact h⟩
    | 10 => obtain ⟨c, i, h⟩ := u_known (C := RX11) (T := TX11) (N := 17) (n := 17) hG clX11.2.1 (hG _ G147); exact ⟨(c, i), fun q hq => by cases hq; exact h⟩
    | 11 => obtain ⟨c, i, h⟩ := u_known (C := RX12) (T := TX12) (N := 50) (n := 50) hG clX12.2.1 (hG _ G1444); exact ⟨(c, i), fun q hq => by cases hq; exact h⟩
    | n + 12 => exact ⟨(0, fun _ => 0), fun q hq => by simp [vwCl] at hq⟩
  obtain ⟨f, hf⟩ := Classical.axiomOfChoice h
  exact ⟨(fun k => (f k).1, fun k => (f k).2), hf⟩
-- ===== what stands from the start =====
abbrev FG : List Cond := flatC (Jvm.Cond.and given_1 narrow_1)
abbrev tW (n : String) : Term := .static "HookedCity$Word" n "LHookedCity$Word;"
abbrev tA : Term := .static "HookedCity$Word" "ALL" "[LHookedCity$Word;"
abbrev tV (q : String × Nat × String × List Int32) : Term := .field (.string q.1 q.2.1) "java/lang/String" "value" "[B"
theorem sw_all : (List.range 27).all (fun k => decide (Cond.exactly (tW (wnm.getD k "")) "HookedCity$Word" ∈ FG) && (decide (Cond.laysStatic "HookedCity$Word" (wnm.getD k "") "LHookedCity$Word;" ∈ lw_tbl) && (decide (Cond.eq (.field (tW (wnm.getD k "")) "HookedCity$Word" "letters" "J") (.long (wlt.getD k 0)) ∈ FG) && (decide (Cond.eq (.field (tW (wnm.getD k "")) "HookedCity$Word" "kind" "I") (.int (wkd.getD k 0)) ∈ FG) && (decide (Cond.eq (.field (tW (wnm.getD k "")) "java/lang/Enum" "ordinal" "I") (.int (Int32.ofNat k)) ∈ FG) && decide (Cond.eq (.elem tA (.int (Int32.ofNat k))) (tW (wnm.getD k "")) ∈ FG)))))) = true := by decide +kernel
def ssb (q : String × Nat × String × List Int32) : Bool := decide (Cond.stringRef q.1 q.2.1 q.2.2.1 ∈ lw_tbl) && (decide (Cond.exactly (.string q.1 q.2.1) "java/lang/String" ∈ FG) && (decide (Cond.eq (.field (.string q.1 q.2.1) "java/lang/String" "coder" "B") (.int 0) ∈ FG) && (decide (Cond.arrayOf (tV q) .byte ∈ FG) && (decide (Cond.eq (.length (tV q)) (.int (Int32.ofNat q.2.2.2.length)) ∈ FG) && (decide (q.2.2.2.length < 100) && (List.range q.2.2.2.length).all (fun j => decide (Cond.eq (.elem (tV q) (.int (Int32.ofNat j))) (.int (q.2.2.2.getD j 0)) ∈ FG)))))))
theorem ss_all : sto.all ssb = true := by decide +kernel
theorem va_OF_inj {o n d : String} {v v' : Value} {t : Nat} {A A' : Nat → Prop} {U : State} {H : Heap} (h : va_OF o n d v t A U H) (h' : va_OF o n d v' t A' U H) : v = v' := by
  obtain ⟨cf, k, i, f, cell, h1, h2, h3, h4, h5, h6⟩ := h
  obtain ⟨cf', k', i', f', cell', h1', h2', h3', h4', h5', h6'⟩ := h'
  rw [h1] at h1'
  cases h1'
  rw [h3] at h3'
  cases h3'
  rw [h5] at h5'
  exact Option.some.inj h5'
theorem va_T_congr {ty : FieldType} {t N : Nat} {f g : Nat → Value} {A : Nat → Prop} {U : State} {H : Heap} (h : va_T ty t N f A U H) (hg : ∀ j, j < N → f j = g j) : va_T ty t N g A U H := by
  obtain ⟨cell, h1, h2, h3, h4, h5, h6, h7⟩ := h
  exact ⟨cell, h1, h2, h3, h4, h5, fun j hj => by rw [← hg j hj]; exact h6 j hj, h7⟩
theorem st_word {args : Array Value} {s : State} (hts : ∀ w ∈ lw_tbl, w.before args s = true) (hgv : (Jvm.Cond.and given_1 narrow_1).before args s = true) {A : Nat → Prop} (hA : ∀ a : Nat, a < s.heap.size → ¬ A a) (k : Nat) (hk : k < 27) : ∃ t : Nat, va_Z WNM (wnm.getD k "") "LHookedCity$Word;" (.ref t) A s s.heap ∧ va_O WNM t A s s.heap ∧ va_OF WNM "letters" "J" (.long (wlt.getD k 0)) t A s s.heap ∧ va_OF WNM "kind" "I" (.int (wkd.getD k 0)) t A s s.heap ∧ va_OF "java/lang/Enum" "ordinal" "I" (.int (Int32.ofNat k)) t A s s.heap ∧ (Term.elem tA (.int (Int32.ofNat k))).eval args s none [] s = some (.ref t) := by
  have h := List.all_eq_true.mp sw_all k (List.mem_range.mpr hk)
  simp only [Bool.and_eq_true, decide_eq_true_eq] at h
  obtain ⟨h1, h2, h3, h4, h5, h6⟩ := h
  have g := fun c hc => flat_of_before _ hgv c hc
  obtain ⟨a, c, cell, k9, q1, -⟩ := Cond.exactly_spec (g _ h1)
  exact ⟨a, va_Zof (hts _ h2) (hts _ N133) q1 hA, va_Oof (g _ h1) q1 hA, vk_OFof q1 (Cond.eq_long (g _ h3) rfl) hA, vk_OFof q1 (Cond.eq_int (g _ h4) rfl) hA, vk_OFof q1 (Cond.eq_int (g _ h5) rfl) hA, Cond.eq_refs (g _ h6) q1 rfl⟩
theorem st_str {args : Array Value} {s : State} (hts : ∀ w ∈ lw_tbl, w.before args s = true) (hgv : (Jvm.Cond.and given_1 narrow_1).before args s = true) {A : Nat → Prop} (hA : ∀ a : Nat, a < s.heap.size → ¬ A a) (q : String × Nat × String × List Int32) (hq : q ∈ sto) : ∃ z : Nat × Nat, va_O "java/lang/String" z.1 A s s.heap ∧ va_OF "java/lang/String" "value" "[B" (.ref z.2) z.1 A s s.heap ∧ va_OF "java/lang/String" "coder" "B" (.int 0) z.1 A s s.heap ∧ va_T .byte z.2 q.2.2.2.length (fun j => .int (q.2.2.2.getD j 0)) A s s.heap ∧ vk_R q.1 q.2.1 q.2.2.1 z.1 s := by
  have h := List.all_eq_true.mp ss_all q hq
  unfold ssb at h
  simp only [Bool.and_eq_true, decide_eq_true_eq, List.all_eq_true, List.mem_range] at h
  obtain ⟨h0, h1, h2, h3, h4, h5, h6⟩ := h
  have g := fun c hc => flat_of_before _ hgv c hc
  obtain ⟨a, c, cell, k9, q1, -⟩ := Cond.exactly_spec (g _ h1)
  obtain ⟨t, e1, e2⟩ := va_Tof (f := fun j => .int (q.2.2.2.getD j 0)) (Nat.lt_trans h5 (by decide)) (g _ h3) (Cond.eq_int (g _ h4) rfl) (fun j hj => Cond.eq_int (g _ (h6 j hj)) rfl) hA
  exact ⟨(a, t), va_Oof (g _ h1) q1 hA, vk_OFof q1 e1 hA, vk_OFof q1 (Cond.eq_int (g _ h2) rfl) hA, e2, vk_R.of (hts _ h0) q1⟩
def mkT (c0 c1 c2 c3 c4 c5 sz al : Nat) (wt st sb : Nat → Nat) : Nat → ClassId := fun n => if n = 0 then c0 else if n = 1 then c1 else if n = 2 then c2 else if n = 3 then c3 else if n = 4 then c4 else if n = 5 then c5 else if n = 6 then sz else if n = 9 then al else if n < 50 then wt (n - 10) else if n < 60 then st (n - 50) else sb (n - 60)
theorem mkT_w (c0 c1 c2 c3 c4 c5 sz al : Nat) (wt st sb : Nat → Nat) (k : Nat) (hk : k < 27) : mkT c0 c1 c2 c3 c4 c5 sz al wt st sb (10 + k) = wt k := by
  unfold mkT
  rw [if_neg (by omega), if_neg (by omega), if_neg (by omega), if_neg (by omega), if_neg (by omega), if_neg (by omega), if_neg (by omega), if_neg (by omega), if_pos (by omega), Nat.add_sub_cancel_left]
theorem mkT_s (c0 c1 c2 c3 c4 c5 sz al : Nat) (wt st sb : Nat → Nat) (k : Nat) (hk : k < 5) : mkT c0 c1 c2 c3 c4 c5 sz al wt st sb (50 + k) = st k := by
  unfold mkT
  rw [if_neg (by omega), if_neg (by omega), if_neg (by omega), if_neg (by omega), if_neg (by omega), if_neg (by omega), if_neg (by omega), if_neg (by omega), if_neg (by omega), if_pos (by omega), Nat.add_sub_cancel_left]
theorem mkT_b (c0 c1 c2 c3 c4 c5 sz al : Nat) (wt st sb : Nat → Nat) (k : Nat) : mkT c0 c1 c2 c3 c4 c5 sz al wt st sb (60 + k) = sb k := by
  unfold mkT
  rw [if_neg (by omega), if_neg (by omega), if_neg (by omega), if_neg (by omega), if_neg (by omega), if_neg (by omega), if_neg (by omega), if_neg (by omega), if_neg (by omega), if_neg (by omega), Nat.add_sub_cancel_left]
theorem law_T {args : Array Value} {s : State} (hts : ∀ w ∈ lw_tbl, w.before args s = true) (hgv : (Jvm.Cond.and given_1 narrow_1).before args s = true) : ∃ T : Nat → ClassId, (∀ (k : Nat) (q : ClassId × FieldType), (tyl T)[k]? = some q → ArrOfT s q.1 q.2 ∧ va_RA s q.1 q.2) ∧ T 6 = s.heap.size ∧ ZX T s s.heap := by
  have hA : ∀ a : Nat, a < s.heap.size → ¬ (fun q => s.heap.size ≤ q) a := fun a h => Nat.not_le.mpr h
  have g := fun c hc => flat_of_before _ hgv c hc
  obtain ⟨c0, k0, p0, a0, b0, d0⟩ := Cond.arrayClass_spec (hts _ N208)
  obtain ⟨c1, k1, p1, a1, b1, d1⟩ := Cond.arrayClass_spec (hts _ N444)
  obtain ⟨c2, k2, p2, a2, b2, d2⟩ := Cond.arrayClass_spec (hts _ N1614)
  obtain ⟨p3, c3, k3, e3, -, b3, d3, a3⟩ := Cond.arrayOver_spec (hts _ N357)
  obtain ⟨p4, c4, k4, e4, -, b4, d4, a4⟩ := Cond.arrayOver_spec (hts _ N359)
  obtain ⟨p5, c5, k5, e5, -, b5, d5, a5⟩ := Cond.arrayOver_spec (hts _ N262)
  have hw : ∀ k : Nat, ∃ t : Nat, k < 27 → va_Z WNM (wnm.getD k "") "LHookedCity$Word;" (.ref t) (fun q => s.heap.size ≤ q) s s.heap ∧ va_O WNM t (fun q => s.heap.size ≤ q) s s.heap ∧ va_OF WNM "letters" "J" (.long (wlt.getD k 0)) t (fun q => s.heap.size ≤ q) s s.heap ∧ va_OF WNM "kind" "I" (.int (wkd.getD k 0)) t (fun q => s.heap.size ≤ q) s s.heap ∧ va_OF "java/lang/Enum" "ordinal" "I" (.int (Int32.ofNat k)) t (fun q => s.heap.size ≤ q) s s.heap ∧ (Term.elem tA (.int (Int32.ofNat k))).eval args s none [] s = some (.ref t) := by
    intro k
    by_cases hk : k < 27
    · obtain ⟨t, h⟩ := st_word hts hgv hA k hk
      exact ⟨t, fun _ => h⟩
    · exact ⟨0, fun h => absurd h hk⟩
  obtain ⟨wt, hwt⟩ := Classical.axiomOfChoice hw
  have hs : ∀ k : Nat, ∃ z : Nat × Nat, ∀ q : String × Nat × String × List Int32, sto[k]? = some q → va_O "java/lang/String" z.1 (fun q => s.heap.size ≤ q) s s.heap ∧ va_OF "java/lang/String" "value" "[B" (.ref z.2) z.1 (fun q => s.heap.size ≤ q) s s.heap ∧ va_OF "java/lang/String" "coder" "B" (.int 0) z.1 (fun q => s.heap.size ≤ q) s s.heap ∧ va_T .byte z.2 q.2.2.2.length (fun j => .int (q.2.2.2.getD j 0)) (fun q => s.heap.size ≤ q) s s.heap ∧ vk_R q.1 q.2.1 q.2.2.1 z.1 s := by
    intro k
    cases hq : sto[k]? with
    | none => exact ⟨(0, 0), fun q h => by cases h⟩
    | some q =>
      obtain ⟨z, h⟩ := st_str hts hgv hA q (List.mem_of_getElem? hq)
      exact ⟨z, fun q' h' => by cases h'; exact h⟩
  obtain ⟨st, hst⟩ := Classical.axiomOfChoice hs
  obtain ⟨al, al1, al2⟩ := va_Tof (tm := tA) (ty := .object WNM) (N := 27) (f := fun j => .ref (wt j)) (by decide) (g _ (by decide +kernel)) (Cond.eq_int (g (Cond.eq (.length tA) (.int 27)) (by decide +kernel)) rfl) (fun j hj => (hwt j hj).2.2.2.2.2) hA
  refine ⟨mkT c0 c1 c2 c3 c4 c5 s.heap.size al wt (fun k => (st k).1) (fun k => (st k).2), ?_, rfl, ?_⟩
  · intro k q hq
    match k, hq with
    | 0, hq => cases hq; exact ⟨fun N z => ⟨fun k h => (by cases h), k0, b0, p0, d0⟩, a0⟩
    | 1, hq => cases hq; exact ⟨fun N z => ⟨fun k h => (by cases h), k1, b1, p1, d1⟩, a1⟩
    | 2, hq => cases hq; exact ⟨fun N z => ⟨fun k h => (by cases h), k2, b2, p2, d2⟩, a2⟩
    | 3, hq => cases hq; exact ⟨fun N z => ⟨fun k h => (by cases h), k3, b3, p3, d3⟩, k3, p3, b3, d3, e3, a3⟩
    | 4, hq => cases hq; exact ⟨fun N z => ⟨fun k h => (by cases h), k4, b4, p4, d4⟩, k4, p4, b4, d4, e4, a4⟩
    | 5, hq => cases hq; exact ⟨fun N z => ⟨fun k h => (by cases h), k5, b5, p5, d5⟩, k5, p5, b5, d5, e5, a5⟩
    | k + 6, hq => simp [tyl] at hq
  · have hk5 : ∀ (k : Nat) (q : String × Nat × String × List Int32), sto[k]? = some q → k < 5 := fun k q hq => (List.getElem?_eq_some_iff.mp hq).1
    refine ⟨fun k n hn => ?_, ⟨va_Zof (hts _ N607) (hts _ N133) al1 hA, ?_⟩, ⟨va_Zof (hts _ N622) (hts _ N134) (Cond.eq_int (g (Cond.eq (.static "java/lang/String" "COMPACT_STRINGS" "Z") (.int 1)) (by decide +kernel)) rfl) hA, fun k q hq => ?_⟩, fun k q hq => ?_, va_Zqof (hts _ N665) (hts _ N138) (g _ (by decide +kernel)) hA, fun i j hi hj h => ?_⟩
    · have hk : k < 27 := (List.getElem?_eq_some_iff.mp hn).1
      have en : wnm.getD k "" = n := by rw [List.getD_eq_getElem?_getD, hn]; rfl
      rw [mkT_w _ _ _ _ _ _ _ _ _ _ _ k hk]
      have h := hwt k hk
      rw [en] at h
      exact ⟨h.1, h.2.1, h.2.2.1, h.2.2.2.1⟩
    · exact va_T_congr al2 (fun j hj => by rw [mkT_w _ _ _ _ _ _ _ _ _ _ _ j hj])
    · have h := hst k q hq
      rw [mkT_s _ _ _ _ _ _ _ _ _ _ _ k (hk5 k q hq), mkT_b]
      exact ⟨h.1, h.2.1, h.2.2.1, h.2.2.2.1⟩
    · rw [mkT_s _ _ _ _ _ _ _ _ _ _ _ k (hk5 k q hq)]
      exact (hst k q hq).2.2.2.2
    · rw [mkT_w _ _ _ _ _ _ _ _ _ _ _ i hi, mkT_w _ _ _ _ _ _ _ _ _ _ _ j hj] at h
      have h1 := (hwt i hi).2.2.2.2.1
      have h2 := (hwt j hj).2.2.2.2.1
      rw [h] at h1
      have h3 := va_OF_inj h1 h2
      have h4 : (Int32.ofNat i).toInt = (Int32.ofNat j).toInt := by
        injection h3 with h3
        rw [h3]
      rw [← Int32.ofInt_eq_ofNat, ← Int32.ofInt_eq_ofNat] at h4
      have h5 := iI_i (z := (i : Int)) (by omega) (by omega)
      have h6 := iI_i (z := (j : Int)) (by omega) (by omega)
      unfold iI at h5 h6
      rw [h5, h6] at h4
      omega
-- ===== the two objects when they are new =====
def fZ (g : Nat → Int32) : Int → Int := fun j => (g j.toNat).toInt
theorem cI_fZ (g : Nat → Int32) : cI (fZ g) = g := by
  funext j
  show iI (g (j : Int).toNat).toInt = g j
  rw [show (j : Int).toNat = j by omega]
  exact iI_x _
theorem z32 : (0 : Int32).toInt = 0 := by decide
theorem f0z (j : Int) : fZ (fun _ => 0) j = 0 := z32
theorem rng_f0 {lo hi : Int} (h0 : lo ≤ 0) (h1 : 0 ≤ hi) : rng lo hi (fZ (fun _ => 0)) := fun j => by
  rw [f0z]
  exact ⟨h0, h1⟩
theorem FL_fZ (g : Nat → Int32) : FL (fZ g) := fun j => ⟨ib0 _, ib1 _⟩
theorem ln_f0 : lnI (fZ (fun _ => 0)) := ⟨FL_fZ _, fun k _ _ => by rw [f0z, f0z, f0z, f0z]; unfold lok; omega⟩
theorem nd_f0 : ndI (fZ (fun _ => 0)) := ⟨FL_fZ _, fun k _ _ => by rw [f0z, f0z, f0z]; unfold nok; omega⟩
theorem rng_mates : rng (-1) 8 (fZ cn6) := by
  intro j
  simp only [fZ, cn6, rngc]
  split <;> decide
theorem rng_onces : rng 0 1 (fZ cn9) := by
  intro j
  simp only [fZ, cn9, rngc]
  split <;> decide
theorem now_f : nowI (fZ cn45) := by
  have v57 : ∀ k : Nat, k < 18 → (cn45 (57 + k)).toInt = -1 := by decide +kernel
  have vs : ∀ k : Nat, k < 60 → (cn45 (89 + 4 * k)).toInt = 0 := by decide +kernel
  have w57 : ∀ j : Int, 57 ≤ j → j ≤ 74 → fZ cn45 j = -1 := fun j a b => by
    have h := v57 (j - 57).toNat (by omega)
    rw [show 57 + (j - 57).toNat = j.toNat by omega] at h
    exact h
  refine ⟨FL_fZ _, fun j => ⟨fun h => ?_, fun h => ?_, fun h => ?_, fun a b => ?_, fun h => ?_⟩, fun p q p0 p1 q0 q1 h => ?_, fun k k0 k1 => ?_⟩
  · rw [h]; exact ⟨by decide +kernel, by decide +kernel⟩
  · rw [h]; exact ⟨by decide +kernel, by decide +kernel⟩
  · rw [h]; exact ⟨by decide +kernel, by decide +kernel⟩
  · rw [w57 j a b]; exact ⟨by decide, by decide⟩
  · rw [h]; exact ⟨by decide +kernel, by decide +kernel⟩
  · rw [w57 (57 + p) (by omega) (by omega)] at h; omega
  · have e : fZ cn45 (89 + 4 * k) = 0 := by
      have h := vs k.toNat (by omega)
      rw [show 89 + 4 * k.toNat = (89 + 4 * k).toNat by omega] at h
      exact h
    rw [e]
    unfold nok
    omega
theorem rd_f : rdI (fZ cn13) := by
  have v32 : ∀ k : Nat, k < 9 → (cn13 (32 + k)).toInt = -1 := by decide +kernel
  have w32 : ∀ j : Int, 32 ≤ j → j ≤ 40 → fZ cn13 j = -1 := fun j a b => by
    have h := v32 (j - 32).toNat (by omega)
    rw [show 32 + (j - 32).toNat = j.toNat by omega] at h
    exact h
  refine ⟨FL_fZ _, fun j => ⟨fun h => ?_, fun h => ?_, fun h => ?_, fun a b => ?_⟩, fun p q p0 p1 q0 q1 h h2 => ?_, fun p p0 p1 => ?_⟩
  · rw [h]; exact ⟨by decide +kernel, by decide +kernel⟩
  · rw [h]; exact ⟨by decide +kernel, by decide +kernel⟩
  · rw [h]; exact ⟨by decide +kernel, by decide +kernel⟩
  · rw [w32 j a b]; exact ⟨by decide, by decide⟩
  · exact absurd (w32 (32 + p) (by omega) (by omega)) h2
  · have h0 : fZ cn13 0 = 0 := by decide +kernel
    rw [h0] at p0
    exact w32 (32 + p) (by omega) (by omega)
theorem refs2 (a0 a1 : Nat) : refs [a0, a1] = (va_up (va_up (fun _ => none) (Int32.toNatClampNeg (0 : Int32)) (some a0)) (Int32.toNatClampNeg (1 : Int32)) (some a1)) := by
  have e0 : (Int32.toNatClampNeg (0 : Int32)) = 0 := by decide
  have e1 : (Int32.toNatClampNeg (1 : Int32)) = 1 := by decide
  funext j
  simp only [va_up, e0, e1]
  match j with
  | 0 => rfl
  | 1 => rfl
  | j + 2 => rw [if_neg (by omega), if_neg (by omega)]; rfl
theorem refs8 (a0 a1 a2 a3 a4 a5 a6 a7 : Nat) : refs [a0, a1, a2, a3, a4, a5, a6, a7] = (va_up (va_up (va_up (va_up (va_up (va_up (va_up (va_up (fun _ => none) (Int32.toNatClampNeg (0 : Int32)) (some a0)) (Int32.toNatClampNeg (1 : Int32)) (some a1)) (Int32.toNatClampNeg (2 : Int32)) (some a2)) (Int32.toNatClampNeg (3 : Int32)) (some a3)) (Int32.toNatClampNeg (4 : Int32)) (some a4)) (Int32.toNatClampNeg (5 : Int32)) (some a5)) (Int32.toNatClampNeg (6 : Int32)) (some a6)) (Int32.toNatClampNeg (7 : Int32)) (some a7)) := by
  have e0 : (Int32.toNatClampNeg (0 : Int32)) = 0 := by decide
  have e1 : (Int32.toNatClampNeg (1 : Int32)) = 1 := by decide
  have e2 : (Int32.toNatClampNeg (2 : Int32)) = 2 := by decide
  have e3 : (Int32.toNatClampNeg (3 : Int32)) = 3 := by decide
  have e4 : (Int32.toNatClampNeg (4 : Int32)) = 4 := by decide
  have e5 : (Int32.toNatClampNeg (5 : Int32)) = 5 := by decide
  have e6 : (Int32.toNatClampNeg (6 : Int32)) = 6 := by decide
  have e7 : (Int32.toNatClampNeg (7 : Int32)) = 7 := by decide
  funext j
  simp only [va_up, e0, e1, e2, e3, e4, e5, e6, e7]
  match j with
  | 0 => rfl
  | 1 => rfl
  | 2 => rfl
  | 3 => rfl
  | 4 => rfl
  | 5 => rfl
  | 6 => rfl
  | 7 => rfl
  | j + 8 => rw [if_neg (by omega), if_neg (by omega), if_neg (by omega), if_neg (by omega), if_neg (by omega), if_neg (by omega), if_neg (by omega), if_neg (by omega)]; rfl
