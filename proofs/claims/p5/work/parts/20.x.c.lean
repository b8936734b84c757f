-- ===== the reference's readers, road by road =====
section CRr
variable {f : Int → Int} {n L : Int} {x : Tk × Int × Int} {kind fr to sign q fa pl t : Int} {word : Int64} {number : Int32} {k1 f1 t1 s1 : Int} {w1 : Int64} {u1 : Int32} {rd : Int → Int} {h : Nat → Int64}
theorem gT_nx (g : gT x kind fr to word number sign) (g1 : gT (tkAt f n L to) k1 f1 t1 w1 u1 s1) : gT (nx f n L x) k1 f1 t1 w1 u1 s1 := by
  unfold nx
  rw [← g.2.1]
  exact g1
theorem nm_1 (g : gT x kind fr to word number sign) (hn : nmQ q kind word) (hq : q = 1) : isNm x.1 ∧ wdO x.1 = word ∧ kind = 2 := by
  rcases hn with ⟨-, a, b⟩ | ⟨a, -⟩
  · exact ⟨(gT_nm g).mp ⟨a, b⟩, gT_wd g a, a⟩
  · omega
theorem nm_0 (g : gT x kind fr to word number sign) (hn : nmQ q kind word) (hq : q = 0) : ¬ isNm x.1 := by
  rcases hn with ⟨a, -⟩ | ⟨-, b⟩
  · omega
  · exact fun i => b ((gT_nm g).mpr i)
theorem one_A (hn : nmQ q kind word) (hq : q = 0) (hb : baQ kind 1 fa) (hp : pl = fr) : ∀ x, gT x kind fr to word number sign → RV (sOne rd h x) 0 fa pl t := by
  intro x g
  rw [sOne, if_pos (nm_0 g hn hq)]
  exact ⟨rfl, by unfold baQ at hb; omega, hp.trans g.1⟩
theorem one_B (hn : nmQ q kind word) (hq : q = 1) (ht : t = FI h 0 (rd 0) word) (h1 : t = -1) (hb : baQ kind 3 fa) (hp : pl = fr) : ∀ x, gT x kind fr to word number sign → RV (sOne rd h x) 0 fa pl t := by
  intro x g
  obtain ⟨a, b, c⟩ := nm_1 g hn hq
  rw [sOne, if_neg (fun e => e a), b, if_pos (ht.symm.trans h1)]
  exact ⟨rfl, by unfold baQ at hb; omega, hp.trans g.1⟩
theorem one_C (hn : nmQ q kind word) (hq : q = 1) (ht : t = FI h 0 (rd 0) word) (h1 : ¬ t = -1) : ∀ x, gT x kind fr to word number sign → RV (sOne rd h x) 1 fa pl t := by
  intro x g
  obtain ⟨a, b, c⟩ := nm_1 g hn hq
  rw [sOne, if_neg (fun e => e a), b, if_neg (fun e => h1 (ht.trans e))]
  exact ⟨rfl, ht⟩
theorem new_A {P : Tk × Int × Int → Prop} (hn : nmQ q kind word) (hq : q = 0) (hb : baQ kind 1 fa) (hp : pl = fr) : ∀ x, gT x kind fr to word number sign → RC (sChk rd h x) 0 fa pl ∧ ((0 : Int) = 1 → P x) := by
  intro x g
  rw [sChk, if_pos (nm_0 g hn hq)]
  exact ⟨⟨rfl, by unfold baQ at hb; omega, hp.trans g.1⟩, fun e => absurd e (by decide)⟩
theorem new_B {P : Tk × Int × Int → Prop} (hn : nmQ q kind word) (hq : q = 1) (ht : ¬ FI h 0 (rd 0) word = -1 ∨ ¬ FI h 9 (rd 1) word = -1) (hb : baQ kind 3 fa) (hp : pl = fr) : ∀ x, gT x kind fr to word number sign → RC (sChk rd h x) 0 fa pl ∧ ((0 : Int) = 1 → P x) := by
  intro x g
  obtain ⟨a, b, c⟩ := nm_1 g hn hq
  rw [sChk, if_neg (fun e => e a), b, if_neg (by omega)]
  exact ⟨⟨rfl, by unfold baQ at hb; omega, hp.trans g.1⟩, fun e => absurd e (by decide)⟩
theorem new_D {slot : Int} {h1 : Nat → Int64} (hn : nmQ q kind word) (hq : q = 1) (ht : FI h 0 (rd 0) word = -1 ∧ FI h 9 (rd 1) word = -1) (hh : h1 = vp_updL h (Int32.toNatClampNeg (iI slot)) word) (g1 : gT (tkAt f n L to) k1 f1 t1 w1 u1 s1) : ∀ x, gT x kind fr to word number sign → RC (sChk rd h x) 1 fa pl ∧ ((1 : Int) = 1 → gT (nx f n L x) k1 f1 t1 w1 u1 s1 ∧ h1 = vp_updL h (ix slot) (wdO x.1)) := by
  intro x g
  obtain ⟨a, b, c⟩ := nm_1 g hn hq
  rw [sChk, if_neg (fun e => e a), b, if_pos ht]
  exact ⟨rfl, fun _ => ⟨gT_nx g g1, hh⟩⟩
theorem kd_at {w : Int} (h0 : 7 ≤ w) (h1 : w ≤ 10) : kdW (wrdZ w) = w - 7 := by
  have hh : w = 7 ∨ w = 8 ∨ w = 9 ∨ w = 10 := by omega
  rcases hh with rfl | rfl | rfl | rfl <;> decide +kernel
theorem kd_kO (g : gT x kind fr to word number sign) (hk : kind = 2) : kdO x.1 = kdW word := by
  obtain ⟨y, a, b⟩ := x
  obtain ⟨-, -, g⟩ := g
  rcases y with u | u | ⟨x, w⟩ | v | c
  · exact absurd (hk.symm.trans g) (by decide)
  · exact absurd (hk.symm.trans g) (by decide)
  · rw [g.2.1]; rfl
  · exact absurd (hk.symm.trans g.1) (by decide)
  · exact absurd (hk.symm.trans g.1) (by decide)
theorem kd_n2 (g : gT x kind fr to word number sign) (hk : ¬ kind = 2) : kdO x.1 = -1 := by
  obtain ⟨y, a, b⟩ := x
  obtain ⟨-, -, g⟩ := g
  rcases y with u | u | ⟨x, w⟩ | v | c
  · rfl
  · rfl
  · exact absurd g.1 hk
  · rfl
  · rfl
theorem kind_A {w : Int} {P : Tk × Int × Int → Prop} (hl : ∀ j : Nat, 7 ≤ j → (j : Int) < w → ¬ (kind = 2 ∧ word = wrd j)) (hw : 10 < w) (hb : baQ kind 1 fa) (hp : pl = fr) : ∀ x, gT x kind fr to word number sign → RV (sKd x) 0 fa pl t ∧ ((0 : Int) = 1 → P x) := by
  intro x g
  have e : kdO x.1 = -1 := by
    by_cases hk : kind = 2
    · rw [kd_kO g hk, kdW, if_neg (fun q => hl 7 (by decide) (by omega) ⟨hk, q⟩), if_neg (fun q => hl 8 (by decide) (by omega) ⟨hk, q⟩), if_neg (fun q => hl 9 (by decide) (by omega) ⟨hk, q⟩), if_neg (fun q => hl 10 (by decide) (by omega) ⟨hk, q⟩)]
    · exact kd_n2 g hk
  rw [sKd, if_pos e]
  exact ⟨⟨rfl, by unfold baQ at hb; omega, hp.trans g.1⟩, fun e => absurd e (by decide)⟩
theorem kind_B {w : Int} (hq : wdQ q kind word (wrdZ w)) (h1 : q = 1) (h7 : 7 ≤ w) (h10 : w ≤ 10) (ht : t = w - 7) (g1 : gT (tkAt f n L to) k1 f1 t1 w1 u1 s1) : ∀ x, gT x kind fr to word number sign → RV (sKd x) 1 fa pl t ∧ ((1 : Int) = 1 → gT (nx f n L x) k1 f1 t1 w1 u1 s1) := by
  intro x g
  rcases hq with ⟨-, a, b⟩ | ⟨a, -⟩
  · have e : kdO x.1 = w - 7 := by rw [kd_kO g a, b, kd_at h7 h10]
    rw [sKd, if_neg (by omega), e]
    exact ⟨⟨rfl, ht⟩, fun _ => gT_nx g g1⟩
  · omega
theorem kind_l {w : Int} (hl : ∀ j : Nat, 7 ≤ j → (j : Int) < w → ¬ (kind = 2 ∧ word = wrd j)) (h7 : 7 ≤ w) (hq : wdQ q kind word (wrdZ w)) (h1 : q = 0) : ∀ j : Nat, 7 ≤ j → (j : Int) < w + 1 → ¬ (kind = 2 ∧ word = wrd j) := by
  intro j j7 jw
  by_cases e : (j : Int) < w
  · exact hl j j7 e
  · have ew : w = (j : Int) := by omega
    subst ew
    rcases hq with ⟨a, -⟩ | ⟨-, b⟩
    · omega
    · exact b
theorem nu_n3 {a b : Int} (g : gT x kind fr to word number sign) (hk : ¬ kind = 3) : nuO a b x.1 = -1 := by
  obtain ⟨y, a, b⟩ := x
  obtain ⟨-, -, g⟩ := g
  rcases y with u | u | ⟨x, w⟩ | v | c
  · rfl
  · rfl
  · rfl
  · exact absurd g.1 hk
  · rfl
theorem nu_3 {a b z : Int} (g : gT x kind fr to word number sign) (hk : kind = 3) (hz : iI z = number) (z0 : -2147483648 ≤ z) (z1 : z ≤ 2147483647) : nuO a b x.1 = (if a ≤ z ∧ z ≤ b then z else -2) ∧ 0 ≤ z := by
  obtain ⟨y, c, d⟩ := x
  obtain ⟨-, -, g⟩ := g
  rcases y with u | u | ⟨x, w⟩ | v | c
  · exact absurd (hk.symm.trans g) (by decide)
  · exact absurd (hk.symm.trans g) (by decide)
  · exact absurd (hk.symm.trans g.1) (by decide)
  · obtain ⟨-, g2, g3, g4⟩ := g
    have e := iI_inj z0 z1 (by omega) (by omega) (hz.trans g2)
    subst e
    exact ⟨rfl, g3⟩
  · exact absurd (hk.symm.trans g.1) (by decide)
theorem num_A {a b : Int} {P : Tk × Int × Int → Prop} (hk : ¬ kind = 3) (hb : baQ kind 1 fa) (hp : pl = fr) : ∀ x, gT x kind fr to word number sign → RV (sNu a b x) 0 fa pl t ∧ ((0 : Int) = 1 → P x) := by
  intro x g
  rw [sNu, if_pos (nu_n3 g hk)]
  exact ⟨⟨rfl, by unfold baQ at hb; omega, hp.trans g.1⟩, fun e => absurd e (by decide)⟩
theorem num_B {a b z : Int} {P : Tk × Int × Int → Prop} (hk : kind = 3) (hz : iI z = number) (z0 : -2147483648 ≤ z) (z1 : z ≤ 2147483647) (hr : z < a ∨ b < z) (hb : baQ kind 2 fa) (hp : pl = fr) : ∀ x, gT x kind fr to word number sign → RV (sNu a b x) 0 fa pl t ∧ ((0 : Int) = 1 → P x) := by
  intro x g
  have e := (nu_3 (a := a) (b := b) g hk hz z0 z1).1
  rw [if_neg (by omega)] at e
  rw [sNu, e, if_neg (by decide), if_pos rfl]
  exact ⟨⟨rfl, by unfold baQ at hb; omega, hp.trans g.1⟩, fun e => absurd e (by decide)⟩
theorem num_C {a b z z' : Int} (hk : kind = 3) (hz : iI z = number) (z0 : -2147483648 ≤ z) (z1 : z ≤ 2147483647) (hr : a ≤ z ∧ z ≤ b) (hz' : iI z' = number) (z0' : -2147483648 ≤ z') (z1' : z' ≤ 2147483647) (ht : t = z') (g1 : gT (tkAt f n L to) k1 f1 t1 w1 u1 s1) : ∀ x, gT x kind fr to word number sign → RV (sNu a b x) 1 fa pl t ∧ ((1 : Int) = 1 → gT (nx f n L x) k1 f1 t1 w1 u1 s1) := by
  intro x g
  obtain ⟨e, e0⟩ := nu_3 (a := a) (b := b) g hk hz z0 z1
  have e2 := iI_inj z0 z1 z0' z1' (hz.trans hz'.symm)
  rw [if_pos hr] at e
  rw [sNu, e, if_neg (by omega), if_neg (by omega)]
  exact ⟨⟨rfl, by omega⟩, fun _ => gT_nx g g1⟩
def sgQ (r kind sign c : Int) : Prop := (r = 1 ∧ kind = 4 ∧ sign = c) ∨ (r = 0 ∧ ¬ (kind = 4 ∧ sign = c))
def enP (f : Int → Int) (n L c : Int) (x : Tk × Int × Int) (r fa pl : Int) (G : Tk × Int × Int → Prop) : Prop := (r = 1 ∧ x.1 = tkSign c ∧ G (nx f n L x)) ∨ (r = 0 ∧ ¬ x.1 = tkSign c ∧ fa = 1 ∧ pl = x.2.1)
theorem end_A {c : Int} {G : Tk × Int × Int → Prop} (hq : sgQ q kind sign c) (h0 : q = 0) (hb : baQ kind 1 fa) (hp : pl = fr) : ∀ x, gT x kind fr to word number sign → enP f n L c x 0 fa pl G := by
  intro x g
  refine Or.inr ⟨rfl, fun e => ?_, by unfold baQ at hb; omega, hp.trans g.1⟩
  have := (gT_sg g c).mpr e
  unfold sgQ at hq
  omega
theorem end_B {c : Int} (hq : sgQ q kind sign c) (h0 : q = 1) (g1 : gT (tkAt f n L to) k1 f1 t1 w1 u1 s1) : ∀ x, gT x kind fr to word number sign → enP f n L c x 1 fa pl (fun y => gT y k1 f1 t1 w1 u1 s1) := by
  intro x g
  refine Or.inl ⟨rfl, (gT_sg g c).mp ?_, gT_nx g g1⟩
  unfold sgQ at hq
  omega
def fsP (f : Int → Int) (n L : Int) (rd : Int → Int) (k m : Int) (x : Tk × Int × Int) (r fa pl : Int) (G : Tk × Int × Int → Prop) : Prop := (r = 1 ∧ ¬ rd k = m ∧ G (nx f n L x)) ∨ (r = 0 ∧ rd k = m ∧ pl = x.2.1 ∧ (x.1 = tkBad ∨ fa = 4))
theorem fst_A {k m : Int} {G : Tk × Int × Int → Prop} (hk : rd k = m) (hb : baQ kind 4 fa) (hp : pl = fr) : ∀ x, gT x kind fr to word number sign → fsP f n L rd k m x 0 fa pl G := by
  intro x g
  refine Or.inr ⟨rfl, hk, hp.trans g.1, ?_⟩
  rcases hb with ⟨a, -⟩ | ⟨-, a⟩
  · exact Or.inl ((gT_bad g).mp a)
  · exact Or.inr a
theorem fst_B {k m : Int} (hk : ¬ rd k = m) (g1 : gT (tkAt f n L to) k1 f1 t1 w1 u1 s1) : ∀ x, gT x kind fr to word number sign → fsP f n L rd k m x 1 fa pl (fun y => gT y k1 f1 t1 w1 u1 s1) := fun x g => Or.inl ⟨rfl, hk, gT_nx g g1⟩
theorem fs_1 {k m r : Int} {G : Tk × Int × Int → Prop} (h : fsP f n L rd k m x r fa pl G) (hr : r = 1) : ¬ rd k = m ∧ G (nx f n L x) := by
  rcases h with ⟨-, a⟩ | ⟨a, -⟩
  · exact a
  · omega
theorem fs_0 {k m r : Int} {G : Tk × Int × Int → Prop} (h : fsP f n L rd k m x r fa pl G) (hr : r = 0) (hb : ¬ x.1 = tkBad) : rd k = m ∧ pl = x.2.1 ∧ fa = 4 := by
  rcases h with ⟨a, -⟩ | ⟨-, a, b, c⟩
  · omega
  · exact ⟨a, b, c.resolve_left hb⟩
theorem en_1 {c r : Int} {G : Tk × Int × Int → Prop} (h : enP f n L c x r fa pl G) (hr : r = 1) : x.1 = tkSign c ∧ G (nx f n L x) := by
  rcases h with ⟨-, a⟩ | ⟨a, -⟩
  · exact a
  · omega
theorem en_0 {c r : Int} {G : Tk × Int × Int → Prop} (h : enP f n L c x r fa pl G) (hr : r = 0) : ¬ x.1 = tkSign c ∧ fa = 1 ∧ pl = x.2.1 := by
  rcases h with ⟨a, -⟩ | ⟨-, a⟩
  · omega
  · exact a
theorem wrz {k : Int} {j : Nat} {v : Int64} (h : k = j) (e : v = wrd j) : v = wrdZ k := by subst h; exact e
theorem nm_l {k : Int} {v : Int64} (hl : ∀ j : Nat, (j : Int) < k → word ≠ wrd j) (h0 : 0 ≤ k) (hc : ¬ lg_cmp word v = 0) (hv : v = wrdZ k) : ∀ j : Nat, (j : Int) < k + 1 → word ≠ wrd j := by
  intro j hj
  by_cases e : (j : Int) < k
  · exact hl j e
  · have ek : k = (j : Int) := by omega
    subst ek
    exact fun q => hc ((lg_cmp_eq _ _).mpr (q.trans hv.symm))
theorem nm_h {k : Int} {v : Int64} (h0 : 0 ≤ k) (h1 : k ≤ 26) (hc : lg_cmp word v = 0) (hv : v = wrdZ k) (hl : ∀ j : Nat, j < 27 → word ≠ wrd j) : False := hl k.toNat (by omega) (((lg_cmp_eq _ _).mp hc).trans hv)
def hsQ (r x b : Int) : Prop := (r = 1 ∧ tb x b = 1) ∨ (r = 0 ∧ ¬ tb x b = 1)
theorem hs_1 {x b : Int} (h : ((iI x >>> (iI b &&& 31)) &&& iI 1) = iI 1) : hsQ 1 x b := Or.inl ⟨rfl, by unfold tb; rw [h]; decide +kernel⟩
theorem hs_0 {x b : Int} (h : ¬ ((iI x >>> (iI b &&& 31)) &&& iI 1) = iI 1) : hsQ 0 x b := Or.inr ⟨rfl, fun e => h (by unfold tb at e; rw [← iI_x ((iI x >>> (iI b &&& 31)) &&& iI 1), e])⟩
theorem orb_z {z : Int} {v : Int32} (hz : iI z = v) (z0 : -2147483648 ≤ z) (z1 : z ≤ 2147483647) : z = v.toInt := by rw [← hz, iI_i z0 z1]
theorem one_nm {r : Int} (c : RV (sOne rd h x) r fa pl t) (hr : r = 1) : isNm x.1 := by
  have e := RV_in c hr
  rw [sOne] at e
  by_cases q : isNm x.1
  · exact q
  · rw [if_pos q] at e; cases e
theorem one_k2 {r : Int} (c : RV (sOne rd h x) r fa pl t) (hr : r = 1) (g : gT x kind fr to word number sign) : kind = 2 := ((gT_nm g).mpr (one_nm c hr)).1
theorem wd_1 {k : Nat} (g : gT x kind fr to word number sign) (hq : wdQ q kind word (wrdZ k)) (h1 : q = 1) : isW x.1 k := by
  rcases hq with ⟨-, a, b⟩ | ⟨a, -⟩
  · exact (gT_isW g k).mp ⟨a, b⟩
  · omega
theorem wd_0 {k : Nat} (g : gT x kind fr to word number sign) (hq : wdQ q kind word (wrdZ k)) (h1 : q = 0) : ¬ isW x.1 k := by
  rcases hq with ⟨a, -⟩ | ⟨-, b⟩
  · omega
  · exact fun e => b ((gT_isW g k).mpr e)
theorem wd_nb {y : Tk} {k : Nat} (h : isW y k) : ¬ y = tkBad := by
  intro e
  subst e
  exact absurd h Bool.false_ne_true
end CRr
-- ===== a whole city =====
def rd0P (rd : Int → Int) : Prop := ∀ i : Int, 0 ≤ i → i < 53 → rd i = if i = 3 then 12 else if i = 4 then 1 else if 32 ≤ i ∧ i ≤ 40 then -1 else 0
def o0P (o : Int → Int) : Prop := ∀ i : Int, 0 ≤ i → i < 3 → o i = 0
def ctI (f : Int → Int) (n L : Int) (S : PS) (G : Tk × Int × Int → Prop) (rd : Int → Int) (h : Nat → Int64) (o : Int → Int) (k : Int) : Prop := ∃ x, G x ∧ ctN f n L 1000 S 0 = ctN f n L (1000 - k).toNat ⟨x, rd, h, o⟩ k
section CTs
variable {f : Int → Int} {n L : Int} {S : PS} {G G1 G2 : Tk × Int × Int → Prop} {rd rd1 : Int → Int} {h h1 : Nat → Int64} {o o1 : Int → Int} {k r1 r2 fa pl fa2 pl2 : Int}
theorem ct_0 {x : Tk × Int × Int} (g : G x) : ctI f n L ⟨x, rd, h, o⟩ G rd h o 0 := ⟨x, g, rfl⟩
theorem ct_step (hc : ctI f n L S G rd h o k) (k0 : 0 ≤ k) (k1 : k < 1000) (ns : ∀ x, G x → ¬ x.1 = tkStop) (q1 : ∀ x, G x → RP (sLine f n L x rd h o) r1 fa pl G1 rd1 h1 o1) (hr1 : r1 = 1) (q2 : ∀ x, G1 x → enP f n L 59 x r2 fa2 pl2 G2) (hr2 : r2 = 1) : ctI f n L S G2 rd1 h1 o1 (k + 1) := by
  obtain ⟨x, g, e⟩ := hc
  have c1 := q1 x g
  rcases hm : sLine f n L x rd h o with ⟨a, p⟩ | s1
  · rw [hm] at c1; exact absurd (c1.1.symm.trans hr1) (by decide)
  · rw [hm] at c1
    obtain ⟨-, c2, c3, c4, c5⟩ := c1
    have c6 := en_1 (q2 s1.1 c2) hr2
    refine ⟨nx f n L s1.1, c6.2, ?_⟩
    rw [e, show (1000 - k).toNat = (1000 - (k + 1)).toNat + 1 by omega, ct_go (s := ⟨x, rd, h, o⟩) (ns x g) hm c6.1, c3, c4, c5]
theorem ct_f1 (hc : ctI f n L S G rd h o k) (k0 : 0 ≤ k) (k1 : k < 1000) (ns : ∀ x, G x → ¬ x.1 = tkStop) (q1 : ∀ x, G x → RP (sLine f n L x rd h o) r1 fa pl G1 rd1 h1 o1) (hr1 : r1 = 0) : ctN f n L 1000 S 0 = .inl (fa, pl) := by
  obtain ⟨x, g, e⟩ := hc
  have c1 := q1 x g
  rcases hm : sLine f n L x rd h o with ⟨a, p⟩ | s1
  · rw [hm] at c1
    rw [e, show (1000 - k).toNat = (1000 - (k + 1)).toNat + 1 by omega, ct_bad (s := ⟨x, rd, h, o⟩) (ns x g) hm, c1.2.1, c1.2.2]
  · rw [hm] at c1; exact absurd (c1.1.symm.trans hr1) (by decide)
theorem ct_f2 (hc : ctI f n L S G rd h o k) (k0 : 0 ≤ k) (k1 : k < 1000) (ns : ∀ x, G x → ¬ x.1 = tkStop) (q1 : ∀ x, G x → RP (sLine f n L x rd h o) r1 fa pl G1 rd1 h1 o1) (hr1 : r1 = 1) (q2 : ∀ x, G1 x → enP f n L 59 x r2 fa2 pl2 G2) (hr2 : r2 = 0) : ctN f n L 1000 S 0 = .inl (fa2, pl2) := by
  obtain ⟨x, g, e⟩ := hc
  have c1 := q1 x g
  rcases hm : sLine f n L x rd h o with ⟨a, p⟩ | s1
  · rw [hm] at c1; exact absurd (c1.1.symm.trans hr1) (by decide)
  · rw [hm] at c1
    have c6 := en_0 (q2 s1.1 c1.2.1) hr2
    rw [e, show (1000 - k).toNat = (1000 - (k + 1)).toNat + 1 by omega, ct_end (s := ⟨x, rd, h, o⟩) (ns x g) hm c6.1, c6.2.1, c6.2.2]
theorem ct_fin (hc : ctI f n L S G rd h o k) (k0 : 0 ≤ k) (k1 : k < 1000) (st : ∀ x, G x → x.1 = tkStop) : ∃ x, ctN f n L 1000 S 0 = .inr (⟨x, rd, h, o⟩, k) := by
  obtain ⟨x, g, e⟩ := hc
  exact ⟨x, by rw [e, show (1000 - k).toNat = (1000 - (k + 1)).toNat + 1 by omega, ct_stop (s := ⟨x, rd, h, o⟩) (st x g)]⟩
end CTs
/-- what city() answers, and what the heads of the reference's row are then -/
def CPm : CR → Int → Int → (Int → Int) → (Int → Int) → Prop
  | .inl (k, p), r, fa, nw, nw' => r = -1 - p ∧ fa = k ∧ nw' = nw
  | .inr (s, k), r, _, _, nw' => r = k ∧ ∀ i : Int, 0 ≤ i → i < 53 → nw' i = s.2.1 i
