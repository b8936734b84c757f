-- ===== the token at hand, as the class holds it =====
def CT (T : Nat → ClassId) : Tk → Int → Int64 → Int32 → Int → Option Nat → Prop
  | .inl _, t, _, _, _, o => t = 0 ∧ o = none
  | .inr (.inl _), t, _, _, _, o => t = 1 ∧ o = none
  | .inr (.inr (.inl (x, w))), t, nm, _, _, o => nm = x ∧ nmR x w ∧ ((t = 2 ∧ ∃ k : Nat, k < 27 ∧ o = some (T (10 + k)) ∧ x = wltF k) ∨ (t = 3 ∧ o = none ∧ ∀ k : Nat, k < 27 → x ≠ wltF k))
  | .inr (.inr (.inr (.inl v))), t, _, nu, _, o => t = 4 ∧ nu = iI v ∧ 0 ≤ v ∧ v ≤ 999 ∧ o = none
  | .inr (.inr (.inr (.inr c))), t, _, _, mq, o => t = 5 ∧ mq = c ∧ o = none
def gC (T : Nat → ClassId) (x : Tk × Int × Int) (token place next : Int) (name : Int64) (number : Int32) (mark : Int) (word : Option Nat) : Prop := place = x.2.1 ∧ next = x.2.2 ∧ CT T x.1 token name number mark word
theorem lgr_x {y : Int64} {c : Int} (h0 : 97 ≤ c) (h1 : c ≤ 122) : ((y <<< ((Int32.toInt64 (iI 5)) &&& 63)) ||| (Int32.toInt64 (iI ((c - 97) + 1)))) = y * 32 + lI (c - 96) := by
  rw [show ((Int32.toInt64 (iI 5)) &&& 63) = (5 : Int64) by decide +kernel, iI_l (by omega) (by omega), show c - 97 + 1 = c - 96 by omega]
  apply Int64.toInt_inj.mp
  show ((y <<< (5 : Int64)) ||| lI (c - 96)).toBitVec.toInt = (y * 32 + lI (c - 96)).toBitVec.toInt
  have e : ((y <<< (5 : Int64)) ||| lI (c - 96)).toBitVec = (y * 32 + lI (c - 96)).toBitVec := by
    rw [Int64.toBitVec_or, Int64.toBitVec_add, Int64.toBitVec_mul, Int64.toBitVec_shiftLeft]
    have e5 : ((5 : Int64).toBitVec.smod 64) = 5#64 := by decide +kernel
    rw [e5]
    show (y.toBitVec <<< 5) ||| (lI (c - 96)).toBitVec = y.toBitVec * 32#64 + (lI (c - 96)).toBitVec
    apply sh_or
    show (BitVec.ofInt 64 (c - 96)).toNat < 32
    rw [BitVec.toNat_ofInt]
    omega
  rw [e]
def spR (T : Nat → ClassId) (y : Int64) (v : Option Nat) : Prop := (v = none ∧ ∀ k : Nat, k < 27 → wltF k ≠ y) ∨ ∃ k : Nat, k < 27 ∧ v = some (T (10 + k)) ∧ wltF k = y
theorem sp_l {y : Int64} {i : Int} (hl : ∀ j : Nat, (j : Int) < i → wltF j ≠ y) (h0 : 0 ≤ i) (hc : ¬ lg_cmp (wltF (Int.toNat i)) y = 0) : ∀ j : Nat, (j : Int) < i + 1 → wltF j ≠ y := by
  intro j hj
  by_cases e : (j : Int) < i
  · exact hl j e
  · have ej : j = Int.toNat i := by omega
    subst ej
    exact fun q => hc ((lg_cmp_eq _ _).mpr q)
/-- letters and digits of a run so far, as the class counts them -/
def clI (f : Int → Int) (a e l d : Int) (nm : Int64) (nu : Int32) : Prop := aR f a e ∧ (d = 0 → aL f a e ∧ nm = lI (w32 f a (e - a).toNat)) ∧ (l = 0 → aD f a e ∧ nu = iI (nb10 f a (e - a).toNat)) ∧ (0 < d → ¬ aL f a e) ∧ (0 < l → ¬ aD f a e)
theorem cl_0 {f : Int → Int} {a : Int} {nm : Int64} {nu : Int32} (hn : nm = 0) (hu : nu = iI 0) : clI f a a 0 0 nm nu := by
  subst hn; subst hu
  refine ⟨aR_0, fun _ => ⟨fun i h0 h1 => absurd h1 (by omega), ?_⟩, fun _ => ⟨fun i h0 h1 => absurd h1 (by omega), ?_⟩, fun h => absurd h (by decide), fun h => absurd h (by decide)⟩
  · rw [show (a - a).toNat = 0 by omega]; exact lc0
  · rw [show (a - a).toNat = 0 by omega]; rfl
theorem cl_l {f : Int → Int} {a e l d : Int} {nm nm' : Int64} {nu : Int32} (h : clI f a e l d nm nu) (h0 : a ≤ e) (l0 : 0 ≤ l) (d0 : 0 ≤ d) (he : 97 ≤ f e ∧ f e ≤ 122) (hn : nm' = nm * 32 + lI (f e - 96)) : clI f a (e + 1) (l + 1) d nm' nu := by
  obtain ⟨h1, h2, h3, h4, h5⟩ := h
  refine ⟨aR_s h1 (Or.inl he), fun hd => ⟨fun i i0 i1 => ?_, ?_⟩, fun hl => absurd hl (by omega), fun hd q => h4 hd (fun i i0 i1 => q i i0 (by omega)), fun _ q => ?_⟩
  · by_cases c : i < e
    · exact (h2 hd).1 i i0 c
    · rw [show i = e by omega]; exact he
  · rw [hn, (h2 hd).2, show (32 : Int64) = lI 32 by decide +kernel, lI_mul, lI_add, show (e + 1 - a).toNat = (e - a).toNat + 1 by omega, w32, show a + ((e - a).toNat : Int) = e by omega, Int.mul_comm]
  · have := q e h0 (by omega)
    omega
theorem cl_d {f : Int → Int} {a e l d : Int} {nm : Int64} {nu nu' : Int32} (h : clI f a e l d nm nu) (h0 : a ≤ e) (l0 : 0 ≤ l) (d0 : 0 ≤ d) (he : 48 ≤ f e ∧ f e ≤ 57) (hn : nu' = nu * iI 10 + iI (f e) - iI 48) : clI f a (e + 1) l (d + 1) nm nu' := by
  obtain ⟨h1, h2, h3, h4, h5⟩ := h
  refine ⟨aR_s h1 (Or.inr he), fun hd => absurd hd (by omega), fun hl => ⟨fun i i0 i1 => ?_, ?_⟩, fun _ q => ?_, fun hl q => h5 hl (fun i i0 i1 => q i i0 (by omega))⟩
  · by_cases c : i < e
    · exact (h3 hl).1 i i0 c
    · rw [show i = e by omega]; exact he
  · rw [hn, (h3 hl).2, in_step2, show (e + 1 - a).toNat = (e - a).toNat + 1 by omega, nb10, show a + ((e - a).toNat : Int) = e by omega]
  · have := q e h0 (by omega)
    omega
def cR (T : Nat → ClassId) (f : Int → Int) (n a token next : Int) (name : Int64) (number : Int32) (word : Option Nat) : Prop := next = rn f n a ∧ ∀ mq, CT T (runTk f a next) token name number mq word
theorem rr_w {T : Nat → ClassId} {f : Int → Int} {n a e l d t : Int} {nm : Int64} {nu : Int32} {v : Option Nat} (hc : clI f a e l d nm nu) (hd : d = 0) (hl : l ≤ 7) (hs : l + d = e - a) (h0 : a ≤ e) (he : rn f n a = e) (hp : spR T nm v) (ht : (v = none ∧ t = 3) ∨ (¬ v = none ∧ t = 2)) : cR T f n a t e nm nu v := by
  refine ⟨he.symm, fun mq => ?_⟩
  have h2 := hc.2.1 hd
  rw [run_w h2.1 h0 (by omega)]
  refine ⟨h2.2, run_nm h2.1 h0 (by omega), ?_⟩
  rcases hp with ⟨p1, p2⟩ | ⟨k, p1, p2, p3⟩
  · rcases ht with ⟨-, q⟩ | ⟨q, -⟩
    · exact Or.inr ⟨q, p1, fun k hk e => p2 k hk (h2.2.trans e).symm⟩
    · exact absurd p1 q
  · rcases ht with ⟨q, -⟩ | ⟨-, q⟩
    · rw [p2] at q; cases q
    · exact Or.inl ⟨q, k, p1, p2, (h2.2.symm.trans p3.symm)⟩
theorem rr_n {T : Nat → ClassId} {f : Int → Int} {n a e l d : Int} {nm : Int64} {nu : Int32} (hc : clI f a e l d nm nu) (hl : l = 0) (hd : d ≤ 3) (hd0 : 0 < d) (hs : l + d = e - a) (he : rn f n a = e) : cR T f n a 4 e nm nu none := by
  refine ⟨he.symm, fun mq => ?_⟩
  have h3 := hc.2.2.1 hl
  rw [run_n h3.1 (by omega) (by omega)]
  have hb := nb_3 h3.1 (by omega) (by omega)
  exact ⟨rfl, h3.2, hb.1, hb.2, rfl⟩
theorem rr_b {T : Nat → ClassId} {f : Int → Int} {n a e l d : Int} {nm : Int64} {nu : Int32} (hc : clI f a e l d nm nu) (hl : 0 < d ∨ 7 < l) (hd : 0 < l ∨ 3 < d) (hs : l + d = e - a) (l0 : 0 ≤ l) (d0 : 0 ≤ d) (he : rn f n a = e) : cR T f n a 1 e nm nu none := by
  refine ⟨he.symm, fun mq => ?_⟩
  rw [run_b (by omega) (fun q => ?_) (fun q => ?_)]
  · exact ⟨rfl, rfl⟩
  · rcases hl with hl | hl
    · exact hc.2.2.2.1 hl q.1
    · omega
  · rcases hd with hd | hd
    · exact hc.2.2.2.2 hd q.1
    · omega
def ioQ (r c : Int) : Prop := (0 ≤ r ∧ mkS c) ∨ (r < 0 ∧ ¬ mkS c)
theorem io_1 {r c : Int} (h : ioQ r c) (hr : 0 ≤ r) : mkS c := by
  rcases h with ⟨-, h⟩ | ⟨h, -⟩
  · exact h
  · omega
theorem io_0 {r c : Int} (h : ioQ r c) (hr : r < 0) : ¬ mkS c := by
  rcases h with ⟨h, -⟩ | ⟨-, h⟩
  · omega
  · exact h
-- ===== what the class's readers answer =====
def XV : PV → Int → Int → Int → Prop
  | .inl (k, p), r, fk, fp => r = -1 ∧ fk = k ∧ fp = p
  | .inr v, r, _, _ => r = v ∧ 0 ≤ v
def XP : PR → Int → Int → Int → (Tk × Int × Int → Prop) → ((Int → Int) → (Nat → Int64) → (Int → Int) → Prop) → Prop
  | .inl (k, p), r, fk, fp, _, _ => r = 0 ∧ fk = k ∧ fp = p
  | .inr s, r, _, _, G, V => r = 1 ∧ G s.1 ∧ V s.2.1 s.2.2.1 s.2.2.2
section XPs
variable {m : PV} {g : Int → PR} {r fk fp R fk' fp' : Int} {G : Tk × Int × Int → Prop} {V : (Int → Int) → (Nat → Int64) → (Int → Int) → Prop}
theorem bxV_ok (c : XV m r fk fp) (hr : ¬ r = -1) (hg : XP (g r) R fk' fp' G V) : XP (bnd m g) R fk' fp' G V := by
  rcases m with ⟨k, p⟩ | v
  · exact absurd c.1 hr
  · obtain ⟨rfl, -⟩ := c; exact hg
theorem bxV_bad (c : XV m r fk fp) (hr : r = -1) (hR : R = 0) : XP (bnd m g) R fk fp G V := by
  rcases m with ⟨k, p⟩ | v
  · exact ⟨hR, c.2⟩
  · have := c.1; have := c.2; omega
theorem bxC_ok (c : RC m r fk fp) (hr : r = 1) (hg : ∀ v, XP (g v) R fk' fp' G V) : XP (bnd m g) R fk' fp' G V := by
  rcases m with ⟨k, p⟩ | v
  · exact absurd (c.1.symm.trans hr) (by decide)
  · exact hg v
theorem bxC_bad (c : RC m r fk fp) (hr : r = 0) (hR : R = 0) : XP (bnd m g) R fk fp G V := by
  rcases m with ⟨k, p⟩ | v
  · exact ⟨hR, c.2⟩
  · exact absurd (hr.symm.trans c) (by decide)
theorem XV_nn (c : XV m r fk fp) (hr : ¬ r = -1) : m = .inr r ∧ 0 ≤ r := by
  rcases m with ⟨k, p⟩ | v
  · exact absurd c.1 hr
  · obtain ⟨rfl, h⟩ := c; exact ⟨rfl, h⟩
end XPs
section CXs
variable {T : Nat → ClassId} {f : Int → Int} {n L : Int} {x : Tk × Int × Int} {tok pl nxt mq : Int} {nm : Int64} {nu : Int32} {wo : Option Nat} {k1 p1 t1 m1 : Int} {n1 : Int64} {u1 : Int32} {o1 : Option Nat} {r fk fp q : Int} {rd : Int → Int} {h : Nat → Int64} {o : Int → Int}
theorem gC_nx (g : gC T x tok pl nxt nm nu mq wo) (g1 : gC T (tkAt f n L nxt) k1 p1 t1 n1 u1 m1 o1) : gC T (nx f n L x) k1 p1 t1 n1 u1 m1 o1 := by
  unfold nx
  rw [← g.2.1]
  exact g1
theorem gC_nm (g : gC T x tok pl nxt nm nu mq wo) : tok = 3 ↔ isNm x.1 := by
  obtain ⟨y, a, b⟩ := x
  obtain ⟨-, -, g⟩ := g
  rcases y with u | u | ⟨x, w⟩ | v | c
  · exact ⟨fun e => by have := g.1; omega, fun e => absurd e Bool.false_ne_true⟩
  · exact ⟨fun e => by have := g.1; omega, fun e => absurd e Bool.false_ne_true⟩
  · obtain ⟨-, g2, g3⟩ := g
    rcases g3 with ⟨a1, k, a2, -, a4⟩ | ⟨a1, -, a3⟩
    · refine ⟨fun e => by omega, fun e => absurd ((nmR_iff g2 (kw_nm k a2)).mp a4) (isNm_w.mp e k a2)⟩
    · exact ⟨fun _ => isNm_w.mpr (fun k hk e => a3 k hk ((nmR_iff g2 (kw_nm k hk)).mpr e)), fun _ => a1⟩
  · exact ⟨fun e => by have := g.1; omega, fun e => absurd e Bool.false_ne_true⟩
  · exact ⟨fun e => by have := g.1; omega, fun e => absurd e Bool.false_ne_true⟩
theorem gC_nr (g : gC T x tok pl nxt nm nu mq wo) (hn : isNm x.1) : nmR nm (wdO x.1) ∧ xdO x.1 = nm := by
  obtain ⟨y, a, b⟩ := x
  obtain ⟨-, -, g⟩ := g
  rcases y with u | u | ⟨x, w⟩ | v | c
  · exact absurd hn Bool.false_ne_true
  · exact absurd hn Bool.false_ne_true
  · obtain ⟨rfl, g2, -⟩ := g; exact ⟨g2, rfl⟩
  · exact absurd hn Bool.false_ne_true
  · exact absurd hn Bool.false_ne_true
theorem gC_end (g : gC T x tok pl nxt nm nu mq wo) : tok = 0 ↔ x.1 = tkStop := by
  obtain ⟨y, a, b⟩ := x
  obtain ⟨-, -, g⟩ := g
  rcases y with u | u | ⟨x, w⟩ | v | c
  · exact ⟨fun _ => rfl, fun _ => g.1⟩
  · exact ⟨fun e => by have := g.1; omega, fun e => by cases e⟩
  · exact ⟨fun e => by rcases g.2.2 with ⟨a, -⟩ | ⟨a, -⟩ <;> omega, fun e => by cases e⟩
  · exact ⟨fun e => by have := g.1; omega, fun e => by cases e⟩
  · exact ⟨fun e => by have := g.1; omega, fun e => by cases e⟩
theorem gC_sg (g : gC T x tok pl nxt nm nu mq wo) (c : Int) : (tok = 5 ∧ mq = c) ↔ x.1 = tkSign c := by
  obtain ⟨y, a, b⟩ := x
  obtain ⟨-, -, g⟩ := g
  rcases y with u | u | ⟨x, w⟩ | v | d
  · exact ⟨fun e => by have := g.1; omega, fun e => by cases e⟩
  · exact ⟨fun e => by have := g.1; omega, fun e => by cases e⟩
  · exact ⟨fun e => by rcases g.2.2 with ⟨a, -⟩ | ⟨a, -⟩ <;> omega, fun e => by cases e⟩
  · exact ⟨fun e => by have := g.1; omega, fun e => by cases e⟩
  · obtain ⟨rfl, rfl, -⟩ := g; exact ⟨fun e => by rw [e.2], fun e => ⟨rfl, by cases e; rfl⟩⟩
theorem cnu_n {a b : Int} (g : gC T x tok pl nxt nm nu mq wo) (hk : ¬ tok = 4) : nuO a b x.1 = -1 := by
  obtain ⟨y, c, d⟩ := x
  obtain ⟨-, -, g⟩ := g
  rcases y with u | u | ⟨x, w⟩ | v | c
  · rfl
  · rfl
  · rfl
  · exact absurd g.1 hk
  · rfl
theorem cnu_4 {a b z : Int} (g : gC T x tok pl nxt nm nu mq wo) (hk : tok = 4) (hz : iI z = nu) (z0 : -2147483648 ≤ z) (z1 : z ≤ 2147483647) : nuO a b x.1 = (if a ≤ z ∧ z ≤ b then z else -2) ∧ 0 ≤ z := by
  obtain ⟨y, c, d⟩ := x
  obtain ⟨-, -, g⟩ := g
  rcases y with u | u | ⟨x, w⟩ | v | c
  · have := g.1; omega
  · have := g.1; omega
  · rcases g.2.2 with ⟨a, -⟩ | ⟨a, -⟩ <;> omega
  · obtain ⟨-, g2, g3, g4, -⟩ := g
    have e := iI_inj z0 z1 (by omega) (by omega) (hz.trans g2)
    subst e
    exact ⟨rfl, g3⟩
  · have := g.1; omega
theorem cnum_A {a b : Int} (hk : ¬ tok = 4) (hf : fk = 1) (hp : fp = pl) : ∀ x, gC T x tok pl nxt nm nu mq wo → XV (sNu a b x) (-1) fk fp := by
  intro x g
  rw [sNu, if_pos (cnu_n g hk)]
  exact ⟨rfl, hf, hp.trans g.1⟩
theorem cnum_B {a b z : Int} (hk : tok = 4) (hz : iI z = nu) (z0 : -2147483648 ≤ z) (z1 : z ≤ 2147483647) (hr : z < a ∨ b < z) (hf : fk = 2) (hp : fp = pl) : ∀ x, gC T x tok pl nxt nm nu mq wo → XV (sNu a b x) (-1) fk fp := by
  intro x g
  have e := (cnu_4 (a := a) (b := b) g hk hz z0 z1).1
  rw [if_neg (by omega)] at e
  rw [sNu, e, if_neg (by decide), if_pos rfl]
  exact ⟨rfl, hf, hp.trans g.1⟩
theorem cnum_C {a b z : Int} (hk : tok = 4) (hz : iI z = nu) (z0 : -2147483648 ≤ z) (z1 : z ≤ 2147483647) (hr : a ≤ z ∧ z ≤ b) : ∀ x, gC T x tok pl nxt nm nu mq wo → XV (sNu a b x) z fk fp := by
  intro x g
  obtain ⟨e, e0⟩ := cnu_4 (a := a) (b := b) g hk hz z0 z1
  rw [if_pos hr] at e
  rw [sNu, e, if_neg (by omega), if_neg (by omega)]
  exact ⟨rfl, e0⟩
theorem ckd_n (g : gC T x tok pl nxt nm nu mq none) : kdO x.1 = -1 := by
  obtain ⟨y, c, d⟩ := x
  obtain ⟨-, -, g⟩ := g
  rcases y with u | u | ⟨x, w⟩ | v | c
  · rfl
  · rfl
  · obtain ⟨-, g2, g3⟩ := g
    rcases g3 with ⟨-, k, -, a, -⟩ | ⟨-, -, a3⟩
    · cases a
    · exact kd_no (fun k hk e => a3 k hk ((nmR_iff g2 (kw_nm k hk)).mpr e))
  · rfl
  · rfl
theorem ckd_k {p k : Nat} (hw : ∀ i j : Nat, i < 27 → j < 27 → T (10 + i) = T (10 + j) → i = j) (g : gC T x tok pl nxt nm nu mq (some p)) (hk : k < 27) (hp : p = T (10 + k)) : kdO x.1 = wkdF k := by
  obtain ⟨y, c, d⟩ := x
  obtain ⟨-, -, g⟩ := g
  rcases y with u | u | ⟨x, w⟩ | v | c
  · cases g.2
  · cases g.2
  · obtain ⟨-, g2, g3⟩ := g
    rcases g3 with ⟨-, j, j1, j2, j3⟩ | ⟨-, a, -⟩
    · have e : j = k := hw j k j1 hk ((Option.some.inj j2).symm.trans hp)
      subst e
      show kdW w = wkdF j
      rw [(nmR_iff g2 (kw_nm j j1)).mp j3]
      exact kd_k j j1
    · cases a
  · cases g.2.2.2.2
  · cases g.2.2
theorem ckind_A (hf : fk = 1) (hp : fp = pl) (hk : ∀ x, gC T x tok pl nxt nm nu mq wo → kdO x.1 = -1) : ∀ x, gC T x tok pl nxt nm nu mq wo → XV (sKd x) (-1) fk fp := by
  intro x g
  rw [sKd, if_pos (hk x g)]
  exact ⟨rfl, hf, hp.trans g.1⟩
theorem ckind_B {v : Int} (hv : ¬ v = -1) (v0 : -1 ≤ v) (hk : ∀ x, gC T x tok pl nxt nm nu mq wo → kdO x.1 = v) : ∀ x, gC T x tok pl nxt nm nu mq wo → XV (sKd x) v fk fp := by
  intro x g
  rw [sKd, if_neg (fun e => hv ((hk x g).symm.trans e)), hk x g]
  exact ⟨rfl, by omega⟩
def amQ (r tok mq c : Int) : Prop := (r = 1 ∧ tok = 5 ∧ mq = c) ∨ (r = 0 ∧ ¬ (tok = 5 ∧ mq = c))
theorem pas_A {c : Int} {G : Tk × Int × Int → Prop} (hq : amQ q tok mq c) (hm : q = 0) (hf : fk = 1) (hp : fp = pl) : ∀ x, gC T x tok pl nxt nm nu mq wo → enP f n L c x 0 fk fp G := by
  intro x g
  refine Or.inr ⟨rfl, fun e => ?_, hf, hp.trans g.1⟩
  have := (gC_sg g c).mpr e
  unfold amQ at hq
  omega
theorem pas_B {c : Int} (hq : amQ q tok mq c) (hm : q = 1) (g1 : gC T (tkAt f n L nxt) k1 p1 t1 n1 u1 m1 o1) : ∀ x, gC T x tok pl nxt nm nu mq wo → enP f n L c x 1 fk fp (fun y => gC T y k1 p1 t1 n1 u1 m1 o1) := by
  intro x g
  refine Or.inl ⟨rfl, (gC_sg g c).mp ?_, gC_nx g g1⟩
  unfold amQ at hq
  omega
-- ===== names in rows =====
theorem fi_al {h h' : Nat → Int64} {b b' : Int} {w w' : Int64} : ∀ (j : Nat) (k m : Int), (∀ p : Int, k ≤ p → p < k + j → (h (ix (b + p)) = w ↔ h' (ix (b' + p)) = w')) → fiN h b w j k = fiN h' b' w' j k := by
  intro j
  induction j with
  | zero => intro k m _; rfl
  | succ j ih =>
    intro k m hp
    rw [fiN, fiN]
    have e := hp k (by omega) (by omega)
    by_cases q : h (ix (b + k)) = w
    · have q1 := q
      have q2 := e.mp q
      unfold ix at q1 q2
      rw [if_pos q1, if_pos q2]
    · have q1 := q
      have q2 : ¬ h' (ix (b' + k)) = w' := fun z => q (e.mpr z)
      unfold ix at q1 q2
      rw [if_neg q1, if_neg q2]
      exact ih (k + 1) m (fun p p0 p1 => hp p (by omega) (by omega))
theorem FI_al {h h' : Nat → Int64} {b b' m : Int} {w w' : Int64} (hp : ∀ p : Int, 0 ≤ p → p < m → (h (ix (b + p)) = w ↔ h' (ix (b' + p)) = w')) : FI h b m w = FI h' b' m w' := fi_al _ _ m (fun p p0 p1 => hp p p0 (by omega))
theorem fi_hit0 {h : Nat → Int64} {m k : Int} {w : Int64} (hl : FI h 0 m w = fiN h 0 w (m - k).toNat k) (hk : k < m) (he : lg_cmp (h (Int32.toNatClampNeg (iI k))) w = 0) : k = FI h 0 m w := fi_hit hl hk (by rw [Int.zero_add]; exact he)
theorem fi_no0 {h : Nat → Int64} {m k : Int} {w : Int64} (hl : FI h 0 m w = fiN h 0 w (m - k).toNat k) (hk : k < m) (he : ¬ lg_cmp (h (Int32.toNatClampNeg (iI k))) w = 0) : FI h 0 m w = fiN h 0 w (m - (k + 1)).toNat (k + 1) := fi_no hl hk (by rw [Int.zero_add]; exact he)
-- ===== what the class's town is of what was read =====
def XW (rd : Int → Int) (h : Nat → Int64) (o : Int → Int) (nms : Nat → Int64) (lo bu sg st : Int → Int) (inn frm : Int → Int) (mns : Nat → Int64) (hk : Int → Int) (P M sp ye ju so yo jo : Int) : Prop :=
  (rd 0 = P ∧ rd 1 = M ∧ rd 2 = sp ∧ rd 3 = ye ∧ rd 4 = ju ∧ o 0 = so ∧ o 1 = yo ∧ o 2 = jo ∧ 0 ≤ P ∧ P ≤ 9 ∧ 0 ≤ M ∧ M ≤ 3) ∧
  (∀ p : Int, 0 ≤ p → p < P → nmR (nms (ix p)) (h (ix p)) ∧ lo p = rd (5 + p) ∧ bu p = rd (14 + p) ∧ sg p = rd (23 + p)) ∧
  (∀ p : Int, 0 ≤ p → p < M → nmR (mns (ix p)) (h (ix (9 + p))) ∧ hk p = rd (41 + p)) ∧
  (∀ p : Int, 0 ≤ p → p < 9 → st p = rd (44 + p) ∧ inn p = rd (32 + p)) ∧
  (∀ p q : Int, 0 ≤ p → p < 9 → 0 ≤ q → q < 9 → (inn p = q ↔ frm q = p)) ∧
  (∀ p : Int, P ≤ p → p < 9 → inn p = -1)
theorem upz_o {f : Int → Int} {k x j : Int} (h : ¬ j = k) : upz f k x j = f j := if_neg h
theorem ix_e {z : Int} (h0 : 0 ≤ z) (h1 : z ≤ 2147483647) : ix z = z.toNat := iI_cl h0 h1
theorem upL_s {h : Nat → Int64} {k : Nat} {w : Int64} : vp_updL h k w k = w := if_pos rfl
theorem upL_o {h : Nat → Int64} {k j : Nat} {w : Int64} (e : ¬ j = k) : vp_updL h k w j = h j := if_neg e
variable {nms mns : Nat → Int64} {lo bu sg st inn frm hk : Int → Int} {P M sp ye ju so yo jo : Int} {w : Int64}
theorem xw_fp (hw : XW rd h o nms lo bu sg st inn frm mns hk P M sp ye ju so yo jo) (hn : nmR nm w) : FI nms 0 P nm = FI h 0 (rd 0) w := by
  rw [hw.1.1]
  refine FI_al (fun p p0 p1 => ?_)
  rw [Int.zero_add]
  exact nmR_iff (hw.2.1 p p0 p1).1 hn
theorem xw_fm (hw : XW rd h o nms lo bu sg st inn frm mns hk P M sp ye ju so yo jo) (hn : nmR nm w) : FI mns 0 M nm = FI h 9 (rd 1) w := by
  rw [hw.1.2.1]
  refine FI_al (fun p p0 p1 => ?_)
  rw [Int.zero_add]
  exact nmR_iff (hw.2.2.1 p p0 p1).1 hn
theorem cnew_A (hk3 : ¬ tok = 3) (hf : fk = 1) (hp : fp = pl) : ∀ (x : Tk × Int × Int) (rd : Int → Int) (h : Nat → Int64) (o : Int → Int), gC T x tok pl nxt nm nu mq wo → XW rd h o nms lo bu sg st inn frm mns hk P M sp ye ju so yo jo → RC (sChk rd h x) 0 fk fp := by
  intro x rd h o g hw
  rw [sChk, if_pos (fun e => hk3 ((gC_nm g).mpr e))]
  exact ⟨rfl, hf, hp.trans g.1⟩
theorem cnew_B (hk3 : tok = 3) (hq : ¬ FI nms 0 P nm = -1 ∨ ¬ FI mns 0 M nm = -1) (hf : fk = 3) (hp : fp = pl) : ∀ (x : Tk × Int × Int) (rd : Int → Int) (h : Nat → Int64) (o : Int → Int), gC T x tok pl nxt nm nu mq wo → XW rd h o nms lo bu sg st inn frm mns hk P M sp ye ju so yo jo → RC (sChk rd h x) 0 fk fp := by
  intro x rd h o g hw
  have hn := (gC_nm g).mp hk3
  have hr := (gC_nr g hn).1
  rw [xw_fp hw hr, xw_fm hw hr] at hq
  rw [sChk, if_neg (fun e => e hn), if_neg (by omega)]
  exact ⟨rfl, hf, hp.trans g.1⟩
theorem cnew_D (hk3 : tok = 3) (hq : FI nms 0 P nm = -1 ∧ FI mns 0 M nm = -1) : ∀ (x : Tk × Int × Int) (rd : Int → Int) (h : Nat → Int64) (o : Int → Int), gC T x tok pl nxt nm nu mq wo → XW rd h o nms lo bu sg st inn frm mns hk P M sp ye ju so yo jo → RC (sChk rd h x) 1 fk fp := by
  intro x rd h o g hw
  have hn := (gC_nm g).mp hk3
  have hr := (gC_nr g hn).1
  rw [xw_fp hw hr, xw_fm hw hr] at hq
  rw [sChk, if_neg (fun e => e hn), if_pos hq]
  exact rfl
theorem chk_nm (c : RC (sChk rd h x) r fk fp) (hr : r = 1) : isNm x.1 := by
  by_cases q : isNm x.1
  · exact q
  · rw [sChk, if_pos q] at c; exact absurd (c.1.symm.trans hr) (by decide)
def sNa (h : Nat → Int64) (m : Int) (x : Tk × Int × Int) : PV := if ¬ isNm x.1 then .inl (1, x.2.1) else if FI h 0 m (xdO x.1) = -1 then .inl (3, x.2.1) else .inr (FI h 0 m (xdO x.1))
theorem cna_A {m : Int} (hk3 : ¬ tok = 3) (hf : fk = 1) (hp : fp = pl) : ∀ x, gC T x tok pl nxt nm nu mq wo → XV (sNa h m x) (-1) fk fp := by
  intro x g
  rw [sNa, if_pos (fun e => hk3 ((gC_nm g).mpr e))]
  exact ⟨rfl, hf, hp.trans g.1⟩
theorem cna_B {m : Int} (hk3 : tok = 3) (hq : r = FI h 0 m nm) (hr : r = -1) (hf : fk = 3) (hp : fp = pl) : ∀ x, gC T x tok pl nxt nm nu mq wo → XV (sNa h m x) r fk fp := by
  intro x g
  have hn := (gC_nm g).mp hk3
  rw [sNa, if_neg (fun e => e hn), (gC_nr g hn).2, if_pos (hq.symm.trans hr)]
  exact ⟨hr, hf, hp.trans g.1⟩
theorem cna_C {m : Int} (hk3 : tok = 3) (hq : r = FI h 0 m nm) (hr : ¬ r = -1) (r0 : -1 ≤ r) : ∀ x, gC T x tok pl nxt nm nu mq wo → XV (sNa h m x) r fk fp := by
  intro x g
  have hn := (gC_nm g).mp hk3
  rw [sNa, if_neg (fun e => e hn), (gC_nr g hn).2, if_neg (fun e => hr (hq.trans e)), ← hq]
  exact ⟨rfl, by omega⟩
theorem xw_one (hw : XW rd h o nms lo bu sg st inn frm mns hk P M sp ye ju so yo jo) (g : gC T x tok pl nxt nm nu mq wo) (c : XV (sNa nms P x) r fk fp) : XV (sOne rd h x) r fk fp := by
  by_cases q : isNm x.1
  · have hr := gC_nr g q
    rw [sNa, if_neg (fun e => e q), hr.2, xw_fp hw hr.1] at c
    rw [sOne, if_neg (fun e => e q)]
    exact c
  · rw [sNa, if_pos q] at c
    rw [sOne, if_pos q]
    exact c
theorem xw_person {a b c : Int} (hw : XW rd h o nms lo bu sg st inn frm mns hk P M sp ye ju so yo jo) (hn : nmR nm w) (hP : P < 9) : XW (upz (upz (upz (upz rd (5 + rd 0) a) (14 + rd 0) b) (23 + rd 0) c) 0 (rd 0 + 1)) (vp_updL h (ix (rd 0)) w) o (vp_updL nms (ix P) nm) (upz lo P a) (upz bu P b) (upz sg P c) st inn frm mns hk (P + 1) M sp ye ju so yo jo := by
  obtain ⟨⟨e0, e1, e2, e3, e4, e5, e6, e7, b0, b1, b2, b3⟩, h1, h2, h3, h4, h5⟩ := hw
  rw [e0]
  have hr : ∀ j : Int, ¬ j = 0 → ¬ j = 5 + P → ¬ j = 14 + P → ¬ j = 23 + P → upz (upz (upz (upz rd (5 + P) a) (14 + P) b) (23 + P) c) 0 (P + 1) j = rd j := fun j j0 j1 j2 j3 => by rw [upz_o j0, upz_o j3, upz_o j2, upz_o j1]
  refine ⟨⟨upz_s _ _ _, ?_, ?_, ?_, ?_, e5, e6, e7, by omega, by omega, b2, b3⟩, fun p p0 p1 => ?_, fun p p0 p1 => ?_, fun p p0 p1 => ?_, h4, fun p p0 p1 => h5 p (by omega) p1⟩
  · rw [hr 1 (by omega) (by omega) (by omega) (by omega)]; exact e1
  · rw [hr 2 (by omega) (by omega) (by omega) (by omega)]; exact e2
  · rw [hr 3 (by omega) (by omega) (by omega) (by omega)]; exact e3
  · rw [hr 4 (by omega) (by omega) (by omega) (by omega)]; exact e4
  · by_cases q : p = P
    · subst q
      refine ⟨by rw [upL_s, upL_s]; exact hn, ?_, ?_, ?_⟩
      · rw [upz_s, upz_o (by omega), upz_o (by omega), upz_o (by omega), upz_s]
      · rw [upz_s, upz_o (by omega), upz_o (by omega), upz_s]
      · rw [upz_s, upz_o (by omega), upz_s]
    · have h9 := h1 p p0 (by omega)
      have hx : ¬ ix p = ix P := by rw [ix_e p0 (by omega), ix_e b0 (by omega)]; omega
      rw [upL_o hx, upL_o hx, upz_o q, upz_o q, upz_o q, hr _ (by omega) (by omega) (by omega) (by omega), hr _ (by omega) (by omega) (by omega) (by omega), hr _ (by omega) (by omega) (by omega) (by omega)]
      exact h9
  · have h9 := h2 p p0 p1
    have hx : ¬ ix (9 + p) = ix P := by rw [ix_e (by omega) (by omega), ix_e b0 (by omega)]; omega
    rw [upL_o hx, hr _ (by omega) (by omega) (by omega) (by omega)]
    exact h9
  · have h9 := h3 p p0 p1
    rw [hr _ (by omega) (by omega) (by omega) (by omega), hr _ (by omega) (by omega) (by omega) (by omega)]
    exact h9
theorem xw_maid {c : Int} (hw : XW rd h o nms lo bu sg st inn frm mns hk P M sp ye ju so yo jo) (hn : nmR nm w) (hM : M < 3) : XW (upz (upz rd (41 + rd 1) c) 1 (rd 1 + 1)) (vp_updL h (ix (9 + rd 1)) w) o nms lo bu sg st inn frm (vp_updL mns (ix M) nm) (upz hk M c) P (M + 1) sp ye ju so yo jo := by
  obtain ⟨⟨e0, e1, e2, e3, e4, e5, e6, e7, b0, b1, b2, b3⟩, h1, h2, h3, h4, h5⟩ := hw
  rw [e1]
  have hr : ∀ j : Int, ¬ j = 1 → ¬ j = 41 + M → upz (upz rd (41 + M) c) 1 (M + 1) j = rd j := fun j j0 j1 => by rw [upz_o j0, upz_o j1]
  refine ⟨⟨?_, upz_s _ _ _, ?_, ?_, ?_, e5, e6, e7, b0, b1, by omega, by omega⟩, fun p p0 p1 => ?_, fun p p0 p1 => ?_, fun p p0 p1 => ?_, h4, h5⟩
  · rw [hr 0 (by omega) (by omega)]; exact e0
  · rw [hr 2 (by omega) (by omega)]; exact e2
  · rw [hr 3 (by omega) (by omega)]; exact e3
  · rw [hr 4 (by omega) (by omega)]; exact e4
  · have h9 := h1 p p0 p1
    have hx : ¬ ix p = ix (9 + M) := by rw [ix_e p0 (by omega), ix_e (by omega) (by omega)]; omega
    rw [upL_o hx, hr _ (by omega) (by omega), hr _ (by omega) (by omega), hr _ (by omega) (by omega)]
    exact h9
  · by_cases q : p = M
    · subst q
      refine ⟨by rw [upL_s, upL_s]; exact hn, ?_⟩
      rw [upz_s, upz_o (by omega), upz_s]
    · have h9 := h2 p p0 (by omega)
      have hx : ¬ ix p = ix M := by rw [ix_e p0 (by omega), ix_e b2 (by omega)]; omega
      have hx2 : ¬ ix (9 + p) = ix (9 + M) := by rw [ix_e (by omega) (by omega), ix_e (by omega) (by omega)]; omega
      rw [upL_o hx, upL_o hx2, upz_o q, hr _ (by omega) (by omega)]
      exact h9
  · have h9 := h3 p p0 p1
    rw [hr _ (by omega) (by omega), hr _ (by omega) (by omega)]
    exact h9
theorem xw_street {a b y z : Int} (hw : XW rd h o nms lo bu sg st inn frm mns hk P M sp ye ju so yo jo) (a0 : 0 ≤ a) (a1 : a < 9) (b0' : 0 ≤ b) (b1' : b < 9) (hab : ¬ b = a) (hy : y = orb (st a) b) (hz : z = orb (st b) a) : XW (upz (upz rd (44 + a) (orb (rd (44 + a)) b)) (44 + b) (orb (rd (44 + b)) a)) h o nms lo bu sg (upz (upz st a y) b z) inn frm mns hk P M sp ye ju so yo jo := by
  obtain ⟨⟨e0, e1, e2, e3, e4, e5, e6, e7, b0, b1, b2, b3⟩, h1, h2, h3, h4, h5⟩ := hw
  have hr : ∀ j : Int, ¬ j = 44 + b → ¬ j = 44 + a → upz (upz rd (44 + a) (orb (rd (44 + a)) b)) (44 + b) (orb (rd (44 + b)) a) j = rd j := fun j j0 j1 => by rw [upz_o j0, upz_o j1]
  refine ⟨⟨?_, ?_, ?_, ?_, ?_, e5, e6, e7, b0, b1, b2, b3⟩, fun p p0 p1 => ?_, fun p p0 p1 => ?_, fun p p0 p1 => ⟨?_, ?_⟩, h4, h5⟩
  · rw [hr 0 (by omega) (by omega)]; exact e0
  · rw [hr 1 (by omega) (by omega)]; exact e1
  · rw [hr 2 (by omega) (by omega)]; exact e2
  · rw [hr 3 (by omega) (by omega)]; exact e3
  · rw [hr 4 (by omega) (by omega)]; exact e4
  · rw [hr _ (by omega) (by omega), hr _ (by omega) (by omega), hr _ (by omega) (by omega)]
    exact h1 p p0 p1
  · rw [hr _ (by omega) (by omega)]
    exact h2 p p0 p1
  · by_cases q : p = b
    · subst q
      rw [upz_s, upz_s, hz, (h3 p p0 p1).1]
    · by_cases q2 : p = a
      · subst q2
        rw [upz_o q, upz_s, upz_o (by omega), upz_s, hy, (h3 p p0 p1).1]
      · rw [upz_o q, upz_o q2, hr _ (by omega) (by omega)]
        exact (h3 p p0 p1).1
  · rw [hr _ (by omega) (by omega)]
    exact (h3 p p0 p1).2
theorem xw_done {a b : Int} (hw : XW rd h o nms lo bu sg st inn frm mns hk P M sp ye ju so yo jo) (a0 : 0 ≤ a) (a1 : a < P) (b0' : 0 ≤ b) (b1' : b < P) (ha : inn a = -1) (hb : frm b = -1) : XW (upz rd (32 + a) b) h o nms lo bu sg st (upz inn a b) (upz frm b a) mns hk P M sp ye ju so yo jo := by
  obtain ⟨⟨e0, e1, e2, e3, e4, e5, e6, e7, b0, b1, b2, b3⟩, h1, h2, h3, h4, h5⟩ := hw
  have hr : ∀ j : Int, ¬ j = 32 + a → upz rd (32 + a) b j = rd j := fun j j0 => upz_o j0
  refine ⟨⟨?_, ?_, ?_, ?_, ?_, e5, e6, e7, b0, b1, b2, b3⟩, fun p p0 p1 => ?_, fun p p0 p1 => ?_, fun p p0 p1 => ⟨?_, ?_⟩, fun p q p0 p1 q0 q1 => ?_, fun p p0 p1 => ?_⟩
  · rw [hr 0 (by omega)]; exact e0
  · rw [hr 1 (by omega)]; exact e1
  · rw [hr 2 (by omega)]; exact e2
  · rw [hr 3 (by omega)]; exact e3
  · rw [hr 4 (by omega)]; exact e4
  · rw [hr _ (by omega), hr _ (by omega), hr _ (by omega)]
    exact h1 p p0 p1
  · rw [hr _ (by omega)]
    exact h2 p p0 p1
  · rw [hr _ (by omega)]
    exact (h3 p p0 p1).1
  · by_cases q : p = a
    · subst q
      rw [upz_s, upz_s]
    · rw [upz_o q, hr _ (by omega)]
      exact (h3 p p0 p1).2
  · have hpq := h4 p q p0 p1 q0 q1
    by_cases c1 : p = a
    · by_cases c2 : q = b
      · rw [c1, c2, upz_s, upz_s]; exact ⟨fun _ => rfl, fun _ => rfl⟩
      · rw [c1, upz_s, upz_o c2]
        rw [c1] at hpq
        exact ⟨fun e => absurd e.symm c2, fun e => by have := hpq.mpr e; omega⟩
    · by_cases c2 : q = b
      · rw [c2, upz_o c1, upz_s]
        rw [c2] at hpq
        exact ⟨fun e => by have := hpq.mp e; omega, fun e => absurd e.symm c1⟩
      · rw [upz_o c1, upz_o c2]; exact hpq
  · rw [upz_o (by omega)]
    exact h5 p p0 p1
theorem xw_o0 {c : Int} (hw : XW rd h o nms lo bu sg st inn frm mns hk P M sp ye ju so yo jo) : XW (upz rd (2 + 0) c) h (upz o 0 1) nms lo bu sg st inn frm mns hk P M c ye ju 1 yo jo := by
  obtain ⟨⟨e0, e1, e2, e3, e4, e5, e6, e7, b0, b1, b2, b3⟩, h1, h2, h3, h4, h5⟩ := hw
  have hr : ∀ j : Int, ¬ j = 2 + 0 → upz rd (2 + 0) c j = rd j := fun j j0 => upz_o j0
  have ho : ∀ j : Int, ¬ j = 0 → upz o 0 1 j = o j := fun j j0 => upz_o j0
  refine ⟨⟨?_, ?_, upz_s _ _ _, ?_, ?_, upz_s _ _ _, ?_, ?_, b0, b1, b2, b3⟩, fun p p0 p1 => ?_, fun p p0 p1 => ?_, fun p p0 p1 => ?_, h4, h5⟩
  · rw [hr 0 (by omega)]; exact e0
  · rw [hr 1 (by omega)]; exact e1
  · rw [hr 3 (by omega)]; exact e3
  · rw [hr 4 (by omega)]; exact e4
  · rw [ho 1 (by omega)]; exact e6
  · rw [ho 2 (by omega)]; exact e7
  · rw [hr _ (by omega), hr _ (by omega), hr _ (by omega)]; exact h1 p p0 p1
  · rw [hr _ (by omega)]; exact h2 p p0 p1
  · rw [hr _ (by omega), hr _ (by omega)]; exact h3 p p0 p1
theorem xw_o1 {c : Int} (hw : XW rd h o nms lo bu sg st inn frm mns hk P M sp ye ju so yo jo) : XW (upz rd (2 + 1) c) h (upz o 1 1) nms lo bu sg st inn frm mns hk P M sp c ju so 1 jo := by
  obtain ⟨⟨e0, e1, e2, e3, e4, e5, e6, e7, b0, b1, b2, b3⟩, h1, h2, h3, h4, h5⟩ := hw
  have hr : ∀ j : Int, ¬ j = 2 + 1 → upz rd (2 + 1) c j = rd j := fun j j0 => upz_o j0
  have ho : ∀ j : Int, ¬ j = 1 → upz o 1 1 j = o j := fun j j0 => upz_o j0
  refine ⟨⟨?_, ?_, ?_, upz_s _ _ _, ?_, ?_, upz_s _ _ _, ?_, b0, b1, b2, b3⟩, fun p p0 p1 => ?_, fun p p0 p1 => ?_, fun p p0 p1 => ?_, h4, h5⟩
  · rw [hr 0 (by omega)]; exact e0
  · rw [hr 1 (by omega)]; exact e1
  · rw [hr 2 (by omega)]; exact e2
  · rw [hr 4 (by omega)]; exact e4
  · rw [ho 0 (by omega)]; exact e5
  · rw [ho 2 (by omega)]; exact e7
  · rw [hr _ (by omega), hr _ (by omega), hr _ (by omega)]; exact h1 p p0 p1
  · rw [hr _ (by omega)]; exact h2 p p0 p1
  · rw [hr _ (by omega), hr _ (by omega)]; exact h3 p p0 p1
theorem xw_o2 {c : Int} (hw : XW rd h o nms lo bu sg st inn frm mns hk P M sp ye ju so yo jo) : XW (upz rd (2 + 2) c) h (upz o 2 1) nms lo bu sg st inn frm mns hk P M sp ye c so yo 1 := by
  obtain ⟨⟨e0, e1, e2, e3, e4, e5, e6, e7, b0, b1, b2, b3⟩, h1, h2, h3, h4, h5⟩ := hw
  have hr : ∀ j : Int, ¬ j = 2 + 2 → upz rd (2 + 2) c j = rd j := fun j j0 => upz_o j0
  have ho : ∀ j : Int, ¬ j = 2 → upz o 2 1 j = o j := fun j j0 => upz_o j0
  refine ⟨⟨?_, ?_, ?_, ?_, upz_s _ _ _, ?_, ?_, upz_s _ _ _, b0, b1, b2, b3⟩, fun p p0 p1 => ?_, fun p p0 p1 => ?_, fun p p0 p1 => ?_, h4, h5⟩
  · rw [hr 0 (by omega)]; exact e0
  · rw [hr 1 (by omega)]; exact e1
  · rw [hr 2 (by omega)]; exact e2
  · rw [hr 3 (by omega)]; exact e3
  · rw [ho 0 (by omega)]; exact e5
  · rw [ho 1 (by omega)]; exact e6
  · rw [hr _ (by omega), hr _ (by omega), hr _ (by omega)]; exact h1 p p0 p1
  · rw [hr _ (by omega)]; exact h2 p p0 p1
  · rw [hr _ (by omega), hr _ (by omega)]; exact h3 p p0 p1
def cl0 (st inn frm : Int → Int) (P M sp ye ju so yo jo : Int) : Prop := P = 0 ∧ M = 0 ∧ sp = 0 ∧ ye = 12 ∧ ju = 1 ∧ so = 0 ∧ yo = 0 ∧ jo = 0 ∧ (∀ i : Int, 0 ≤ i → i < 9 → st i = 0) ∧ (∀ i : Int, 0 ≤ i → i < 9 → inn i = -1) ∧ ∀ i : Int, 0 ≤ i → i < 9 → frm i = -1
theorem xw_0 (hc : cl0 st inn frm P M sp ye ju so yo jo) (hr : rd0P rd) (ho : o0P o) : XW rd h o nms lo bu sg st inn frm mns hk P M sp ye ju so yo jo := by
  obtain ⟨rfl, rfl, rfl, rfl, rfl, rfl, rfl, rfl, h1, h2, h3⟩ := hc
  refine ⟨⟨hr 0 (by decide) (by decide), hr 1 (by decide) (by decide), hr 2 (by decide) (by decide), hr 3 (by decide) (by decide), hr 4 (by decide) (by decide), ho 0 (by decide) (by decide), ho 1 (by decide) (by decide), ho 2 (by decide) (by decide), by decide, by decide, by decide, by decide⟩, fun p p0 p1 => absurd p1 (by omega), fun p p0 p1 => absurd p1 (by omega), fun p p0 p1 => ⟨?_, ?_⟩, fun p q p0 p1 q0 q1 => ?_, fun p p0 p1 => h2 p p0 p1⟩
  · rw [h1 p p0 p1, hr (44 + p) (by omega) (by omega), if_neg (by omega), if_neg (by omega), if_neg (by omega)]
  · rw [h2 p p0 p1, hr (32 + p) (by omega) (by omega), if_neg (by omega), if_neg (by omega), if_pos (by omega)]
  · rw [h2 p p0 p1, h3 q q0 q1]
    exact ⟨fun e => by omega, fun e => by omega⟩
end CXs
section CWs
variable {T : Nat → ClassId} {f : Int → Int} {n L : Int} {x : Tk × Int × Int} {tok pl nxt mq : Int} {nm : Int64} {nu : Int32}
theorem cw_1 {p j : Nat} (hw : ∀ i j : Nat, i < 27 → j < 27 → T (10 + i) = T (10 + j) → i = j) (g : gC T x tok pl nxt nm nu mq (some p)) (hj : j < 27) (hp : some p = some (T (10 + j))) : isW x.1 j := by
  obtain ⟨y, c, d⟩ := x
  obtain ⟨-, -, g⟩ := g
  rcases y with u | u | ⟨x, w⟩ | v | c
  · cases g.2
  · cases g.2
  · obtain ⟨-, g2, g3⟩ := g
    rcases g3 with ⟨-, k, k1, k2, k3⟩ | ⟨-, a, -⟩
    · have e : k = j := hw k j k1 hj (Option.some.inj (k2.symm.trans hp))
      subst e
      exact isW_w.mpr ((nmR_iff g2 (kw_nm k k1)).mp k3)
    · cases a
  · cases g.2.2.2.2
  · cases g.2.2
theorem cw_0 {p j : Nat} (g : gC T x tok pl nxt nm nu mq (some p)) (hj : j < 27) (hp : ¬ some p = some (T (10 + j))) : ¬ isW x.1 j := by
  obtain ⟨y, c, d⟩ := x
  obtain ⟨-, -, g⟩ := g
  rcases y with u | u | ⟨x, w⟩ | v | c
  · exact fun e => absurd e Bool.false_ne_true
  · exact fun e => absurd e Bool.false_ne_true
  · obtain ⟨-, g2, g3⟩ := g
    intro e
    have e2 := (nmR_iff g2 (kw_nm j hj)).mpr (isW_w.mp e)
    rcases g3 with ⟨-, k, k1, k2, k3⟩ | ⟨-, a, -⟩
    · have e3 : wrd k = wrd j := (nmR_iff (kw_nm k k1) (kw_nm j hj)).mp (k3.symm.trans e2)
      have e4 := wd_inj k1 hj e3
      subst e4
      exact hp k2
    · cases a
  · exact fun e => absurd e Bool.false_ne_true
  · exact fun e => absurd e Bool.false_ne_true
theorem cw_n {j : Nat} (g : gC T x tok pl nxt nm nu mq none) (hj : j < 27) : ¬ isW x.1 j := by
  obtain ⟨y, c, d⟩ := x
  obtain ⟨-, -, g⟩ := g
  rcases y with u | u | ⟨x, w⟩ | v | c
  · exact fun e => absurd e Bool.false_ne_true
  · exact fun e => absurd e Bool.false_ne_true
  · obtain ⟨-, g2, g3⟩ := g
    intro e
    have e2 := (nmR_iff g2 (kw_nm j hj)).mpr (isW_w.mp e)
    rcases g3 with ⟨-, k, k1, k2, k3⟩ | ⟨-, -, a⟩
    · cases k2
    · exact a j hj e2
  · exact fun e => absurd e Bool.false_ne_true
  · exact fun e => absurd e Bool.false_ne_true
-- ===== every line takes two bytes at least =====
theorem tk_le {t : Int} (h : ¬ (tkAt f n L t).1 = tkBad) : t ≤ (tkAt f n L t).2.1 ∧ (tkAt f n L t).2.1 ≤ (tkAt f n L t).2.2 := by
  have h1 := sk_ge f n t
  have h2 := rn_ge f n (sk f n t)
  by_cases c1 : L < n ∧ L ≤ sk f n t
  · exact absurd (by rw [tk_lim rfl c1.1 c1.2]) h
  · by_cases c2 : n ≤ sk f n t
    · rw [tk_stop rfl (by omega) c2]; exact ⟨h1, Int.le_refl _⟩
    · by_cases c3 : (97 ≤ f (sk f n t) ∧ f (sk f n t) ≤ 122) ∨ (48 ≤ f (sk f n t) ∧ f (sk f n t) ≤ 57)
      · rw [tk_run rfl (by omega) (by omega) c3 rfl]; exact ⟨h1, h2⟩
      · by_cases c4 : mkS (f (sk f n t))
        · rw [tk_sg rfl (by omega) (by omega) c3 c4]; exact ⟨h1, by show sk f n t ≤ sk f n t + 1; omega⟩
        · exact absurd (by rw [tk_no rfl (by omega) (by omega) c3 c4]) h
theorem tk_w {t : Int} {j : Nat} (h : isW (tkAt f n L t).1 j) : t + 1 ≤ (tkAt f n L t).2.2 := by
  have h1 := sk_ge f n t
  by_cases c1 : L < n ∧ L ≤ sk f n t
  · rw [tk_lim rfl c1.1 c1.2] at h; exact absurd h Bool.false_ne_true
  · by_cases c2 : n ≤ sk f n t
    · rw [tk_stop rfl (by omega) c2] at h; exact absurd h Bool.false_ne_true
    · by_cases c3 : (97 ≤ f (sk f n t) ∧ f (sk f n t) ≤ 122) ∨ (48 ≤ f (sk f n t) ∧ f (sk f n t) ≤ 57)
      · have h2 := rn_lt (n := n) (by omega) c3
        rw [tk_run rfl (by omega) (by omega) c3 rfl]
        show t + 1 ≤ rn f n (sk f n t)
        omega
      · by_cases c4 : mkS (f (sk f n t))
        · rw [tk_sg rfl (by omega) (by omega) c3 c4] at h; exact absurd h Bool.false_ne_true
        · rw [tk_no rfl (by omega) (by omega) c3 c4] at h; exact absurd h Bool.false_ne_true
theorem tk_s {t c : Int} (h : (tkAt f n L t).1 = tkSign c) : t + 1 ≤ (tkAt f n L t).2.2 ∧ (tkAt f n L t).2.2 ≤ n := by
  have h1 := sk_ge f n t
  by_cases c1 : L < n ∧ L ≤ sk f n t
  · rw [tk_lim rfl c1.1 c1.2] at h; cases h
  · by_cases c2 : n ≤ sk f n t
    · rw [tk_stop rfl (by omega) c2] at h; cases h
    · by_cases c3 : (97 ≤ f (sk f n t) ∧ f (sk f n t) ≤ 122) ∨ (48 ≤ f (sk f n t) ∧ f (sk f n t) ≤ 57)
      · rw [tk_run rfl (by omega) (by omega) c3 rfl] at h
        have h' : runTk f (sk f n t) (rn f n (sk f n t)) = tkSign c := h
        rw [runTk] at h'
        split at h'
        · cases h'
        · split at h' <;> cases h'
      · by_cases c4 : mkS (f (sk f n t))
        · rw [tk_sg rfl (by omega) (by omega) c3 c4]
          exact ⟨by show t + 1 ≤ sk f n t + 1; omega, by show sk f n t + 1 ≤ n; omega⟩
        · rw [tk_no rfl (by omega) (by omega) c3 c4] at h; cases h
theorem nx_le {x : Tk × Int × Int} (h : ¬ (nx f n L x).1 = tkBad) : x.2.2 ≤ (nx f n L x).2.2 := by
  have := tk_le (f := f) (n := n) (L := L) (t := x.2.2) h
  show x.2.2 ≤ (tkAt f n L x.2.2).2.2
  omega
theorem nm_nb {y : Tk} (h : isNm y) : ¬ y = tkBad := fun e => by subst e; exact absurd h Bool.false_ne_true
theorem val_chk {rd : Int → Int} {h : Nat → Int64} {x : Tk × Int × Int} {g : Int → PR} {s : PS} (e : bnd (sChk rd h x) g = .inr s) : ¬ x.1 = tkBad ∧ ∃ v, g v = .inr s := by
  by_cases q : isNm x.1
  · refine ⟨nm_nb q, ?_⟩
    rcases hm : sChk rd h x with ⟨k, p⟩ | v
    · rw [hm] at e; cases e
    · rw [hm] at e; exact ⟨v, e⟩
  · rw [sChk, if_pos q] at e; cases e
theorem val_one {rd : Int → Int} {h : Nat → Int64} {x : Tk × Int × Int} {g : Int → PR} {s : PS} (e : bnd (sOne rd h x) g = .inr s) : ¬ x.1 = tkBad ∧ ∃ v, g v = .inr s := by
  by_cases q : isNm x.1
  · refine ⟨nm_nb q, ?_⟩
    rcases hm : sOne rd h x with ⟨k, p⟩ | v
    · rw [hm] at e; cases e
    · rw [hm] at e; exact ⟨v, e⟩
  · rw [sOne, if_pos q] at e; cases e
theorem val_kd {x : Tk × Int × Int} {g : Int → PR} {s : PS} (e : bnd (sKd x) g = .inr s) : ¬ x.1 = tkBad ∧ ∃ v, g v = .inr s := by
  by_cases q : kdO x.1 = -1
  · rw [sKd, if_pos q] at e; cases e
  · refine ⟨fun z => q (by rw [z]; rfl), ?_⟩
    rw [sKd, if_neg q] at e
    exact ⟨_, e⟩
theorem val_nu {a b : Int} {x : Tk × Int × Int} {g : Int → PR} {s : PS} (e : bnd (sNu a b x) g = .inr s) : ¬ x.1 = tkBad ∧ ∃ v, g v = .inr s := by
  by_cases q : nuO a b x.1 = -1
  · rw [sNu, if_pos q] at e; cases e
  · refine ⟨fun z => q (by rw [z]; rfl), ?_⟩
    rcases hm : sNu a b x with ⟨k, p⟩ | v
    · rw [hm] at e; cases e
    · rw [hm] at e; exact ⟨v, e⟩
theorem line_le {x : Tk × Int × Int} {rd : Int → Int} {h : Nat → Int64} {o : Int → Int} {s : PS} (e : sLine f n L x rd h o = .inr s) : (∃ j : Nat, isW x.1 j) ∧ ∃ t, x.2.2 ≤ t ∧ s.1 = tkAt f n L t := by
  rw [sLine] at e
  by_cases c0 : isW x.1 0
  · refine ⟨⟨0, c0⟩, ?_⟩
    rw [if_pos c0, sPerson] at e
    split at e
    · cases e
    · obtain ⟨b1, v1, e⟩ := val_chk e
      obtain ⟨b2, v2, e⟩ := val_kd e
      obtain ⟨b3, v3, e⟩ := val_kd e
      obtain ⟨b4, v4, e⟩ := val_nu e
      cases e
      have q1 := nx_le b1
      have q2 := nx_le b2
      have q3 := nx_le b3
      have q4 := nx_le b4
      exact ⟨_, by omega, rfl⟩
  rw [if_neg c0] at e
  by_cases c1 : isW x.1 1
  · refine ⟨⟨1, c1⟩, ?_⟩
    rw [if_pos c1, sMaid] at e
    split at e
    · cases e
    · obtain ⟨b1, v1, e⟩ := val_chk e
      obtain ⟨b2, v2, e⟩ := val_nu e
      cases e
      have q1 := nx_le b1
      have q2 := nx_le b2
      exact ⟨_, by omega, rfl⟩
  rw [if_neg c1] at e
  by_cases c2 : isW x.1 2
  · refine ⟨⟨2, c2⟩, ?_⟩
    rw [if_pos c2, sStreet] at e
    obtain ⟨b1, v1, e⟩ := val_one e
    obtain ⟨b2, v2, e⟩ := val_one e
    split at e
    · cases e
    · cases e
      have q1 := nx_le b1
      have q2 := nx_le b2
      exact ⟨_, by omega, rfl⟩
  rw [if_neg c2] at e
  by_cases c3 : isW x.1 3
  · refine ⟨⟨3, c3⟩, ?_⟩
    rw [if_pos c3, sDone] at e
    obtain ⟨b1, v1, e⟩ := val_one e
    split at e
    · cases e
    · obtain ⟨b2, v2, e⟩ := val_one e
      split at e
      · cases e
      · cases e
        have q1 := nx_le b1
        have q2 := nx_le b2
        exact ⟨_, by omega, rfl⟩
  rw [if_neg c3] at e
  have once : ∀ k a b : Int, sOnce f n L x rd h o k a b = .inr s → ∃ t, x.2.2 ≤ t ∧ s.1 = tkAt f n L t := by
    intro k a b e
    rw [sOnce] at e
    split at e
    · cases e
    · obtain ⟨b1, v1, e⟩ := val_nu e
      cases e
      have q1 := nx_le b1
      exact ⟨_, q1, rfl⟩
  by_cases c4 : isW x.1 4
  · rw [if_pos c4] at e; exact ⟨⟨4, c4⟩, once _ _ _ e⟩
  rw [if_neg c4] at e
  by_cases c5 : isW x.1 5
  · rw [if_pos c5] at e; exact ⟨⟨5, c5⟩, once _ _ _ e⟩
  rw [if_neg c5] at e
  by_cases c6 : isW x.1 6
  · rw [if_pos c6] at e; exact ⟨⟨6, c6⟩, once _ _ _ e⟩
  rw [if_neg c6] at e
  cases e
end CWs
-- ===== a whole city, by the class =====
def cxI (f : Int → Int) (n L : Int) (S : PS) (G : Tk × Int × Int → Prop) (V : (Int → Int) → (Nat → Int64) → (Int → Int) → Prop) (k : Int) : Prop := ∃ (s : PS) (t : Int), s.1 = tkAt f n L t ∧ 2 * k ≤ t ∧ t ≤ n ∧ G s.1 ∧ V s.2.1 s.2.2.1 s.2.2.2 ∧ ctN f n L 1000 S 0 = ctN f n L (1000 - k).toNat s k
def CXr : CR → Int → Int → Int → Int → ((Int → Int) → (Nat → Int64) → (Int → Int) → Prop) → Prop
  | .inl (k, p), r, fk, fp, _, _ => r = 0 ∧ fk = k ∧ fp = p
  | .inr (s, k), r, _, _, ln, V => r = 1 ∧ ln = k ∧ V s.2.1 s.2.2.1 s.2.2.2
section CYs
variable {f : Int → Int} {n L : Int} {S : PS} {G G1 G2 : Tk × Int × Int → Prop} {V V1 : (Int → Int) → (Nat → Int64) → (Int → Int) → Prop} {k r1 r2 fa pl fa2 pl2 : Int}
theorem cx_0 {rd : Int → Int} {h : Nat → Int64} {o : Int → Int} (hn : 0 ≤ n) (g : G (tkAt f n L 0)) (v : V rd h o) : cxI f n L ⟨tkAt f n L 0, rd, h, o⟩ G V 0 := ⟨⟨tkAt f n L 0, rd, h, o⟩, 0, rfl, by decide, hn, g, v, rfl⟩
theorem cx_b (hc : cxI f n L S G V k) : 2 * k ≤ n := by
  obtain ⟨s, t, -, h1, h2, -⟩ := hc
  omega
theorem cx_step (hc : cxI f n L S G V k) (k0 : 0 ≤ k) (k1 : k < 1000) (ns : ∀ x, G x → ¬ x.1 = tkStop) (q1 : ∀ (x : Tk × Int × Int) (rd : Int → Int) (h : Nat → Int64) (o : Int → Int), G x → V rd h o → XP (sLine f n L x rd h o) r1 fa pl G1 V1) (hr1 : r1 = 1) (q2 : ∀ x, G1 x → enP f n L 59 x r2 fa2 pl2 G2) (hr2 : r2 = 1) : cxI f n L S G2 V1 (k + 1) := by
  obtain ⟨s, t, et, ht, hn, g, v, e⟩ := hc
  have c1 := q1 s.1 s.2.1 s.2.2.1 s.2.2.2 g v
  rcases hm : sLine f n L s.1 s.2.1 s.2.2.1 s.2.2.2 with ⟨a, p⟩ | s1
  · rw [hm] at c1; exact absurd (c1.1.symm.trans hr1) (by decide)
  · rw [hm] at c1
    obtain ⟨-, c2, c3⟩ := c1
    have c6 := en_1 (q2 s1.1 c2) hr2
    obtain ⟨⟨j, hj⟩, t1, l1, e1⟩ := line_le hm
    rw [et] at hj l1
    have w1 := tk_w hj
    have w2 := c6.1
    rw [e1] at w2
    have w3 := tk_s w2
    refine ⟨⟨nx f n L s1.1, s1.2.1, s1.2.2.1, s1.2.2.2⟩, s1.1.2.2, rfl, ?_, ?_, c6.2, c3, ?_⟩
    · rw [e1]; omega
    · rw [e1]; exact w3.2
    · rw [e, show (1000 - k).toNat = (1000 - (k + 1)).toNat + 1 by omega, ct_go (ns _ g) hm c6.1]
theorem cx_f1 (hc : cxI f n L S G V k) (k0 : 0 ≤ k) (k1 : k < 1000) (ns : ∀ x, G x → ¬ x.1 = tkStop) (q1 : ∀ (x : Tk × Int × Int) (rd : Int → Int) (h : Nat → Int64) (o : Int → Int), G x → V rd h o → XP (sLine f n L x rd h o) r1 fa pl G1 V1) (hr1 : r1 = 0) : ctN f n L 1000 S 0 = .inl (fa, pl) := by
  obtain ⟨s, t, et, ht, hn, g, v, e⟩ := hc
  have c1 := q1 s.1 s.2.1 s.2.2.1 s.2.2.2 g v
  rcases hm : sLine f n L s.1 s.2.1 s.2.2.1 s.2.2.2 with ⟨a, p⟩ | s1
  · rw [hm] at c1
    rw [e, show (1000 - k).toNat = (1000 - (k + 1)).toNat + 1 by omega, ct_bad (ns _ g) hm, c1.2.1, c1.2.2]
  · rw [hm] at c1; exact absurd (c1.1.symm.trans hr1) (by decide)
theorem cx_f2 (hc : cxI f n L S G V k) (k0 : 0 ≤ k) (k1 : k < 1000) (ns : ∀ x, G x → ¬ x.1 = tkStop) (q1 : ∀ (x : Tk × Int × Int) (rd : Int → Int) (h : Nat → Int64) (o : Int → Int), G x → V rd h o → XP (sLine f n L x rd h o) r1 fa pl G1 V1) (hr1 : r1 = 1) (q2 : ∀ x, G1 x → enP f n L 59 x r2 fa2 pl2 G2) (hr2 : r2 = 0) : ctN f n L 1000 S 0 = .inl (fa2, pl2) := by
  obtain ⟨s, t, et, ht, hn, g, v, e⟩ := hc
  have c1 := q1 s.1 s.2.1 s.2.2.1 s.2.2.2 g v
  rcases hm : sLine f n L s.1 s.2.1 s.2.2.1 s.2.2.2 with ⟨a, p⟩ | s1
  · rw [hm] at c1; exact absurd (c1.1.symm.trans hr1) (by decide)
  · rw [hm] at c1
    have c6 := en_0 (q2 s1.1 c1.2.1) hr2
    rw [e, show (1000 - k).toNat = (1000 - (k + 1)).toNat + 1 by omega, ct_end (ns _ g) hm c6.1, c6.2.1, c6.2.2]
theorem cx_fin (hc : cxI f n L S G V k) (k0 : 0 ≤ k) (k1 : k < 1000) (st : ∀ x, G x → x.1 = tkStop) : ∃ s, ctN f n L 1000 S 0 = .inr (s, k) ∧ V s.2.1 s.2.2.1 s.2.2.2 := by
  obtain ⟨s, t, et, ht, hn, g, v, e⟩ := hc
  exact ⟨s, by rw [e, show (1000 - k).toNat = (1000 - (k + 1)).toNat + 1 by omega, ct_stop (st _ g)], v⟩
end CYs
def onP (T : Nat → ClassId) (f : Int → Int) (n L again a b : Int) (x : Tk × Int × Int) (r fk fp : Int) (G : Tk × Int × Int → Prop) : Prop := (again = 1 ∧ r = -1 ∧ fk = 3 ∧ fp = x.2.1) ∨ (¬ again = 1 ∧ XV (sNu a b (nx f n L x)) r fk fp ∧ (¬ r = -1 → G (nx f n L (nx f n L x))))
theorem xonce {T : Nat → ClassId} {f : Int → Int} {n L k a b again : Int} {x : Tk × Int × Int} {rd : Int → Int} {h : Nat → Int64} {o : Int → Int} {r R fk fp : Int} {G : Tk × Int × Int → Prop} {V : (Int → Int) → (Nat → Int64) → (Int → Int) → Prop} (c : onP T f n L again a b x r fk fp G) (ho : o k = again) (hR : (r = -1 ∧ R = 0) ∨ (¬ r = -1 ∧ R = 1)) (hV : ¬ r = -1 → V (upz rd (2 + k) r) h (upz o k 1)) : XP (sOnce f n L x rd h o k a b) R fk fp G V := by
  rw [sOnce]
  rcases c with ⟨c1, c2, c3, c4⟩ | ⟨c1, c2, c3⟩
  · rw [if_pos (ho.trans c1)]
    exact ⟨by omega, c3, c4⟩
  · rw [if_neg (fun e => c1 (ho.symm.trans e))]
    by_cases q : r = -1
    · exact bxV_bad c2 q (by omega)
    · refine bxV_ok c2 q ?_
      exact ⟨by omega, c3 q, hV q⟩
theorem tb_r {x b z z' : Int} (h1 : iI z = (iI x >>> (iI b &&& 31))) (h2 : z' = (iI z &&& iI 1).toInt) : z' = tb x b := by rw [h2, h1]; rfl
theorem orb_r {x b y z : Int} (h1 : y = (iI 1 <<< (iI b &&& 31)).toInt) (h2 : z = (iI x ||| iI y).toInt) : z = orb x b := by rw [h2, h1, iI_x]; rfl
theorem fill_s {c : Int → Int} {k x i : Int} (h : ∀ i : Int, 0 ≤ i → i < k → c i = x) (i0 : 0 ≤ i) (i1 : i < k + 1) : upz c k x i = x := by
  by_cases q : i = k
  · rw [q, upz_s]
  · rw [upz_o q]; exact h i i0 (by omega)
theorem done_bad {rd : Int → Int} {h : Nat → Int64} {o : Int → Int} {nms mns : Nat → Int64} {lo bu sg st inn frm hk : Int → Int} {P M sp ye ju so yo jo a b : Int} (hw : XW rd h o nms lo bu sg st inn frm mns hk P M sp ye ju so yo jo) (b0 : 0 ≤ b) (b1 : b < P) (f0 : -1 ≤ frm b) (f1 : frm b ≤ 8) (hq : b = a ∨ ¬ rd (5 + b) = rd (14 + a) ∨ ¬ frm b = -1) : b = a ∨ ¬ rd (5 + b) = rd (14 + a) ∨ exB rd b = true := by
  rcases hq with hq | hq | hq
  · exact Or.inl hq
  · exact Or.inr (Or.inl hq)
  · have w1 := hw.1
    have e := (hw.2.2.2.2.1 (frm b) b (by omega) (by omega) b0 (by omega)).mpr rfl
    refine Or.inr (Or.inr (exB_i.mpr ⟨frm b, by omega, ?_, ?_⟩))
    · by_cases c : frm b < rd 0
      · exact c
      · have := hw.2.2.2.2.2 (frm b) (by omega) (by omega); omega
    · rw [← (hw.2.2.2.1 (frm b) (by omega) (by omega)).2]; exact e
theorem done_ok {rd : Int → Int} {h : Nat → Int64} {o : Int → Int} {nms mns : Nat → Int64} {lo bu sg st inn frm hk : Int → Int} {P M sp ye ju so yo jo a b : Int} (hw : XW rd h o nms lo bu sg st inn frm mns hk P M sp ye ju so yo jo) (b0 : 0 ≤ b) (b1 : b < P) (h1 : ¬ b = a) (h2 : rd (5 + b) = rd (14 + a)) (h3 : frm b = -1) : ¬ (b = a ∨ ¬ rd (5 + b) = rd (14 + a) ∨ exB rd b = true) := by
  rintro (e | e | e)
  · exact h1 e
  · exact e h2
  · obtain ⟨p, p0, p1, e⟩ := exB_i.mp e
    have w1 := hw.1
    rw [← (hw.2.2.2.1 p p0 (by omega)).2] at e
    have := (hw.2.2.2.2.1 p b p0 (by omega) b0 (by omega)).mp e
    omega
def CXq : CR → Int → Prop
  | .inl (_, p), r => r = -1 - p
  | .inr (_, k), r => r = k
theorem cxq_0 {c : CR} {r fk fp ln R : Int} {V : (Int → Int) → (Nat → Int64) → (Int → Int) → Prop} (h : CXr c r fk fp ln V) (hr : r = 0) (hR : R = -1 - fp) : CXq c R := by
  rcases c with ⟨k, p⟩ | ⟨s, k⟩
  · have := h.2.2; show R = -1 - p; omega
  · exact absurd (h.1.symm.trans hr) (by decide)
theorem cxq_1 {c : CR} {r fk fp ln R : Int} {V : (Int → Int) → (Nat → Int64) → (Int → Int) → Prop} (h : CXr c r fk fp ln V) (hr : r = 1) (hR : R = ln) : CXq c R := by
  rcases c with ⟨k, p⟩ | ⟨s, k⟩
  · exact absurd (h.1.symm.trans hr) (by decide)
  · have := h.2.1; show R = k; omega
theorem ct_eq {c : CR} {r1 r2 fa : Int} {nw nw' : Int → Int} (h1 : CXq c r1) (h2 : CPm c r2 fa nw nw') : r1 = r2 := by
  rcases c with ⟨k, p⟩ | ⟨s, k⟩
  · exact h1.trans h2.1.symm
  · exact h1.trans h2.1.symm
