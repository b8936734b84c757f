def bt (x : Int32) (i : Nat) : Bool := x.toBitVec.getLsbD i
theorem b_ext {x y : Int32} (h : ∀ i, i < 32 → bt x i = bt y i) : x = y := Int32.toBitVec_inj.mp (BitVec.eq_of_getLsbD_eq (fun i hi => h i hi))
theorem b_or (x y : Int32) (i : Nat) : bt (x ||| y) i = (bt x i || bt y i) := by unfold bt; rw [Int32.toBitVec_or, BitVec.getLsbD_or]
theorem b_and (x y : Int32) (i : Nat) : bt (x &&& y) i = (bt x i && bt y i) := by unfold bt; rw [Int32.toBitVec_and, BitVec.getLsbD_and]
theorem b_0 (i : Nat) : bt 0 i = false := BitVec.getLsbD_zero
theorem s_l : ∀ n, n < 32 → ((nI n &&& 31).toBitVec.smod 32).toNat = n := by decide +kernel
theorem b_shl (n : Nat) (hn : n < 32) (x : Int32) {i : Nat} (hi : i < 32) : bt (x <<< (nI n &&& 31)) i = (decide (n ≤ i) && bt x (i - n)) := by
  unfold bt
  rw [Int32.toBitVec_shiftLeft]
  show (x.toBitVec <<< ((nI n &&& 31).toBitVec.smod 32).toNat).getLsbD i = _
  rw [s_l n hn, BitVec.getLsbD_shiftLeft]
  rcases Nat.lt_or_ge i n with h | h
  · simp [h, Nat.not_le.mpr h]
  · simp [hi, h, Nat.not_lt.mpr h]
theorem b_sshr (n : Nat) (hn : n < 32) (x : Int32) {i : Nat} (hi : i < 32) : bt (x >>> (nI n &&& 31)) i = if n + i < 32 then bt x (n + i) else bt x 31 := by
  unfold bt
  rw [Int32.toBitVec_shiftRight]
  show (x.toBitVec.sshiftRight ((nI n &&& 31).toBitVec.smod 32).toNat).getLsbD i = _
  rw [s_l n hn, BitVec.getLsbD_sshiftRight, BitVec.msb_eq_getLsbD_last]
  simp [hi]
def nf_M (m : Int32) : Nat := 4294967296 - m.toBitVec.toNat
theorem nf_sh : ∀ l, l < 32 → ((1 : Int32) <<< (nI l &&& 31)).toBitVec = BitVec.twoPow 32 l := by decide +kernel
theorem nf_tp : ∀ l, l < 32 → BitVec.twoPow 32 l ≠ 0#32 := by decide +kernel
theorem nf_gr (m k : Int32) (h : m &&& k = 0) (hk : k ≠ 0) : nf_M (m ||| k) < nf_M m := by
  have hm := m.toBitVec.isLt
  have hm' := (m ||| k).toBitVec.isLt
  have h1 : m.toBitVec.toNat ≤ (m ||| k).toBitVec.toNat := by
    rw [Int32.toBitVec_or, BitVec.toNat_or]
    exact Nat.left_le_or
  have h2 : m.toBitVec.toNat ≠ (m ||| k).toBitVec.toNat := by
    intro e
    have e2 : m = m ||| k := Int32.toBitVec_inj.mp (BitVec.eq_of_toNat_eq e)
    apply hk
    apply Int32.toBitVec_inj.mp
    show k.toBitVec = 0#32
    apply BitVec.eq_of_getLsbD_eq
    intro i hi
    have a : m.toBitVec.getLsbD i = (m.toBitVec.getLsbD i || k.toBitVec.getLsbD i) := by rw [← BitVec.getLsbD_or, ← Int32.toBitVec_or, ← e2]
    have b : (m.toBitVec.getLsbD i && k.toBitVec.getLsbD i) = false := by
      rw [← BitVec.getLsbD_and, ← Int32.toBitVec_and, h]
      exact BitVec.getLsbD_zero
    rw [BitVec.getLsbD_zero]
    revert a b
    cases m.toBitVec.getLsbD i <;> cases k.toBitVec.getLsbD i <;> simp
  unfold nf_M
  omega
-- ===== the reference: the laws of its rows =====
def FL (c : Int → Int) : Prop := rng (-2147483648) 2147483647 c
theorem FL_up {c : Int → Int} {k x : Int} (h : FL c) (x0 : -2147483648 ≤ x) (x1 : x ≤ 2147483647) : FL (upz c k x) := rng_up h x0 x1
theorem upz_n {c : Int → Int} {k j x : Int} (h : j ≠ k) : upz c k x j = c j := by simp only [upz]; rw [if_neg h]
def rgz (lo hi x : Int) (c : Int → Int) : Int → Int := fun j => if lo ≤ j ∧ j < hi then x else c j
theorem rgz_0 {lo hi x : Int} {c : Int → Int} (h : hi ≤ lo) : rgz lo hi x c = c := by
  funext j
  simp only [rgz]
  rw [if_neg (by omega)]
theorem rgz_s {lo k x : Int} {c : Int → Int} (h : lo ≤ k) : upz (rgz lo k x c) k x = rgz lo (k + 1) x c := by
  funext j
  simp only [upz, rgz]
  by_cases e : j = k
  · rw [if_pos e, if_pos (by omega)]
  · rw [if_neg e]
    by_cases q : lo ≤ j ∧ j < k
    · rw [if_pos q, if_pos (by omega)]
    · rw [if_neg q, if_neg (by omega)]
theorem FL_rg {lo hi x : Int} {c : Int → Int} (h : FL c) (x0 : -2147483648 ≤ x) (x1 : x ≤ 2147483647) : FL (rgz lo hi x c) := by
  intro j
  simp only [rgz]
  by_cases q : lo ≤ j ∧ j < hi
  · rw [if_pos q]; exact ⟨x0, x1⟩
  · rw [if_neg q]; exact h j
theorem cpz_0 {c d : Int → Int} {sp dp n : Int} (h : n ≤ 0) : cpz c d sp dp n = d := by
  funext j
  simp only [cpz]
  rw [if_neg (by omega)]
theorem cpz_s {c d : Int → Int} {sp dp k i x : Int} (h : 0 ≤ k) (hi : i = dp + k) (hx : x = c (sp + k)) : upz (cpz c d sp dp k) i x = cpz c d sp dp (k + 1) := by
  subst hi; subst hx
  funext j
  simp only [upz, cpz]
  by_cases e : j = dp + k
  · rw [if_pos e, if_pos (by omega)]
    congr 1
    omega
  · rw [if_neg e]
    by_cases q : dp ≤ j ∧ j < dp + k
    · rw [if_pos q, if_pos (by omega)]
    · rw [if_neg q, if_neg (by omega)]
theorem FL_cp {c d : Int → Int} {sp dp n : Int} (h : FL c) (h2 : FL d) : FL (cpz c d sp dp n) := rng_cp h h2
theorem cpz_i {c d : Int → Int} {sp dp n j : Int} (h : dp ≤ j) (h2 : j < dp + n) : cpz c d sp dp n j = c (sp + (j - dp)) := by simp only [cpz]; rw [if_pos ⟨h, h2⟩]
theorem cpz_o {c d : Int → Int} {sp dp n j : Int} (h : j < dp ∨ dp + n ≤ j) : cpz c d sp dp n j = d j := by simp only [cpz]; rw [if_neg (by omega)]
def nr (j x : Int) : Prop := (j = 0 → 0 ≤ x ∧ x ≤ 9) ∧ (j = 1 → 0 ≤ x ∧ x ≤ 3) ∧ (j = 3 → 2 ≤ x ∧ x ≤ 60) ∧ (57 ≤ j → j ≤ 74 → (-1) ≤ x ∧ x ≤ 8) ∧ (j = 88 → 0 ≤ x ∧ x ≤ 39)
/-- who is done up in whom, told twice -/
def inI (c : Int → Int) (o : Int) : Prop := ∀ p q : Int, 0 ≤ p → p ≤ 8 → 0 ≤ q → q ≤ 8 → c (o + p) = q → c (o + 9 + q) = p
def nok (k a x y : Int) : Prop := (a = 1 → 0 ≤ x ∧ x < k) ∧ (a = 2 ∨ a = 3 → 0 ≤ x ∧ x < k ∧ 0 ≤ y ∧ y < k) ∧ (a = 72 ∨ a = 73 → 0 ≤ x ∧ x ≤ 8)
def nsI (c : Int → Int) (b : Int) : Prop := ∀ k : Int, 0 ≤ k → k ≤ 59 → nok k (c (b + 4 * k)) (c (b + 4 * k + 1)) (c (b + 4 * k + 2))
def nowI (c : Int → Int) : Prop := FL c ∧ (∀ j, nr j (c j)) ∧ inI c 57 ∧ nsI c 89
theorem now_up {c : Int → Int} {k x : Int} (h : nowI c) (x0 : -2147483648 ≤ x) (x1 : x ≤ 2147483647) (hr : nr k x) (hk : k < 57 ∨ 74 < k) (hs : k < 89) : nowI (upz c k x) := by
  obtain ⟨h1, h2, h3, h4⟩ := h
  refine ⟨FL_up h1 x0 x1, fun j => ?_, fun p q a b d e f => ?_, fun j a b => ?_⟩
  · by_cases e : j = k
    · subst e; rw [upz_s]; exact hr
    · rw [upz_n e]; exact h2 j
  · rw [upz_n (by omega)] at f ⊢
    exact h3 p q a b d e f
  · rw [upz_n (by omega), upz_n (by omega), upz_n (by omega)]
    exact h4 j a b
theorem now_do {c : Int → Int} {p q : Int} (h : nowI c) (p0 : 0 ≤ p) (p1 : p ≤ 8) (q0 : 0 ≤ q) (q1 : q ≤ 8) (hb : c (66 + q) = -1) : nowI (upz (upz c (57 + p) q) (66 + q) p) := by
  obtain ⟨h1, h2, h3, h4⟩ := h
  refine ⟨FL_up (FL_up h1 (by omega) (by omega)) (by omega) (by omega), fun j => ?_, fun a b a0 a1 b0 b1 e => ?_, fun j a b => ?_⟩
  · by_cases e : j = 66 + q
    · subst e; rw [upz_s]; unfold nr; omega
    · rw [upz_n e]
      by_cases e2 : j = 57 + p
      · subst e2; rw [upz_s]; unfold nr; omega
      · rw [upz_n e2]; exact h2 j
  · rw [upz_n (by omega)] at e
    by_cases e2 : a = p
    · subst e2
      rw [upz_s] at e
      subst e
      rw [show (57 : Int) + 9 + q = 66 + q by omega, upz_s]
    · rw [upz_n (by omega)] at e
      have e3 := h3 a b a0 a1 b0 b1 e
      by_cases e4 : b = q
      · subst e4
        rw [show (57 : Int) + 9 + b = 66 + b by omega] at e3
        omega
      · rw [upz_n (by omega), upz_n (by omega)]; exact e3
  · rw [upz_n (by omega), upz_n (by omega), upz_n (by omega), upz_n (by omega), upz_n (by omega), upz_n (by omega)]
    exact h4 j a b
theorem now_out {c : Int → Int} {p i : Int} (h : nowI c) (p0 : 0 ≤ p) (p1 : p ≤ 8) (hi : i = 66 + c (57 + p)) : nowI (upz (upz c i (-1)) (57 + p) (-1)) := by
  obtain ⟨h1, h2, h3, h4⟩ := h
  have hr := (h2 (57 + p)).2.2.2.1 (by omega) (by omega)
  refine ⟨FL_up (FL_up h1 (by omega) (by omega)) (by omega) (by omega), fun j => ?_, fun a b a0 a1 b0 b1 e => ?_, fun j a b => ?_⟩
  · by_cases e : j = 57 + p
    · subst e; rw [upz_s]; unfold nr; omega
    · rw [upz_n e]
      by_cases e2 : j = i
      · subst e2; rw [upz_s]; unfold nr; omega
      · rw [upz_n e2]; exact h2 j
  · by_cases e2 : a = p
    · subst e2
      rw [upz_s] at e
      omega
    · rw [upz_n (by omega)] at e
      by_cases e5 : 57 + a = i
      · rw [← e5, upz_s] at e; omega
      · rw [upz_n e5] at e
        have e3 := h3 a b a0 a1 b0 b1 e
        rw [upz_n (by omega)]
        by_cases e4 : 57 + 9 + b = i
        · have e6 : c (57 + p) = b := by omega
          have e7 := h3 p b p0 p1 b0 b1 e6
          omega
        · rw [upz_n e4]; exact e3
  · rw [upz_n (by omega), upz_n (by omega), upz_n (by omega), upz_n (by omega), upz_n (by omega), upz_n (by omega)]
    exact h4 j a b
/-- what is so, as it is kept from place o on -/
def soI (c : Int → Int) (o : Int) : Prop := (∀ j, o + 4 ≤ j → j ≤ o + 21 → (-1) ≤ c j ∧ c j ≤ 8) ∧ inI c (o + 4)
theorem now_so {c : Int → Int} (h : nowI c) : soI c 53 := ⟨fun j a b => (h.2.1 j).2.2.2.1 (by omega) (by omega), h.2.2.1⟩
theorem so_cp {c d : Int → Int} {o u : Int} (h : soI c o) : soI (cpz c d o u 34) u := by
  refine ⟨fun j a b => ?_, fun p q a b e f g => ?_⟩
  · rw [cpz_i (by omega) (by omega)]; exact h.1 _ (by omega) (by omega)
  · rw [cpz_i (by omega) (by omega)] at g ⊢
    have := h.2 p q a b e f (by rw [← g]; congr 1; omega)
    rw [← this]; congr 1; omega
theorem so_ap {c d : Int → Int} {sp dp n u : Int} (h : soI d u) (hd : dp + n ≤ u + 4 ∨ u + 22 ≤ dp) : soI (cpz c d sp dp n) u := by
  refine ⟨fun j a b => ?_, fun p q a b e f g => ?_⟩
  · rw [cpz_o (by omega)]; exact h.1 _ a b
  · rw [cpz_o (by omega)] at g ⊢; exact h.2 p q a b e f g
theorem now_cp {c d : Int → Int} {o : Int} (hd : nowI d) (hc : soI c o) (hf : FL c) : nowI (cpz c d o 53 34) := by
  refine ⟨FL_cp hf hd.1, fun j => ?_, (so_cp hc).2, fun j a b => ?_⟩
  · by_cases e : 53 ≤ j ∧ j < 53 + 34
    · rw [cpz_i e.1 e.2]
      have h2 := hc.1 (o + (j - 53))
      unfold nr
      refine ⟨fun _ => by omega, fun _ => by omega, fun _ => by omega, fun _ _ => h2 (by omega) (by omega), fun _ => by omega⟩
    · rw [cpz_o (by omega)]; exact hd.2.1 j
  · rw [cpz_o (by omega), cpz_o (by omega), cpz_o (by omega)]; exact hd.2.2.2 j a b
theorem img_cp {c d : Int → Int} {o : Int} (hc : nowI c) (hf : FL d) : nowI (fun j => cpz c d 0 o 329 (o + j)) := by
  have key : ∀ j, 0 ≤ j → j ≤ 328 → cpz c d 0 o 329 (o + j) = c j := fun j a b => by
    rw [cpz_i (by omega) (by omega)]; congr 1; omega
  refine ⟨fun j => FL_cp hc.1 hf _, fun j => ?_, fun p q a b e f g => ?_, fun j a b => ?_⟩
  · by_cases e : 0 ≤ j ∧ j ≤ 328
    · show nr j (cpz c d 0 o 329 (o + j)); rw [key j e.1 e.2]; exact hc.2.1 j
    · unfold nr; omega
  · show cpz c d 0 o 329 (o + (57 + 9 + q)) = p
    rw [key _ (by omega) (by omega)]
    have g : cpz c d 0 o 329 (o + (57 + p)) = q := g
    rw [key _ (by omega) (by omega)] at g
    exact hc.2.2.1 p q a b e f g
  · show nok j (cpz c d 0 o 329 (o + (89 + 4 * j))) (cpz c d 0 o 329 (o + (89 + 4 * j + 1))) (cpz c d 0 o 329 (o + (89 + 4 * j + 2)))
    rw [key _ (by omega) (by omega), key _ (by omega) (by omega), key _ (by omega) (by omega)]
    exact hc.2.2.2 j a b
theorem img_ap {c d : Int → Int} {u o : Int} (h : nowI (fun j => d (u + j))) (hc : FL c) (hd : o + 329 ≤ u ∨ u + 329 ≤ o) (hf : FL d) : nowI (fun j => cpz c d 0 o 329 (u + j)) := by
  have key : ∀ j, 0 ≤ j → j ≤ 328 → cpz c d 0 o 329 (u + j) = d (u + j) := fun j a b => cpz_o (by omega)
  refine ⟨fun j => FL_cp hc hf _, fun j => ?_, fun p q a b e f g => ?_, fun j a b => ?_⟩
  · by_cases e : 0 ≤ j ∧ j ≤ 328
    · show nr j (cpz c d 0 o 329 (u + j)); rw [key j e.1 e.2]; exact h.2.1 j
    · unfold nr; omega
  · show cpz c d 0 o 329 (u + (57 + 9 + q)) = p
    rw [key _ (by omega) (by omega)]
    have g : cpz c d 0 o 329 (u + (57 + p)) = q := g
    rw [key _ (by omega) (by omega)] at g
    exact h.2.2.1 p q a b e f g
  · show nok j (cpz c d 0 o 329 (u + (89 + 4 * j))) (cpz c d 0 o 329 (u + (89 + 4 * j + 1))) (cpz c d 0 o 329 (u + (89 + 4 * j + 2)))
    rw [key _ (by omega) (by omega), key _ (by omega) (by omega), key _ (by omega) (by omega)]
    exact h.2.2.2 j a b
theorem res_cp {c d : Int → Int} {o : Int} (h : nowI (fun j => c (o + j))) (hf : FL c) (hd : FL d) : nowI (cpz c d o 0 329) := by
  have key : ∀ j, 0 ≤ j → j ≤ 328 → cpz c d o 0 329 j = c (o + j) := fun j a b => by
    rw [cpz_i (by omega) (by omega)]; congr 1; omega
  refine ⟨FL_cp hf hd, fun j => ?_, fun p q a b e f g => ?_, fun j a b => ?_⟩
  · by_cases e : 0 ≤ j ∧ j ≤ 328
    · rw [key j e.1 e.2]; exact h.2.1 j
    · unfold nr; omega
  · rw [key _ (by omega) (by omega)] at g ⊢
    exact h.2.2.1 p q a b e f g
  · rw [key _ (by omega) (by omega), key _ (by omega) (by omega), key _ (by omega) (by omega)]
    exact h.2.2.2 j a b
/-- the nodes of a sentence -/
def ndI (c : Int → Int) : Prop := FL c ∧ nsI c 0
theorem nd_s {c : Int → Int} {n w a b r : Int} (h : ndI c) (n0 : 0 ≤ n) (n1 : n ≤ 59) (hk : nok n w a b) (fw : -2147483648 ≤ w ∧ w ≤ 2147483647) (fa : -2147483648 ≤ a ∧ a ≤ 2147483647) (fb : -2147483648 ≤ b ∧ b ≤ 2147483647) (fr : -2147483648 ≤ r ∧ r ≤ 2147483647) {k : Int} (hk4 : k = 4 * n) : ndI (upz (upz (upz (upz c k w) (k + 1) a) (k + 2) b) (k + 3) r) := by
  subst hk4
  refine ⟨FL_up (FL_up (FL_up (FL_up h.1 fw.1 fw.2) fa.1 fa.2) fb.1 fb.2) fr.1 fr.2, fun j p q => ?_⟩
  by_cases e : j = n
  · subst e
    rw [upz_n (by omega), upz_n (by omega), upz_n (by omega), show (0 : Int) + 4 * j = 4 * j by omega, upz_s, upz_n (by omega), upz_n (by omega), upz_s, upz_n (by omega), upz_s]
    exact hk
  · rw [upz_n (by omega), upz_n (by omega), upz_n (by omega), upz_n (by omega), upz_n (by omega), upz_n (by omega), upz_n (by omega), upz_n (by omega), upz_n (by omega), upz_n (by omega), upz_n (by omega), upz_n (by omega)]
    exact h.2 j p q
theorem sen_cp {c d : Int → Int} {t : Int} (hd : nowI d) (hc : ndI c) (t0 : 0 ≤ t) (t1 : t ≤ 39) : nowI (cpz c (upz (upz d 87 1) 88 t) 0 89 240) := by
  have h1 : nowI (upz d 87 1) := now_up hd (by decide) (by decide) (by unfold nr; omega) (by omega) (by omega)
  have h2 : nowI (upz (upz d 87 1) 88 t) := now_up h1 (by omega) (by omega) (by unfold nr; omega) (by omega) (by omega)
  refine ⟨FL_cp hc.1 h2.1, fun j => ?_, fun p q a b e f g => ?_, fun j a b => ?_⟩
  · by_cases e : 89 ≤ j ∧ j < 89 + 240
    · unfold nr; omega
    · rw [cpz_o (by omega)]; exact h2.2.1 j
  · rw [cpz_o (by omega)] at g ⊢; exact h2.2.2.1 p q a b e f g
  · rw [cpz_i (by omega) (by omega), cpz_i (by omega) (by omega), cpz_i (by omega) (by omega)]
    have := hc.2 j a b
    rw [show (0 : Int) + (89 + 4 * j - 89) = 0 + 4 * j by omega, show (0 : Int) + (89 + 4 * j + 1 - 89) = 0 + 4 * j + 1 by omega, show (0 : Int) + (89 + 4 * j + 2 - 89) = 0 + 4 * j + 2 by omega]
    exact this
/-- the lines of a book -/
def lok (a x p q : Int) : Prop := 0 ≤ a ∧ a ≤ 3 ∧ (a ≤ 1 → 0 ≤ x ∧ x ≤ 2) ∧ (a = 2 → 0 ≤ x ∧ x ≤ 8) ∧ 0 ≤ p ∧ p ≤ 8 ∧ 0 ≤ q ∧ q ≤ 8
def lnI (c : Int → Int) : Prop := FL c ∧ ∀ k : Int, 0 ≤ k → k ≤ 39 → lok (c (4 * k)) (c (4 * k + 1)) (c (4 * k + 2)) (c (4 * k + 3))
theorem ln_s {c : Int → Int} {n w a b r k : Int} (h : lnI c) (n0 : 0 ≤ n) (n1 : n ≤ 39) (hk : lok w a b r) (fa : -2147483648 ≤ a ∧ a ≤ 2147483647) (hk4 : k = 4 * n) : lnI (upz (upz (upz (upz c k w) (k + 1) a) (k + 2) b) (k + 3) r) := by
  subst hk4
  obtain ⟨w0, w1, -, -, b0, b1, r0, r1⟩ := id hk
  refine ⟨FL_up (FL_up (FL_up (FL_up h.1 (by omega) (by omega)) fa.1 fa.2) (by omega) (by omega)) (by omega) (by omega), fun j p q => ?_⟩
  by_cases e : j = n
  · subst e
    rw [upz_n (by omega), upz_n (by omega), upz_n (by omega), upz_s, upz_n (by omega), upz_n (by omega), upz_s, upz_n (by omega), upz_s, upz_s]
    exact hk
  · rw [upz_n (by omega), upz_n (by omega), upz_n (by omega), upz_n (by omega), upz_n (by omega), upz_n (by omega), upz_n (by omega), upz_n (by omega), upz_n (by omega), upz_n (by omega), upz_n (by omega), upz_n (by omega), upz_n (by omega), upz_n (by omega), upz_n (by omega), upz_n (by omega)]
    exact h.2 j p q
-- ===== a city as it is read =====
def rr (j x : Int) : Prop := (j = 0 → 0 ≤ x ∧ x ≤ 9) ∧ (j = 1 → 0 ≤ x ∧ x ≤ 3) ∧ (j = 3 → 2 ≤ x ∧ x ≤ 60) ∧ (32 ≤ j → j ≤ 40 → (-1) ≤ x ∧ x ≤ 8)
def rdI (c : Int → Int) : Prop := FL c ∧ (∀ j, rr j (c j)) ∧ (∀ p q : Int, 0 ≤ p → p ≤ 8 → 0 ≤ q → q ≤ 8 → c (32 + p) = c (32 + q) → c (32 + p) ≠ -1 → p = q) ∧ ∀ p : Int, c 0 ≤ p → p ≤ 8 → c (32 + p) = -1
theorem rd_up {c : Int → Int} {k x : Int} (h : rdI c) (x0 : -2147483648 ≤ x) (x1 : x ≤ 2147483647) (hr : rr k x) (h0 : k = 0 → c 0 ≤ x) (hk : k < 32 ∨ 40 < k) : rdI (upz c k x) := by
  obtain ⟨h1, h2, h3, h4⟩ := h
  refine ⟨FL_up h1 x0 x1, fun j => ?_, fun p q a b d e f g => ?_, fun p a b => ?_⟩
  · by_cases e : j = k
    · subst e; rw [upz_s]; exact hr
    · rw [upz_n e]; exact h2 j
  · rw [upz_n (by omega)] at f g
    rw [upz_n (by omega)] at f
    exact h3 p q a b d e f g
  · have h0' := (h2 0).1 rfl
    by_cases e : k = 0
    · subst e
      rw [upz_s] at a
      have := h0 rfl
      rw [upz_n (by omega)]
      exact h4 p (by omega) b
    · rw [upz_n (by omega)] at a
      rw [upz_n (by omega)]
      exact h4 p a b
theorem rd_in {c : Int → Int} {a x : Int} (h : rdI c) (a0 : 0 ≤ a) (a1 : a < c 0) (x0 : 0 ≤ x) (x1 : x ≤ 8) (hn : ∀ p : Int, 0 ≤ p → p < c 0 → c (32 + p) ≠ x) : rdI (upz c (32 + a) x) := by
  obtain ⟨h1, h2, h3, h4⟩ := h
  have hc := (h2 0).1 rfl
  have hn' : ∀ p : Int, 0 ≤ p → p ≤ 8 → c (32 + p) ≠ x := fun p p0 p1 => by
    by_cases e : p < c 0
    · exact hn p p0 e
    · rw [h4 p (by omega) p1]; omega
  refine ⟨FL_up h1 (by omega) (by omega), fun j => ?_, fun p q p0 p1 q0 q1 f g => ?_, fun p b d => ?_⟩
  · by_cases e : j = 32 + a
    · subst e; rw [upz_s]; unfold rr; omega
    · rw [upz_n e]; exact h2 j
  · by_cases e : p = a
    · by_cases e2 : q = a
      · omega
      · subst e
        rw [upz_s, upz_n (by omega)] at f
        exact absurd f.symm (hn' q q0 q1)
    · rw [upz_n (by omega)] at f g
      by_cases e2 : q = a
      · subst e2
        rw [upz_s] at f
        exact absurd f (hn' p p0 p1)
      · rw [upz_n (by omega)] at f
        exact h3 p q p0 p1 q0 q1 f g
  · rw [upz_n (by omega)] at b
    rw [upz_n (by omega)]
    exact h4 p b d
theorem rd_start {c : Int → Int} (h : FL c) : rdI (upz (upz (rgz 32 41 (-1) (rgz 0 53 0 c)) 3 12) 4 1) := by
  have e : ∀ j, upz (upz (rgz 32 41 (-1) (rgz 0 53 0 c)) 3 12) 4 1 j = if j = 4 then 1 else if j = 3 then 12 else if 32 ≤ j ∧ j < 41 then -1 else if 0 ≤ j ∧ j < 53 then 0 else c j := fun j => rfl
  refine ⟨FL_up (FL_up (FL_rg (FL_rg h (by decide) (by decide)) (by decide) (by decide)) (by decide) (by decide)) (by decide) (by decide), fun j => ?_, fun p q a b d f g k => ?_, fun p a b => ?_⟩
  · rw [e]
    unfold rr
    split
    · omega
    · split
      · omega
      · split
        · omega
        · split
          · omega
          · refine ⟨fun _ => by omega, fun _ => by omega, fun _ => by omega, fun _ _ => by omega⟩
  · rw [e, if_neg (by omega), if_neg (by omega), if_pos (by omega)] at k
    exact absurd rfl k
  · rw [e, if_neg (by omega), if_neg (by omega), if_neg (by omega), if_pos (by omega)] at a
    rw [e, if_neg (by omega), if_neg (by omega), if_pos (by omega)]
theorem rgz_t {lo k k' x : Int} {c : Int → Int} (h : lo ≤ k) (hk : k' = k + 1) : upz (rgz lo k x c) k x = rgz lo k' x c := by rw [hk]; exact rgz_s h
theorem cpz_t {c d : Int → Int} {sp dp k k' i x : Int} (h : 0 ≤ k) (hk : k' = k + 1) (hi : i = dp + k) (hx : x = c (sp + k)) : upz (cpz c d sp dp k) i x = cpz c d sp dp k' := by rw [hk]; exact cpz_s h hi hx
theorem rd_cp {c d : Int → Int} (h : rdI c) (hd : FL d) : rdI (cpz c d 0 0 53) := by
  obtain ⟨h1, h2, h3, h4⟩ := h
  have key : ∀ j, 0 ≤ j → j < 53 → cpz c d 0 0 53 j = c j := fun j a b => by
    rw [cpz_i (by omega) (by omega)]; congr 1; omega
  refine ⟨FL_cp h1 hd, fun j => ?_, fun p q a b e f g k => ?_, fun p a b => ?_⟩
  · by_cases e : 0 ≤ j ∧ j < 53
    · rw [key j e.1 e.2]; exact h2 j
    · unfold rr; omega
  · rw [key _ (by omega) (by omega)] at g k
    rw [key _ (by omega) (by omega)] at g
    exact h3 p q a b e f g k
  · have := (h2 0).1 rfl
    rw [key 0 (by decide) (by decide)] at a
    rw [key _ (by omega) (by omega)]
    exact h4 p a b
theorem now_rd {c d : Int → Int} (h : rdI c) (hd : nowI d) : nowI (cpz c d 0 0 53) := by
  have key : ∀ j, 0 ≤ j → j < 53 → cpz c d 0 0 53 j = c j := fun j a b => by
    rw [cpz_i (by omega) (by omega)]; congr 1; omega
  refine ⟨FL_cp h.1 hd.1, fun j => ?_, fun p q a b e f g => ?_, fun j a b => ?_⟩
  · by_cases e : 0 ≤ j ∧ j < 53
    · rw [key j e.1 e.2]
      have r := h.2.1 j
      unfold rr at r
      unfold nr
      exact ⟨r.1, r.2.1, r.2.2.1, fun _ _ => by omega, fun _ => by omega⟩
    · rw [cpz_o (by omega)]; exact hd.2.1 j
  · rw [cpz_o (by omega)] at g ⊢; exact hd.2.2.1 p q a b e f g
  · rw [cpz_o (by omega), cpz_o (by omega), cpz_o (by omega)]; exact hd.2.2.2 j a b
/-- the first day of a city: who is in whom, nobody holds yet, loops as strong as told -/
def so2 (k : Int) (c : Int → Int) : Int → Int := fun j => if 57 ≤ j ∧ j < 57 + k then c (j - 25) else if 66 ≤ j ∧ j < 66 + k then -1 else if 75 ≤ j ∧ j < 75 + k then c (j - 52) else c j
theorem so2_0 {k : Int} {c : Int → Int} (h : k ≤ 0) : so2 k c = c := by
  funext j
  simp only [so2]
  rw [if_neg (by omega), if_neg (by omega), if_neg (by omega)]
theorem so2_lo {k j : Int} {c : Int → Int} (h : j < 57) : so2 k c j = c j := by
  simp only [so2]
  rw [if_neg (by omega), if_neg (by omega), if_neg (by omega)]
theorem so2_t {k k' a b d x y z : Int} {c : Int → Int} (k0 : 0 ≤ k) (k1 : k ≤ 8) (hk : k' = k + 1) (ha : a = 57 + k) (hx : x = c (32 + k)) (hb : b = 66 + k) (hy : y = -1) (hd : d = 75 + k) (hz : z = c (23 + k)) : upz (upz (upz (so2 k c) a x) b y) d z = so2 k' c := by
  subst hk; subst ha; subst hx; subst hb; subst hy; subst hd; subst hz
  funext j
  simp only [upz, so2]
  by_cases e1 : j = 75 + k
  · subst e1
    rw [if_pos rfl, if_neg (by omega), if_neg (by omega), if_pos (by omega)]; congr 1; omega
  · rw [if_neg e1]
    by_cases e2 : j = 66 + k
    · subst e2
      rw [if_pos rfl, if_neg (by omega), if_pos (by omega)]
    · rw [if_neg e2]
      by_cases e3 : j = 57 + k
      · subst e3
        rw [if_pos rfl, if_pos (by omega)]; congr 1; omega
      · rw [if_neg e3]
        by_cases q1 : 57 ≤ j ∧ j < 57 + k
        · rw [if_pos q1, if_pos (by omega)]
        · have q1' : ¬ (57 ≤ j ∧ j < 57 + (k + 1)) := by omega
          rw [if_neg q1, if_neg q1']
          by_cases q2 : 66 ≤ j ∧ j < 66 + k
          · have q2' : 66 ≤ j ∧ j < 66 + (k + 1) := by omega
            rw [if_pos q2, if_pos q2']
          · have q2' : ¬ (66 ≤ j ∧ j < 66 + (k + 1)) := by omega
            rw [if_neg q2, if_neg q2']
            by_cases q3 : 75 ≤ j ∧ j < 75 + k
            · have q3' : 75 ≤ j ∧ j < 75 + (k + 1) := by omega
              rw [if_pos q3, if_pos q3']
            · have q3' : ¬ (75 ≤ j ∧ j < 75 + (k + 1)) := by omega
              rw [if_neg q3, if_neg q3']
/-- up to k, who is in whom is told twice -/
def so3 (k : Int) (d : Int → Int) : Prop := FL d ∧ (∀ j, nr j (d j)) ∧ nsI d 89 ∧ (∀ p q : Int, 0 ≤ p → p ≤ 8 → 0 ≤ q → q ≤ 8 → d (57 + p) = d (57 + q) → d (57 + p) ≠ -1 → p = q) ∧ ∀ p q : Int, 0 ≤ p → p < k → 0 ≤ q → q ≤ 8 → d (57 + p) = q → d (66 + q) = p
theorem so3_now {k : Int} {d : Int → Int} (h : so3 k d) (hk : 9 ≤ k) : nowI d := ⟨h.1, h.2.1, fun p q a b e f g => by rw [show (57 : Int) + 9 + q = 66 + q by omega]; exact h.2.2.2.2 p q a (by omega) e f g, h.2.2.1⟩
theorem so3_no {k k' : Int} {d : Int → Int} (h : so3 k d) (hk : k' = k + 1) (hn : d (57 + k) = -1) : so3 k' d := by
  subst hk
  refine ⟨h.1, h.2.1, h.2.2.1, h.2.2.2.1, fun p q a b e f g => ?_⟩
  by_cases e2 : p = k
  · subst e2; omega
  · exact h.2.2.2.2 p q a (by omega) e f g
theorem so3_up {k k' i : Int} {d : Int → Int} (h : so3 k d) (hk : k' = k + 1) (k0 : 0 ≤ k) (k1 : k ≤ 8) (hn : ¬ d (57 + k) = -1) (hi : i = 66 + d (57 + k)) : so3 k' (upz d i k) := by
  subst hk
  have r := (h.2.1 (57 + k)).2.2.2.1 (by omega) (by omega)
  have key : ∀ p, 0 ≤ p → p ≤ 8 → upz d i k (57 + p) = d (57 + p) := fun p a b => upz_n (by omega)
  refine ⟨FL_up h.1 (by omega) (by omega), fun j => ?_, fun j a b => ?_, fun p q a b e f g u => ?_, fun p q a b e f g => ?_⟩
  · by_cases e : j = i
    · subst e; rw [upz_s]; unfold nr; omega
    · rw [upz_n e]; exact h.2.1 j
  · rw [upz_n (by omega), upz_n (by omega), upz_n (by omega)]; exact h.2.2.1 j a b
  · rw [key p a b] at g u
    rw [key q e f] at g
    exact h.2.2.2.1 p q a b e f g u
  · rw [key p a (by omega)] at g
    by_cases e2 : p = k
    · subst e2
      rw [show 66 + q = i by omega, upz_s]
    · by_cases e3 : 66 + q = i
      · have e4 : d (57 + p) = d (57 + k) := by omega
        have := h.2.2.2.1 p k a (by omega) k0 k1 e4 (by omega)
        exact absurd this e2
      · rw [upz_n e3]; exact h.2.2.2.2 p q a (by omega) e f g
theorem so3_0 {c : Int → Int} {x : Int} (hr : rdI c) (hn : nowI c) (x0 : -2147483648 ≤ x) (x1 : x ≤ 2147483647) : so3 0 (so2 9 (upz (rgz 53 329 0 c) 54 x)) := by
  have hF : FL (upz (rgz 53 329 0 c) 54 x) := FL_up (FL_rg hn.1 (by decide) (by decide)) x0 x1
  have lo : ∀ j, j < 53 → upz (rgz 53 329 0 c) 54 x j = c j := fun j h => by
    rw [upz_n (by omega)]; simp only [rgz]; rw [if_neg (by omega)]
  have hI : ∀ p, 0 ≤ p → p ≤ 8 → so2 9 (upz (rgz 53 329 0 c) 54 x) (57 + p) = c (32 + p) := fun p a b => by
    simp only [so2]; rw [if_pos (by omega), show 57 + p - 25 = 32 + p by omega]; exact lo _ (by omega)
  have hz : ∀ j, 89 ≤ j → j ≤ 328 → so2 9 (upz (rgz 53 329 0 c) 54 x) j = 0 := fun j a b => by
    simp only [so2]; rw [if_neg (by omega), if_neg (by omega), if_neg (by omega), upz_n (by omega)]; simp only [rgz]; rw [if_pos (by omega)]
  refine ⟨fun j => ?_, fun j => ?_, fun j a b => ?_, fun p q a b e f g u => ?_, fun p q a b e f g => by omega⟩
  · simp only [so2]
    split
    · exact hF _
    · split
      · decide
      · split
        · exact hF _
        · exact hF _
  · by_cases e1 : j < 53
    · rw [so2_lo (by omega), lo j e1]; exact hn.2.1 j
    · by_cases e2 : 57 ≤ j ∧ j ≤ 65
      · have e3 := hI (j - 57) (by omega) (by omega)
        rw [show 57 + (j - 57) = j by omega] at e3
        rw [e3]
        have r := (hr.2.1 (32 + (j - 57))).2.2.2 (by omega) (by omega)
        unfold nr; omega
      · by_cases e4 : 66 ≤ j ∧ j ≤ 74
        · have e5 : so2 9 (upz (rgz 53 329 0 c) 54 x) j = -1 := by simp only [so2]; rw [if_neg (by omega), if_pos (by omega)]
          rw [e5]; unfold nr; omega
        · by_cases e6 : j = 88
          · subst e6
            have e7 : so2 9 (upz (rgz 53 329 0 c) 54 x) 88 = 0 := by simp only [so2]; rw [if_neg (by omega), if_neg (by omega), if_neg (by omega), upz_n (by omega)]; simp only [rgz]; rw [if_pos (by omega)]
            rw [e7]; unfold nr; omega
          · unfold nr; omega
  · rw [hz _ (by omega) (by omega), hz _ (by omega) (by omega), hz _ (by omega) (by omega)]
    unfold nok; omega
  · rw [hI p a b] at g u
    rw [hI q e f] at g
    exact hr.2.2.1 p q a b e f g u
theorem so2_fl {k : Int} {c : Int → Int} (h : FL c) : FL (so2 k c) := by
  intro j
  simp only [so2]
  split
  · exact h _
  · split
    · decide
    · split
      · exact h _
      · exact h _
-- ===== what was kept for undo =====
def snI (c : Int → Int) (n : Int) : Prop := ∀ s : Int, 0 ≤ s → s < n → soI c (34 * s)
theorem sn_0 {c : Int → Int} {n : Int} (h : n ≤ 0) : snI c n := fun s a b => absurd b (by omega)
theorem sn_le {c : Int → Int} {n k : Int} (h : snI c n) (hk : k ≤ n) : snI c k := fun s a b => h s a (by omega)
theorem sn_sh {c : Int → Int} {n k m : Int} (h : snI c n) (hn : n = 8) (hk : k = 7) (hm : m = 238) : snI (cpz c c 34 0 m) k := by
  subst hn; subst hk; subst hm
  intro s a b
  have h1 := h (s + 1) (by omega) (by omega)
  refine ⟨fun j p q => ?_, fun p q p0 p1 q0 q1 g => ?_⟩
  · rw [cpz_i (by omega) (by omega)]; exact h1.1 _ (by omega) (by omega)
  · rw [cpz_i (by omega) (by omega)] at g ⊢
    have := h1.2 p q p0 p1 q0 q1 (by rw [← g]; congr 1; omega)
    rw [← this]; congr 1; omega
theorem sn_cp {c d : Int → Int} {n k u m : Int} (h : snI d n) (hc : nowI c) (hu : u = 34 * n) (hk : k = n + 1) (hm : m = 34) : snI (cpz c d 53 u m) k := by
  subst hu; subst hk; subst hm
  intro s a b
  by_cases e : s = n
  · subst e; exact so_cp (now_so hc)
  · exact so_ap (h s a (by omega)) (by omega)
theorem now_cpu {c d : Int → Int} {n o m : Int} (hd : nowI d) (hc : soI c o) (hf : FL c) (hm : m = 34) : nowI (cpz c d o 53 m) := by subst hm; exact now_cp hd hc hf
-- ===== images =====
def kpI (c : Int → Int) (i : Int → Int) : Prop := ∀ k : Int, 0 ≤ k → k ≤ 1 → i k = 1 → nowI (fun j => c (329 * k + j))
theorem kp_img {c d i : Int → Int} {k u : Int} (h : kpI d i) (hc : nowI c) (hf : FL d) (k0 : 0 ≤ k) (k1 : k ≤ 1) (hu : u = 329 * k) : kpI (cpz c d 0 u 329) (upz i k 1) := by
  subst hu
  intro j a b g
  by_cases e : j = k
  · subst e; exact img_cp hc hf
  · rw [upz_n e] at g
    exact img_ap (h j a b g) hc.1 (by omega) hf
-- ===== swaps =====
def swz (c d : Int → Int) (k : Int) : Int → Int := fun j => if 53 ≤ j ∧ j < 53 + k then d (j - 53) else c j
theorem ln_op {c : Int → Int} {n x i : Int} (h : lnI c) (n0 : 0 ≤ n) (n1 : n ≤ 39) (hi : i = 4 * n) (x0 : 0 ≤ x) (x1 : x ≤ 1) (hx : 0 ≤ c (i + 1) ∧ c (i + 1) ≤ 2) : lnI (upz c i x) := by
  subst hi
  have l := h.2 n n0 n1
  refine ⟨FL_up h.1 (by omega) (by omega), fun j p q => ?_⟩
  by_cases e : j = n
  · subst e
    rw [upz_s, upz_n (by omega), upz_n (by omega), upz_n (by omega)]
    unfold lok at l ⊢
    omega
  · rw [upz_n (by omega), upz_n (by omega), upz_n (by omega), upz_n (by omega)]; exact h.2 j p q
theorem ln_x {c : Int → Int} {n x i : Int} (h : lnI c) (n0 : 0 ≤ n) (n1 : n ≤ 39) (hi : i = 4 * n + 1) (x0 : -2147483648 ≤ x) (x1 : x ≤ 2147483647) (hx : c (4 * n) = 3 ∨ c (4 * n) = 2 ∧ 0 ≤ x ∧ x ≤ 8) : lnI (upz c i x) := by
  subst hi
  have l := h.2 n n0 n1
  refine ⟨FL_up h.1 x0 x1, fun j p q => ?_⟩
  by_cases e : j = n
  · subst e
    rw [upz_s, upz_n (by omega), upz_n (by omega), upz_n (by omega)]
    unfold lok at l ⊢
    omega
  · rw [upz_n (by omega), upz_n (by omega), upz_n (by omega), upz_n (by omega)]; exact h.2 j p q
theorem ln_p {c : Int → Int} {n x i : Int} (h : lnI c) (n0 : 0 ≤ n) (n1 : n ≤ 39) (hi : i = 4 * n + 2) (x0 : 0 ≤ x) (x1 : x ≤ 8) : lnI (upz c i x) := by
  subst hi
  have l := h.2 n n0 n1
  refine ⟨FL_up h.1 (by omega) (by omega), fun j p q => ?_⟩
  by_cases e : j = n
  · subst e
    rw [upz_s, upz_n (by omega), upz_n (by omega), upz_n (by omega)]
    unfold lok at l ⊢
    omega
  · rw [upz_n (by omega), upz_n (by omega), upz_n (by omega), upz_n (by omega)]; exact h.2 j p q
theorem ln_q {c : Int → Int} {n x i : Int} (h : lnI c) (n0 : 0 ≤ n) (n1 : n ≤ 39) (hi : i = 4 * n + 3) (x0 : 0 ≤ x) (x1 : x ≤ 8) : lnI (upz c i x) := by
  subst hi
  have l := h.2 n n0 n1
  refine ⟨FL_up h.1 (by omega) (by omega), fun j p q => ?_⟩
  by_cases e : j = n
  · subst e
    rw [upz_s, upz_n (by omega), upz_n (by omega), upz_n (by omega)]
    unfold lok at l ⊢
    omega
  · rw [upz_n (by omega), upz_n (by omega), upz_n (by omega), upz_n (by omega)]; exact h.2 j p q
-- ===== chains =====
theorem php : ∀ (n : Nat) (f : Nat → Nat), (∀ i, i ≤ n → f i < n) → ∃ i j, i < j ∧ j ≤ n ∧ f i = f j := by
  intro n
  induction n with
  | zero => intro f h; exact absurd (h 0 (Nat.le_refl 0)) (Nat.not_lt_zero _)
  | succ n ih =>
    intro f h
    by_cases e : ∃ i, i ≤ n ∧ f i = f (n + 1)
    · obtain ⟨i, hi, he⟩ := e
      exact ⟨i, n + 1, by omega, Nat.le_refl _, he⟩
    · have hv := h (n + 1) (Nat.le_refl _)
      have ne : ∀ i, i ≤ n → f i ≠ f (n + 1) := fun i hi he => e ⟨i, hi, he⟩
      obtain ⟨i, j, h1, h2, h3⟩ := ih (fun i => if f i < f (n + 1) then f i else f i - 1) (fun i hi => by
        have a := h i (by omega)
        have b := ne i hi
        show (if f i < f (n + 1) then f i else f i - 1) < n
        split <;> omega)
      refine ⟨i, j, h1, by omega, ?_⟩
      have a := ne i (by omega)
      have b := ne j (by omega)
      have h3 : (if f i < f (n + 1) then f i else f i - 1) = if f j < f (n + 1) then f j else f j - 1 := h3
      split at h3 <;> split at h3 <;> omega
def chn (c : Int → Int) (p : Int) (k : Nat) (q : Int) : Prop := ∃ f : Nat → Int, f 0 = p ∧ f (k + 1) = q ∧ (∀ i, i ≤ k → 0 ≤ f i ∧ f i ≤ 8 ∧ c (57 + f i) = f (i + 1)) ∧ ∀ i, 1 ≤ i → i ≤ k → f i ≠ p
theorem chn_0 {c : Int → Int} {p : Int} (p0 : 0 ≤ p) (p1 : p ≤ 8) : chn c p 0 (c (57 + p)) := by
  refine ⟨fun i => if i = 0 then p else c (57 + p), rfl, rfl, fun i hi => ?_, fun i a b => by omega⟩
  have e : i = 0 := by omega
  subst e
  exact ⟨p0, p1, rfl⟩
theorem chn_s {c : Int → Int} {p q : Int} {k : Nat} (h : chn c p k q) (q0 : 0 ≤ q) (q1 : q ≤ 8) (hq : ¬ q = p) : chn c p (k + 1) (c (57 + q)) := by
  obtain ⟨f, h0, h1, h2, h3⟩ := h
  refine ⟨fun i => if i ≤ k + 1 then f i else c (57 + q), ?_, ?_, fun i hi => ?_, fun i a b => ?_⟩
  · show (if 0 ≤ k + 1 then f 0 else _) = p
    rw [if_pos (by omega)]; exact h0
  · show (if k + 1 + 1 ≤ k + 1 then _ else c (57 + q)) = c (57 + q)
    rw [if_neg (by omega)]
  · show 0 ≤ (if i ≤ k + 1 then f i else c (57 + q)) ∧ (if i ≤ k + 1 then f i else c (57 + q)) ≤ 8 ∧ c (57 + (if i ≤ k + 1 then f i else c (57 + q))) = if i + 1 ≤ k + 1 then f (i + 1) else c (57 + q)
    rw [if_pos hi]
    by_cases e : i ≤ k
    · rw [if_pos (by omega)]; exact h2 i e
    · have e2 : i = k + 1 := by omega
      subst e2
      rw [if_neg (by omega), h1]
      exact ⟨q0, q1, rfl⟩
  · show (if i ≤ k + 1 then f i else c (57 + q)) ≠ p
    rw [if_pos b]
    by_cases e : i ≤ k
    · exact h3 i a e
    · have e2 : i = k + 1 := by omega
      subst e2
      rw [h1]; exact hq
theorem chn_b {c : Int → Int} {f : Nat → Int} {k : Nat} (hI : inI c 57) (h2 : ∀ i, i ≤ k → 0 ≤ f i ∧ f i ≤ 8 ∧ c (57 + f i) = f (i + 1)) : ∀ i j, i < j → j ≤ k → f i = f j → f 0 = f (j - i) := by
  intro i
  induction i with
  | zero => intro j _ _ h; exact h
  | succ i ih =>
    intro j hj hk h
    obtain ⟨j', rfl⟩ : ∃ j', j = j' + 1 := ⟨j - 1, by omega⟩
    have a := h2 i (by omega)
    have b := h2 j' (by omega)
    have a1 := h2 (i + 1) (by omega)
    have b1 := h2 (j' + 1) hk
    have e1 := hI (f i) (f (i + 1)) a.1 a.2.1 a1.1 a1.2.1 a.2.2
    have e2 := hI (f j') (f (j' + 1)) b.1 b.2.1 b1.1 b1.2.1 b.2.2
    rw [← h] at e2
    have e3 := ih j' (by omega) (by omega) (e1.symm.trans e2)
    rw [show j' + 1 - (i + 1) = j' - i by omega]
    exact e3
theorem chn_le {c : Int → Int} {p q : Int} {k : Nat} (h : chn c p k q) (hI : inI c 57) : k ≤ 8 := by
  obtain ⟨f, h0, h1, h2, h3⟩ := h
  apply Nat.le_of_not_lt
  intro hk
  obtain ⟨i, j, a, b, e⟩ := php 9 (fun i => (f i).toNat) (fun i hi => by have := h2 i (by omega); show (f i).toNat < 9; omega)
  have e' : (f i).toNat = (f j).toNat := e
  have x := h2 i (by omega)
  have y := h2 j (by omega)
  have z := chn_b hI h2 i j a (by omega) (by omega)
  exact h3 (j - i) (by omega) (by omega) (z.symm.trans h0)
theorem chn_lt {c : Int → Int} {p q z : Int} (h : chn c p z.toNat q) (hI : inI c 57) (z0 : 0 ≤ z) (q0 : 0 ≤ q) (q1 : q ≤ 8) (hq : ¬ q = p) : z ≤ 7 := by
  have := chn_le (chn_s h q0 q1 hq) hI
  omega
theorem chn_t {c : Int → Int} {p q z : Int} (h : chn c p z.toNat q) (z0 : 0 ≤ z) (q0 : 0 ≤ q) (q1 : q ≤ 8) (hq : ¬ q = p) : chn c p (z + 1).toNat (c (57 + q)) := by
  rw [show (z + 1).toNat = z.toNat + 1 by omega]
  exact chn_s h q0 q1 hq
-- ===== sets as bits =====
def hb (s : Int32) (k : Int) : Prop := ((s >>> (iI k &&& 31)) &&& iI 1) = iI 1
theorem bt1 : ∀ i, i < 32 → bt (1 : Int32) i = decide (i = 0) := by decide +kernel
theorem hb_n {s : Int32} {q : Int} (q0 : 0 ≤ q) (q1 : q ≤ 8) (h : ¬ hb s q) : nf_M (s ||| (iI 1 <<< (iI q &&& 31))) < nf_M s := by
  obtain ⟨n, rfl⟩ : ∃ n : Nat, q = n := ⟨q.toNat, by omega⟩
  have en : iI (n : Int) = nI n := by rw [iI, Int32.ofInt_eq_ofNat]; rfl
  have e1 : iI 1 = (1 : Int32) := by decide +kernel
  unfold hb at h
  rw [en, e1] at h
  rw [en, e1]
  have hb0 : bt s n = false := by
    cases hq : bt s n with
    | false => rfl
    | true =>
      exfalso
      apply h
      apply b_ext
      intro i hi
      rw [b_and, b_sshr n (by omega) s hi, bt1 i hi]
      by_cases e : i = 0
      · subst e
        rw [if_pos (by omega)]
        simp [hq]
      · simp [e]
  apply nf_gr
  · apply b_ext
    intro i hi
    rw [b_and, b_shl n (by omega) 1 hi, b_0]
    by_cases e : i = n
    · subst e
      rw [hb0]
      rfl
    · by_cases e2 : n ≤ i
      · rw [bt1 (i - n) (by omega)]
        have e3 : ¬ (i - n = 0) := by omega
        simp [e3]
      · simp [e2]
  · intro hz
    have e4 := nf_sh n (by omega)
    rw [hz] at e4
    exact nf_tp n (by omega) e4.symm
-- ===== who was looked at =====
def cn (f : Int → Int) : Nat := ((List.range 9).filter (fun (j : Nat) => !decide (f (j : Int) = 1))).length
def sb (f g : Int → Int) : Prop := ∀ j, f j = 1 → g j = 1
theorem sb_r {f : Int → Int} : sb f f := fun _ h => h
theorem sb_t {f g h : Int → Int} (a : sb f g) (b : sb g h) : sb f h := fun j x => b j (a j x)
theorem sb_u {f g : Int → Int} {k : Int} (a : sb f g) : sb f (upz g k 1) := fun j x => by
  simp only [upz]
  split
  · rfl
  · exact a j x
theorem fl_le {l : List Nat} {p q : Nat → Bool} (h : ∀ j ∈ l, p j = true → q j = true) : (l.filter p).length ≤ (l.filter q).length := by
  induction l with
  | nil => exact Nat.le_refl _
  | cons a l ih =>
    have ih' := ih (fun j hj => h j (List.mem_cons_of_mem _ hj))
    have ha := h a List.mem_cons_self
    simp only [List.filter_cons]
    cases hp : p a with
    | false =>
      cases hq : q a with
      | false => simpa using ih'
      | true => simp only [Bool.false_eq_true, if_false, if_true, List.length_cons]; omega
    | true =>
      rw [ha hp]
      simp only [if_true, List.length_cons]
      omega
theorem fl_lt {l : List Nat} {p q : Nat → Bool} {x : Nat} (h : ∀ j ∈ l, p j = true → q j = true) (hx : x ∈ l) (hq : q x = true) (hp : p x = false) : (l.filter p).length < (l.filter q).length := by
  induction l with
  | nil => cases hx
  | cons a l ih =>
    have hl : ∀ j ∈ l, p j = true → q j = true := fun j hj => h j (List.mem_cons_of_mem _ hj)
    simp only [List.filter_cons]
    rcases List.mem_cons.mp hx with e | e
    · subst e
      rw [hp, hq]
      have := fl_le hl
      simp only [Bool.false_eq_true, if_false, if_true, List.length_cons]
      omega
    · have ih' := ih hl e
      have ha := h a List.mem_cons_self
      cases hpa : p a with
      | false =>
        cases hqa : q a with
        | false => simpa using ih'
        | true => simp only [Bool.false_eq_true, if_false, if_true, List.length_cons]; omega
      | true =>
        rw [ha hpa]
        simp only [if_true, List.length_cons]
        omega
theorem cn_9 (f : Int → Int) : cn f ≤ 9 := by
  have h := List.length_filter_le (fun j => !decide (f ((j : Nat) : Int) = 1)) (List.range 9)
  simpa [cn] using h
theorem cn_m {f g : Int → Int} (h : sb f g) : cn g ≤ cn f := fl_le (fun j _ hj => by
  simp only [Bool.not_eq_true', decide_eq_false_iff_not] at hj ⊢
  exact fun e => hj (h _ e))
theorem cn_u {f : Int → Int} {k : Int} (k0 : 0 ≤ k) (k1 : k ≤ 8) (h : ¬ f k = 1) : cn (upz f k 1) < cn f := by
  refine fl_lt (x := k.toNat) (fun j _ hj => ?_) (List.mem_range.mpr (by omega)) ?_ ?_
  · simp only [Bool.not_eq_true', decide_eq_false_iff_not] at hj ⊢
    exact fun e => hj (sb_u sb_r _ e)
  · simp only [Bool.not_eq_true', decide_eq_false_iff_not]
    rw [Int.toNat_of_nonneg k0]; exact h
  · simp only [Bool.not_eq_false', decide_eq_true_eq]
    rw [Int.toNat_of_nonneg k0, upz_s]
-- ===== words as numbers =====
theorem l27 {y : Int64} {M : Int} (h : ¬ lg_cmp y 27 < 0) (hM : y.toInt < 27 * M) : (y / 27).toInt < M := by
  have h1 : (27 : Int64) ≤ y := (lg_cmp_ge y 27).mp (Int32.not_lt.mp h)
  have h2 : (27 : Int64).toInt = 27 := by decide
  rw [Int64.le_iff_toInt_le, h2] at h1
  rw [Int64.toInt_div_of_ne_right _ _ (by decide), h2, Int.tdiv_eq_ediv_of_nonneg (by omega)]
  omega
theorem l27n {y : Int64} (h : ¬ lg_cmp y 27 < 0) : 27 ≤ y.toInt := by
  have h1 : (27 : Int64) ≤ y := (lg_cmp_ge y 27).mp (Int32.not_lt.mp h)
  have h2 : (27 : Int64).toInt = 27 := by decide
  rw [Int64.le_iff_toInt_le, h2] at h1
  exact h1
theorem l63 (y : Int64) : y.toInt < 109418989131512359209 := Int.lt_of_lt_of_le y.toInt_lt (by decide)
