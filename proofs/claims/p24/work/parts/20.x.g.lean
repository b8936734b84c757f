-- ===== ways through streets: bits =====
theorem tb_bt {x j : Int} (j0 : 0 ≤ j) (j1 : j ≤ 8) : tb x j = 1 ↔ bt (iI x) j.toNat = true := by
  obtain ⟨n, rfl⟩ : ∃ n : Nat, j = n := ⟨j.toNat, by omega⟩
  have en : iI (n : Int) = nI n := by rw [iI, Int32.ofInt_eq_ofNat]; rfl
  have e1 : iI 1 = (1 : Int32) := by decide +kernel
  unfold tb
  rw [en, e1, Int.toNat_natCast]
  cases hq : bt (iI x) n with
  | true =>
    have e : (iI x >>> (nI n &&& 31)) &&& 1 = (1 : Int32) := by
      apply b_ext
      intro i hi
      rw [b_and, b_sshr n (by omega) (iI x) hi, bt1 i hi]
      by_cases e : i = 0
      · subst e
        rw [if_pos (by omega)]
        simp [hq]
      · simp [e]
    rw [e]
    exact ⟨fun _ => rfl, fun _ => by decide +kernel⟩
  | false =>
    have e : (iI x >>> (nI n &&& 31)) &&& 1 = (0 : Int32) := by
      apply b_ext
      intro i hi
      rw [b_and, b_sshr n (by omega) (iI x) hi, bt1 i hi, b_0]
      by_cases e : i = 0
      · subst e
        rw [if_pos (by omega)]
        simp [hq]
      · simp [e]
    rw [e]
    exact ⟨fun h => absurd h (by decide +kernel), fun h => absurd h (by decide)⟩
theorem b_xor (x y : Int32) (i : Nat) : bt (x ^^^ y) i = (bt x i ^^ bt y i) := by unfold bt; rw [Int32.toBitVec_xor, BitVec.getLsbD_xor]
theorem btm : ∀ i, i < 32 → bt (iI (-1)) i = true := by decide +kernel
theorem tb_or {x y z j : Int} (hz : z = (iI x ||| iI y).toInt) (j0 : 0 ≤ j) (j1 : j ≤ 8) : tb z j = 1 ↔ tb x j = 1 ∨ tb y j = 1 := by
  rw [tb_bt (x := z) j0 j1, tb_bt (x := x) j0 j1, tb_bt (x := y) j0 j1, hz, iI_x, b_or, Bool.or_eq_true_iff]
theorem tb_and {x y z j : Int} (hz : z = (iI x &&& iI y).toInt) (j0 : 0 ≤ j) (j1 : j ≤ 8) : tb z j = 1 ↔ tb x j = 1 ∧ tb y j = 1 := by
  rw [tb_bt (x := z) j0 j1, tb_bt (x := x) j0 j1, tb_bt (x := y) j0 j1, hz, iI_x, b_and, Bool.and_eq_true_iff]
theorem tb_not {y w j : Int} (hw : iI w = (iI y ^^^ iI (-1))) (j0 : 0 ≤ j) (j1 : j ≤ 8) : tb w j = 1 ↔ ¬ tb y j = 1 := by
  rw [tb_bt (x := w) j0 j1, tb_bt (x := y) j0 j1, hw, b_xor, btm j.toNat (by omega)]
  cases bt (iI y) j.toNat <;> decide
theorem tb_0 {j : Int} (j0 : 0 ≤ j) (j1 : j ≤ 8) : ¬ tb 0 j = 1 := by
  rw [tb_bt j0 j1, show iI 0 = (0 : Int32) by decide +kernel, b_0]
  decide
theorem sh_all : (List.range 9).all (fun q => (List.range 9).all (fun j => decide (tb (iI 1 <<< (iI (q : Int) &&& 31)).toInt (j : Int) = 1 ↔ j = q))) = true := by decide +kernel
theorem tb_shl {q z j : Int} (hz : z = (iI 1 <<< (iI q &&& 31)).toInt) (q0 : 0 ≤ q) (q1 : q ≤ 8) (j0 : 0 ≤ j) (j1 : j ≤ 8) : tb z j = 1 ↔ j = q := by
  have h := of_decide_eq_true (List.all_eq_true.mp (List.all_eq_true.mp sh_all q.toNat (List.mem_range.mpr (by omega))) j.toNat (List.mem_range.mpr (by omega)))
  rw [Int.toNat_of_nonneg q0, Int.toNat_of_nonneg j0, ← hz] at h
  rw [h]
  omega
theorem tb_orb {x b j : Int} (b0 : 0 ≤ b) (b1 : b ≤ 8) (j0 : 0 ≤ j) (j1 : j ≤ 8) : tb (orb x b) j = 1 ↔ tb x j = 1 ∨ j = b := by
  have e : orb x b = (iI x ||| iI (iI 1 <<< (iI b &&& 31)).toInt).toInt := by rw [iI_x]; rfl
  rw [tb_or e j0 j1, tb_shl rfl b0 b1 j0 j1]
theorem tf_all : (List.range 512).all (fun x => (List.range 9).all (fun j => decide (tb (x : Int) (j : Int) = 1 ↔ bitF (x : Int) (j : Int) = true))) = true := by decide +kernel
theorem tf {x j : Int} (x0 : 0 ≤ x) (x1 : x ≤ 511) (j0 : 0 ≤ j) (j1 : j ≤ 8) : tb x j = 1 ↔ bitF x j = true := by
  have h := of_decide_eq_true (List.all_eq_true.mp (List.all_eq_true.mp tf_all x.toNat (List.mem_range.mpr (by omega))) j.toNat (List.mem_range.mpr (by omega)))
  rw [Int.toNat_of_nonneg x0, Int.toNat_of_nonneg j0] at h
  exact h
theorem slL_no {g : Int → Bool} : ∀ m : Nat, slL g m = -1 → ∀ i : Nat, i < m → ¬ g (i : Int) = true := by
  intro m
  induction m with
  | zero => intro _ i hi; omega
  | succ m ih =>
    intro h i hi
    rw [slL] at h
    by_cases q : slL g m = -1
    · rw [if_pos q] at h
      by_cases e : g (m : Int) = true
      · rw [if_pos e] at h; omega
      · by_cases c : i = m
        · rw [c]; exact e
        · exact ih q i (by omega)
    · rw [if_neg q] at h; exact absurd h q
theorem slL_w {g : Int → Bool} : ∀ (m : Nat) (r : Int), slL g m = r → ¬ r = -1 → g r = true ∧ ∀ z : Int, 0 ≤ z → z < r → ¬ g z = true := by
  intro m
  induction m with
  | zero => intro r h hr; exact absurd h.symm hr
  | succ m ih =>
    intro r h hr
    rw [slL] at h
    by_cases q : slL g m = -1
    · rw [if_pos q] at h
      by_cases e : g (m : Int) = true
      · rw [if_pos e] at h
        rw [← h]
        refine ⟨e, fun z z0 z1 => ?_⟩
        have w := slL_no m q z.toNat (by omega)
        rw [Int.toNat_of_nonneg z0] at w
        exact w
      · rw [if_neg e] at h; exact absurd h.symm hr
    · rw [if_neg q] at h; exact ih r h hr
def foQ (x r : Int) : Prop := ¬ x = 0 → 0 ≤ r ∧ r ≤ 8 ∧ tb x r = 1 ∧ ∀ z : Int, 0 ≤ z → z < r → ¬ tb x z = 1
theorem fo_x {x r : Int} (x0 : 0 ≤ x) (x1 : x ≤ 511) (r0 : 0 ≤ r) (r1 : r ≤ 8) (hr : r = slL (bitF x) 10) : foQ x r := by
  intro _
  obtain ⟨c, d⟩ := slL_w 10 r hr.symm (by omega)
  exact ⟨r0, r1, (tf x0 x1 r0 r1).mpr c, fun z z0 z1 h => d z z0 z1 ((tf x0 x1 z0 (by omega)).mp h)⟩
-- ===== how far =====
def wR (g : Int → Int) (q : Int) : Nat → Int → Prop
  | 0, a => a = q
  | k + 1, a => wR g q k a ∨ ∃ b : Int, 0 ≤ b ∧ b ≤ 8 ∧ tb (g a) b = 1 ∧ wR g q k b
def wDs (g : Int → Int) (q a d : Int) : Prop := 0 ≤ d ∧ wR g q d.toNat a ∧ ∀ k : Nat, (k : Int) < d → ¬ wR g q k a
def lst (g : Int → Int) (q a d y : Int) : Prop := (0 ≤ y ∧ y ≤ 8 ∧ tb (g a) y = 1 ∧ wDs g q y d) ∧ ∀ z : Int, 0 ≤ z → z < y → ¬ (tb (g a) z = 1 ∧ wDs g q z d)
def wPt (g : Int → Int) (q p D : Int) (pt : Int → Int) : Prop := pt 0 = p ∧ ∀ k : Int, 0 ≤ k → k < D → lst g q (pt k) (D - k - 1) (pt (k + 1))
def fiQ (g : Int → Int) (q p r : Int) (pt pt' : Int → Int) (n n' : Int) : Prop := (r = -1 ∧ (∀ d : Int, 0 ≤ d → d ≤ 8 → ¬ wDs g q p d) ∧ pt' = pt ∧ n' = n) ∨ (0 ≤ r ∧ r ≤ 8 ∧ wDs g q p r ∧ wPt g q p r pt' ∧ n' = r + 1)
def wyQ (g : Int → Int) (P p q r : Int) (pt pt' : Int → Int) (n n' : Int) : Prop := ((p < 0 ∨ P ≤ p ∨ q < 0 ∨ P ≤ q) ∧ r = -1 ∧ pt' = pt ∧ n' = n) ∨ ((0 ≤ p ∧ p < P ∧ 0 ≤ q ∧ q < P) ∧ fiQ g q p r pt pt' n n')
def waQ (r k n : Int) (pt : Int → Int) : Prop := (0 ≤ k ∧ k < n ∧ r = pt k) ∨ ((k < 0 ∨ n ≤ k) ∧ r = -1)
def paI (pt : Int → Int) (n : Int) (pu : Int → Int) (m : Int) : Prop := m = n ∧ ∀ k : Int, 0 ≤ k → k < n → pu k = pt k
section Ws
variable {g g' : Int → Int} {q a d d' p P : Int}
theorem wDs_u (h : wDs g q a d) (h' : wDs g q a d') : d = d' := by
  obtain ⟨a0, a1, a2⟩ := h
  obtain ⟨b0, b1, b2⟩ := h'
  by_cases c : d < d'
  · exact absurd a1 (b2 d.toNat (by omega))
  · by_cases c2 : d' < d
    · exact absurd b1 (a2 d'.toNat (by omega))
    · omega
theorem wR_m {j : Nat} : ∀ k : Nat, j ≤ k → wR g q j a → wR g q k a := by
  intro k
  induction k with
  | zero => intro h w; rw [show j = 0 by omega] at w; exact w
  | succ k ih =>
    intro h w
    by_cases c : j = k + 1
    · rw [c] at w; exact w
    · exact Or.inl (ih (by omega) w)
theorem wDs_q : wDs g q q 0 := ⟨Int.le_refl 0, rfl, fun k hk => absurd hk (by omega)⟩
theorem wDs_0 (h : wDs g q a 0) : a = q := h.2.1
theorem wR_d : ∀ k : Nat, wR g q k a → ∃ d : Int, 0 ≤ d ∧ d ≤ (k : Int) ∧ wDs g q a d := by
  intro k
  induction k with
  | zero => intro h; exact ⟨0, Int.le_refl 0, Int.le_refl 0, Int.le_refl 0, h, fun k hk => absurd hk (by omega)⟩
  | succ k ih =>
    intro h
    by_cases c : wR g q k a
    · obtain ⟨d, d0, d1, e⟩ := ih c
      exact ⟨d, d0, by omega, e⟩
    · refine ⟨((k + 1 : Nat) : Int), by omega, Int.le_refl _, by omega, ?_, fun j hj w => c (wR_m k (by omega) w)⟩
      rw [Int.toNat_natCast]
      exact h
theorem wDs_s (h : wDs g q a d) (hd : 1 ≤ d) : ∃ b : Int, 0 ≤ b ∧ b ≤ 8 ∧ tb (g a) b = 1 ∧ wDs g q b (d - 1) := by
  obtain ⟨d0, h1, h2⟩ := h
  rw [show d.toNat = (d - 1).toNat + 1 by omega] at h1
  have h3 : wR g q (d - 1).toNat a ∨ ∃ b : Int, 0 ≤ b ∧ b ≤ 8 ∧ tb (g a) b = 1 ∧ wR g q (d - 1).toNat b := h1
  rcases h3 with h3 | ⟨b, b0, b1, hE, hb⟩
  · exact absurd h3 (h2 (d - 1).toNat (by omega))
  · exact ⟨b, b0, b1, hE, by omega, hb, fun k hk w => h2 (k + 1) (by omega) (Or.inr ⟨b, b0, b1, hE, w⟩)⟩
theorem wDs_k : ∀ (m : Nat) (a d : Int), 0 ≤ a → a ≤ 8 → 0 ≤ d → wDs g q a (d + (m : Int)) → ∃ b : Int, 0 ≤ b ∧ b ≤ 8 ∧ wDs g q b d := by
  intro m
  induction m with
  | zero => intro a d a0 a1 d0 h; rw [show d + ((0 : Nat) : Int) = d by omega] at h; exact ⟨a, a0, a1, h⟩
  | succ m ih =>
    intro a d a0 a1 d0 h
    obtain ⟨b, b0, b1, -, hb⟩ := wDs_s h (by omega)
    rw [show d + ((m + 1 : Nat) : Int) - 1 = d + (m : Int) by omega] at hb
    exact ih b d b0 b1 d0 hb
theorem wR_c (hg : ∀ a : Int, 0 ≤ a → a ≤ 8 → g a = g' a) : ∀ (k : Nat) (a : Int), 0 ≤ a → a ≤ 8 → (wR g q k a ↔ wR g' q k a) := by
  intro k
  induction k with
  | zero => intro a _ _; exact Iff.rfl
  | succ k ih =>
    intro a a0 a1
    constructor
    · intro h
      have h3 : wR g q k a ∨ ∃ b : Int, 0 ≤ b ∧ b ≤ 8 ∧ tb (g a) b = 1 ∧ wR g q k b := h
      rcases h3 with h3 | ⟨b, b0, b1, hE, hb⟩
      · exact Or.inl ((ih a a0 a1).mp h3)
      · rw [hg a a0 a1] at hE; exact Or.inr ⟨b, b0, b1, hE, (ih b b0 b1).mp hb⟩
    · intro h
      have h3 : wR g' q k a ∨ ∃ b : Int, 0 ≤ b ∧ b ≤ 8 ∧ tb (g' a) b = 1 ∧ wR g' q k b := h
      rcases h3 with h3 | ⟨b, b0, b1, hE, hb⟩
      · exact Or.inl ((ih a a0 a1).mpr h3)
      · rw [← hg a a0 a1] at hE; exact Or.inr ⟨b, b0, b1, hE, (ih b b0 b1).mpr hb⟩
theorem wDs_c (hg : ∀ a : Int, 0 ≤ a → a ≤ 8 → g a = g' a) (a0 : 0 ≤ a) (a1 : a ≤ 8) : wDs g q a d ↔ wDs g' q a d := by
  constructor
  · intro ⟨h0, h1, h2⟩
    exact ⟨h0, (wR_c hg _ a a0 a1).mp h1, fun k hk w => h2 k hk ((wR_c hg k a a0 a1).mpr w)⟩
  · intro ⟨h0, h1, h2⟩
    exact ⟨h0, (wR_c hg _ a a0 a1).mpr h1, fun k hk w => h2 k hk ((wR_c hg k a a0 a1).mp w)⟩
theorem lst_u {y y' : Int} (hg : ∀ a : Int, 0 ≤ a → a ≤ 8 → g a = g' a) (a0 : 0 ≤ a) (a1 : a ≤ 8) (h : lst g q a d y) (h' : lst g' q a d y') : y = y' := by
  obtain ⟨⟨y0, y1, y2, y3⟩, y4⟩ := h
  obtain ⟨⟨z0, z1, z2, z3⟩, z4⟩ := h'
  by_cases c : y < y'
  · refine absurd ⟨?_, (wDs_c hg y0 y1).mp y3⟩ (z4 y y0 c)
    rw [← hg a a0 a1]; exact y2
  · by_cases c2 : y' < y
    · refine absurd ⟨?_, (wDs_c hg z0 z1).mpr z3⟩ (y4 y' z0 c2)
      rw [hg a a0 a1]; exact z2
    · omega
theorem wy_law {r r' n n' m m' : Int} {pt pt' pu pu' : Int → Int} (h : wyQ g P p q r pt pt' n n') (h2 : wyQ g' P p q r' pu pu' m m') (hg : ∀ a : Int, 0 ≤ a → a ≤ 8 → g a = g' a) (P9 : P ≤ 9) (hw : paI pt n pu m) : r = r' ∧ paI pt' n' pu' m' := by
  rcases h with ⟨c, e1, e2, e3⟩ | ⟨c, h⟩
  · rcases h2 with ⟨-, f1, f2, f3⟩ | ⟨c2, -⟩
    · rw [e2, e3, f2, f3, e1, f1]; exact ⟨rfl, hw⟩
    · omega
  · rcases h2 with ⟨c2, -⟩ | ⟨-, h2⟩
    · omega
    · rcases h with ⟨e1, e2, e3, e4⟩ | ⟨r0, r1, e2, e3, e4⟩
      · rcases h2 with ⟨f1, f2, f3, f4⟩ | ⟨s0, s1, f2, -⟩
        · rw [e3, e4, f3, f4, e1, f1]; exact ⟨rfl, hw⟩
        · exact absurd ((wDs_c hg (by omega) (by omega)).mpr f2) (e2 r' s0 s1)
      · rcases h2 with ⟨f1, f2, -⟩ | ⟨s0, s1, f2, f3, f4⟩
        · exact absurd ((wDs_c hg (by omega) (by omega)).mp e2) (f2 r r0 r1)
        · have er : r = r' := wDs_u e2 ((wDs_c hg (by omega) (by omega)).mpr f2)
          refine ⟨er, by omega, fun k k0 k1 => ?_⟩
          rw [← er] at f3
          have hk : ∀ k : Nat, (k : Int) ≤ r → pu' (k : Int) = pt' (k : Int) ∧ 0 ≤ pt' (k : Int) ∧ pt' (k : Int) ≤ 8 := by
            intro k
            induction k with
            | zero =>
              intro _
              have e0 : pt' ((0 : Nat) : Int) = p := e3.1
              exact ⟨f3.1.trans e3.1.symm, by omega, by omega⟩
            | succ k ih =>
              intro hk
              obtain ⟨i1, i2, i3⟩ := ih (by omega)
              have a1 := e3.2 (k : Int) (by omega) (by omega)
              have a2 := f3.2 (k : Int) (by omega) (by omega)
              rw [i1] at a2
              have a3 := lst_u hg i2 i3 a1 a2
              rw [show ((k + 1 : Nat) : Int) = (k : Int) + 1 by omega]
              exact ⟨a3.symm, a1.1.1, a1.1.2.1⟩
          have w := (hk k.toNat (by omega)).1
          rw [Int.toNat_of_nonneg k0] at w
          exact w
theorem wa_law {r r' k n m : Int} {pt pu : Int → Int} (h : waQ r k n pt) (h2 : waQ r' k m pu) (hw : paI pt n pu m) : r = r' := by
  obtain ⟨e, hp⟩ := hw
  rcases h with ⟨a, b, c⟩ | ⟨a, c⟩
  · rcases h2 with ⟨-, -, f⟩ | ⟨f, -⟩
    · rw [c, f, hp k a b]
    · omega
  · rcases h2 with ⟨f1, f2, -⟩ | ⟨-, f⟩
    · omega
    · rw [c, f]
-- ===== the class: layers =====
def sy (g : Int → Int) (P : Int) : Prop := (∀ a b : Int, 0 ≤ a → a ≤ 8 → 0 ≤ b → b ≤ 8 → tb (g a) b = 1 → tb (g b) a = 1) ∧ ∀ a b : Int, 0 ≤ a → P ≤ a → a ≤ 8 → 0 ≤ b → b ≤ 8 → ¬ tb (g a) b = 1
def bsQ (g : Int → Int) (P x r : Int) : Prop := ∀ j : Int, 0 ≤ j → j ≤ 8 → (tb r j = 1 ↔ ∃ y : Int, 0 ≤ y ∧ y < P ∧ tb x y = 1 ∧ tb (g y) j = 1)
theorem bsQ_0 {x : Int} : bsQ g 0 x 0 := fun j j0 j1 => ⟨fun h => absurd h (tb_0 j0 j1), fun ⟨y, y0, y1, _⟩ => absurd y1 (by omega)⟩
theorem bsQ_y {x r z : Int} (h : bsQ g p x r) (p0 : 0 ≤ p) (hp : tb x p = 1) (hz : z = (iI r ||| iI (g p)).toInt) : bsQ g (p + 1) x z := by
  intro j j0 j1
  rw [tb_or hz j0 j1, h j j0 j1]
  constructor
  · rintro (⟨y, y0, y1, e1, e2⟩ | e)
    · exact ⟨y, y0, by omega, e1, e2⟩
    · exact ⟨p, p0, by omega, hp, e⟩
  · rintro ⟨y, y0, y1, e1, e2⟩
    by_cases c : y = p
    · rw [c] at e2; exact Or.inr e2
    · exact Or.inl ⟨y, y0, by omega, e1, e2⟩
theorem bsQ_n {x r z : Int} (h : bsQ g p x r) (hp : ¬ tb x p = 1) (hz : z = (iI r ||| iI 0).toInt) : bsQ g (p + 1) x z := by
  intro j j0 j1
  rw [tb_or hz j0 j1, h j j0 j1]
  constructor
  · rintro (⟨y, y0, y1, e1, e2⟩ | e)
    · exact ⟨y, y0, by omega, e1, e2⟩
    · exact absurd e (tb_0 j0 j1)
  · rintro ⟨y, y0, y1, e1, e2⟩
    by_cases c : y = p
    · rw [c] at e1; exact absurd e1 hp
    · exact Or.inl ⟨y, y0, by omega, e1, e2⟩
theorem bsQ_e {x r : Int} (h : bsQ g p x r) (e : p = P) : bsQ g P x r := by rw [← e]; exact h
def lyJ (g : Int → Int) (q p far re la : Int) (ly : Int → Int) : Prop := (∀ a : Int, 0 ≤ a → a ≤ 8 → (tb la a = 1 ↔ wDs g q a far)) ∧ (∀ a : Int, 0 ≤ a → a ≤ 8 → (tb re a = 1 ↔ ∃ d : Int, 0 ≤ d ∧ d < far ∧ wDs g q a d)) ∧ (∀ d a : Int, 0 ≤ d → d < far → 0 ≤ a → a ≤ 8 → (tb (ly d) a = 1 ↔ wDs g q a d)) ∧ ∀ d : Int, 0 ≤ d → d < far → ¬ wDs g q p d
theorem lyJ_0 {z : Int} {ly : Int → Int} (q0 : 0 ≤ q) (q1 : q ≤ 8) (hz : z = (iI 1 <<< (iI q &&& 31)).toInt) : lyJ g q p 0 0 z ly :=
  ⟨fun a a0 a1 => (tb_shl hz q0 q1 a0 a1).trans ⟨fun e => by rw [e]; exact wDs_q, fun h => wDs_0 h⟩, fun a a0 a1 => ⟨fun h => absurd h (tb_0 a0 a1), fun ⟨d, d0, d1, _⟩ => absurd d1 (by omega)⟩, fun d a d0 d1 => absurd d1 (by omega), fun d d0 d1 => absurd d1 (by omega)⟩
theorem lyJ_t {far re la re' la' be w : Int} {ly : Int → Int} (h : lyJ g q p far re la ly) (hy : sy g P) (f0 : 0 ≤ far) (P9 : P ≤ 9) (p0 : 0 ≤ p) (p1 : p ≤ 8) (hp : ¬ tb la p = 1) (hre : re' = (iI re ||| iI la).toInt) (hb : bsQ g P la be) (hw : iI w = (iI re' ^^^ iI (-1))) (hla : la' = (iI be &&& iI w).toInt) : lyJ g q p (far + 1) re' la' (upz ly far la) := by
  obtain ⟨hA, hB, hC, hD⟩ := h
  have hR : ∀ a : Int, 0 ≤ a → a ≤ 8 → (tb re' a = 1 ↔ ∃ d : Int, 0 ≤ d ∧ d < far + 1 ∧ wDs g q a d) := fun a a0 a1 => by
    rw [tb_or hre a0 a1, hA a a0 a1, hB a a0 a1]
    constructor
    · rintro (⟨d, d0, d1, e⟩ | e)
      · exact ⟨d, d0, by omega, e⟩
      · exact ⟨far, f0, by omega, e⟩
    · rintro ⟨d, d0, d1, e⟩
      by_cases c : d < far
      · exact Or.inl ⟨d, d0, c, e⟩
      · rw [show d = far by omega] at e; exact Or.inr e
  refine ⟨fun a a0 a1 => ?_, hR, fun d a d0 d1 a0 a1 => ?_, fun d d0 d1 => ?_⟩
  · rw [tb_and hla a0 a1, tb_not hw a0 a1, hR a a0 a1, hb a a0 a1]
    constructor
    · rintro ⟨⟨x, x0, x1, hx, hE⟩, hn⟩
      have hd := (hA x x0 (by omega)).mp hx
      have hE2 := hy.1 x a x0 (by omega) a0 a1 hE
      refine ⟨by omega, ?_, fun k hk w9 => ?_⟩
      · rw [show (far + 1).toNat = far.toNat + 1 by omega]
        exact Or.inr ⟨x, x0, by omega, hE2, hd.2.1⟩
      · obtain ⟨d, d0, d1, e⟩ := wR_d k w9
        exact hn ⟨d, d0, by omega, e⟩
    · intro h
      obtain ⟨b, b0, b1, hE, hb2⟩ := wDs_s h (by omega)
      rw [show far + 1 - 1 = far by omega] at hb2
      have hE2 := hy.1 a b a0 a1 b0 b1 hE
      refine ⟨⟨b, b0, ?_, (hA b b0 b1).mpr hb2, hE2⟩, fun ⟨d, d0, d1, e⟩ => ?_⟩
      · by_cases c : b < P
        · exact c
        · exact absurd hE2 (hy.2 b a b0 (by omega) b1 a0 a1)
      · have e9 := wDs_u h e
        omega
  · by_cases c : d = far
    · rw [c, upz_s]; exact hA a a0 a1
    · rw [upz_o c]; exact hC d a d0 (by omega) a0 a1
  · by_cases c : d = far
    · rw [c]; exact fun e => hp ((hA p p0 p1).mpr e)
    · exact hD d d0 (by omega)
def luQ (g : Int → Int) (q p r : Int) (ly : Int → Int) : Prop := (r = -1 ∧ ∀ d : Int, 0 ≤ d → d ≤ 8 → ¬ wDs g q p d) ∨ (0 ≤ r ∧ wDs g q p r ∧ ∀ d a : Int, 0 ≤ d → d ≤ r → 0 ≤ a → a ≤ 8 → (tb (ly d) a = 1 ↔ wDs g q a d))
theorem lu_y {far re la : Int} {ly : Int → Int} (h : lyJ g q p far re la ly) (f0 : 0 ≤ far) (p0 : 0 ≤ p) (p1 : p ≤ 8) (hp : tb la p = 1) : luQ g q p far (upz ly far la) := by
  refine Or.inr ⟨f0, (h.1 p p0 p1).mp hp, fun d a d0 d1 a0 a1 => ?_⟩
  by_cases c : d = far
  · rw [c, upz_s]; exact h.1 a a0 a1
  · rw [upz_o c]; exact h.2.2.1 d a d0 (by omega) a0 a1
theorem lu_9 {far re la : Int} {ly : Int → Int} (h : lyJ g q p far re la ly) (hf : 9 ≤ far) : luQ g q p (-1) ly := Or.inl ⟨rfl, fun d d0 d1 => h.2.2.2 d d0 (by omega)⟩
theorem lu_0 {far re la : Int} {ly : Int → Int} (h : lyJ g q p far re la ly) (f0 : 0 ≤ far) (p0 : 0 ≤ p) (p1 : p ≤ 8) (hl : la = 0) : luQ g q p (-1) ly := by
  refine Or.inl ⟨rfl, fun d d0 d1 e => ?_⟩
  by_cases c : d < far
  · exact h.2.2.2 d d0 c e
  · rw [show d = far + ((d - far).toNat : Int) by omega] at e
    obtain ⟨b, b0, b1, hb⟩ := wDs_k _ p far p0 p1 f0 e
    have w := (h.1 b b0 b1).mpr hb
    rw [hl] at w
    exact tb_0 b0 b1 w
theorem lu_n {r : Int} {ly : Int → Int} (h : luQ g q p r ly) (hr : r = -1) : ∀ d : Int, 0 ≤ d → d ≤ 8 → ¬ wDs g q p d := by
  rcases h with ⟨-, h⟩ | ⟨h, -⟩
  · exact h
  · omega
theorem lu_p {r : Int} {ly : Int → Int} (h : luQ g q p r ly) (hr : ¬ r = -1) : wDs g q p r ∧ ∀ d a : Int, 0 ≤ d → d ≤ r → 0 ≤ a → a ≤ 8 → (tb (ly d) a = 1 ↔ wDs g q a d) := by
  rcases h with ⟨h, -⟩ | ⟨-, h⟩
  · exact absurd h hr
  · exact h
def fnJ (g : Int → Int) (q p D i : Int) (pt : Int → Int) : Prop := pt 0 = p ∧ (∀ j : Int, 0 ≤ j → j + 1 < i → lst g q (pt j) (D - j - 1) (pt (j + 1))) ∧ wDs g q (pt (i - 1)) (D - i + 1)
theorem fn_0 {D : Int} {pt : Int → Int} (hd : wDs g q p D) : fnJ g q p D 1 (upz pt 0 p) := by
  refine ⟨upz_s _ _ _, fun j j0 j1 => absurd j1 (by omega), ?_⟩
  rw [show (1 : Int) - 1 = 0 from rfl, upz_s, show D - 1 + 1 = D by omega]
  exact hd
theorem fn_t {D i z y : Int} {pt ly : Int → Int} (h : fnJ g q p D i pt) (i1 : 1 ≤ i) (iD : i ≤ D) (hl : ∀ d a : Int, 0 ≤ d → d ≤ D → 0 ≤ a → a ≤ 8 → (tb (ly d) a = 1 ↔ wDs g q a d)) (hz : z = (iI (g (pt (i - 1))) &&& iI (ly (D - i))).toInt) (hf : foQ z y) : fnJ g q p D (i + 1) (upz pt i y) := by
  obtain ⟨h0, h1, h2⟩ := h
  obtain ⟨b, b0, b1, hE, hb⟩ := wDs_s h2 (by omega)
  rw [show D - i + 1 - 1 = D - i by omega] at hb
  have hz1 : ∀ a : Int, 0 ≤ a → a ≤ 8 → (tb z a = 1 ↔ tb (g (pt (i - 1))) a = 1 ∧ wDs g q a (D - i)) := fun a a0 a1 => by rw [tb_and hz a0 a1, hl (D - i) a (by omega) (by omega) a0 a1]
  have hzn : ¬ z = 0 := fun e => by
    have w := (hz1 b b0 b1).mpr ⟨hE, hb⟩
    rw [e] at w
    exact tb_0 b0 b1 w
  obtain ⟨y0, y1, y2, y3⟩ := hf hzn
  have y4 := (hz1 y y0 y1).mp y2
  have hl1 : lst g q (pt (i - 1)) (D - i) y := ⟨⟨y0, y1, y4.1, y4.2⟩, fun z z0 z1 w => y3 z z0 z1 ((hz1 z z0 (by omega)).mpr w)⟩
  refine ⟨?_, fun j j0 j1 => ?_, ?_⟩
  · rw [upz_o (by omega)]; exact h0
  · by_cases c : j + 1 < i
    · rw [upz_o (show ¬ j = i by omega), upz_o (show ¬ j + 1 = i by omega)]; exact h1 j j0 c
    · rw [upz_o (show ¬ j = i by omega), show j + 1 = i by omega, upz_s, show j = i - 1 by omega, show D - (i - 1) - 1 = D - i by omega]; exact hl1
  · rw [show i + 1 - 1 = i by omega, upz_s, show D - (i + 1) + 1 = D - i by omega]; exact y4.2
theorem fn_e {D i : Int} {pt : Int → Int} (h : fnJ g q p D i pt) (hi : i = D + 1) : wPt g q p D pt := ⟨h.1, fun k k0 k1 => h.2.1 k k0 (by omega)⟩
end Ws
-- ===== streets go both ways =====
def syA (f : Int → Int) (b : Int) : Prop := sy (fun a => f (b + (44 + a))) (f b)
def syR (r : Int → Int) : Prop := (0 ≤ r 0 ∧ r 0 ≤ 9 ∧ 0 ≤ r 1 ∧ r 1 ≤ 3) ∧ sy (fun a => r (44 + a)) (r 0)
theorem syA_mv {f f' : Int → Int} {b b' : Int} (h : syA f b) (hr : ∀ i : Int, 0 ≤ i → i < 53 → f' (b' + i) = f (b + i)) : syA f' b' := by
  have h0 := hr 0 (by decide) (by decide)
  rw [Int.add_zero, Int.add_zero] at h0
  refine ⟨fun a c a0 a1 c0 c1 => ?_, fun a c a0 aP a1 c0 c1 => ?_⟩
  · show tb (f' (b' + (44 + a))) c = 1 → tb (f' (b' + (44 + c))) a = 1
    rw [hr (44 + a) (by omega) (by omega), hr (44 + c) (by omega) (by omega)]
    exact h.1 a c a0 a1 c0 c1
  · show ¬ tb (f' (b' + (44 + a))) c = 1
    rw [hr (44 + a) (by omega) (by omega)]
    exact h.2 a c a0 (by rw [← h0]; exact aP) a1 c0 c1
theorem syA_kp {nw nw' : Int → Int} (h : syA nw 0) (hr : kp 53 nw nw') : syA nw' 0 := syA_mv h (fun i i0 i1 => hr (0 + i) (by omega))
theorem syR_A {r : Int → Int} (h : syR r) : syA r 0 := by
  have e : (fun a => r (0 + (44 + a))) = fun a => r (44 + a) := by funext a; rw [Int.zero_add]
  unfold syA
  rw [e]
  exact h.2
theorem sy_z {f : Int → Int} (hz : ∀ a : Int, 0 ≤ a → a ≤ 8 → f (0 + (44 + a)) = 0) : syA f 0 := by
  refine ⟨fun a c a0 a1 c0 c1 h => ?_, fun a c a0 aP a1 c0 c1 h => ?_⟩
  · have h' : tb (f (0 + (44 + a))) c = 1 := h
    rw [hz a a0 a1] at h'
    exact absurd h' (tb_0 c0 c1)
  · have h' : tb (f (0 + (44 + a))) c = 1 := h
    rw [hz a a0 a1] at h'
    exact absurd h' (tb_0 c0 c1)
theorem syR_c {r r' : Int → Int} (h : syR r) (h0 : r 0 ≤ r' 0) (h9 : r' 0 ≤ 9) (h1 : 0 ≤ r' 1 ∧ r' 1 ≤ 3) (hr : ∀ a : Int, 0 ≤ a → a ≤ 8 → r' (44 + a) = r (44 + a)) : syR r' := by
  obtain ⟨⟨a0, a1, a2, a3⟩, s1, s2⟩ := h
  refine ⟨⟨by omega, h9, h1.1, h1.2⟩, fun a c a0 a1 c0 c1 => ?_, fun a c a0 aP a1 c0 c1 => ?_⟩
  · show tb (r' (44 + a)) c = 1 → tb (r' (44 + c)) a = 1
    rw [hr a a0 a1, hr c c0 c1]
    exact s1 a c a0 a1 c0 c1
  · show ¬ tb (r' (44 + a)) c = 1
    rw [hr a a0 a1]
    exact s2 a c a0 (by omega) a1 c0 c1
theorem syR_person {r : Int → Int} {a b c : Int} (h : syR r) (hn : ¬ r 0 = 9) : syR (upz (upz (upz (upz r (5 + r 0) a) (14 + r 0) b) (23 + r 0) c) 0 (r 0 + 1)) := by
  have hb := h.1
  have hr : ∀ j : Int, ¬ j = 0 → ¬ j = 5 + r 0 → ¬ j = 14 + r 0 → ¬ j = 23 + r 0 → upz (upz (upz (upz r (5 + r 0) a) (14 + r 0) b) (23 + r 0) c) 0 (r 0 + 1) j = r j := fun j j0 j1 j2 j3 => by rw [upz_o j0, upz_o j3, upz_o j2, upz_o j1]
  refine syR_c h ?_ ?_ ?_ (fun a a0 a1 => hr _ (by omega) (by omega) (by omega) (by omega))
  · rw [upz_s]; omega
  · rw [upz_s]; omega
  · rw [hr 1 (by omega) (by omega) (by omega) (by omega)]; omega
theorem syR_maid {r : Int → Int} {c : Int} (h : syR r) (hn : ¬ r 1 = 3) : syR (upz (upz r (41 + r 1) c) 1 (r 1 + 1)) := by
  have hb := h.1
  have hr : ∀ j : Int, ¬ j = 1 → ¬ j = 41 + r 1 → upz (upz r (41 + r 1) c) 1 (r 1 + 1) j = r j := fun j j0 j1 => by rw [upz_o j0, upz_o j1]
  refine syR_c h ?_ ?_ ?_ (fun a a0 a1 => hr _ (by omega) (by omega))
  · rw [hr 0 (by omega) (by omega)]; omega
  · rw [hr 0 (by omega) (by omega)]; omega
  · rw [upz_s]; omega
theorem syR_one {r : Int → Int} {k c : Int} (h : syR r) (k0 : 2 ≤ k) (k1 : k < 44) : syR (upz r k c) := by
  have hb := h.1
  refine syR_c h ?_ ?_ ?_ (fun a a0 a1 => upz_o (by omega))
  · rw [upz_o (by omega)]; omega
  · rw [upz_o (by omega)]; omega
  · rw [upz_o (by omega)]; omega
theorem syR_street {r : Int → Int} {a b : Int} (h : syR r) (a0 : 0 ≤ a) (a1 : a < r 0) (b0 : 0 ≤ b) (b1 : b < r 0) (hab : ¬ b = a) : syR (upz (upz r (44 + a) (orb (r (44 + a)) b)) (44 + b) (orb (r (44 + b)) a)) := by
  obtain ⟨⟨x0, x1, x2, x3⟩, s1, s2⟩ := h
  have hE : ∀ i j : Int, 0 ≤ i → i ≤ 8 → 0 ≤ j → j ≤ 8 → (tb (upz (upz r (44 + a) (orb (r (44 + a)) b)) (44 + b) (orb (r (44 + b)) a) (44 + i)) j = 1 ↔ tb (r (44 + i)) j = 1 ∨ (i = a ∧ j = b) ∨ (i = b ∧ j = a)) := by
    intro i j i0 i1 j0 j1
    by_cases c : i = b
    · rw [c, upz_s, tb_orb a0 (by omega) j0 j1]
      constructor <;> intro h9 <;> omega
    · by_cases c2 : i = a
      · rw [upz_o (by omega), c2, upz_s, tb_orb b0 (by omega) j0 j1]
        constructor <;> intro h9 <;> omega
      · rw [upz_o (by omega), upz_o (by omega)]
        constructor <;> intro h9 <;> omega
  refine ⟨?_, fun i j i0 i1 j0 j1 => ?_, fun i j i0 iP i1 j0 j1 => ?_⟩
  · rw [upz_o (by omega), upz_o (by omega), upz_o (by omega), upz_o (by omega)]
    exact ⟨x0, x1, x2, x3⟩
  · show tb (upz (upz r (44 + a) (orb (r (44 + a)) b)) (44 + b) (orb (r (44 + b)) a) (44 + i)) j = 1 → tb (upz (upz r (44 + a) (orb (r (44 + a)) b)) (44 + b) (orb (r (44 + b)) a) (44 + j)) i = 1
    rw [hE i j i0 i1 j0 j1, hE j i j0 j1 i0 i1]
    rintro (h9 | h9 | h9)
    · exact Or.inl (s1 i j i0 i1 j0 j1 h9)
    · exact Or.inr (Or.inr ⟨h9.2, h9.1⟩)
    · exact Or.inr (Or.inl ⟨h9.2, h9.1⟩)
  · show ¬ tb (upz (upz r (44 + a) (orb (r (44 + a)) b)) (44 + b) (orb (r (44 + b)) a) (44 + i)) j = 1
    rw [upz_o (show ¬ (0 : Int) = 44 + b by omega), upz_o (show ¬ (0 : Int) = 44 + a by omega)] at iP
    rw [hE i j i0 i1 j0 j1]
    rintro (h9 | h9 | h9)
    · exact s2 i j i0 iP i1 j0 j1 h9
    · omega
    · omega
theorem fiN_b {h : Nat → Int64} {b : Int} {w : Int64} : ∀ (n : Nat) (k : Int), fiN h b w n k = -1 ∨ (k ≤ fiN h b w n k ∧ fiN h b w n k < k + (n : Int)) := by
  intro n
  induction n with
  | zero => intro k; exact Or.inl rfl
  | succ n ih =>
    intro k
    rw [fiN]
    split
    · exact Or.inr ⟨Int.le_refl k, by omega⟩
    · have := ih (k + 1)
      omega
theorem FI_b {h : Nat → Int64} {b m : Int} {w : Int64} (hn : ¬ FI h b m w = -1) : 0 ≤ FI h b m w ∧ FI h b m w < m := by
  have h1 := fiN_b (h := h) (b := b) (w := w) m.toNat 0
  unfold FI at hn ⊢
  omega
theorem one_i {r : Int → Int} {h : Nat → Int64} {x : Tk × Int × Int} {a : Int} (e : sOne r h x = .inr a) : 0 ≤ a ∧ a < r 0 := by
  rw [sOne] at e
  by_cases q : ¬ isNm x.1
  · rw [if_pos q] at e; cases e
  · rw [if_neg q] at e
    by_cases q2 : FI h 0 (r 0) (wdO x.1) = -1
    · rw [if_pos q2] at e; cases e
    · rw [if_neg q2] at e
      obtain rfl := Sum.inr.inj e
      exact FI_b q2
theorem bnd_i {m : PV} {g : Int → PR} {s : PS} (e : bnd m g = .inr s) : ∃ v, m = .inr v ∧ g v = .inr s := by
  rcases m with q | v
  · cases e
  · exact ⟨v, rfl, e⟩
section SYs
variable {f : Int → Int} {n L : Int} {x : Tk × Int × Int} {r : Int → Int} {h : Nat → Int64} {o : Int → Int} {s : PS}
theorem sy_person (hs : syR r) (e : sPerson f n L x r h o = .inr s) : syR s.2.1 := by
  rw [sPerson] at e
  by_cases q : r 0 = 9
  · rw [if_pos q] at e; cases e
  · rw [if_neg q] at e
    obtain ⟨_, -, e⟩ := bnd_i e
    obtain ⟨_, -, e⟩ := bnd_i e
    obtain ⟨_, -, e⟩ := bnd_i e
    obtain ⟨_, -, e⟩ := bnd_i e
    obtain rfl := Sum.inr.inj e
    exact syR_person hs q
theorem sy_maid (hs : syR r) (e : sMaid f n L x r h o = .inr s) : syR s.2.1 := by
  rw [sMaid] at e
  by_cases q : r 1 = 3
  · rw [if_pos q] at e; cases e
  · rw [if_neg q] at e
    obtain ⟨_, -, e⟩ := bnd_i e
    obtain ⟨_, -, e⟩ := bnd_i e
    obtain rfl := Sum.inr.inj e
    exact syR_maid hs q
theorem sy_street (hs : syR r) (e : sStreet f n L x r h o = .inr s) : syR s.2.1 := by
  rw [sStreet] at e
  obtain ⟨a, ha, e⟩ := bnd_i e
  obtain ⟨b, hb, e⟩ := bnd_i e
  have h1 := one_i ha
  have h2 := one_i hb
  by_cases q : b = a ∨ tb (r (44 + a)) b = 1
  · rw [if_pos q] at e; cases e
  · rw [if_neg q] at e
    obtain rfl := Sum.inr.inj e
    exact syR_street hs h1.1 h1.2 h2.1 h2.2 (fun w => q (Or.inl w))
theorem sy_done (hs : syR r) (e : sDone f n L x r h o = .inr s) : syR s.2.1 := by
  have h0 := hs.1
  rw [sDone] at e
  obtain ⟨a, ha, e⟩ := bnd_i e
  have h1 := one_i ha
  by_cases q : ¬ r (32 + a) = -1
  · rw [if_pos q] at e; cases e
  · rw [if_neg q] at e
    obtain ⟨b, hb, e⟩ := bnd_i e
    by_cases q2 : b = a ∨ ¬ r (5 + b) = r (14 + a) ∨ exB r b = true
    · rw [if_pos q2] at e; cases e
    · rw [if_neg q2] at e
      obtain rfl := Sum.inr.inj e
      exact syR_one hs (by omega) (by omega)
theorem sy_once {k a b : Int} (hs : syR r) (k0 : 0 ≤ k) (k1 : k ≤ 2) (e : sOnce f n L x r h o k a b = .inr s) : syR s.2.1 := by
  rw [sOnce] at e
  by_cases q : o k = 1
  · rw [if_pos q] at e; cases e
  · rw [if_neg q] at e
    obtain ⟨c, -, e⟩ := bnd_i e
    obtain rfl := Sum.inr.inj e
    exact syR_one hs (by omega) (by omega)
theorem sy_line (hs : syR r) (e : sLine f n L x r h o = .inr s) : syR s.2.1 := by
  rw [sLine] at e
  by_cases q0 : isW x.1 0
  · rw [if_pos q0] at e; exact sy_person hs e
  · rw [if_neg q0] at e
    by_cases q1 : isW x.1 1
    · rw [if_pos q1] at e; exact sy_maid hs e
    · rw [if_neg q1] at e
      by_cases q2 : isW x.1 2
      · rw [if_pos q2] at e; exact sy_street hs e
      · rw [if_neg q2] at e
        by_cases q3 : isW x.1 3
        · rw [if_pos q3] at e; exact sy_done hs e
        · rw [if_neg q3] at e
          by_cases q4 : isW x.1 4
          · rw [if_pos q4] at e; exact sy_once hs (by decide) (by decide) e
          · rw [if_neg q4] at e
            by_cases q5 : isW x.1 5
            · rw [if_pos q5] at e; exact sy_once hs (by decide) (by decide) e
            · rw [if_neg q5] at e
              by_cases q6 : isW x.1 6
              · rw [if_pos q6] at e; exact sy_once hs (by decide) (by decide) e
              · rw [if_neg q6] at e; cases e
theorem ct_sy : ∀ (j : Nat) (s : PS) (k : Int) (s' : PS) (k' : Int), syR s.2.1 → ctN f n L j s k = .inr (s', k') → syR s'.2.1 := by
  intro j
  induction j with
  | zero =>
    intro s k s' k' hs e
    rw [ctN] at e
    obtain ⟨rfl, -⟩ := Prod.mk.inj (Sum.inr.inj e)
    exact hs
  | succ j ih =>
    intro s k s' k' hs e
    by_cases q : s.1.1 = tkStop
    · rw [ct_stop q] at e
      obtain ⟨rfl, -⟩ := Prod.mk.inj (Sum.inr.inj e)
      exact hs
    · rcases hm : sLine f n L s.1 s.2.1 s.2.2.1 s.2.2.2 with w | s1
      · rw [ct_bad q hm] at e; cases e
      · by_cases q1 : s1.1.1 = tkSign 59
        · rw [ct_go q hm q1] at e
          exact ih ⟨nx f n L s1.1, s1.2.1, s1.2.2.1, s1.2.2.2⟩ _ _ _ (show syR s1.2.1 from sy_line hs hm) e
        · rw [ct_end q hm q1] at e; cases e
end SYs
theorem rd_sy {rd : Int → Int} (h : rd0P rd) : syR rd := by
  have e0 := h 0 (by decide) (by decide)
  have e1 := h 1 (by decide) (by decide)
  rw [if_neg (by decide), if_neg (by decide), if_neg (by decide)] at e0 e1
  have ez : ∀ a : Int, 0 ≤ a → a ≤ 8 → rd (44 + a) = 0 := fun a a0 a1 => by
    rw [h (44 + a) (by omega) (by omega), if_neg (by omega), if_neg (by omega), if_neg (by omega)]
  refine ⟨⟨by omega, by omega, by omega, by omega⟩, fun a c a0 a1 c0 c1 w => ?_, fun a c a0 aP a1 c0 c1 w => ?_⟩
  · have w' : tb (rd (44 + a)) c = 1 := w
    rw [ez a a0 a1] at w'
    exact absurd w' (tb_0 c0 c1)
  · have w' : tb (rd (44 + a)) c = 1 := w
    rw [ez a a0 a1] at w'
    exact absurd w' (tb_0 c0 c1)
section SYl
variable {nw nw' kt kt' ik ik' : Int → Int} {nm nm' kn kn' hh : Nat → Int64} {f : Int → Int} {n k r : Int}
theorem sy_c (h : syA nw 0) (qm : ∃ rd o : Int → Int, rd0P rd ∧ o0P o ∧ CPn (ctN f n 900 1000 ⟨tkAt f n 900 0, rd, hh, o⟩ 0) nw nw' nm nm') : syA nw' 0 := by
  obtain ⟨rd, o, h1, h2, h3⟩ := qm
  rcases hc : ctN f n 900 1000 ⟨tkAt f n 900 0, rd, hh, o⟩ 0 with q | ⟨s, k⟩
  · rw [hc] at h3
    rw [h3.1]
    exact h
  · have hs := ct_sy 1000 ⟨tkAt f n 900 0, rd, hh, o⟩ 0 s k (rd_sy h1) hc
    rw [hc] at h3
    refine syA_mv (syR_A hs) (fun i i0 i1 => ?_)
    rw [Int.zero_add]
    exact h3.1 i i0 i1
theorem sy_rs (hw : syA nw 0) (hv : (ik 0 = 1 → syA kt 0) ∧ (ik 1 = 1 → syA kt 329)) (hm : rsH k ik nw nw' kt nm nm' kn) : syA nw' 0 := by
  rcases hm with ⟨k0, k1, hk, h1, -⟩ | ⟨-, h1, -⟩
  · have hkk : k = 0 ∨ k = 1 := by omega
    rcases hkk with e | e
    · rw [e] at hk
      refine syA_mv (hv.1 hk) (fun i i0 i1 => ?_)
      have e9 := h1 i i0 i1
      rw [e, show (329 : Int) * 0 + i = i by omega] at e9
      rw [Int.zero_add]
      exact e9
    · rw [e] at hk
      refine syA_mv (hv.2 hk) (fun i i0 i1 => ?_)
      have e9 := h1 i i0 i1
      rw [e, show (329 : Int) * 1 + i = 329 + i by omega] at e9
      rw [Int.zero_add]
      exact e9
  · rw [h1]; exact hw
theorem sy_im (hw : syA nw 0) (hv : (ik 0 = 1 → syA kt 0) ∧ (ik 1 = 1 → syA kt 329)) (hi : imT r k ik ik') (hm : imH k kt kt' nw kn kn' nm) : (ik' 0 = 1 → syA kt' 0) ∧ (ik' 1 = 1 → syA kt' 329) := by
  rcases hm with ⟨k0, k1, h1, h2, -⟩ | ⟨hk, h1, -⟩
  · rcases hi with ⟨-, -, -, e⟩ | ⟨e, -⟩
    · have hkk : k = 0 ∨ k = 1 := by omega
      rcases hkk with c | c
      · subst c
        refine ⟨fun _ => syA_mv hw (fun i i0 i1 => ?_), fun q => syA_mv (hv.2 ?_) (fun i i0 i1 => ?_)⟩
        · have e9 := h1 i i0 i1
          rw [show (329 : Int) * 0 + i = i by omega] at e9
          rw [Int.zero_add]
          exact e9
        · rw [e, upz_o (by decide)] at q; exact q
        · have e9 := h2 i i0 i1
          rw [show (329 : Int) * (1 - 0) + i = 329 + i by omega] at e9
          exact e9
      · subst c
        refine ⟨fun q => syA_mv (hv.1 ?_) (fun i i0 i1 => ?_), fun _ => syA_mv hw (fun i i0 i1 => ?_)⟩
        · rw [e, upz_o (by decide)] at q; exact q
        · have e9 := h2 i i0 i1
          rw [show (329 : Int) * (1 - 1) + i = i by omega] at e9
          rw [Int.zero_add]
          exact e9
        · have e9 := h1 i i0 i1
          rw [show (329 : Int) * 1 + i = 329 + i by omega] at e9
          rw [Int.zero_add]
          exact e9
    · omega
  · rcases hi with ⟨a, b, -⟩ | ⟨-, -, e⟩
    · omega
    · rw [e, h1]; exact hv
variable {wa : Nat → Int64} {wb wc wd we : Int → Int} {wf : Nat → Int64} {wg : Int → Int} {wh wi wj wk : Int}
theorem sy_x (h : syA nw 0) (ht : TN nw nm 0 0 wa wb wc wd we wf wg wh wi wj wk) : sy we wh := by
  have h0 : nw 0 = wh := ht.1.1
  have hs := ht.2.2.2
  refine ⟨fun a c a0 a1 c0 c1 => ?_, fun a c a0 aP a1 c0 c1 => ?_⟩
  · rw [hs a a0 (by omega), hs c c0 (by omega)]
    exact h.1 a c a0 a1 c0 c1
  · rw [hs a a0 (by omega)]
    exact h.2 a c a0 (by rw [h0]; exact aP) a1 c0 c1
theorem wy_tn {p q r r' n n' m m' : Int} {pt pt' pu pu' : Int → Int} (hy : syA nw 0) (ht : TN nw nm 0 0 wa wb wc wd we wf wg wh wi wj wk) (h : sy we wh → wyQ we wh p q r pt pt' n n') (h2 : wyQ (fun a => nw (44 + a)) (nw 0) p q r' pu pu' m m') (hw : paI pt n pu m) : r = r' ∧ paI pt' n' pu' m' := by
  have h0 : nw 0 = wh := ht.1.1
  rw [h0] at h2
  refine wy_law (h (sy_x hy ht)) h2 (fun a a0 a1 => ?_) ht.1.2.2.2.2.2.1 hw
  have e := ht.2.2.2 a a0 (by omega)
  rw [Int.zero_add] at e
  exact e
end SYl
