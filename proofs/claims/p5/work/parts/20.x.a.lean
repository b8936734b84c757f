def fiN (h : Nat → Int64) (b : Int) (w : Int64) : Nat → Int → Int
  | 0, _ => -1
  | n + 1, k => if h (Int32.toNatClampNeg (iI (b + k))) = w then k else fiN h b w n (k + 1)
def FI (h : Nat → Int64) (b m : Int) (w : Int64) : Int := fiN h b w m.toNat 0
theorem fi_0 {h : Nat → Int64} {b m : Int} {w : Int64} : FI h b m w = fiN h b w (m - 0).toNat 0 := by rw [Int.sub_zero]; rfl
theorem fi_hit {h : Nat → Int64} {b m k : Int} {w : Int64} (hl : FI h b m w = fiN h b w (m - k).toNat k) (hk : k < m) (he : lg_cmp (h (Int32.toNatClampNeg (iI (b + k)))) w = 0) : k = FI h b m w := by
  rw [hl, show (m - k).toNat = (m - (k + 1)).toNat + 1 by omega, fiN, if_pos ((lg_cmp_eq _ _).mp he)]
theorem fi_no {h : Nat → Int64} {b m k : Int} {w : Int64} (hl : FI h b m w = fiN h b w (m - k).toNat k) (hk : k < m) (he : ¬ lg_cmp (h (Int32.toNatClampNeg (iI (b + k)))) w = 0) : FI h b m w = fiN h b w (m - (k + 1)).toNat (k + 1) := by
  rw [hl, show (m - k).toNat = (m - (k + 1)).toNat + 1 by omega, fiN, if_neg (fun e => he ((lg_cmp_eq _ _).mpr e))]
theorem fi_end {h : Nat → Int64} {b m k : Int} {w : Int64} (hl : FI h b m w = fiN h b w (m - k).toNat k) (hk : m ≤ k) : (-1) = FI h b m w := by
  rw [hl, show (m - k).toNat = 0 by omega, fiN]
-- ===== longs by their numbers =====
def lI (z : Int) : Int64 := Int64.ofInt z
theorem lI_add (a b : Int) : lI a + lI b = lI (a + b) := (Int64.ofInt_add a b).symm
theorem lI_sub (a b : Int) : lI a - lI b = lI (a - b) := (Int64.ofInt_sub a b).symm
theorem lI_mul (a b : Int) : lI a * lI b = lI (a * b) := (Int64.ofInt_mul a b).symm
theorem lI_i {z : Int} (h0 : -9223372036854775808 ≤ z) (h1 : z ≤ 9223372036854775807) : (lI z).toInt = z := Int64.toInt_ofInt_of_le (Int.le_trans (by decide) h0) (Int.lt_of_le_of_lt h1 (by decide))
theorem lI_inj {a b : Int} (a0 : -9223372036854775808 ≤ a) (a1 : a ≤ 9223372036854775807) (b0 : -9223372036854775808 ≤ b) (b1 : b ≤ 9223372036854775807) (h : lI a = lI b) : a = b := by
  have e := congrArg Int64.toInt h
  rw [lI_i a0 a1, lI_i b0 b1] at e
  exact e
theorem iI_l {z : Int} (h0 : -2147483648 ≤ z) (h1 : z ≤ 2147483647) : (iI z).toInt64 = lI z := by
  apply Int64.toInt_inj.mp
  rw [Int32.toInt_toInt64, iI_i h0 h1, lI_i (by omega) (by omega)]
theorem iI_inj {a b : Int} (a0 : -2147483648 ≤ a) (a1 : a ≤ 2147483647) (b0 : -2147483648 ≤ b) (b1 : b ≤ 2147483647) (h : iI a = iI b) : a = b := (iI_eq a0 a1 b0 b1).mp h
theorem lc27 : (27 : Int64) = lI 27 := by decide +kernel
theorem lc96 : (96 : Int64) = lI 96 := by decide +kernel
theorem lc0 : (0 : Int64) = lI 0 := by decide +kernel
theorem lw_step {w d : Int} (h0 : -2147483648 ≤ d) (h1 : d ≤ 2147483647) : 27 * lI w + (iI d).toInt64 - 96 = lI (27 * w + d - 96) := by
  rw [iI_l h0 h1, lc27, lc96, lI_mul, lI_add, lI_sub]
theorem in_step {w d : Int} : iI 10 * iI w + iI d - iI 48 = iI (10 * w + d - 48) := by rw [iI_mul, iI_add, iI_sub]
theorem in_step2 {w d : Int} : iI w * iI 10 + iI d - iI 48 = iI (10 * w + d - 48) := by rw [iI_mul, iI_add, iI_sub, Int.mul_comm w 10]
theorem sh_or (x d : BitVec 64) (h : d.toNat < 32) : (x <<< 5) ||| d = x * 32#64 + d := by
  have e : x <<< 5 = x * 32#64 := by
    rw [BitVec.shiftLeft_eq_mul_twoPow, show BitVec.twoPow 64 5 = 32#64 from by decide +kernel]
  have a : (x <<< 5) &&& d = 0#64 := by
    apply BitVec.eq_of_getLsbD_eq
    intro i hi
    rw [BitVec.getLsbD_and, BitVec.getLsbD_shiftLeft]
    by_cases h5 : i < 5
    · simp [h5]
    · have h6 : d.getLsbD i = false := by
        have h7 : 2 ^ 5 ≤ 2 ^ i := Nat.pow_le_pow_right (by decide) (by omega)
        have h8 : d.toNat < 2 ^ i := Nat.lt_of_lt_of_le h h7
        exact Nat.testBit_lt_two_pow h8
      simp [h6]
  rw [← BitVec.add_eq_or_of_and_eq_zero _ _ a, e]
-- ===== blanks, runs =====
def skN (f : Int → Int) (n : Int) : Nat → Int → Int
  | 0, t => t
  | k + 1, t => if t < n ∧ (f t = 32 ∨ f t = 10) then skN f n k (t + 1) else t
def sk (f : Int → Int) (n t : Int) : Int := skN f n (n - t).toNat t
theorem sk_t {f : Int → Int} {n t : Int} (h : t < n) (hb : f t = 32 ∨ f t = 10) : sk f n t = sk f n (t + 1) := by
  unfold sk
  rw [show (n - t).toNat = (n - (t + 1)).toNat + 1 by omega, skN, if_pos ⟨h, hb⟩]
theorem sk_e {f : Int → Int} {n t : Int} (h : n ≤ t ∨ (¬ f t = 32 ∧ ¬ f t = 10)) : sk f n t = t := by
  unfold sk
  cases hk : (n - t).toNat with
  | zero => rfl
  | succ k => rw [skN, if_neg (by omega)]
def rnN (f : Int → Int) (n : Int) : Nat → Int → Int
  | 0, t => t
  | k + 1, t => if t < n ∧ ((97 ≤ f t ∧ f t ≤ 122) ∨ (48 ≤ f t ∧ f t ≤ 57)) then rnN f n k (t + 1) else t
def rn (f : Int → Int) (n t : Int) : Int := rnN f n (n - t).toNat t
theorem rn_t {f : Int → Int} {n t : Int} (h : t < n) (hb : (97 ≤ f t ∧ f t ≤ 122) ∨ (48 ≤ f t ∧ f t ≤ 57)) : rn f n t = rn f n (t + 1) := by
  unfold rn
  rw [show (n - t).toNat = (n - (t + 1)).toNat + 1 by omega, rnN, if_pos ⟨h, hb⟩]
theorem rn_e {f : Int → Int} {n t : Int} (h : n ≤ t ∨ ¬ ((97 ≤ f t ∧ f t ≤ 122) ∨ (48 ≤ f t ∧ f t ≤ 57))) : rn f n t = t := by
  unfold rn
  cases hk : (n - t).toNat with
  | zero => rfl
  | succ k => rw [rnN, if_neg (by omega)]
theorem skN_ge (f : Int → Int) (n : Int) : ∀ (k : Nat) (t : Int), t ≤ skN f n k t := by
  intro k
  induction k with
  | zero => intro t; exact Int.le_refl t
  | succ k ih =>
    intro t
    rw [skN]
    split
    · exact Int.le_trans (by omega) (ih (t + 1))
    · exact Int.le_refl t
theorem sk_ge (f : Int → Int) (n t : Int) : t ≤ sk f n t := skN_ge f n _ t
theorem rnN_ge (f : Int → Int) (n : Int) : ∀ (k : Nat) (t : Int), t ≤ rnN f n k t := by
  intro k
  induction k with
  | zero => intro t; exact Int.le_refl t
  | succ k ih =>
    intro t
    rw [rnN]
    split
    · exact Int.le_trans (by omega) (ih (t + 1))
    · exact Int.le_refl t
theorem rn_ge (f : Int → Int) (n t : Int) : t ≤ rn f n t := rnN_ge f n _ t
-- ===== words and numbers =====
def w27 (f : Int → Int) (a : Int) : Nat → Int
  | 0 => 0
  | k + 1 => 27 * w27 f a k + f (a + k) - 96
def w32 (f : Int → Int) (a : Int) : Nat → Int
  | 0 => 0
  | k + 1 => 32 * w32 f a k + (f (a + k) - 96)
def nb10 (f : Int → Int) (a : Int) : Nat → Int
  | 0 => 0
  | k + 1 => 10 * nb10 f a k + f (a + k) - 48
def aL (f : Int → Int) (a e : Int) : Prop := ∀ i, a ≤ i → i < e → 97 ≤ f i ∧ f i ≤ 122
def aD (f : Int → Int) (a e : Int) : Prop := ∀ i, a ≤ i → i < e → 48 ≤ f i ∧ f i ≤ 57
def aR (f : Int → Int) (a e : Int) : Prop := ∀ i, a ≤ i → i < e → (97 ≤ f i ∧ f i ≤ 122) ∨ (48 ≤ f i ∧ f i ≤ 57)
def okr : List Int → Prop
  | [] => True
  | d :: l => 1 ≤ d ∧ d ≤ 26 ∧ okr l
def r32 : List Int → Int
  | [] => 0
  | d :: l => 32 * r32 l + d
def r27 : List Int → Int
  | [] => 0
  | d :: l => 27 * r27 l + d
def okw (k : Nat) (x w : Int) : Prop := ∃ l : List Int, l.length = k ∧ okr l ∧ x = r32 l ∧ w = r27 l
theorem okw_nil : okw 0 0 0 := ⟨[], rfl, trivial, rfl, rfl⟩
theorem okw_cons {k : Nat} {x w : Int} (d : Int) (h : okw k x w) (h1 : 1 ≤ d) (h2 : d ≤ 26) : okw (k + 1) (32 * x + d) (27 * w + d) := by
  obtain ⟨l, e1, e2, rfl, rfl⟩ := h
  exact ⟨d :: l, by rw [List.length_cons, e1], ⟨h1, h2, e2⟩, rfl, rfl⟩
theorem r_nn : ∀ l : List Int, okr l → 0 ≤ r32 l ∧ 0 ≤ r27 l := by
  intro l
  induction l with
  | nil => intro _; exact ⟨by decide, by decide⟩
  | cons d l ih =>
    intro h
    obtain ⟨h1, h2, h3⟩ := h
    have := ih h3
    rw [r32, r27]
    exact ⟨by omega, by omega⟩
theorem r_b : ∀ l : List Int, okr l → r32 l < 32 ^ l.length ∧ r27 l < 32 ^ l.length := by
  intro l
  induction l with
  | nil => intro _; exact ⟨by decide, by decide⟩
  | cons d l ih =>
    intro h
    obtain ⟨h1, h2, h3⟩ := h
    have h4 := ih h3
    have h5 := r_nn l h3
    rw [r32, r27, List.length_cons, Int.pow_succ]
    exact ⟨by omega, by omega⟩
theorem r_xw : ∀ l l' : List Int, okr l → okr l' → r32 l = r32 l' → l = l' := by
  intro l
  induction l with
  | nil =>
    intro l' _ h' e
    cases l' with
    | nil => rfl
    | cons d l' => obtain ⟨h1, h2, h3⟩ := h'; have := r_nn l' h3; rw [r32, r32] at e; omega
  | cons d l ih =>
    intro l' h h' e
    obtain ⟨h1, h2, h3⟩ := h
    have b := r_nn l h3
    cases l' with
    | nil => rw [r32, r32] at e; omega
    | cons d' l' =>
      obtain ⟨g1, g2, g3⟩ := h'
      rw [r32, r32] at e
      have ed : d = d' := by omega
      rw [ih l' h3 g3 (by omega), ed]
theorem r_wx : ∀ l l' : List Int, okr l → okr l' → r27 l = r27 l' → l = l' := by
  intro l
  induction l with
  | nil =>
    intro l' _ h' e
    cases l' with
    | nil => rfl
    | cons d l' => obtain ⟨h1, h2, h3⟩ := h'; have := r_nn l' h3; rw [r27, r27] at e; omega
  | cons d l ih =>
    intro l' h h' e
    obtain ⟨h1, h2, h3⟩ := h
    have b := r_nn l h3
    cases l' with
    | nil => rw [r27, r27] at e; omega
    | cons d' l' =>
      obtain ⟨g1, g2, g3⟩ := h'
      rw [r27, r27] at e
      have ed : d = d' := by omega
      rw [ih l' h3 g3 (by omega), ed]
theorem okw_xw {k k' : Nat} {x w x' w' : Int} (h : okw k x w) (h' : okw k' x' w') (e : x = x') : w = w' := by
  obtain ⟨l, -, o, rfl, rfl⟩ := h
  obtain ⟨l', -, o', rfl, rfl⟩ := h'
  rw [r_xw l l' o o' e]
theorem okw_wx {k k' : Nat} {x w x' w' : Int} (h : okw k x w) (h' : okw k' x' w') (e : w = w') : x = x' := by
  obtain ⟨l, -, o, rfl, rfl⟩ := h
  obtain ⟨l', -, o', rfl, rfl⟩ := h'
  rw [r_wx l l' o o' e]
theorem okw_7 {k : Nat} {x w : Int} (h : okw k x w) (hk : k ≤ 7) : 0 ≤ x ∧ x < 34359738368 ∧ 0 ≤ w ∧ w < 34359738368 := by
  obtain ⟨l, e1, o, rfl, rfl⟩ := h
  have h1 := r_nn l o
  have h2 := r_b l o
  rw [e1] at h2
  have h3 : (32 : Int) ^ k ≤ 34359738368 := by
    have hh : k = 0 ∨ k = 1 ∨ k = 2 ∨ k = 3 ∨ k = 4 ∨ k = 5 ∨ k = 6 ∨ k = 7 := by omega
    rcases hh with rfl | rfl | rfl | rfl | rfl | rfl | rfl | rfl <;> decide
  exact ⟨h1.1, by omega, h1.2, by omega⟩
/-- one name, as the class holds it and as the reference does -/
def nmR (x w : Int64) : Prop := ∃ (k : Nat) (u v : Int), k ≤ 7 ∧ okw k u v ∧ x = lI u ∧ w = lI v
theorem nmR_iff {x w x' w' : Int64} (h : nmR x w) (h' : nmR x' w') : x = x' ↔ w = w' := by
  obtain ⟨k, u, v, hk, ho, rfl, rfl⟩ := h
  obtain ⟨k', u', v', hk', ho', rfl, rfl⟩ := h'
  have b := okw_7 ho hk
  have b' := okw_7 ho' hk'
  constructor
  · intro e
    rw [okw_xw ho ho' (lI_inj (by omega) (by omega) (by omega) (by omega) e)]
  · intro e
    rw [okw_wx ho ho' (lI_inj (by omega) (by omega) (by omega) (by omega) e)]
theorem w_ok {f : Int → Int} {a : Int} : ∀ (k : Nat), aL f a (a + k) → okw k (w32 f a k) (w27 f a k) := by
  intro k
  induction k with
  | zero => intro _; exact okw_nil
  | succ k ih =>
    intro h
    have h1 := ih (fun i h0 h1 => h i h0 (by omega))
    have h2 := h (a + k) (by omega) (by omega)
    have h3 := okw_cons (f (a + k) - 96) h1 (by omega) (by omega)
    rw [show 27 * w27 f a k + (f (a + k) - 96) = w27 f a (k + 1) by rw [w27]; omega] at h3
    exact h3
theorem nb_ok {f : Int → Int} {a : Int} : ∀ (k : Nat), aD f a (a + k) → 0 ≤ nb10 f a k ∧ nb10 f a k < 10 ^ k := by
  intro k
  induction k with
  | zero => intro _; exact ⟨Int.le_refl 0, (by decide : (0 : Int) < 10 ^ 0)⟩
  | succ k ih =>
    intro h
    have h1 := ih (fun i h0 h1 => h i h0 (by omega))
    have h2 := h (a + k) (by omega) (by omega)
    rw [nb10, Int.pow_succ]
    exact ⟨by omega, by omega⟩
theorem nb_3 {f : Int → Int} {a e : Int} (h : aD f a e) (h0 : a ≤ e) (h1 : e - a ≤ 3) : 0 ≤ nb10 f a (e - a).toNat ∧ nb10 f a (e - a).toNat ≤ 999 := by
  have h2 := nb_ok (e - a).toNat (fun i i0 i1 => h i i0 (by omega))
  have h3 : (10 : Int) ^ (e - a).toNat ≤ 1000 := by
    have hh : (e - a).toNat = 0 ∨ (e - a).toNat = 1 ∨ (e - a).toNat = 2 ∨ (e - a).toNat = 3 := by omega
    rcases hh with hh | hh | hh | hh <;> rw [hh] <;> decide
  exact ⟨h2.1, by omega⟩
abbrev Tk : Type := Unit ⊕ Unit ⊕ (Int64 × Int64) ⊕ Int ⊕ Int
abbrev tkStop : Tk := .inl ()
abbrev tkBad : Tk := .inr (.inl ())
abbrev tkWord (x w : Int64) : Tk := .inr (.inr (.inl (x, w)))
abbrev tkNum (v : Int) : Tk := .inr (.inr (.inr (.inl v)))
abbrev tkSign (c : Int) : Tk := .inr (.inr (.inr (.inr c)))
def aLb (f : Int → Int) (a : Int) : Nat → Bool
  | 0 => true
  | k + 1 => aLb f a k && (decide (97 ≤ f (a + k)) && decide (f (a + k) ≤ 122))
def aDb (f : Int → Int) (a : Int) : Nat → Bool
  | 0 => true
  | k + 1 => aDb f a k && (decide (48 ≤ f (a + k)) && decide (f (a + k) ≤ 57))
theorem aLb_i {f : Int → Int} {a : Int} : ∀ k : Nat, aLb f a k = true ↔ aL f a (a + k) := by
  intro k
  induction k with
  | zero => exact ⟨fun _ i i0 i1 => absurd i1 (by omega), fun _ => rfl⟩
  | succ k ih =>
    rw [aLb, Bool.and_eq_true_iff, Bool.and_eq_true_iff, ih]
    constructor
    · rintro ⟨h1, h2, h3⟩ i i0 i1
      by_cases q : i < a + k
      · exact h1 i i0 q
      · rw [show i = a + k by omega]; exact ⟨of_decide_eq_true h2, of_decide_eq_true h3⟩
    · intro h
      have h9 := h (a + k) (by omega) (by omega)
      exact ⟨fun i i0 i1 => h i i0 (by omega), decide_eq_true h9.1, decide_eq_true h9.2⟩
theorem aDb_i {f : Int → Int} {a : Int} : ∀ k : Nat, aDb f a k = true ↔ aD f a (a + k) := by
  intro k
  induction k with
  | zero => exact ⟨fun _ i i0 i1 => absurd i1 (by omega), fun _ => rfl⟩
  | succ k ih =>
    rw [aDb, Bool.and_eq_true_iff, Bool.and_eq_true_iff, ih]
    constructor
    · rintro ⟨h1, h2, h3⟩ i i0 i1
      by_cases q : i < a + k
      · exact h1 i i0 q
      · rw [show i = a + k by omega]; exact ⟨of_decide_eq_true h2, of_decide_eq_true h3⟩
    · intro h
      have h9 := h (a + k) (by omega) (by omega)
      exact ⟨fun i i0 i1 => h i i0 (by omega), decide_eq_true h9.1, decide_eq_true h9.2⟩
theorem aL_b {f : Int → Int} {a e : Int} (h0 : a ≤ e) : aLb f a (e - a).toNat = true ↔ aL f a e := by
  rw [aLb_i, show a + ((e - a).toNat : Int) = e by omega]
theorem aD_b {f : Int → Int} {a e : Int} (h0 : a ≤ e) : aDb f a (e - a).toNat = true ↔ aD f a e := by
  rw [aDb_i, show a + ((e - a).toNat : Int) = e by omega]
abbrev mkS (c : Int) : Prop := c = 59 ∨ c = 60 ∨ c = 61 ∨ c = 62 ∨ c = 40 ∨ c = 41
def runTk (f : Int → Int) (a e : Int) : Tk := if aLb f a (e - a).toNat = true ∧ e - a ≤ 7 then tkWord (lI (w32 f a (e - a).toNat)) (lI (w27 f a (e - a).toNat)) else if aDb f a (e - a).toNat = true ∧ e - a ≤ 3 then tkNum (nb10 f a (e - a).toNat) else tkBad
/-- the token behind t: what it is, where it is, where one goes on -/
def tkAt (f : Int → Int) (n L t : Int) : Tk × Int × Int := if L < n ∧ L ≤ sk f n t then (tkBad, L, sk f n t) else if n ≤ sk f n t then (tkStop, sk f n t, sk f n t) else if (97 ≤ f (sk f n t) ∧ f (sk f n t) ≤ 122) ∨ (48 ≤ f (sk f n t) ∧ f (sk f n t) ≤ 57) then (runTk f (sk f n t) (rn f n (sk f n t)), sk f n t, rn f n (sk f n t)) else if mkS (f (sk f n t)) then (tkSign (f (sk f n t)), sk f n t, sk f n t + 1) else (tkBad, sk f n t, sk f n t + 1)
theorem tk_lim {f : Int → Int} {n L t a : Int} (e : sk f n t = a) (h : L < n) (h1 : L ≤ a) : tkAt f n L t = (tkBad, L, a) := by
  rw [tkAt, e, if_pos ⟨h, h1⟩]
theorem tk_stop {f : Int → Int} {n L t a : Int} (e : sk f n t = a) (h : n ≤ L ∨ a < L) (h1 : n ≤ a) : tkAt f n L t = (tkStop, a, a) := by
  rw [tkAt, e, if_neg (by omega), if_pos h1]
theorem tk_run {f : Int → Int} {n L t a b : Int} (e : sk f n t = a) (h : n ≤ L ∨ a < L) (h1 : a < n) (h2 : (97 ≤ f a ∧ f a ≤ 122) ∨ (48 ≤ f a ∧ f a ≤ 57)) (e2 : rn f n a = b) : tkAt f n L t = (runTk f a b, a, b) := by
  rw [tkAt, e, if_neg (by omega), if_neg (by omega), if_pos h2, e2]
theorem tk_sg {f : Int → Int} {n L t a : Int} (e : sk f n t = a) (h : n ≤ L ∨ a < L) (h1 : a < n) (h2 : ¬ ((97 ≤ f a ∧ f a ≤ 122) ∨ (48 ≤ f a ∧ f a ≤ 57))) (h3 : mkS (f a)) : tkAt f n L t = (tkSign (f a), a, a + 1) := by
  rw [tkAt, e, if_neg (by omega), if_neg (by omega), if_neg h2, if_pos h3]
theorem tk_no {f : Int → Int} {n L t a : Int} (e : sk f n t = a) (h : n ≤ L ∨ a < L) (h1 : a < n) (h2 : ¬ ((97 ≤ f a ∧ f a ≤ 122) ∨ (48 ≤ f a ∧ f a ≤ 57))) (h3 : ¬ mkS (f a)) : tkAt f n L t = (tkBad, a, a + 1) := by
  rw [tkAt, e, if_neg (by omega), if_neg (by omega), if_neg h2, if_neg h3]
theorem run_w {f : Int → Int} {a e : Int} (h : aL f a e) (h0 : a ≤ e) (h1 : e - a ≤ 7) : runTk f a e = tkWord (lI (w32 f a (e - a).toNat)) (lI (w27 f a (e - a).toNat)) := by
  rw [runTk, if_pos ⟨(aL_b h0).mpr h, h1⟩]
theorem run_n {f : Int → Int} {a e : Int} (h : aD f a e) (h0 : a < e) (h1 : e - a ≤ 3) : runTk f a e = tkNum (nb10 f a (e - a).toNat) := by
  rw [runTk, if_neg (fun q => by have q1 := (aL_b (by omega)).mp q.1 a (by omega) h0; have q2 := h a (by omega) h0; omega), if_pos ⟨(aD_b (by omega)).mpr h, h1⟩]
theorem run_b {f : Int → Int} {a e : Int} (h0 : a ≤ e) (h : ¬ (aL f a e ∧ e - a ≤ 7)) (h1 : ¬ (aD f a e ∧ e - a ≤ 3)) : runTk f a e = tkBad := by
  rw [runTk, if_neg (fun q => h ⟨(aL_b h0).mp q.1, q.2⟩), if_neg (fun q => h1 ⟨(aD_b h0).mp q.1, q.2⟩)]
theorem run_nm {f : Int → Int} {a e : Int} (h : aL f a e) (h0 : a ≤ e) (h1 : e - a ≤ 7) : nmR (lI (w32 f a (e - a).toNat)) (lI (w27 f a (e - a).toNat)) :=
  ⟨(e - a).toNat, _, _, by omega, w_ok _ (fun i i0 i1 => h i i0 (by omega)), rfl, rfl⟩
/-- the token at hand, as the reference holds it -/
def RT : Tk → Int → Int64 → Int32 → Int → Prop
  | .inl _, k, _, _, _ => k = 0
  | .inr (.inl _), k, _, _, _ => k = 1
  | .inr (.inr (.inl (x, w))), k, wd, _, _ => k = 2 ∧ wd = w ∧ nmR x w
  | .inr (.inr (.inr (.inl v))), k, _, nu, _ => k = 3 ∧ nu = iI v ∧ 0 ≤ v ∧ v ≤ 999
  | .inr (.inr (.inr (.inr c))), k, _, _, s => k = 4 ∧ s = c
def gT (x : Tk × Int × Int) (kind fr to : Int) (word : Int64) (number : Int32) (sign : Int) : Prop := fr = x.2.1 ∧ to = x.2.2 ∧ RT x.1 kind word number sign
/-- whether all letters of a run are alike -/
def gdI (f : Int → Int) (a e l g : Int) : Prop := (g = 1 ∧ ∀ i, a ≤ i → i < e → ((97 ≤ f i ∧ f i ≤ 122) ↔ l = 1)) ∨ (g = 0 ∧ ∃ i, a ≤ i ∧ i < e ∧ ¬ ((97 ≤ f i ∧ f i ≤ 122) ↔ l = 1))
theorem gd_0 {f : Int → Int} {a l : Int} : gdI f a a l 1 := Or.inl ⟨rfl, fun i h0 h1 => absurd h1 (by omega)⟩
theorem gd_k {f : Int → Int} {a e l g : Int} (h : gdI f a e l g) (hl : (l = 1 ∨ l = 0)) (hr : (97 ≤ f e ∧ f e ≤ 122) ↔ l = 1) : gdI f a (e + 1) l g := by
  rcases h with ⟨h1, h2⟩ | ⟨h1, i, h2, h3, h4⟩
  · refine Or.inl ⟨h1, fun i i0 i1 => ?_⟩
    by_cases q : i < e
    · exact h2 i i0 q
    · rw [show i = e by omega]; exact hr
  · exact Or.inr ⟨h1, i, h2, by omega, h4⟩
theorem gd_n {f : Int → Int} {a e l : Int} (h0 : a ≤ e) (hr : ¬ ((97 ≤ f e ∧ f e ≤ 122) ↔ l = 1)) : gdI f a (e + 1) l 0 := Or.inr ⟨rfl, e, h0, by omega, hr⟩
theorem gd_s {f : Int → Int} {a e l : Int} (h : gdI f a e l 0) : gdI f a (e + 1) l 0 := by
  rcases h with ⟨h1, h2⟩ | ⟨h1, i, h2, h3, h4⟩
  · exact absurd h1 (by decide)
  · exact Or.inr ⟨rfl, i, h2, by omega, h4⟩
theorem gd_all {f : Int → Int} {a e l g g' : Int} (h : gdI f a e l g) (h0 : a ≤ e) (hr : (g = 0 ∧ g' = 0) ∨ (g = 1 ∧ ((97 ≤ f e ∧ f e ≤ 122 ∧ l = 1) ∨ ((f e < 97 ∨ 122 < f e) ∧ l = 0)) ∧ g' = 1) ∨ (g = 1 ∧ ((97 ≤ f e ∧ f e ≤ 122 ∧ l = 0) ∨ ((f e < 97 ∨ 122 < f e) ∧ l = 1)) ∧ g' = 0)) : gdI f a (e + 1) l g' := by
  rcases hr with ⟨q1, q2⟩ | ⟨q1, q3, q2⟩ | ⟨q1, q3, q2⟩
  · subst q1; subst q2; exact gd_s h
  · subst q2
    rw [q1] at h
    exact gd_k h (by omega) ⟨fun q => by omega, fun q => by omega⟩
  · subst q2; exact gd_n h0 (fun q => by omega)
theorem aR_0 {f : Int → Int} {a : Int} : aR f a a := fun i h0 h1 => absurd h1 (by omega)
theorem aR_s {f : Int → Int} {a e : Int} (h : aR f a e) (h1 : (97 ≤ f e ∧ f e ≤ 122) ∨ (48 ≤ f e ∧ f e ≤ 57)) : aR f a (e + 1) := by
  intro i i0 i1
  by_cases q : i < e
  · exact h i i0 q
  · rw [show i = e by omega]; exact h1
/-- the reference's word and number so far -/
def wI (f : Int → Int) (a e : Int) (w : Int64) (u : Int32) : Prop := w = lI (w27 f a (min (e - a).toNat 7)) ∧ u = iI (nb10 f a (min (e - a).toNat 3))
theorem wI_0 {f : Int → Int} {a : Int} {w : Int64} {u : Int32} (hw : w = 0) (hu : u = iI 0) : wI f a a w u := by
  subst hw; subst hu
  refine ⟨?_, ?_⟩
  · rw [show min (a - a).toNat 7 = 0 by omega]; exact lc0
  · rw [show min (a - a).toNat 3 = 0 by omega]; rfl
theorem wI_s {f : Int → Int} {a e : Int} {w w' : Int64} {u u' : Int32} (h : wI f a e w u) (h0 : a ≤ e) (hb : 0 ≤ f e ∧ f e ≤ 255) (hw : (e - a < 7 ∧ w' = 27 * w + (iI (f e)).toInt64 - 96) ∨ (7 ≤ e - a ∧ w' = w)) (hu : (e - a < 3 ∧ u' = iI 10 * u + iI (f e) - iI 48) ∨ (3 ≤ e - a ∧ u' = u)) : wI f a (e + 1) w' u' := by
  obtain ⟨h1, h2⟩ := h
  refine ⟨?_, ?_⟩
  · rcases hw with ⟨q, hw⟩ | ⟨q, hw⟩
    · rw [hw, h1, lw_step (by omega) (by omega), show min (e + 1 - a).toNat 7 = (min (e - a).toNat 7) + 1 by omega, w27, show a + ((min (e - a).toNat 7 : Nat) : Int) = e by omega]
    · rw [hw, h1, show min (e + 1 - a).toNat 7 = min (e - a).toNat 7 by omega]
  · rcases hu with ⟨q, hu⟩ | ⟨q, hu⟩
    · rw [hu, h2, in_step, show min (e + 1 - a).toNat 3 = (min (e - a).toNat 3) + 1 by omega, nb10, show a + ((min (e - a).toNat 3 : Nat) : Int) = e by omega]
    · rw [hu, h2, show min (e + 1 - a).toNat 3 = min (e - a).toNat 3 by omega]
theorem rn_lt {f : Int → Int} {n a : Int} (h : a < n) (hb : (97 ≤ f a ∧ f a ≤ 122) ∨ (48 ≤ f a ∧ f a ≤ 57)) : a < rn f n a := by
  rw [rn_t h hb]
  have := rn_ge f n (a + 1)
  omega
def lq (r x a b : Int) : Prop := (r = 1 ∧ a ≤ x ∧ x ≤ b) ∨ (r = 0 ∧ (x < a ∨ b < x))
theorem lq_1 {r x a b : Int} (h : lq r x a b) (hr : ¬ r = 0) : a ≤ x ∧ x ≤ b := by unfold lq at h; omega
theorem nld {r1 r2 x : Int} (hl : lq r1 x 97 122) (h1 : r1 = 0) (hd : lq r2 x 48 57) (h2 : r2 = 0) : ¬ ((97 ≤ x ∧ x ≤ 122) ∨ (48 ≤ x ∧ x ≤ 57)) := by unfold lq at hl hd; omega
def taQ (t n x y : Int) : Prop := (t < n ∧ x = y) ∨ (n ≤ t ∧ x = 0)
theorem ta_L {t n x y r : Int} (ht : taQ t n x y) (hl : lq r x 97 122) (hr : ¬ r = 0) : t < n ∧ 97 ≤ y ∧ y ≤ 122 := by unfold lq at hl; unfold taQ at ht; omega
theorem ta_D {t n x y r : Int} (ht : taQ t n x y) (hl : lq r x 48 57) (hr : ¬ r = 0) : t < n ∧ 48 ≤ y ∧ y ≤ 57 := by unfold lq at hl; unfold taQ at ht; omega
theorem ta_E {t n x x2 y r1 r2 : Int} (ht : taQ t n x y) (hl : lq r1 x 97 122) (h1 : r1 = 0) (ht2 : taQ t n x2 y) (hd : lq r2 x2 48 57) (h2 : r2 = 0) : n ≤ t ∨ ¬ ((97 ≤ y ∧ y ≤ 122) ∨ (48 ≤ y ∧ y ≤ 57)) := by unfold lq at hl hd; unfold taQ at ht ht2; omega
theorem gd_q {f : Int → Int} {a e l g g' r : Int} (h : gdI f a e l g) (h0 : a ≤ e) (hq : lq r (f e) 97 122) (l0 : 0 ≤ l) (l1 : l ≤ 1) (g0 : 0 ≤ g) (g1 : g ≤ 1) (hg : ¬ g = 0) (hr : (r = l ∧ g' = 1) ∨ (¬ r = l ∧ g' = 0)) : gdI f a (e + 1) l g' := gd_all h h0 (by unfold lq at hq; omega)
theorem gd_z {f : Int → Int} {a e l g : Int} (h : gdI f a e l g) (hg : g = 0) : gdI f a (e + 1) l 0 := by subst hg; exact gd_s h
theorem go_fin {f : Int → Int} {n a e l g k : Int} {w : Int64} {u : Int32} {s : Int} (hR : aR f a e) (hg : gdI f a e l g) (hl : lq l (f a) 97 122) (e2 : rn f n a = e) (hn : a < n) (h2 : (97 ≤ f a ∧ f a ≤ 122) ∨ (48 ≤ f a ∧ f a ≤ 57)) (hw : wI f a e w u) (hk : (g = 0 ∧ k = 1) ∨ (g = 1 ∧ l = 1 ∧ 7 < e - a ∧ k = 1) ∨ (g = 1 ∧ l = 0 ∧ 3 < e - a ∧ k = 1) ∨ (g = 1 ∧ l = 1 ∧ e - a ≤ 7 ∧ k = 2) ∨ (g = 1 ∧ l = 0 ∧ e - a ≤ 3 ∧ k = 3)) : RT (runTk f a e) k w u s := by
  have h0 : a < e := e2 ▸ rn_lt hn h2
  unfold lq at hl
  have ha := hR a (by omega) h0
  rcases hg with ⟨g1, hG⟩ | ⟨g1, i, i0, i1, hG⟩
  · by_cases q : l = 1
    · have hA : aL f a e := fun i i0 i1 => (hG i i0 i1).mpr q
      have nD : ¬ aD f a e := fun d => by have := d a (by omega) h0; omega
      by_cases q7 : e - a ≤ 7
      · rw [run_w hA (by omega) q7]
        refine ⟨by omega, ?_, run_nm hA (by omega) q7⟩
        rw [hw.1, show min (e - a).toNat 7 = (e - a).toNat by omega]
      · rw [run_b (by omega) (fun h => q7 h.2) (fun h => nD h.1)]
        show k = 1
        omega
    · have hD : aD f a e := fun i i0 i1 => by
        have h1 := hR i i0 i1
        have h2 := hG i i0 i1
        by_cases q2 : 97 ≤ f i ∧ f i ≤ 122
        · exact absurd (h2.mp q2) q
        · omega
      have nL : ¬ aL f a e := fun d => by have := d a (by omega) h0; omega
      by_cases q3 : e - a ≤ 3
      · rw [run_n hD h0 q3]
        have hb := nb_3 hD (by omega) q3
        refine ⟨by omega, ?_, hb.1, hb.2⟩
        rw [hw.2, show min (e - a).toNat 3 = (e - a).toNat by omega]
      · rw [run_b (by omega) (fun h => nL h.1) (fun h => q3 h.2)]
        show k = 1
        omega
  · have hk1 : k = 1 := by omega
    have nL : ¬ aL f a e := fun d => by
      have d1 := d i i0 i1
      have d2 := d a (by omega) h0
      exact hG ⟨fun _ => by omega, fun _ => d1⟩
    have nD : ¬ aD f a e := fun d => by
      have d1 := d i i0 i1
      have d2 := d a (by omega) h0
      exact hG ⟨fun q => by omega, fun q => by omega⟩
    rw [run_b (by omega) (fun h => nL h.1) (fun h => nD h.1)]
    exact hk1
-- ===== the words that are told =====
def wrs : List Int64 := [232608281, 256855, 283616147, 90050, 10413527, 495765, 212488, 8602698, 50684, 1418437, 3957544, 1087201837, 180467749, 259906, 2968, 423, 1111, 10631, 307058, 40586, 405095, 361240, 459818, 279252, 247552, 1752773, 212302449]
def kwl : List (List Int) := [[14, 15, 19, 18, 5, 16], [4, 9, 1, 13], [20, 5, 5, 18, 20, 19], [5, 14, 15, 4], [5, 18, 1, 16, 19], [18, 1, 5, 25], [25, 12, 21, 10], [12, 18, 1, 5, 16], [5, 14, 15, 2], [19, 19, 1, 18, 2], [19, 19, 1, 12, 7], [19, 14, 15, 20, 20, 21, 2], [19, 5, 19, 15, 15, 12], [4, 14, 5, 13], [25, 1, 4], [18, 15], [4, 14, 1], [20, 15, 14], [14, 5, 16, 15], [5, 18, 1, 2], [14, 18, 15, 20], [7, 14, 9, 18], [8, 20, 9, 23], [18, 1, 5, 14], [16, 15, 15, 12], [14, 9, 1, 8, 3], [18, 5, 2, 13, 21, 14]]
def wltF (k : Nat) : Int64 := wlt.getD k 0
def wkdF (k : Nat) : Int := (wkd.getD k 0).toInt
def wrd (k : Nat) : Int64 := wrs.getD k 0
def wrdZ (k : Int) : Int64 := wrd k.toNat
theorem kw_all : (List.range 27).all (fun k => decide (wltF k = lI (r32 (kwl.getD k []))) && (decide (wrd k = lI (r27 (kwl.getD k []))) && (decide ((kwl.getD k []).length ≤ 7) && (kwl.getD k []).all (fun d => decide (1 ≤ d) && decide (d ≤ 26))))) = true := by decide +kernel
theorem okr_b : ∀ l : List Int, l.all (fun d => decide (1 ≤ d) && decide (d ≤ 26)) = true → okr l := by
  intro l
  induction l with
  | nil => intro _; exact trivial
  | cons d l ih =>
    intro h
    rw [List.all_cons] at h
    have h1 := Bool.and_eq_true_iff.mp h
    have h2 := Bool.and_eq_true_iff.mp h1.1
    exact ⟨of_decide_eq_true h2.1, of_decide_eq_true h2.2, ih h1.2⟩
theorem kw_nm (k : Nat) (hk : k < 27) : nmR (wltF k) (wrd k) := by
  have h := List.all_eq_true.mp kw_all k (List.mem_range.mpr hk)
  have h1 := Bool.and_eq_true_iff.mp h
  have h2 := Bool.and_eq_true_iff.mp h1.2
  have h3 := Bool.and_eq_true_iff.mp h2.2
  exact ⟨_, _, _, of_decide_eq_true h3.1, ⟨kwl.getD k [], rfl, okr_b _ h3.2, rfl, rfl⟩, of_decide_eq_true h1.1, of_decide_eq_true h2.1⟩
def kdW (w : Int64) : Int := if w = wrd 7 then 0 else if w = wrd 8 then 1 else if w = wrd 9 then 2 else if w = wrd 10 then 3 else -1
theorem kd_all : (List.range 27).all (fun k => decide (kdW (wrd k) = wkdF k)) = true := by decide +kernel
theorem kd_k (k : Nat) (hk : k < 27) : kdW (wrd k) = wkdF k := of_decide_eq_true (List.all_eq_true.mp kd_all k (List.mem_range.mpr hk))
theorem wd_all : (List.range 27).all (fun i => (List.range 27).all (fun j => decide (wrd i = wrd j → i = j))) = true := by decide +kernel
theorem wd_inj {i j : Nat} (hi : i < 27) (hj : j < 27) (h : wrd i = wrd j) : i = j := of_decide_eq_true (List.all_eq_true.mp (List.all_eq_true.mp wd_all i (List.mem_range.mpr hi)) j (List.mem_range.mpr hj)) h
theorem kd_no {w : Int64} (h : ∀ k : Nat, k < 27 → w ≠ wrd k) : kdW w = -1 := by
  rw [kdW, if_neg (h 7 (by decide)), if_neg (h 8 (by decide)), if_neg (h 9 (by decide)), if_neg (h 10 (by decide))]
-- ===== what a text of a city tells =====
def isNmB : Tk → Bool
  | .inr (.inr (.inl (_, w))) => (List.range 27).all (fun k => decide (w ≠ wrd k))
  | _ => false
abbrev isNm (y : Tk) : Prop := isNmB y = true
theorem isNm_w {x w : Int64} : isNm (tkWord x w) ↔ ∀ k : Nat, k < 27 → w ≠ wrd k := by
  show (List.range 27).all (fun k => decide (w ≠ wrd k)) = true ↔ _
  rw [List.all_eq_true]
  exact ⟨fun h k hk => of_decide_eq_true (h k (List.mem_range.mpr hk)), fun h k hk => decide_eq_true (h k (List.mem_range.mp hk))⟩
def isWB : Tk → Nat → Bool
  | .inr (.inr (.inl (_, w))), k => decide (w = wrd k)
  | _, _ => false
abbrev isW (y : Tk) (k : Nat) : Prop := isWB y k = true
theorem isW_w {x w : Int64} {k : Nat} : isW (tkWord x w) k ↔ w = wrd k := ⟨fun h => of_decide_eq_true h, fun h => decide_eq_true h⟩
def wdO : Tk → Int64
  | .inr (.inr (.inl (_, w))) => w
  | _ => 0
def xdO : Tk → Int64
  | .inr (.inr (.inl (x, _))) => x
  | _ => 0
def kdO : Tk → Int
  | .inr (.inr (.inl (_, w))) => kdW w
  | _ => -1
def nuO (a b : Int) : Tk → Int
  | .inr (.inr (.inr (.inl v))) => if a ≤ v ∧ v ≤ b then v else -2
  | _ => -1
abbrev PV : Type := (Int × Int) ⊕ Int
abbrev PS : Type := (Tk × Int × Int) × (Int → Int) × (Nat → Int64) × (Int → Int)
abbrev PR : Type := (Int × Int) ⊕ PS
abbrev CR : Type := (Int × Int) ⊕ (PS × Int)
def bnd : PV → (Int → PR) → PR
  | .inl q, _ => .inl q
  | .inr v, g => g v
def nx (f : Int → Int) (n L : Int) (x : Tk × Int × Int) : Tk × Int × Int := tkAt f n L x.2.2
def ix (z : Int) : Nat := Int32.toNatClampNeg (iI z)
def tb (x b : Int) : Int := ((iI x >>> (iI b &&& 31)) &&& iI 1).toInt
def orb (x b : Int) : Int := (iI x ||| (iI 1 <<< (iI b &&& 31))).toInt
def exB (r : Int → Int) (b : Int) : Bool := (List.range (r 0).toNat).any (fun p => decide (r (32 + (p : Int)) = b))
theorem exB_i {r : Int → Int} {b : Int} : exB r b = true ↔ ∃ p : Int, 0 ≤ p ∧ p < r 0 ∧ r (32 + p) = b := by
  unfold exB
  rw [List.any_eq_true]
  constructor
  · rintro ⟨p, h1, h2⟩
    have h3 := List.mem_range.mp h1
    exact ⟨p, by omega, by omega, of_decide_eq_true h2⟩
  · rintro ⟨p, h0, h1, h2⟩
    refine ⟨p.toNat, List.mem_range.mpr (by omega), decide_eq_true ?_⟩
    rw [Int.toNat_of_nonneg h0]
    exact h2
def sChk (r : Int → Int) (h : Nat → Int64) (x : Tk × Int × Int) : PV := if ¬ isNm x.1 then .inl (1, x.2.1) else if FI h 0 (r 0) (wdO x.1) = -1 ∧ FI h 9 (r 1) (wdO x.1) = -1 then .inr 0 else .inl (3, x.2.1)
def sOne (r : Int → Int) (h : Nat → Int64) (x : Tk × Int × Int) : PV := if ¬ isNm x.1 then .inl (1, x.2.1) else if FI h 0 (r 0) (wdO x.1) = -1 then .inl (3, x.2.1) else .inr (FI h 0 (r 0) (wdO x.1))
def sKd (x : Tk × Int × Int) : PV := if kdO x.1 = -1 then .inl (1, x.2.1) else .inr (kdO x.1)
def sNu (a b : Int) (x : Tk × Int × Int) : PV := if nuO a b x.1 = -1 then .inl (1, x.2.1) else if nuO a b x.1 = -2 then .inl (2, x.2.1) else .inr (nuO a b x.1)
section SP
variable (f : Int → Int) (n L : Int) (x : Tk × Int × Int) (r : Int → Int) (h : Nat → Int64) (o : Int → Int)
def sPerson : PR := if r 0 = 9 then .inl (4, x.2.1) else bnd (sChk r h (nx f n L x)) fun _ => bnd (sKd (nx f n L (nx f n L x))) fun a => bnd (sKd (nx f n L (nx f n L (nx f n L x)))) fun b => bnd (sNu 1 9 (nx f n L (nx f n L (nx f n L (nx f n L x))))) fun c => .inr ⟨nx f n L (nx f n L (nx f n L (nx f n L (nx f n L x)))), upz (upz (upz (upz r (5 + r 0) a) (14 + r 0) b) (23 + r 0) c) 0 (r 0 + 1), vp_updL h (ix (r 0)) (wdO (nx f n L x).1), o⟩
def sMaid : PR := if r 1 = 3 then .inl (4, x.2.1) else bnd (sChk r h (nx f n L x)) fun _ => bnd (sNu 1 9 (nx f n L (nx f n L x))) fun c => .inr ⟨nx f n L (nx f n L (nx f n L x)), upz (upz r (41 + r 1) c) 1 (r 1 + 1), vp_updL h (ix (9 + r 1)) (wdO (nx f n L x).1), o⟩
def sStreet : PR := bnd (sOne r h (nx f n L x)) fun a => bnd (sOne r h (nx f n L (nx f n L x))) fun b => if b = a ∨ tb (r (44 + a)) b = 1 then .inl (3, (nx f n L (nx f n L x)).2.1) else .inr ⟨nx f n L (nx f n L (nx f n L x)), upz (upz r (44 + a) (orb (r (44 + a)) b)) (44 + b) (orb (r (44 + b)) a), h, o⟩
def sDone : PR := bnd (sOne r h (nx f n L x)) fun a => if ¬ r (32 + a) = -1 then .inl (3, (nx f n L x).2.1) else bnd (sOne r h (nx f n L (nx f n L x))) fun b => if b = a ∨ ¬ r (5 + b) = r (14 + a) ∨ exB r b = true then .inl (3, (nx f n L (nx f n L x)).2.1) else .inr ⟨nx f n L (nx f n L (nx f n L x)), upz r (32 + a) b, h, o⟩
def sOnce (k a b : Int) : PR := if o k = 1 then .inl (3, x.2.1) else bnd (sNu a b (nx f n L x)) fun c => .inr ⟨nx f n L (nx f n L x), upz r (2 + k) c, h, upz o k 1⟩
def sLine : PR := if isW x.1 0 then sPerson f n L x r h o else if isW x.1 1 then sMaid f n L x r h o else if isW x.1 2 then sStreet f n L x r h o else if isW x.1 3 then sDone f n L x r h o else if isW x.1 4 then sOnce f n L x r h o 0 0 20 else if isW x.1 5 then sOnce f n L x r h o 1 2 60 else if isW x.1 6 then sOnce f n L x r h o 2 0 60 else .inl (1, x.2.1)
end SP
def ctN (f : Int → Int) (n L : Int) : Nat → PS → Int → CR
  | 0, s, k => .inr (s, k)
  | j + 1, s, k => if s.1.1 = tkStop then .inr (s, k) else match sLine f n L s.1 s.2.1 s.2.2.1 s.2.2.2 with
    | .inl q => .inl q
    | .inr s1 => if s1.1.1 = tkSign 59 then ctN f n L j ⟨nx f n L s1.1, s1.2.1, s1.2.2.1, s1.2.2.2⟩ (k + 1) else .inl (1, s1.1.2.1)
theorem ct_stop {f : Int → Int} {n L : Int} {j : Nat} {s : PS} {k : Int} (h : s.1.1 = tkStop) : ctN f n L (j + 1) s k = .inr (s, k) := by rw [ctN, if_pos h]
theorem ct_bad {f : Int → Int} {n L : Int} {j : Nat} {s : PS} {k : Int} {q : Int × Int} (h : ¬ s.1.1 = tkStop) (e : sLine f n L s.1 s.2.1 s.2.2.1 s.2.2.2 = .inl q) : ctN f n L (j + 1) s k = .inl q := by rw [ctN, if_neg h, e]
theorem ct_end {f : Int → Int} {n L : Int} {j : Nat} {s s1 : PS} {k : Int} (h : ¬ s.1.1 = tkStop) (e : sLine f n L s.1 s.2.1 s.2.2.1 s.2.2.2 = .inr s1) (h1 : ¬ s1.1.1 = tkSign 59) : ctN f n L (j + 1) s k = .inl (1, s1.1.2.1) := by
  rw [ctN, if_neg h, e]
  exact if_neg h1
theorem ct_go {f : Int → Int} {n L : Int} {j : Nat} {s s1 : PS} {k : Int} (h : ¬ s.1.1 = tkStop) (e : sLine f n L s.1 s.2.1 s.2.2.1 s.2.2.2 = .inr s1) (h1 : s1.1.1 = tkSign 59) : ctN f n L (j + 1) s k = ctN f n L j ⟨nx f n L s1.1, s1.2.1, s1.2.2.1, s1.2.2.2⟩ (k + 1) := by
  rw [ctN, if_neg h, e]
  exact if_pos h1
-- ===== what the reference's readers answer =====
def RV : PV → Int → Int → Int → Int → Prop
  | .inl (k, p), r, fa, pl, _ => r = 0 ∧ fa = k ∧ pl = p
  | .inr v, r, _, _, t => r = 1 ∧ t = v
def RC : PV → Int → Int → Int → Prop
  | .inl (k, p), r, fa, pl => r = 0 ∧ fa = k ∧ pl = p
  | .inr _, r, _, _ => r = 1
def RP : PR → Int → Int → Int → (Tk × Int × Int → Prop) → (Int → Int) → (Nat → Int64) → (Int → Int) → Prop
  | .inl (k, p), r, fa, pl, _, _, _, _ => r = 0 ∧ fa = k ∧ pl = p
  | .inr s, r, _, _, G, rd, h, o => r = 1 ∧ G s.1 ∧ rd = s.2.1 ∧ h = s.2.2.1 ∧ o = s.2.2.2
theorem bdV_ok {m : PV} {g : Int → PR} {r fa pl t R fa' pl' : Int} {G : Tk × Int × Int → Prop} {rd : Int → Int} {h : Nat → Int64} {o : Int → Int} (c : RV m r fa pl t) (hr : r = 1) (hg : RP (g t) R fa' pl' G rd h o) : RP (bnd m g) R fa' pl' G rd h o := by
  rcases m with ⟨k, p⟩ | v
  · exact absurd (c.1.symm.trans hr) (by decide)
  · obtain ⟨_, rfl⟩ := c; exact hg
theorem bdV_bad {m : PV} {g : Int → PR} {r fa pl t R : Int} {G : Tk × Int × Int → Prop} {rd : Int → Int} {h : Nat → Int64} {o : Int → Int} (c : RV m r fa pl t) (hr : r = 0) (hR : R = 0) : RP (bnd m g) R fa pl G rd h o := by
  rcases m with ⟨k, p⟩ | v
  · exact ⟨hR, c.2⟩
  · exact absurd (c.1.symm.trans hr) (by decide)
theorem bdC_ok {m : PV} {g : Int → PR} {r fa pl R fa' pl' : Int} {G : Tk × Int × Int → Prop} {rd : Int → Int} {h : Nat → Int64} {o : Int → Int} (c : RC m r fa pl) (hr : r = 1) (hg : ∀ v, RP (g v) R fa' pl' G rd h o) : RP (bnd m g) R fa' pl' G rd h o := by
  rcases m with ⟨k, p⟩ | v
  · exact absurd (c.1.symm.trans hr) (by decide)
  · exact hg v
theorem bdC_bad {m : PV} {g : Int → PR} {r fa pl R : Int} {G : Tk × Int × Int → Prop} {rd : Int → Int} {h : Nat → Int64} {o : Int → Int} (c : RC m r fa pl) (hr : r = 0) (hR : R = 0) : RP (bnd m g) R fa pl G rd h o := by
  rcases m with ⟨k, p⟩ | v
  · exact ⟨hR, c.2⟩
  · exact absurd (Eq.symm hr |>.trans c) (by decide)
theorem RV_in {m : PV} {r fa pl t : Int} (c : RV m r fa pl t) (hr : r = 1) : m = .inr t := by
  rcases m with ⟨k, p⟩ | v
  · exact absurd (c.1.symm.trans hr) (by decide)
  · rw [c.2]
-- small answers
def nmQ (r kind : Int) (word : Int64) : Prop := (r = 1 ∧ kind = 2 ∧ ∀ k : Nat, k < 27 → word ≠ wrd k) ∨ (r = 0 ∧ ¬ (kind = 2 ∧ ∀ k : Nat, k < 27 → word ≠ wrd k))
def wdQ (r kind : Int) (word w : Int64) : Prop := (r = 1 ∧ kind = 2 ∧ word = w) ∨ (r = 0 ∧ ¬ (kind = 2 ∧ word = w))
def baQ (kind k fault : Int) : Prop := (kind = 1 ∧ fault = 1) ∨ (¬ kind = 1 ∧ fault = k)
theorem gT_nm {x : Tk × Int × Int} {kind fr to : Int} {word : Int64} {number : Int32} {sign : Int} (h : gT x kind fr to word number sign) : (kind = 2 ∧ ∀ k : Nat, k < 27 → word ≠ wrd k) ↔ isNm x.1 := by
  obtain ⟨t, a, b⟩ := x
  obtain ⟨-, -, h⟩ := h
  rcases t with u | u | ⟨x, w⟩ | v | c
  · exact ⟨fun q => absurd (q.1.symm.trans h) (by decide), fun q => absurd q Bool.false_ne_true⟩
  · exact ⟨fun q => absurd (q.1.symm.trans h) (by decide), fun q => absurd q Bool.false_ne_true⟩
  · obtain ⟨rfl, rfl, -⟩ := h; exact ⟨fun q => isNm_w.mpr q.2, fun q => ⟨rfl, isNm_w.mp q⟩⟩
  · exact ⟨fun q => absurd (q.1.symm.trans h.1) (by decide), fun q => absurd q Bool.false_ne_true⟩
  · exact ⟨fun q => absurd (q.1.symm.trans h.1) (by decide), fun q => absurd q Bool.false_ne_true⟩
theorem gT_wd {x : Tk × Int × Int} {kind fr to : Int} {word : Int64} {number : Int32} {sign : Int} (h : gT x kind fr to word number sign) (hk : kind = 2) : wdO x.1 = word := by
  obtain ⟨t, a, b⟩ := x
  obtain ⟨-, -, h⟩ := h
  rcases t with u | u | ⟨x, w⟩ | v | c
  · exact absurd (hk.symm.trans h) (by decide)
  · exact absurd (hk.symm.trans h) (by decide)
  · exact h.2.1.symm
  · exact absurd (hk.symm.trans h.1) (by decide)
  · exact absurd (hk.symm.trans h.1) (by decide)
theorem gT_isW {x : Tk × Int × Int} {kind fr to : Int} {word : Int64} {number : Int32} {sign : Int} (h : gT x kind fr to word number sign) (k : Nat) : (kind = 2 ∧ word = wrd k) ↔ isW x.1 k := by
  obtain ⟨t, a, b⟩ := x
  obtain ⟨-, -, h⟩ := h
  rcases t with u | u | ⟨x, w⟩ | v | c
  · exact ⟨fun q => absurd (q.1.symm.trans h) (by decide), fun q => absurd q Bool.false_ne_true⟩
  · exact ⟨fun q => absurd (q.1.symm.trans h) (by decide), fun q => absurd q Bool.false_ne_true⟩
  · obtain ⟨rfl, rfl, -⟩ := h; exact ⟨fun q => isW_w.mpr q.2, fun q => ⟨rfl, isW_w.mp q⟩⟩
  · exact ⟨fun q => absurd (q.1.symm.trans h.1) (by decide), fun q => absurd q Bool.false_ne_true⟩
  · exact ⟨fun q => absurd (q.1.symm.trans h.1) (by decide), fun q => absurd q Bool.false_ne_true⟩
theorem gT_bad {x : Tk × Int × Int} {kind fr to : Int} {word : Int64} {number : Int32} {sign : Int} (h : gT x kind fr to word number sign) : kind = 1 ↔ x.1 = tkBad := by
  obtain ⟨t, a, b⟩ := x
  obtain ⟨-, -, h⟩ := h
  rcases t with u | u | ⟨x, w⟩ | v | c
  · exact ⟨fun q => absurd (q.symm.trans h) (by decide), fun q => by cases q⟩
  · exact ⟨fun _ => rfl, fun _ => h⟩
  · exact ⟨fun q => absurd (q.symm.trans h.1) (by decide), fun q => by cases q⟩
  · exact ⟨fun q => absurd (q.symm.trans h.1) (by decide), fun q => by cases q⟩
  · exact ⟨fun q => absurd (q.symm.trans h.1) (by decide), fun q => by cases q⟩
theorem gT_stop {x : Tk × Int × Int} {kind fr to : Int} {word : Int64} {number : Int32} {sign : Int} (h : gT x kind fr to word number sign) : kind = 0 ↔ x.1 = tkStop := by
  obtain ⟨t, a, b⟩ := x
  obtain ⟨-, -, h⟩ := h
  rcases t with u | u | ⟨x, w⟩ | v | c
  · exact ⟨fun _ => rfl, fun _ => h⟩
  · exact ⟨fun q => absurd (q.symm.trans h) (by decide), fun q => by cases q⟩
  · exact ⟨fun q => absurd (q.symm.trans h.1) (by decide), fun q => by cases q⟩
  · exact ⟨fun q => absurd (q.symm.trans h.1) (by decide), fun q => by cases q⟩
  · exact ⟨fun q => absurd (q.symm.trans h.1) (by decide), fun q => by cases q⟩
theorem gT_sg {x : Tk × Int × Int} {kind fr to : Int} {word : Int64} {number : Int32} {sign : Int} (h : gT x kind fr to word number sign) (c : Int) : (kind = 4 ∧ sign = c) ↔ x.1 = tkSign c := by
  obtain ⟨t, a, b⟩ := x
  obtain ⟨-, -, h⟩ := h
  rcases t with u | u | ⟨x, w⟩ | v | d
  · exact ⟨fun q => absurd (q.1.symm.trans h) (by decide), fun q => by cases q⟩
  · exact ⟨fun q => absurd (q.1.symm.trans h) (by decide), fun q => by cases q⟩
  · exact ⟨fun q => absurd (q.1.symm.trans h.1) (by decide), fun q => by cases q⟩
  · exact ⟨fun q => absurd (q.1.symm.trans h.1) (by decide), fun q => by cases q⟩
  · obtain ⟨rfl, rfl⟩ := h; exact ⟨fun q => by rw [q.2], fun q => ⟨rfl, by cases q; rfl⟩⟩
