def fiN (h : Nat → Int64) (b : Int) (w : Int64) : Nat → Int → Int
  | 0, _ => -1
  | n + 1, k => if h (Int32.toNatClampNeg (iI (b + k))) = w then k else fiN h b w n (k + 1)
def FI (h : Nat → Int64) (b m : Int) (w : Int64) : Int := fiN h b w m.toNat 0
theorem fi_0 {h : Nat → Int64} {b m : Int} {w : Int64} : FI h b m w = fiN h b w (m - 0).toNat 0 := by rw [Int.sub_zero]; rfl
theorem fi_hit {h : Nat → Int64} {b m k : Int} {w : Int64} (hl : FI h b m w = fiN h b w (m - k).toNat k) (hk : k < m) (he : lg_cmp (h (Int32.toNatClampNeg (iI (b + k)))) w = 0) : k = FI h b m w := by
  rw [hl, show (m - k).toNat = (m - (k + 1)).toNat + 1 by omega, fiN, if_pos ((lg_cmp_eq _ _).mp he)]
theorem fi_no {h : Nat → Int64} {b m k : Int} {w : Int64} (hl : FI h b m w = fiN h b w (m - k).toNat k) (hk : k < m) (he : ¬ lg_cmp (h (Int32.toNatClampNeg (iI (b + k)))) w = 0) : FI h b m w = fiN h b w (m - (k + 1)).toNat (k + 1) := by
  rw [hl, show (m - k).toNat = (m - (k + 1)).toNat + 1 by omega, fiN, if_neg (fun e => he ((lg_cmp_eq _ _).mpr e))]
theorem fi_end {h : Nat → Int64} {b m k : Int} {w : Int64} (hl : FI h b m w = fiN h b w (m - k).toNat k) (hk : m ≤ k) : (-1) = FI h b m w := by
  rw [hl, show (m - k).toNat = 0 by omega, fiN]
-- ===== longs by their numbers =====
def lI (z : Int) : Int64 := Int64.ofInt z
theorem lI_add (a b : Int) : lI a + lI b = lI (a + b) := (Int64.ofInt_add a b).symm
theorem lI_sub (a b : Int) : lI a - lI b = lI (a - b) := (Int64.ofInt_sub a b).symm
theorem lI_mul (a b : Int) : lI a * lI b = lI (a * b) := (Int64.ofInt_mul a b).symm
theorem lI_i {z : Int} (h0 : -9223372036854775808 ≤ z) (h1 : z ≤ 9223372036854775807) : (lI z).toInt = z := Int64.toInt_ofInt_of_le (Int.le_trans (by decide) h0) (Int.lt_of_le_of_lt h1 (by decide))
theorem lI_inj {a b : Int} (a0 : -9223372036854775808 ≤ a) (a1 : a ≤ 9223372036854775807) (b0 : -9223372036854775808 ≤ b) (b1 : b ≤ 9223372036854775807) (h : lI a = lI b) : a = b := by
  have e := congrArg Int64.toInt h
  rw [lI_i a0 a1, lI_i b0 b1] at e
  exact e
theorem iI_l {z : Int} (h0 : -2147483648 ≤ z) (h1 : z ≤ 2147483647) : (iI z).toInt64 = lI z := by
  apply Int64.toInt_inj.mp
  rw [Int32.toInt_toInt64, iI_i h0 h1, lI_i (by omega) (by omega)]
theorem iI_inj {a b : Int} (a0 : -2147483648 ≤ a) (a1 : a ≤ 2147483647) (b0 : -2147483648 ≤ b) (b1 : b ≤ 2147483647) (h : iI a = iI b) : a = b := (iI_eq a0 a1 b0 b1).mp h
theorem l27 : (27 : Int64) = lI 27 := by decide +kernel
theorem l96 : (96 : Int64) = lI 96 := by decide +kernel
theorem l0 : (0 : Int64) = lI 0 := by decide +kernel
theorem lw_step {w d : Int} (h0 : -2147483648 ≤ d) (h1 : d ≤ 2147483647) : 27 * lI w + (iI d).toInt64 - 96 = lI (27 * w + d - 96) := by
  rw [iI_l h0 h1, l27, l96, lI_mul, lI_add, lI_sub]
theorem in_step {w d : Int} : iI 10 * iI w + iI d - iI 48 = iI (10 * w + d - 48) := by rw [iI_mul, iI_add, iI_sub]
theorem in_step2 {w d : Int} : iI w * iI 10 + iI d - iI 48 = iI (10 * w + d - 48) := by rw [iI_mul, iI_add, iI_sub, Int.mul_comm w 10]
theorem sh_or (x d : BitVec 64) (h : d.toNat < 32) : (x <<< 5) ||| d = x * 32#64 + d := by
  have e : x <<< 5 = x * 32#64 := by
    rw [BitVec.shiftLeft_eq_mul_twoPow, show BitVec.twoPow 64 5 = 32#64 from by decide +kernel]
  have a : (x <<< 5) &&& d = 0#64 := by
    apply BitVec.eq_of_getLsbD_eq
    intro i hi
    rw [BitVec.getLsbD_and, BitVec.getLsbD_shiftLeft]
    by_cases h5 : i < 5
    · simp [h5]
    · have h6 : d.getLsbD i = false := by
        have h7 : 2 ^ 5 ≤ 2 ^ i := Nat.pow_le_pow_right (by decide) (by omega)
        have h8 : d.toNat < 2 ^ i := Nat.lt_of_lt_of_le h h7
        exact Nat.testBit_lt_two_pow h8
      simp [h6]
  rw [← BitVec.add_eq_or_of_and_eq_zero _ _ a, e]
-- ===== blanks, runs =====
def skN (f : Int → Int) (n : Int) : Nat → Int → Int
  | 0, t => t
  | k + 1, t => if t < n ∧ (f t = 32 ∨ f t = 10) then skN f n k (t + 1) else t
def sk (f : Int → Int) (n t : Int) : Int := skN f n (n - t).toNat t
theorem sk_t {f : Int → Int} {n t : Int} (h : t < n) (hb : f t = 32 ∨ f t = 10) : sk f n t = sk f n (t + 1) := by
  unfold sk
  rw [show (n - t).toNat = (n - (t + 1)).toNat + 1 by omega, skN, if_pos ⟨h, hb⟩]
theorem sk_e {f : Int → Int} {n t : Int} (h : n ≤ t ∨ (¬ f t = 32 ∧ ¬ f t = 10)) : sk f n t = t := by
  unfold sk
  cases hk : (n - t).toNat with
  | zero => rfl
  | succ k => rw [skN, if_neg (by omega)]
def rnN (f : Int → Int) (n : Int) : Nat → Int → Int
  | 0, t => t
  | k + 1, t => if t < n ∧ ((97 ≤ f t ∧ f t ≤ 122) ∨ (48 ≤ f t ∧ f t ≤ 57)) then rnN f n k (t + 1) else t
def rn (f : Int → Int) (n t : Int) : Int := rnN f n (n - t).toNat t
theorem rn_t {f : Int → Int} {n t : Int} (h : t < n) (hb : (97 ≤ f t ∧ f t ≤ 122) ∨ (48 ≤ f t ∧ f t ≤ 57)) : rn f n t = rn f n (t + 1) := by
  unfold rn
  rw [show (n - t).toNat = (n - (t + 1)).toNat + 1 by omega, rnN, if_pos ⟨h, hb⟩]
theorem rn_e {f : Int → Int} {n t : Int} (h : n ≤ t ∨ ¬ ((97 ≤ f t ∧ f t ≤ 122) ∨ (48 ≤ f t ∧ f t ≤ 57))) : rn f n t = t := by
  unfold rn
  cases hk : (n - t).toNat with
  | zero => rfl
  | succ k => rw [rnN, if_neg (by omega)]
theorem skN_ge (f : Int → Int) (n : Int) : ∀ (k : Nat) (t : Int), t ≤ skN f n k t := by
  intro k
  induction k with
  | zero => intro t; exact Int.le_refl t
  | succ k ih =>
    intro t
    rw [skN]
    split
    · exact Int.le_trans (by omega) (ih (t + 1))
    · exact Int.le_refl t
theorem sk_ge (f : Int → Int) (n t : Int) : t ≤ sk f n t := skN_ge f n _ t
theorem rnN_ge (f : Int → Int) (n : Int) : ∀ (k : Nat) (t : Int), t ≤ rnN f n k t := by
  intro k
  induction k with
  | zero => intro t; exact Int.le_refl t
  | succ k ih =>
    intro t
    rw [rnN]
    split
    · exact Int.le_trans (by omega) (ih (t + 1))
    · exact Int.le_refl t
theorem rn_ge (f : Int → Int) (n t : Int) : t ≤ rn f n t := rnN_ge f n _ t
-- ===== words and numbers =====
def w27 (f : Int → Int) (a : Int) : Nat → Int
  | 0 => 0
  | k + 1 => 27 * w27 f a k + f (a + k) - 96
def w32 (f : Int → Int) (a : Int) : Nat → Int
  | 0 => 0
  | k + 1 => 32 * w32 f a k + (f (a + k) - 96)
def nb10 (f : Int → Int) (a : Int) : Nat → Int
  | 0 => 0
  | k + 1 => 10 * nb10 f a k + f (a + k) - 48
def aL (f : Int → Int) (a e : Int) : Prop := ∀ i, a ≤ i → i < e → 97 ≤ f i ∧ f i ≤ 122
def aD (f : Int → Int) (a e : Int) : Prop := ∀ i, a ≤ i → i < e → 48 ≤ f i ∧ f i ≤ 57
def aR (f : Int → Int) (a e : Int) : Prop := ∀ i, a ≤ i → i < e → (97 ≤ f i ∧ f i ≤ 122) ∨ (48 ≤ f i ∧ f i ≤ 57)
inductive okw : Nat → Int → Int → Prop
  | nil : okw 0 0 0
  | cons {k : Nat} {x w : Int} (d : Int) : okw k x w → 1 ≤ d → d ≤ 26 → okw (k + 1) (32 * x + d) (27 * w + d)
theorem okw_nn {k : Nat} {x w : Int} (h : okw k x w) : 0 ≤ x ∧ 0 ≤ w := by
  induction h with
  | nil => exact ⟨by decide, by decide⟩
  | cons d _ h1 h2 ih => exact ⟨by omega, by omega⟩
theorem okw_b {k : Nat} {x w : Int} (h : okw k x w) : x < 32 ^ k ∧ w < 32 ^ k := by
  induction h with
  | nil => exact ⟨by decide, by decide⟩
  | cons d _ h1 h2 ih =>
    rw [Int.pow_succ]
    exact ⟨by omega, by omega⟩
theorem okw_xw {k k' : Nat} {x w x' w' : Int} (h : okw k x w) : okw k' x' w' → x = x' → w = w' := by
  intro h'
  induction h generalizing k' x' w' with
  | nil =>
    intro e
    cases h' with
    | nil => rfl
    | cons d h1 h2 h3 => have := okw_nn h1; omega
  | cons d h1 h2 h3 ih =>
    intro e
    cases h' with
    | nil => have := okw_nn h1; omega
    | cons d' g1 g2 g3 =>
      have := ih g1 (by omega)
      omega
theorem okw_wx {k k' : Nat} {x w x' w' : Int} (h : okw k x w) : okw k' x' w' → w = w' → x = x' := by
  intro h'
  induction h generalizing k' x' w' with
  | nil =>
    intro e
    cases h' with
    | nil => rfl
    | cons d h1 h2 h3 => have := okw_nn h1; omega
  | cons d h1 h2 h3 ih =>
    intro e
    cases h' with
    | nil => have := okw_nn h1; omega
    | cons d' g1 g2 g3 =>
      have := ih g1 (by omega)
      omega
theorem okw_7 {k : Nat} {x w : Int} (h : okw k x w) (hk : k ≤ 7) : 0 ≤ x ∧ x < 34359738368 ∧ 0 ≤ w ∧ w < 34359738368 := by
  have h1 := okw_nn h
  have h2 := okw_b h
  have h3 : (32 : Int) ^ k ≤ 34359738368 := by
    have hh : k = 0 ∨ k = 1 ∨ k = 2 ∨ k = 3 ∨ k = 4 ∨ k = 5 ∨ k = 6 ∨ k = 7 := by omega
    rcases hh with rfl | rfl | rfl | rfl | rfl | rfl | rfl | rfl <;> decide
  exact ⟨h1.1, by omega, h1.2, by omega⟩
/-- one name, as the class holds it and as the reference does -/
def nmR (x w : Int64) : Prop := ∃ (k : Nat) (u v : Int), k ≤ 7 ∧ okw k u v ∧ x = lI u ∧ w = lI v
theorem nmR_iff {x w x' w' : Int64} (h : nmR x w) (h' : nmR x' w') : x = x' ↔ w = w' := by
  obtain ⟨k, u, v, hk, ho, rfl, rfl⟩ := h
  obtain ⟨k', u', v', hk', ho', rfl, rfl⟩ := h'
  have b := okw_7 ho hk
  have b' := okw_7 ho' hk'
  constructor
  · intro e
    rw [okw_xw ho ho' (lI_inj (by omega) (by omega) (by omega) (by omega) e)]
  · intro e
    rw [okw_wx ho ho' (lI_inj (by omega) (by omega) (by omega) (by omega) e)]
theorem w_ok {f : Int → Int} {a : Int} : ∀ (k : Nat), aL f a (a + k) → okw k (w32 f a k) (w27 f a k) := by
  intro k
  induction k with
  | zero => intro _; exact okw.nil
  | succ k ih =>
    intro h
    have h1 := ih (fun i h0 h1 => h i h0 (by omega))
    have h2 := h (a + k) (by omega) (by omega)
    have h3 := okw.cons (f (a + k) - 96) h1 (by omega) (by omega)
    rw [show 27 * w27 f a k + (f (a + k) - 96) = w27 f a (k + 1) by rw [w27]; omega] at h3
    exact h3
theorem nb_ok {f : Int → Int} {a : Int} : ∀ (k : Nat), aD f a (a + k) → 0 ≤ nb10 f a k ∧ nb10 f a k < 10 ^ k := by
  intro k
  induction k with
  | zero => intro _; exact ⟨by decide, by decide⟩
  | succ k ih =>
    intro h
    have h1 := ih (fun i h0 h1 => h i h0 (by omega))
    have h2 := h (a + k) (by omega) (by omega)
    rw [nb10, Int.pow_succ]
    exact ⟨by omega, by omega⟩
theorem nb_3 {f : Int → Int} {a e : Int} (h : aD f a e) (h0 : a ≤ e) (h1 : e - a ≤ 3) : 0 ≤ nb10 f a (e - a).toNat ∧ nb10 f a (e - a).toNat ≤ 999 := by
  have h2 := nb_ok (e - a).toNat (fun i i0 i1 => h i i0 (by omega))
  have h3 : (10 : Int) ^ (e - a).toNat ≤ 1000 := by
    have hh : (e - a).toNat = 0 ∨ (e - a).toNat = 1 ∨ (e - a).toNat = 2 ∨ (e - a).toNat = 3 := by omega
    rcases hh with hh | hh | hh | hh <;> rw [hh] <;> decide
  exact ⟨h2.1, by omega⟩
inductive Tk where
  | stop : Tk
  | bad : Tk
  | word (x w : Int64) : Tk
  | num (v : Int) : Tk
  | sign (c : Int) : Tk
def mkS (c : Int) : Prop := c = 59 ∨ c = 60 ∨ c = 61 ∨ c = 62 ∨ c = 40 ∨ c = 41
open Classical in
noncomputable def runTk (f : Int → Int) (a e : Int) : Tk := if aL f a e ∧ e - a ≤ 7 then .word (lI (w32 f a (e - a).toNat)) (lI (w27 f a (e - a).toNat)) else if aD f a e ∧ e - a ≤ 3 then .num (nb10 f a (e - a).toNat) else .bad
open Classical in
/-- the token behind t: what it is, where it is, where one goes on -/
noncomputable def tkAt (f : Int → Int) (n L t : Int) : Tk × Int × Int := if L < n ∧ L ≤ sk f n t then (.bad, L, sk f n t) else if n ≤ sk f n t then (.stop, sk f n t, sk f n t) else if (97 ≤ f (sk f n t) ∧ f (sk f n t) ≤ 122) ∨ (48 ≤ f (sk f n t) ∧ f (sk f n t) ≤ 57) then (runTk f (sk f n t) (rn f n (sk f n t)), sk f n t, rn f n (sk f n t)) else if mkS (f (sk f n t)) then (.sign (f (sk f n t)), sk f n t, sk f n t + 1) else (.bad, sk f n t, sk f n t + 1)
theorem tk_lim {f : Int → Int} {n L t a : Int} (e : sk f n t = a) (h : L < n) (h1 : L ≤ a) : tkAt f n L t = (.bad, L, a) := by
  rw [tkAt, e, if_pos ⟨h, h1⟩]
theorem tk_stop {f : Int → Int} {n L t a : Int} (e : sk f n t = a) (h : n ≤ L ∨ a < L) (h1 : n ≤ a) : tkAt f n L t = (.stop, a, a) := by
  rw [tkAt, e, if_neg (by omega), if_pos h1]
theorem tk_run {f : Int → Int} {n L t a b : Int} (e : sk f n t = a) (h : n ≤ L ∨ a < L) (h1 : a < n) (h2 : (97 ≤ f a ∧ f a ≤ 122) ∨ (48 ≤ f a ∧ f a ≤ 57)) (e2 : rn f n a = b) : tkAt f n L t = (runTk f a b, a, b) := by
  rw [tkAt, e, if_neg (by omega), if_neg (by omega), if_pos h2, e2]
theorem tk_sg {f : Int → Int} {n L t a : Int} (e : sk f n t = a) (h : n ≤ L ∨ a < L) (h1 : a < n) (h2 : ¬ ((97 ≤ f a ∧ f a ≤ 122) ∨ (48 ≤ f a ∧ f a ≤ 57))) (h3 : mkS (f a)) : tkAt f n L t = (.sign (f a), a, a + 1) := by
  rw [tkAt, e, if_neg (by omega), if_neg (by omega), if_neg h2, if_pos h3]
theorem tk_no {f : Int → Int} {n L t a : Int} (e : sk f n t = a) (h : n ≤ L ∨ a < L) (h1 : a < n) (h2 : ¬ ((97 ≤ f a ∧ f a ≤ 122) ∨ (48 ≤ f a ∧ f a ≤ 57))) (h3 : ¬ mkS (f a)) : tkAt f n L t = (.bad, a, a + 1) := by
  rw [tkAt, e, if_neg (by omega), if_neg (by omega), if_neg h2, if_neg h3]
theorem run_w {f : Int → Int} {a e : Int} (h : aL f a e) (h1 : e - a ≤ 7) : runTk f a e = .word (lI (w32 f a (e - a).toNat)) (lI (w27 f a (e - a).toNat)) := by
  rw [runTk, if_pos ⟨h, h1⟩]
theorem run_n {f : Int → Int} {a e : Int} (h : aD f a e) (h0 : a < e) (h1 : e - a ≤ 3) : runTk f a e = .num (nb10 f a (e - a).toNat) := by
  rw [runTk, if_neg (fun q => by have q1 := q.1 a (by omega) h0; have q2 := h a (by omega) h0; omega), if_pos ⟨h, h1⟩]
theorem run_b {f : Int → Int} {a e : Int} (h : ¬ (aL f a e ∧ e - a ≤ 7)) (h1 : ¬ (aD f a e ∧ e - a ≤ 3)) : runTk f a e = .bad := by
  rw [runTk, if_neg h, if_neg h1]
theorem run_nm {f : Int → Int} {a e : Int} (h : aL f a e) (h0 : a ≤ e) (h1 : e - a ≤ 7) : nmR (lI (w32 f a (e - a).toNat)) (lI (w27 f a (e - a).toNat)) :=
  ⟨(e - a).toNat, _, _, by omega, w_ok _ (fun i i0 i1 => h i i0 (by omega)), rfl, rfl⟩
/-- the token at hand, as the reference holds it -/
def RT : Tk → Int → Int64 → Int32 → Int → Prop
  | .stop, k, _, _, _ => k = 0
  | .bad, k, _, _, _ => k = 1
  | .word x w, k, wd, _, _ => k = 2 ∧ wd = w ∧ nmR x w
  | .num v, k, _, nu, _ => k = 3 ∧ nu = iI v ∧ 0 ≤ v ∧ v ≤ 999
  | .sign c, k, _, _, s => k = 4 ∧ s = c
def gT (x : Tk × Int × Int) (kind fr to : Int) (word : Int64) (number : Int32) (sign : Int) : Prop := fr = x.2.1 ∧ to = x.2.2 ∧ RT x.1 kind word number sign
/-- whether all letters of a run are alike -/
def gdI (f : Int → Int) (a e l g : Int) : Prop := (g = 1 ∧ ∀ i, a ≤ i → i < e → ((97 ≤ f i ∧ f i ≤ 122) ↔ l = 1)) ∨ (g = 0 ∧ ∃ i, a ≤ i ∧ i < e ∧ ¬ ((97 ≤ f i ∧ f i ≤ 122) ↔ l = 1))
theorem gd_0 {f : Int → Int} {a l : Int} : gdI f a a l 1 := Or.inl ⟨rfl, fun i h0 h1 => absurd h1 (by omega)⟩
theorem gd_k {f : Int → Int} {a e l g : Int} (h : gdI f a e l g) (hl : (l = 1 ∨ l = 0)) (hr : (97 ≤ f e ∧ f e ≤ 122) ↔ l = 1) : gdI f a (e + 1) l g := by
  rcases h with ⟨h1, h2⟩ | ⟨h1, i, h2, h3, h4⟩
  · refine Or.inl ⟨h1, fun i i0 i1 => ?_⟩
    by_cases q : i < e
    · exact h2 i i0 q
    · rw [show i = e by omega]; exact hr
  · exact Or.inr ⟨h1, i, h2, by omega, h4⟩
theorem gd_n {f : Int → Int} {a e l : Int} (h0 : a ≤ e) (hr : ¬ ((97 ≤ f e ∧ f e ≤ 122) ↔ l = 1)) : gdI f a (e + 1) l 0 := Or.inr ⟨rfl, e, h0, by omega, hr⟩
theorem gd_s {f : Int → Int} {a e l : Int} (h : gdI f a e l 0) : gdI f a (e + 1) l 0 := by
  rcases h with ⟨h1, h2⟩ | ⟨h1, i, h2, h3, h4⟩
  · exact absurd h1 (by decide)
  · exact Or.inr ⟨rfl, i, h2, by omega, h4⟩
theorem gd_all {f : Int → Int} {a e l g g' : Int} (h : gdI f a e l g) (h0 : a ≤ e) (hr : (g = 0 ∧ g' = 0) ∨ (g = 1 ∧ ((97 ≤ f e ∧ f e ≤ 122 ∧ l = 1) ∨ ((f e < 97 ∨ 122 < f e) ∧ l = 0)) ∧ g' = 1) ∨ (g = 1 ∧ ((97 ≤ f e ∧ f e ≤ 122 ∧ l = 0) ∨ ((f e < 97 ∨ 122 < f e) ∧ l = 1)) ∧ g' = 0)) : gdI f a (e + 1) l g' := by
  rcases hr with ⟨q1, q2⟩ | ⟨q1, q3, q2⟩ | ⟨q1, q3, q2⟩
  · subst q1; subst q2; exact gd_s h
  · subst q2
    rw [q1] at h
    exact gd_k h (by omega) ⟨fun q => by omega, fun q => by omega⟩
  · subst q2; exact gd_n h0 (fun q => by omega)
theorem aR_0 {f : Int → Int} {a : Int} : aR f a a := fun i h0 h1 => absurd h1 (by omega)
theorem aR_s {f : Int → Int} {a e : Int} (h : aR f a e) (h1 : (97 ≤ f e ∧ f e ≤ 122) ∨ (48 ≤ f e ∧ f e ≤ 57)) : aR f a (e + 1) := by
  intro i i0 i1
  by_cases q : i < e
  · exact h i i0 q
  · rw [show i = e by omega]; exact h1
/-- the reference's word and number so far -/
def wI (f : Int → Int) (a e : Int) (w : Int64) (u : Int32) : Prop := w = lI (w27 f a (min (e - a).toNat 7)) ∧ u = iI (nb10 f a (min (e - a).toNat 3))
theorem wI_0 {f : Int → Int} {a : Int} {w : Int64} {u : Int32} (hw : w = 0) (hu : u = iI 0) : wI f a a w u := by
  subst hw; subst hu
  refine ⟨?_, ?_⟩
  · rw [show min (a - a).toNat 7 = 0 by omega]; exact l0
  · rw [show min (a - a).toNat 3 = 0 by omega]; rfl
theorem wI_s {f : Int → Int} {a e : Int} {w w' : Int64} {u u' : Int32} (h : wI f a e w u) (h0 : a ≤ e) (hb : 0 ≤ f e ∧ f e ≤ 255) (hw : (e - a < 7 ∧ w' = 27 * w + (iI (f e)).toInt64 - 96) ∨ (7 ≤ e - a ∧ w' = w)) (hu : (e - a < 3 ∧ u' = iI 10 * u + iI (f e) - iI 48) ∨ (3 ≤ e - a ∧ u' = u)) : wI f a (e + 1) w' u' := by
  obtain ⟨h1, h2⟩ := h
  refine ⟨?_, ?_⟩
  · rcases hw with ⟨q, hw⟩ | ⟨q, hw⟩
    · rw [hw, h1, lw_step (by omega) (by omega), show min (e + 1 - a).toNat 7 = (min (e - a).toNat 7) + 1 by omega, w27, show a + ((min (e - a).toNat 7 : Nat) : Int) = e by omega]
    · rw [hw, h1, show min (e + 1 - a).toNat 7 = min (e - a).toNat 7 by omega]
  · rcases hu with ⟨q, hu⟩ | ⟨q, hu⟩
    · rw [hu, h2, in_step, show min (e + 1 - a).toNat 3 = (min (e - a).toNat 3) + 1 by omega, nb10, show a + ((min (e - a).toNat 3 : Nat) : Int) = e by omega]
    · rw [hu, h2, show min (e + 1 - a).toNat 3 = min (e - a).toNat 3 by omega]
theorem rn_lt {f : Int → Int} {n a : Int} (h : a < n) (hb : (97 ≤ f a ∧ f a ≤ 122) ∨ (48 ≤ f a ∧ f a ≤ 57)) : a < rn f n a := by
  rw [rn_t h hb]
  have := rn_ge f n (a + 1)
  omega
theorem go_fin {f : Int → Int} {n a e l g k : Int} {w : Int64} {u : Int32} {s : Int} (hR : aR f a e) (hg : gdI f a e l g) (hl : (l = 1 ∧ 97 ≤ f a ∧ f a ≤ 122) ∨ (l = 0 ∧ (f a < 97 ∨ 122 < f a))) (e2 : rn f n a = e) (hn : a < n) (h2 : (97 ≤ f a ∧ f a ≤ 122) ∨ (48 ≤ f a ∧ f a ≤ 57)) (hw : wI f a e w u) (hk : (g = 0 ∧ k = 1) ∨ (g = 1 ∧ l = 1 ∧ 7 < e - a ∧ k = 1) ∨ (g = 1 ∧ l = 0 ∧ 3 < e - a ∧ k = 1) ∨ (g = 1 ∧ l = 1 ∧ e - a ≤ 7 ∧ k = 2) ∨ (g = 1 ∧ l = 0 ∧ e - a ≤ 3 ∧ k = 3)) : RT (runTk f a e) k w u s := by
  have h0 : a < e := e2 ▸ rn_lt hn h2
  have ha := hR a (by omega) h0
  rcases hg with ⟨g1, hG⟩ | ⟨g1, i, i0, i1, hG⟩
  · by_cases q : l = 1
    · have hA : aL f a e := fun i i0 i1 => (hG i i0 i1).mpr q
      have nD : ¬ aD f a e := fun d => by have := d a (by omega) h0; omega
      by_cases q7 : e - a ≤ 7
      · rw [run_w hA q7]
        refine ⟨by omega, ?_, run_nm hA (by omega) q7⟩
        rw [hw.1, show min (e - a).toNat 7 = (e - a).toNat by omega]
      · rw [run_b (fun h => q7 h.2) (fun h => nD h.1)]
        show k = 1
        omega
    · have hD : aD f a e := fun i i0 i1 => by
        have h1 := hR i i0 i1
        have h2 := hG i i0 i1
        by_cases q2 : 97 ≤ f i ∧ f i ≤ 122
        · exact absurd (h2.mp q2) q
        · omega
      have nL : ¬ aL f a e := fun d => by have := d a (by omega) h0; omega
      by_cases q3 : e - a ≤ 3
      · rw [run_n hD h0 q3]
        have hb := nb_3 hD (by omega) q3
        refine ⟨by omega, ?_, hb.1, hb.2⟩
        rw [hw.2, show min (e - a).toNat 3 = (e - a).toNat by omega]
      · rw [run_b (fun h => nL h.1) (fun h => q3 h.2)]
        show k = 1
        omega
  · have hk1 : k = 1 := by omega
    have nL : ¬ aL f a e := fun d => by
      have d1 := d i i0 i1
      have d2 := d a (by omega) h0
      exact hG ⟨fun _ => by omega, fun _ => d1⟩
    have nD : ¬ aD f a e := fun d => by
      have d1 := d i i0 i1
      have d2 := d a (by omega) h0
      exact hG ⟨fun q => by omega, fun q => by omega⟩
    rw [run_b (fun h => nL h.1) (fun h => nD h.1)]
    exact hk1
-- ===== the words that are told =====
def wrs : List Int64 := [232608281, 256855, 283616147, 90050, 10413527, 495765, 212488, 8602698, 50684, 1418437, 3957544, 1087201837, 180467749, 259906, 2968, 423, 1111, 10631, 307058, 40586, 405095, 361240, 459818, 279252, 247552, 1752773, 212302449]
def kwl : List (List Int) := [[16, 5, 18, 19, 15, 14], [13, 1, 9, 4], [19, 20, 18, 5, 5, 20], [4, 15, 14, 5], [19, 16, 1, 18, 5], [25, 5, 1, 18], [10, 21, 12, 25], [16, 5, 1, 18, 12], [2, 15, 14, 5], [2, 18, 1, 19, 19], [7, 12, 1, 19, 19], [2, 21, 20, 20, 15, 14, 19], [12, 15, 15, 19, 5, 19], [13, 5, 14, 4], [4, 1, 25], [15, 18], [1, 14, 4], [14, 15, 20], [15, 16, 5, 14], [2, 1, 18, 5], [20, 15, 18, 14], [18, 9, 14, 7], [23, 9, 20, 8], [14, 5, 1, 18], [12, 15, 15, 16], [3, 8, 1, 9, 14], [14, 21, 13, 2, 5, 18]]
def wltF (k : Nat) : Int64 := wlt.getD k 0
def wkdF (k : Nat) : Int := (wkd.getD k 0).toInt
def wrd (k : Nat) : Int64 := wrs.getD k 0
def wrdZ (k : Int) : Int64 := wrd k.toNat
def f32 (l : List Int) : Int := l.foldl (fun x d => 32 * x + d) 0
def f27 (l : List Int) : Int := l.foldl (fun x d => 27 * x + d) 0
theorem okl {l : List Int} : ∀ {k : Nat} {x w : Int}, okw k x w → l.all (fun d => decide (1 ≤ d) && decide (d ≤ 26)) = true → okw (k + l.length) (l.foldl (fun x d => 32 * x + d) x) (l.foldl (fun x d => 27 * x + d) w) := by
  induction l with
  | nil => intro k x w h _; exact h
  | cons d l ih =>
    intro k x w h hd
    rw [List.all_cons] at hd
    have h1 := (Bool.and_eq_true_iff.mp hd).1
    have h2 := (Bool.and_eq_true_iff.mp h1)
    have h3 := ih (okw.cons d h (of_decide_eq_true h2.1) (of_decide_eq_true h2.2)) (Bool.and_eq_true_iff.mp hd).2
    rw [show k + 1 + l.length = k + (d :: l).length by rw [List.length_cons]; omega] at h3
    exact h3
theorem kw_all : (List.range 27).all (fun k => decide (wltF k = lI (f32 (kwl.getD k []))) && (decide (wrd k = lI (f27 (kwl.getD k []))) && (decide ((kwl.getD k []).length ≤ 7) && (kwl.getD k []).all (fun d => decide (1 ≤ d) && decide (d ≤ 26))))) = true := by decide +kernel
theorem kw_nm (k : Nat) (hk : k < 27) : nmR (wltF k) (wrd k) := by
  have h := List.all_eq_true.mp kw_all k (List.mem_range.mpr hk)
  have h1 := Bool.and_eq_true_iff.mp h
  have h2 := Bool.and_eq_true_iff.mp h1.2
  have h3 := Bool.and_eq_true_iff.mp h2.2
  have h4 := okl okw.nil h3.2
  rw [Nat.zero_add] at h4
  exact ⟨_, _, _, of_decide_eq_true h3.1, h4, of_decide_eq_true h1.1, of_decide_eq_true h2.1⟩
def kdW (w : Int64) : Int := if w = wrd 7 then 0 else if w = wrd 8 then 1 else if w = wrd 9 then 2 else if w = wrd 10 then 3 else -1
theorem kd_all : (List.range 27).all (fun k => decide (kdW (wrd k) = wkdF k)) = true := by decide +kernel
theorem kd_k (k : Nat) (hk : k < 27) : kdW (wrd k) = wkdF k := of_decide_eq_true (List.all_eq_true.mp kd_all k (List.mem_range.mpr hk))
theorem wd_all : (List.range 27).all (fun i => (List.range 27).all (fun j => decide (wrd i = wrd j → i = j))) = true := by decide +kernel
theorem wd_inj {i j : Nat} (hi : i < 27) (hj : j < 27) (h : wrd i = wrd j) : i = j := of_decide_eq_true (List.all_eq_true.mp (List.all_eq_true.mp wd_all i (List.mem_range.mpr hi)) j (List.mem_range.mpr hj)) h
theorem kd_no {w : Int64} (h : ∀ k : Nat, k < 27 → w ≠ wrd k) : kdW w = -1 := by
  rw [kdW, if_neg (h 7 (by decide)), if_neg (h 8 (by decide)), if_neg (h 9 (by decide)), if_neg (h 10 (by decide))]
-- ===== what a text of a city tells =====
def isNm : Tk → Prop
  | .word _ w => ∀ k : Nat, k < 27 → w ≠ wrd k
  | _ => False
def isW : Tk → Nat → Prop
  | .word _ w, k => w = wrd k
  | _, _ => False
def wdO : Tk → Int64
  | .word _ w => w
  | _ => 0
def xdO : Tk → Int64
  | .word x _ => x
  | _ => 0
def kdO : Tk → Int
  | .word _ w => kdW w
  | _ => -1
open Classical in
noncomputable def nuO (a b : Int) : Tk → Int
  | .num v => if a ≤ v ∧ v ≤ b then v else -2
  | _ => -1
inductive PV where
  | bad (k p : Int) : PV
  | val (v : Int) : PV
structure PS where
  x : Tk × Int × Int
  r : Int → Int
  h : Nat → Int64
  o : Int → Int
inductive PR where
  | bad (k p : Int) : PR
  | ok (s : PS) : PR
def PV.bd : PV → (Int → PR) → PR
  | .bad k p, _ => .bad k p
  | .val v, g => g v
noncomputable def nx (f : Int → Int) (n L : Int) (x : Tk × Int × Int) : Tk × Int × Int := tkAt f n L x.2.2
def ix (z : Int) : Nat := Int32.toNatClampNeg (iI z)
def tb (x b : Int) : Int := ((iI x >>> (iI b &&& 31)) &&& iI 1).toInt
def orb (x b : Int) : Int := (iI x ||| (iI 1 <<< (iI b &&& 31))).toInt
open Classical in
noncomputable def sChk (r : Int → Int) (h : Nat → Int64) (x : Tk × Int × Int) : PV := if ¬ isNm x.1 then .bad 1 x.2.1 else if FI h 0 (r 0) (wdO x.1) = -1 ∧ FI h 9 (r 1) (wdO x.1) = -1 then .val 0 else .bad 3 x.2.1
open Classical in
noncomputable def sOne (r : Int → Int) (h : Nat → Int64) (x : Tk × Int × Int) : PV := if ¬ isNm x.1 then .bad 1 x.2.1 else if FI h 0 (r 0) (wdO x.1) = -1 then .bad 3 x.2.1 else .val (FI h 0 (r 0) (wdO x.1))
def sKd (x : Tk × Int × Int) : PV := if kdO x.1 = -1 then .bad 1 x.2.1 else .val (kdO x.1)
noncomputable def sNu (a b : Int) (x : Tk × Int × Int) : PV := if nuO a b x.1 = -1 then .bad 1 x.2.1 else if nuO a b x.1 = -2 then .bad 2 x.2.1 else .val (nuO a b x.1)
section SP
variable (f : Int → Int) (n L : Int) (x : Tk × Int × Int) (r : Int → Int) (h : Nat → Int64) (o : Int → Int)
noncomputable def sPerson : PR := if r 0 = 9 then .bad 4 x.2.1 else (sChk r h (nx f n L x)).bd fun _ => (sKd (nx f n L (nx f n L x))).bd fun a => (sKd (nx f n L (nx f n L (nx f n L x)))).bd fun b => (sNu 1 9 (nx f n L (nx f n L (nx f n L (nx f n L x))))).bd fun c => .ok ⟨nx f n L (nx f n L (nx f n L (nx f n L (nx f n L x)))), upz (upz (upz (upz r (5 + r 0) a) (14 + r 0) b) (23 + r 0) c) 0 (r 0 + 1), vp_updL h (ix (r 0)) (wdO (nx f n L x).1), o⟩
noncomputable def sMaid : PR := if r 1 = 3 then .bad 4 x.2.1 else (sChk r h (nx f n L x)).bd fun _ => (sNu 1 9 (nx f n L (nx f n L x))).bd fun c => .ok ⟨nx f n L (nx f n L (nx f n L x)), upz (upz r (41 + r 1) c) 1 (r 1 + 1), vp_updL h (ix (9 + r 1)) (wdO (nx f n L x).1), o⟩
open Classical in
noncomputable def sStreet : PR := (sOne r h (nx f n L x)).bd fun a => (sOne r h (nx f n L (nx f n L x))).bd fun b => if b = a ∨ tb (r (44 + a)) b = 1 then .bad 3 (nx f n L (nx f n L x)).2.1 else .ok ⟨nx f n L (nx f n L (nx f n L x)), upz (upz r (44 + a) (orb (r (44 + a)) b)) (44 + b) (orb (r (44 + b)) a), h, o⟩
open Classical in
noncomputable def sDone : PR := (sOne r h (nx f n L x)).bd fun a => if ¬ r (32 + a) = -1 then .bad 3 (nx f n L x).2.1 else (sOne r h (nx f n L (nx f n L x))).bd fun b => if b = a ∨ ¬ r (5 + b) = r (14 + a) ∨ (∃ p : Int, 0 ≤ p ∧ p < r 0 ∧ r (32 + p) = b) then .bad 3 (nx f n L (nx f n L x)).2.1 else .ok ⟨nx f n L (nx f n L (nx f n L x)), upz r (32 + a) b, h, o⟩
noncomputable def sOnce (k a b : Int) : PR := if o k = 1 then .bad 3 x.2.1 else (sNu a b (nx f n L x)).bd fun c => .ok ⟨nx f n L (nx f n L x), upz r (2 + k) c, h, upz o k 1⟩
open Classical in
noncomputable def sLine : PR := if isW x.1 0 then sPerson f n L x r h o else if isW x.1 1 then sMaid f n L x r h o else if isW x.1 2 then sStreet f n L x r h o else if isW x.1 3 then sDone f n L x r h o else if isW x.1 4 then sOnce f n L x r h o 0 0 20 else if isW x.1 5 then sOnce f n L x r h o 1 2 60 else if isW x.1 6 then sOnce f n L x r h o 2 0 60 else .bad 1 x.2.1
end SP
inductive CR where
  | bad (k p : Int) : CR
  | ok (s : PS) (n : Int) : CR
open Classical in
noncomputable def ctN (f : Int → Int) (n L : Int) : Nat → PS → Int → CR
  | 0, s, k => .ok s k
  | j + 1, s, k => if s.x.1 = .stop then .ok s k else match sLine f n L s.x s.r s.h s.o with
    | .bad a p => .bad a p
    | .ok s1 => if s1.x.1 = .sign 59 then ctN f n L j ⟨nx f n L s1.x, s1.r, s1.h, s1.o⟩ (k + 1) else .bad 1 s1.x.2.1
theorem ct_stop {f : Int → Int} {n L : Int} {j : Nat} {s : PS} {k : Int} (h : s.x.1 = .stop) : ctN f n L (j + 1) s k = .ok s k := by rw [ctN, if_pos h]
theorem ct_bad {f : Int → Int} {n L : Int} {j : Nat} {s : PS} {k a p : Int} (h : ¬ s.x.1 = .stop) (e : sLine f n L s.x s.r s.h s.o = .bad a p) : ctN f n L (j + 1) s k = .bad a p := by rw [ctN, if_neg h, e]
theorem ct_end {f : Int → Int} {n L : Int} {j : Nat} {s s1 : PS} {k : Int} (h : ¬ s.x.1 = .stop) (e : sLine f n L s.x s.r s.h s.o = .ok s1) (h1 : ¬ s1.x.1 = .sign 59) : ctN f n L (j + 1) s k = .bad 1 s1.x.2.1 := by
  rw [ctN, if_neg h, e]
  exact if_neg h1
theorem ct_go {f : Int → Int} {n L : Int} {j : Nat} {s s1 : PS} {k : Int} (h : ¬ s.x.1 = .stop) (e : sLine f n L s.x s.r s.h s.o = .ok s1) (h1 : s1.x.1 = .sign 59) : ctN f n L (j + 1) s k = ctN f n L j ⟨nx f n L s1.x, s1.r, s1.h, s1.o⟩ (k + 1) := by
  rw [ctN, if_neg h, e]
  exact if_pos h1
-- ===== what the reference's readers answer =====
def RV : PV → Int → Int → Int → Int → Prop
  | .bad k p, r, fa, pl, _ => r = 0 ∧ fa = k ∧ pl = p
  | .val v, r, _, _, t => r = 1 ∧ t = v
def RC : PV → Int → Int → Int → Prop
  | .bad k p, r, fa, pl => r = 0 ∧ fa = k ∧ pl = p
  | .val _, r, _, _ => r = 1
def RP : PR → Int → Int → Int → (Tk × Int × Int → Prop) → (Int → Int) → (Nat → Int64) → (Int → Int) → Prop
  | .bad k p, r, fa, pl, _, _, _, _ => r = 0 ∧ fa = k ∧ pl = p
  | .ok s, r, _, _, G, rd, h, o => r = 1 ∧ G s.x ∧ rd = s.r ∧ h = s.h ∧ o = s.o
theorem bdV_ok {m : PV} {g : Int → PR} {r fa pl t R fa' pl' : Int} {G : Tk × Int × Int → Prop} {rd : Int → Int} {h : Nat → Int64} {o : Int → Int} (c : RV m r fa pl t) (hr : r = 1) (hg : RP (g t) R fa' pl' G rd h o) : RP (m.bd g) R fa' pl' G rd h o := by
  cases m with
  | bad k p => exact absurd (c.1.symm.trans hr) (by decide)
  | val v => obtain ⟨_, rfl⟩ := c; exact hg
theorem bdV_bad {m : PV} {g : Int → PR} {r fa pl t R : Int} {G : Tk × Int × Int → Prop} {rd : Int → Int} {h : Nat → Int64} {o : Int → Int} (c : RV m r fa pl t) (hr : r = 0) (hR : R = 0) : RP (m.bd g) R fa pl G rd h o := by
  cases m with
  | bad k p => exact ⟨hR, c.2⟩
  | val v => exact absurd (c.1.symm.trans hr) (by decide)
theorem bdC_ok {m : PV} {g : Int → PR} {r fa pl R fa' pl' : Int} {G : Tk × Int × Int → Prop} {rd : Int → Int} {h : Nat → Int64} {o : Int → Int} (c : RC m r fa pl) (hr : r = 1) (hg : ∀ v, RP (g v) R fa' pl' G rd h o) : RP (m.bd g) R fa' pl' G rd h o := by
  cases m with
  | bad k p => exact absurd (c.1.symm.trans hr) (by decide)
  | val v => exact hg v
theorem bdC_bad {m : PV} {g : Int → PR} {r fa pl R : Int} {G : Tk × Int × Int → Prop} {rd : Int → Int} {h : Nat → Int64} {o : Int → Int} (c : RC m r fa pl) (hr : r = 0) (hR : R = 0) : RP (m.bd g) R fa pl G rd h o := by
  cases m with
  | bad k p => exact ⟨hR, c.2⟩
  | val v => exact absurd (Eq.symm hr |>.trans c) (by decide)
theorem RV_in {m : PV} {r fa pl t : Int} (c : RV m r fa pl t) (hr : r = 1) : m = .val t := by
  cases m with
  | bad k p => exact absurd (c.1.symm.trans hr) (by decide)
  | val v => rw [c.2]
-- small answers
def nmQ (r kind : Int) (word : Int64) : Prop := (r = 1 ∧ kind = 2 ∧ ∀ k : Nat, k < 27 → word ≠ wrd k) ∨ (r = 0 ∧ ¬ (kind = 2 ∧ ∀ k : Nat, k < 27 → word ≠ wrd k))
def wdQ (r kind : Int) (word w : Int64) : Prop := (r = 1 ∧ kind = 2 ∧ word = w) ∨ (r = 0 ∧ ¬ (kind = 2 ∧ word = w))
def baQ (kind k fault : Int) : Prop := (kind = 1 ∧ fault = 1) ∨ (¬ kind = 1 ∧ fault = k)
theorem gT_nm {x : Tk × Int × Int} {kind fr to : Int} {word : Int64} {number : Int32} {sign : Int} (h : gT x kind fr to word number sign) : (kind = 2 ∧ ∀ k : Nat, k < 27 → word ≠ wrd k) ↔ isNm x.1 := by
  obtain ⟨t, a, b⟩ := x
  obtain ⟨-, -, h⟩ := h
  cases t with
  | word x w => obtain ⟨rfl, rfl, -⟩ := h; exact ⟨fun q => q.2, fun q => ⟨rfl, q⟩⟩
  | stop => exact ⟨fun q => absurd (q.1.symm.trans h) (by decide), fun q => q.elim⟩
  | bad => exact ⟨fun q => absurd (q.1.symm.trans h) (by decide), fun q => q.elim⟩
  | num v => exact ⟨fun q => absurd (q.1.symm.trans h.1) (by decide), fun q => q.elim⟩
  | sign c => exact ⟨fun q => absurd (q.1.symm.trans h.1) (by decide), fun q => q.elim⟩
theorem gT_wd {x : Tk × Int × Int} {kind fr to : Int} {word : Int64} {number : Int32} {sign : Int} (h : gT x kind fr to word number sign) (hk : kind = 2) : wdO x.1 = word := by
  obtain ⟨t, a, b⟩ := x
  obtain ⟨-, -, h⟩ := h
  cases t with
  | word x w => exact h.2.1.symm
  | stop => exact absurd (hk.symm.trans h) (by decide)
  | bad => exact absurd (hk.symm.trans h) (by decide)
  | num v => exact absurd (hk.symm.trans h.1) (by decide)
  | sign c => exact absurd (hk.symm.trans h.1) (by decide)
theorem gT_isW {x : Tk × Int × Int} {kind fr to : Int} {word : Int64} {number : Int32} {sign : Int} (h : gT x kind fr to word number sign) (k : Nat) : (kind = 2 ∧ word = wrd k) ↔ isW x.1 k := by
  obtain ⟨t, a, b⟩ := x
  obtain ⟨-, -, h⟩ := h
  cases t with
  | word x w => obtain ⟨rfl, rfl, -⟩ := h; exact ⟨fun q => q.2, fun q => ⟨rfl, q⟩⟩
  | stop => exact ⟨fun q => absurd (q.1.symm.trans h) (by decide), fun q => q.elim⟩
  | bad => exact ⟨fun q => absurd (q.1.symm.trans h) (by decide), fun q => q.elim⟩
  | num v => exact ⟨fun q => absurd (q.1.symm.trans h.1) (by decide), fun q => q.elim⟩
  | sign c => exact ⟨fun q => absurd (q.1.symm.trans h.1) (by decide), fun q => q.elim⟩
theorem gT_bad {x : Tk × Int × Int} {kind fr to : Int} {word : Int64} {number : Int32} {sign : Int} (h : gT x kind fr to word number sign) : kind = 1 ↔ x.1 = .bad := by
  obtain ⟨t, a, b⟩ := x
  obtain ⟨-, -, h⟩ := h
  cases t with
  | bad => exact ⟨fun _ => rfl, fun _ => h⟩
  | word x w => exact ⟨fun q => absurd (q.symm.trans h.1) (by decide), fun q => by cases q⟩
  | stop => exact ⟨fun q => absurd (q.symm.trans h) (by decide), fun q => by cases q⟩
  | num v => exact ⟨fun q => absurd (q.symm.trans h.1) (by decide), fun q => by cases q⟩
  | sign c => exact ⟨fun q => absurd (q.symm.trans h.1) (by decide), fun q => by cases q⟩
theorem gT_stop {x : Tk × Int × Int} {kind fr to : Int} {word : Int64} {number : Int32} {sign : Int} (h : gT x kind fr to word number sign) : kind = 0 ↔ x.1 = .stop := by
  obtain ⟨t, a, b⟩ := x
  obtain ⟨-, -, h⟩ := h
  cases t with
  | stop => exact ⟨fun _ => rfl, fun _ => h⟩
  | word x w => exact ⟨fun q => absurd (q.symm.trans h.1) (by decide), fun q => by cases q⟩
  | bad => exact ⟨fun q => absurd (q.symm.trans h) (by decide), fun q => by cases q⟩
  | num v => exact ⟨fun q => absurd (q.symm.trans h.1) (by decide), fun q => by cases q⟩
  | sign c => exact ⟨fun q => absurd (q.symm.trans h.1) (by decide), fun q => by cases q⟩
theorem gT_sg {x : Tk × Int × Int} {kind fr to : Int} {word : Int64} {number : Int32} {sign : Int} (h : gT x kind fr to word number sign) (c : Int) : (kind = 4 ∧ sign = c) ↔ x.1 = .sign c := by
  obtain ⟨t, a, b⟩ := x
  obtain ⟨-, -, h⟩ := h
  cases t with
  | sign d => obtain ⟨rfl, rfl⟩ := h; exact ⟨fun q => by rw [q.2], fun q => ⟨rfl, by cases q; rfl⟩⟩
  | word x w => exact ⟨fun q => absurd (q.1.symm.trans h.1) (by decide), fun q => by cases q⟩
  | stop => exact ⟨fun q => absurd (q.1.symm.trans h) (by decide), fun q => by cases q⟩
  | bad => exact ⟨fun q => absurd (q.1.symm.trans h) (by decide), fun q => by cases q⟩
  | num v => exact ⟨fun q => absurd (q.1.symm.trans h.1) (by decide), fun q => by cases q⟩
