-- ===== rows that slipped =====
def inB (P p s : Int) : Int := if p < s then (if p + 1 < P then p + 1 else 255) else (if p + 2 < P then p + 2 else 255)
theorem inB_hi {P p a : Int} (h : P ≤ p + 1) : inB P p a = 255 := by
  unfold inB
  split
  · rw [if_neg (by omega)]
  · rw [if_neg (by omega)]
theorem inB_b {P p a : Int} (h : p + 1 < P) (ha : p < a) : inB P p a = p + 1 := by
  unfold inB
  rw [if_pos ha, if_pos h]
theorem inB_a {P p a : Int} (ha : a ≤ p) : inB P p a = (if p + 2 < P then p + 2 else 255) := by
  unfold inB
  rw [if_neg (by omega)]
theorem inB_e {P p a t : Int} (hp : p ≤ 250) : inB P p a = inB P p t ↔ P ≤ p + 1 ∨ (a ≤ p ∧ t ≤ p) ∨ (p < a ∧ p < t) := by
  have hd : ¬ p + 1 = (if p + 2 < P then p + 2 else 255) := by split <;> omega
  by_cases h : P ≤ p + 1
  · rw [inB_hi h, inB_hi h]
    exact ⟨fun _ => Or.inl h, fun _ => rfl⟩
  · by_cases ha : a ≤ p
    · by_cases ht : t ≤ p
      · rw [inB_a ha, inB_a ht]
        exact ⟨fun _ => Or.inr (Or.inl ⟨ha, ht⟩), fun _ => rfl⟩
      · rw [inB_a ha, inB_b (a := t) (by omega) (by omega)]
        exact ⟨fun q => absurd q.symm hd, fun q => by omega⟩
    · by_cases ht : t ≤ p
      · rw [inB_a ht, inB_b (a := a) (by omega) (by omega)]
        exact ⟨fun q => absurd q hd, fun q => by omega⟩
      · rw [inB_b (a := a) (by omega) (by omega), inB_b (a := t) (by omega) (by omega)]
        exact ⟨fun _ => Or.inr (Or.inr ⟨by omega, by omega⟩), fun _ => rfl⟩
-- is the tape as told
def slE (f : Int → Int) (P s i : Int) : Prop := inB P (f (2 * i)) s = f (2 * i + 1)
def slO (f : Int → Int) (P k : Int) : Prop := f k < P ∧ (f (k + 1) < P ∨ f (k + 1) = 255)
def slA (f : Int → Int) (P n : Int) : Prop := ∀ i : Int, 0 ≤ i → 2 * i < n → slO f P (2 * i)
def slF (f : Int → Int) (P n s : Int) : Prop := ∀ i : Int, 0 ≤ i → 2 * i < n → slE f P s i
def slV (f : Int → Int) (P n : Int) : Prop := (n % 2 = 0 ∧ 2 ≤ n ∧ n ≤ 16) ∧ slA f P n
theorem slA_0 {f : Int → Int} {P : Int} : slA f P 0 := fun i i0 i1 => absurd i1 (by omega)
theorem slA_t {f : Int → Int} {P k : Int} (h : slA f P k) (ke : k % 2 = 0) (ho : slO f P k) : slA f P (k + 2) := by
  intro i i0 i1
  by_cases c : 2 * i < k
  · exact h i i0 c
  · rw [show 2 * i = k by omega]; exact ho
theorem slA_le {f : Int → Int} {P k n : Int} (h : slA f P k) (hn : n ≤ k) : slA f P n := fun i i0 i1 => h i i0 (by omega)
theorem slA_n {f : Int → Int} {P k n : Int} (k0 : 0 ≤ k) (ke : k % 2 = 0) (hk : k < n) (ho : ¬ slO f P k) : ¬ slA f P n := by
  intro h
  have h1 := h (k / 2) (by omega) (by omega)
  rw [show 2 * (k / 2) = k by omega] at h1
  exact ho h1
theorem slF_0 {f : Int → Int} {P s : Int} : slF f P 0 s := fun i i0 i1 => absurd i1 (by omega)
theorem slF_t {f : Int → Int} {P s k : Int} (h : slF f P k s) (ke : k % 2 = 0) (ho : inB P (f k) s = f (k + 1)) : slF f P (k + 2) s := by
  intro i i0 i1
  by_cases c : 2 * i < k
  · exact h i i0 c
  · unfold slE
    rw [show 2 * i = k by omega]; exact ho
theorem slF_le {f : Int → Int} {P s k n : Int} (h : slF f P k s) (hn : n ≤ k) : slF f P n s := fun i i0 i1 => h i i0 (by omega)
theorem slF_n {f : Int → Int} {P s k n : Int} (k0 : 0 ≤ k) (ke : k % 2 = 0) (hk : k < n) (ho : ¬ inB P (f k) s = f (k + 1)) : ¬ slF f P n s := by
  intro h
  have h1 := h (k / 2) (by omega) (by omega)
  unfold slE at h1
  rw [show 2 * (k / 2) = k by omega] at h1
  exact ho h1
def sgJ (f : Int → Int) (P s so k : Int) : Prop := (so = 1 ∧ slF f P k s) ∨ (so = 0 ∧ ∃ i : Int, 0 ≤ i ∧ 2 * i < k ∧ ¬ slE f P s i)
theorem sgJ_0 {f : Int → Int} {P s : Int} : sgJ f P s 1 0 := Or.inl ⟨rfl, slF_0⟩
theorem sgJ_t {f : Int → Int} {P s k so so' : Int} (h : sgJ f P s so k) (k0 : 0 ≤ k) (ke : k % 2 = 0) (hs : (so = 0 ∧ so' = 0) ∨ (¬ so = 0 ∧ inB P (f k) s = f (k + 1) ∧ so' = 1) ∨ (¬ so = 0 ∧ ¬ inB P (f k) s = f (k + 1) ∧ so' = 0)) : sgJ f P s so' (k + 2) := by
  rcases h with ⟨h1, h2⟩ | ⟨h1, i, i0, i1, i2⟩
  · rcases hs with ⟨q, -⟩ | ⟨-, q, q2⟩ | ⟨-, q, q2⟩
    · omega
    · exact Or.inl ⟨q2, slF_t h2 ke q⟩
    · refine Or.inr ⟨q2, k / 2, by omega, by omega, ?_⟩
      unfold slE
      rw [show 2 * (k / 2) = k by omega]; exact q
  · refine Or.inr ⟨?_, i, i0, by omega, i2⟩
    rcases hs with ⟨-, q⟩ | ⟨q, -⟩ | ⟨q, -⟩
    · exact q
    · exact absurd h1 q
    · exact absurd h1 q
theorem sgJ_y {f : Int → Int} {P s k n so : Int} (h : sgJ f P s so k) (hk : k = n) (hs : ¬ so = 0) : slF f P n s := by
  rcases h with ⟨-, h2⟩ | ⟨h1, -⟩
  · rw [← hk]; exact h2
  · exact absurd h1 hs
theorem sgJ_n {f : Int → Int} {P s k n so : Int} (h : sgJ f P s so k) (hk : k = n) (hs : so = 0) : ¬ slF f P n s := by
  rcases h with ⟨h1, -⟩ | ⟨-, i, i0, i1, i2⟩
  · omega
  · exact fun q => i2 (q i i0 (by omega))
-- how many, the least
def slb (f : Int → Int) (P n s : Int) : Bool := (List.range n.toNat).all (fun i => decide (2 * (i : Int) < n → inB P (f (2 * (i : Int))) s = f (2 * (i : Int) + 1)))
theorem slb_i {f : Int → Int} {P n s : Int} : slb f P n s = true ↔ slF f P n s := by
  unfold slb
  rw [List.all_eq_true]
  constructor
  · intro h i i0 i1
    have h1 := of_decide_eq_true (h i.toNat (List.mem_range.mpr (by omega)))
    rw [Int.toNat_of_nonneg i0] at h1
    exact h1 i1
  · intro h i hi
    exact decide_eq_true (fun q => h i (by omega) q)
def slN (g : Int → Bool) : Nat → Int
  | 0 => 0
  | m + 1 => slN g m + (if g (m : Int) = true then 1 else 0)
def slL (g : Int → Bool) : Nat → Int
  | 0 => -1
  | m + 1 => if slL g m = -1 then (if g (m : Int) = true then (m : Int) else -1) else slL g m
theorem slN_nn {g : Int → Bool} : ∀ m : Nat, 0 ≤ slN g m := by
  intro m
  induction m with
  | zero => exact Int.le_refl 0
  | succ m ih => rw [slN]; split <;> omega
theorem slN_le {g : Int → Bool} : ∀ m : Nat, slN g m ≤ (m : Int) := by
  intro m
  induction m with
  | zero => exact Int.le_refl 0
  | succ m ih => rw [slN]; split <;> omega
theorem slL_n {g : Int → Bool} : ∀ m : Nat, slL g m = -1 ↔ slN g m = 0 := by
  intro m
  induction m with
  | zero => exact ⟨fun _ => rfl, fun _ => rfl⟩
  | succ m ih =>
    have hn := slN_nn (g := g) m
    rw [slL, slN]
    by_cases q : slL g m = -1
    · rw [if_pos q, ih.mp q]
      by_cases e : g (m : Int) = true
      · rw [if_pos e, if_pos e]; exact ⟨fun h => by omega, fun h => by omega⟩
      · rw [if_neg e, if_neg e]; exact ⟨fun _ => rfl, fun _ => rfl⟩
    · rw [if_neg q]
      have q2 : ¬ slN g m = 0 := fun h => q (ih.mpr h)
      exact ⟨fun h => absurd h q, fun h => by split at h <;> omega⟩
theorem slN_c {g g' : Int → Bool} : ∀ m : Nat, (∀ i : Nat, i < m → g (i : Int) = g' (i : Int)) → slN g m = slN g' m := by
  intro m
  induction m with
  | zero => intro _; rfl
  | succ m ih => intro h; rw [slN, slN, ih (fun i hi => h i (by omega)), h m (by omega)]
theorem slL_c {g g' : Int → Bool} : ∀ m : Nat, (∀ i : Nat, i < m → g (i : Int) = g' (i : Int)) → slL g m = slL g' m := by
  intro m
  induction m with
  | zero => intro _; rfl
  | succ m ih => intro h; rw [slL, slL, ih (fun i hi => h i (by omega)), h m (by omega)]
/-- nothing more from m on -/
theorem slN_o {g : Int → Bool} {m : Nat} : ∀ k : Nat, m ≤ k → (∀ i : Nat, m ≤ i → g (i : Int) = false) → slN g k = slN g m := by
  intro k
  induction k with
  | zero => intro h _; rw [show m = 0 by omega]
  | succ k ih =>
    intro h hg
    by_cases c : m = k + 1
    · rw [c]
    · rw [slN, hg k (by omega), ih (by omega) hg, if_neg (by decide), Int.add_zero]
theorem slL_o {g : Int → Bool} {m : Nat} : ∀ k : Nat, m ≤ k → (∀ i : Nat, m ≤ i → g (i : Int) = false) → slL g k = slL g m := by
  intro k
  induction k with
  | zero => intro h _; rw [show m = 0 by omega]
  | succ k ih =>
    intro h hg
    by_cases c : m = k + 1
    · rw [c]
    · rw [slL, hg k (by omega), ih (by omega) hg, if_neg (show ¬ (false = true) by decide)]
      split
      · rename_i e; exact e.symm
      · rfl
-- the row of the reference
def slC (c : Int → Int) (p : Int) : Nat → Int
  | 0 => 0
  | m + 1 => slC c p m + (if c (m : Int) ≤ p then 1 else 0)
theorem slC_up {c : Int → Int} {k x p : Int} : ∀ m : Nat, (m : Int) ≤ k → slC (upz c k x) p m = slC c p m := by
  intro m
  induction m with
  | zero => intro _; rfl
  | succ m ih => intro h; rw [slC, slC, ih (by omega), upz_n (by omega)]
theorem slC_b {c : Int → Int} {p : Int} : ∀ m : Nat, 0 ≤ slC c p m ∧ slC c p m ≤ (m : Int) := by
  intro m
  induction m with
  | zero => exact ⟨Int.le_refl 0, Int.le_refl 0⟩
  | succ m ih => rw [slC]; split <;> omega
theorem slC_s {c : Int → Int} {p i : Int} (i0 : 0 ≤ i) : (c i ≤ p ∧ slC c p (i + 1).toNat = slC c p i.toNat + 1) ∨ (p < c i ∧ slC c p (i + 1).toNat = slC c p i.toNat) := by
  rw [show (i + 1).toNat = i.toNat + 1 by omega, slC, Int.toNat_of_nonneg i0]
  by_cases h : c i ≤ p
  · rw [if_pos h]; exact Or.inl ⟨h, rfl⟩
  · rw [if_neg h, Int.add_zero]; exact Or.inr ⟨by omega, rfl⟩
def mn (a b : Int) : Int := if a ≤ b then a else b
def slI (f : Int → Int) (P n s m : Int) (c : Int → Int) : Prop := m = slN (slb f P n) s.toNat ∧ (0 < m → c 0 = slL (slb f P n) s.toNat) ∧ ∀ p : Int, 0 ≤ p → slC c p m.toNat = slN (slb f P n) (mn s (p + 1)).toNat
theorem slI_0 {f : Int → Int} {P n : Int} {c : Int → Int} : slI f P n 0 0 c := by
  refine ⟨rfl, fun h => absurd h (by decide), fun p p0 => ?_⟩
  rw [show mn 0 (p + 1) = 0 from if_pos (by omega)]
  rfl
theorem slI_n {f : Int → Int} {P n s m : Int} {c : Int → Int} (h : slI f P n s m c) (s0 : 0 ≤ s) (hs : ¬ slF f P n s) : slI f P n (s + 1) m c := by
  obtain ⟨h1, h2, h3⟩ := h
  have g1 : ¬ slb f P n s = true := fun q => hs (slb_i.mp q)
  have e : (s + 1).toNat = s.toNat + 1 := by omega
  have e2 : ((s.toNat : Nat) : Int) = s := Int.toNat_of_nonneg s0
  have e3 : slN (slb f P n) (s + 1).toNat = slN (slb f P n) s.toNat := by rw [e, slN, e2, if_neg g1, Int.add_zero]
  refine ⟨h1.trans e3.symm, fun q => ?_, fun p p0 => ?_⟩
  · rw [h2 q, e, slL, e2, if_neg (fun w => by have w2 := (slL_n _).mp w; omega)]
  · rw [h3 p p0]
    by_cases q : s + 1 ≤ p + 1
    · rw [show mn s (p + 1) = s from if_pos (by omega), show mn (s + 1) (p + 1) = s + 1 from if_pos q, e3]
    · rw [show mn (s + 1) (p + 1) = p + 1 from if_neg q]
      congr 2
      unfold mn
      split <;> omega
theorem slI_y {f : Int → Int} {P n s m : Int} {c : Int → Int} (h : slI f P n s m c) (s0 : 0 ≤ s) (m0 : 0 ≤ m) (hs : slF f P n s) : slI f P n (s + 1) (m + 1) (upz c m s) := by
  obtain ⟨h1, h2, h3⟩ := h
  have g1 : slb f P n s = true := slb_i.mpr hs
  have e : (s + 1).toNat = s.toNat + 1 := by omega
  have e2 : ((s.toNat : Nat) : Int) = s := Int.toNat_of_nonneg s0
  have e3 : slN (slb f P n) (s + 1).toNat = slN (slb f P n) s.toNat + 1 := by rw [e, slN, e2, if_pos g1]
  refine ⟨by omega, fun _ => ?_, fun p p0 => ?_⟩
  · rw [e, slL, e2]
    by_cases q : m = 0
    · rw [if_pos ((slL_n _).mpr (by omega)), if_pos g1, q, upz_s]
    · rw [upz_n (by omega), if_neg (fun w => by have w2 := (slL_n _).mp w; omega)]
      exact h2 (by omega)
  · have e4 : slC (upz c m s) p (m + 1).toNat = slC c p m.toNat + (if s ≤ p then 1 else 0) := by
      rw [show (m + 1).toNat = m.toNat + 1 by omega, slC, slC_up _ (by omega), Int.toNat_of_nonneg m0, upz_s]
    rw [e4, h3 p p0]
    by_cases q : s ≤ p
    · rw [if_pos q, show mn s (p + 1) = s from if_pos (by omega), show mn (s + 1) (p + 1) = s + 1 from if_pos (by omega), e3]
    · rw [if_neg q, Int.add_zero, show mn (s + 1) (p + 1) = p + 1 from if_neg (by omega)]
      congr 2
      unfold mn
      split <;> omega
-- how many are left by a button
def lfQ (P p A N r : Int) : Prop := (P ≤ p + 1 ∧ r = N) ∨ (p + 1 < P ∧ A ≤ r ∧ N - A ≤ r ∧ (r = A ∨ r = N - A))
def lfF (P A N p : Int) : Int := if P ≤ p + 1 then N else if N - A ≤ A then A else N - A
theorem lfQ_e {P p A N r : Int} (h : lfQ P p A N r) : r = lfF P A N p := by
  unfold lfQ at h
  unfold lfF
  split
  · omega
  · split <;> omega
def alJ (P p t C i a : Int) : Prop := (P ≤ p + 1 ∧ a = i) ∨ (p + 1 < P ∧ t ≤ p ∧ a = C) ∨ (p + 1 < P ∧ p < t ∧ a = i - C)
theorem alJ_0 {P p t C : Int} (h : C = 0) : alJ P p t C 0 0 := by unfold alJ; omega
theorem alJ_t {c : Int → Int} {P p t i a a' : Int} (h : alJ P p t (slC c p i.toNat) i a) (hp : p ≤ 250) (i0 : 0 ≤ i) (hs : (inB P p (c i) = inB P p t ∧ a' = a + 1) ∨ (¬ inB P p (c i) = inB P p t ∧ a' = a)) : alJ P p t (slC c p (i + 1).toNat) (i + 1) a' := by
  have e := slC_s (c := c) (p := p) i0
  rw [inB_e hp] at hs
  unfold alJ at h ⊢
  omega
def mxP (P p a A k m M : Int) : Prop := (P ≤ p + 1 ∧ ((k ≤ 0 ∧ M = 0) ∨ (0 < k ∧ M = m))) ∨ (p + 1 < P ∧ ((0 < a ∧ A ≤ M) ∨ a ≤ 0) ∧ ((a < k ∧ m - A ≤ M) ∨ k ≤ a) ∧ ((0 < a ∧ M = A) ∨ (a < k ∧ M = m - A) ∨ (k ≤ 0 ∧ M = 0)))
theorem mxP_0 {P p a A m : Int} (h : a = 0) : mxP P p a A 0 m 0 := by unfold mxP; omega
theorem mxP_t {c : Int → Int} {P p k m i a M M' : Int} (h : mxP P p (slC c p k.toNat) (slC c p m.toNat) k m M) (h2 : alJ P p (c k) (slC c p i.toNat) i a) (hi : i = m) (k0 : 0 ≤ k) (k1 : k < m) (hM : (M < a ∧ M' = a) ∨ (a ≤ M ∧ M' = M)) : mxP P p (slC c p (k + 1).toNat) (slC c p m.toNat) (k + 1) m M' := by
  rw [hi] at h2
  have b1 := slC_b (c := c) (p := p) k.toNat
  have b2 := slC_b (c := c) (p := p) m.toNat
  have s := slC_s (c := c) (p := p) k0
  have k2 : ((k.toNat : Nat) : Int) = k := Int.toNat_of_nonneg k0
  have m2 : ((m.toNat : Nat) : Int) = m := Int.toNat_of_nonneg (by omega)
  rw [k2] at b1
  rw [m2] at b2
  unfold mxP at h ⊢
  unfold alJ at h2
  generalize slC c p (k + 1).toNat = y1 at *
  generalize slC c p k.toNat = y2 at *
  generalize slC c p m.toNat = y3 at *
  generalize c k = y4 at *
  rcases h with ⟨q1, q2⟩ | ⟨q1, q2, q3, q4⟩
  · refine Or.inl ⟨q1, Or.inr ⟨by omega, ?_⟩⟩
    omega
  · refine Or.inr ⟨q1, ?_, ?_, ?_⟩
    · omega
    · omega
    · omega
theorem mxP_f {c : Int → Int} {P p k m M : Int} (h : mxP P p (slC c p k.toNat) (slC c p m.toNat) k m M) (hk : k = m) (m0 : 0 ≤ m) : lfQ P p (slC c p m.toNat) m M := by
  rw [hk] at h
  have b2 := slC_b (c := c) (p := p) m.toNat
  have m2 : ((m.toNat : Nat) : Int) = m := Int.toNat_of_nonneg m0
  rw [m2] at b2
  unfold mxP at h
  unfold lfQ
  omega
-- whom to turn next
def bsJ (L : Int → Int) (p t : Int) : Prop := 0 ≤ t ∧ t < p ∧ ∀ j : Int, 0 ≤ j → j < p → L t ≤ L j ∧ (j < t → L t < L j)
theorem bsJ_0 {L : Int → Int} : bsJ L 1 0 := by
  refine ⟨by decide, by decide, fun j j0 j1 => ?_⟩
  rw [show j = 0 by omega]
  exact ⟨Int.le_refl _, fun q => absurd q (by decide)⟩
theorem bsJ_t {L : Int → Int} {p t t' : Int} (h : bsJ L p t) (hs : (L p < L t ∧ t' = p) ∨ (L t ≤ L p ∧ t' = t)) : bsJ L (p + 1) t' := by
  obtain ⟨h0, h1, h2⟩ := h
  rcases hs with ⟨q, e⟩ | ⟨q, e⟩
  · rw [e]
    refine ⟨by omega, by omega, fun j j0 j1 => ?_⟩
    by_cases c : j = p
    · rw [c]; exact ⟨Int.le_refl _, fun w => absurd w (by omega)⟩
    · have w := (h2 j j0 (by omega)).1
      exact ⟨by omega, fun _ => by omega⟩
  · rw [e]
    refine ⟨h0, by omega, fun j j0 j1 => ?_⟩
    by_cases c : j = p
    · rw [c]; exact ⟨q, fun w => absurd w (by omega)⟩
    · exact h2 j j0 (by omega)
theorem bsJ_u {L : Int → Int} {p t t' : Int} (h : bsJ L p t) (h' : bsJ L p t') : t = t' := by
  obtain ⟨h0, h1, h2⟩ := h
  obtain ⟨g0, g1, g2⟩ := h'
  have a := h2 t' g0 g1
  have b := g2 t h0 h1
  omega
theorem bsJ_c {L L' : Int → Int} {p t : Int} (h : bsJ L p t) (hL : ∀ j : Int, 0 ≤ j → j < p → L j = L' j) : bsJ L' p t := by
  obtain ⟨h0, h1, h2⟩ := h
  refine ⟨h0, h1, fun j j0 j1 => ?_⟩
  rw [← hL t h0 h1, ← hL j j0 j1]
  exact h2 j j0 j1
def LL (f : Int → Int) (P n : Int) : Int → Int := fun p => lfF P (slN (slb f P n) (p + 1).toNat) (slN (slb f P n) (P + 1).toNat) p
theorem LL_r {f : Int → Int} {P n s m p r : Int} {c : Int → Int} (h : slI f P n s m c) (hs : s = P + 1) (p0 : 0 ≤ p) (p1 : p ≤ P) (hq : lfQ P p (slC c p m.toNat) m r) : r = LL f P n p := by
  have h1 := lfQ_e hq
  rw [h.2.2 p p0, hs, show mn (P + 1) (p + 1) = p + 1 from by unfold mn; split <;> omega, h.1, hs] at h1
  exact h1
-- what slips() does
def slQ (f : Int → Int) (P n r l l' t t' : Int) : Prop := (¬ slV f P n ∧ r = -1 ∧ l' = l ∧ t' = t) ∨ (slV f P n ∧ r = slN (slb f P n) (P + 1).toNat ∧ ((r = 0 ∧ l' = l ∧ t' = t) ∨ (0 < r ∧ l' = slL (slb f P n) (P + 1).toNat ∧ bsJ (LL f P n) P t')))
theorem slQ_u {f : Int → Int} {P n r r2 l l1 l2 t t1 t2 : Int} (h : slQ f P n r l l1 t t1) (h2 : slQ f P n r2 l l2 t t2) : r = r2 ∧ l1 = l2 ∧ t1 = t2 := by
  rcases h with ⟨v, a, b, c⟩ | ⟨v, a, h⟩
  · rcases h2 with ⟨v2, a2, b2, c2⟩ | ⟨v2, -⟩
    · exact ⟨a.trans a2.symm, b.trans b2.symm, c.trans c2.symm⟩
    · exact absurd v2 v
  · rcases h2 with ⟨v2, -⟩ | ⟨v2, a2, h2⟩
    · exact absurd v v2
    · have e := a.trans a2.symm
      refine ⟨e, ?_⟩
      rcases h with ⟨q, b, c⟩ | ⟨q, b, c⟩
      · rcases h2 with ⟨q2, b2, c2⟩ | ⟨q2, -⟩
        · exact ⟨b.trans b2.symm, c.trans c2.symm⟩
        · omega
      · rcases h2 with ⟨q2, -⟩ | ⟨q2, b2, c2⟩
        · omega
        · exact ⟨b.trans b2.symm, bsJ_u c c2⟩
theorem irem2 {n : Int} (h0 : 0 ≤ n) (h1 : n ≤ 940) : (iI n - iI n / iI 2 * iI 2).toInt = n % 2 := by
  have e : iI n / iI 2 = iI (n / 2) := by
    have h := idiv_d (a := n) (b := 2) h0 (by omega) (by decide) (by decide)
    have h2 : (iI n / iI 2).toInt = n / 2 := by omega
    rw [← h2, iI_x]
  rw [e, iI_mul, iI_sub, iI_i (by omega) (by omega)]
  omega
theorem slQ_b {f : Int → Int} {P n l t : Int} (h : ¬ (n % 2 = 0 ∧ 2 ≤ n ∧ n ≤ 16)) : slQ f P n (-1) l l t t := Or.inl ⟨fun q => h q.1, rfl, rfl, rfl⟩
theorem slQ_a {f : Int → Int} {P n k l t : Int} (k0 : 0 ≤ k) (ke : k % 2 = 0) (hk : k < n) (ho : ¬ slO f P k) : slQ f P n (-1) l l t t := Or.inl ⟨fun q => slA_n k0 ke hk ho q.2, rfl, rfl, rfl⟩
theorem slQ_0 {f : Int → Int} {P n s m l t : Int} {c : Int → Int} (hn : n % 2 = 0 ∧ 2 ≤ n ∧ n ≤ 16) (ha : slA f P n) (hI : slI f P n s m c) (hs : s = P + 1) (hm : m = 0) : slQ f P n 0 l l t t := by
  refine Or.inr ⟨⟨hn, ha⟩, ?_, Or.inl ⟨rfl, rfl, rfl⟩⟩
  rw [← hs, ← hI.1, hm]
theorem slQ_1 {f : Int → Int} {P n s m l x t t' : Int} {c : Int → Int} (hn : n % 2 = 0 ∧ 2 ≤ n ∧ n ≤ 16) (ha : slA f P n) (hI : slI f P n s m c) (hs : s = P + 1) (hm : 0 < m) (hx : x = c 0) (hb : bsJ (LL f P n) P t') : slQ f P n m l x t t' := by
  refine Or.inr ⟨⟨hn, ha⟩, ?_, Or.inr ⟨hm, ?_, hb⟩⟩
  · rw [← hs]; exact hI.1
  · rw [hx, hI.2.1 hm, hs]
-- ===== sets as bits =====
def bitF (F : Int) : Int → Bool := fun i => decide (F / ((2 ^ i.toNat : Nat) : Int) % 2 = 1)
def slB (g : Int → Bool) : Nat → Int
  | 0 => 0
  | m + 1 => slB g m + (if g (m : Int) = true then ((2 ^ m : Nat) : Int) else 0)
theorem p2_s (m : Nat) : ((2 ^ (m + 1) : Nat) : Int) = 2 * ((2 ^ m : Nat) : Int) := by rw [Nat.pow_succ]; omega
theorem p2_p (m : Nat) : 0 < ((2 ^ m : Nat) : Int) := by have := Nat.two_pow_pos m; omega
theorem slB_b {g : Int → Bool} : ∀ m : Nat, 0 ≤ slB g m ∧ slB g m < ((2 ^ m : Nat) : Int) := by
  intro m
  induction m with
  | zero => exact ⟨Int.le_refl 0, (by decide : (0 : Int) < ((2 ^ 0 : Nat) : Int))⟩
  | succ m ih => rw [slB, p2_s]; split <;> omega
theorem p2_m {m j : Nat} (h : j < m) : ((2 ^ m : Nat) : Int) = ((2 ^ j : Nat) : Int) * (2 * ((2 ^ (m - j - 1) : Nat) : Int)) := by
  have e : 2 ^ m = 2 ^ j * (2 * 2 ^ (m - j - 1)) := by
    rw [← Nat.pow_succ', ← Nat.pow_add]
    congr 1
    omega
  rw [e, Int.natCast_mul, Int.natCast_mul]
  rfl
theorem p2_l {m j : Nat} (h : m ≤ j) : ((2 ^ m : Nat) : Int) ≤ ((2 ^ j : Nat) : Int) := Int.ofNat_le.mpr (Nat.pow_le_pow_right (by decide) h)
theorem slB_d {g : Int → Bool} : ∀ (m j : Nat), slB g m / ((2 ^ j : Nat) : Int) % 2 = (if j < m ∧ g (j : Int) = true then 1 else 0) := by
  intro m
  induction m with
  | zero => intro j; rw [slB, Int.zero_ediv, if_neg (by omega)]; rfl
  | succ m ih =>
    intro j
    have hb := slB_b (g := g) m
    have pj := p2_p j
    have pm := p2_p m
    rw [slB]
    by_cases c : j < m
    · have e := ih j
      have e2 : slB g m + (if g (m : Int) = true then ((2 ^ m : Nat) : Int) else 0) = slB g m + ((2 ^ j : Nat) : Int) * (if g (m : Int) = true then 2 * ((2 ^ (m - j - 1) : Nat) : Int) else 0) := by
        split
        · rw [p2_m c]
        · rw [Int.mul_zero]
      rw [e2, Int.add_mul_ediv_left _ _ (by omega)]
      by_cases q : g (j : Int) = true
      · rw [if_pos ⟨c, q⟩] at e
        rw [if_pos (show j < m + 1 ∧ g (j : Int) = true from ⟨by omega, q⟩)]
        split <;> omega
      · rw [if_neg (fun w => q w.2)] at e
        rw [if_neg (show ¬ (j < m + 1 ∧ g (j : Int) = true) from fun w => q w.2)]
        split <;> omega
    · by_cases c2 : j = m
      · rw [c2]
        by_cases q : g (m : Int) = true
        · rw [if_pos q, if_pos ⟨by omega, q⟩]
          have e3 : (slB g m + ((2 ^ m : Nat) : Int)) / ((2 ^ m : Nat) : Int) = 1 := by
            rw [Int.add_ediv_of_dvd_right (Int.dvd_refl _), Int.ediv_eq_zero_of_lt hb.1 hb.2, Int.ediv_self (by omega)]
            rfl
          rw [e3]
          rfl
        · rw [if_neg q, if_neg (fun w => q w.2), Int.add_zero, Int.ediv_eq_zero_of_lt hb.1 hb.2]
          rfl
      · have pl := p2_l (m := m + 1) (j := j) (by omega)
        have ps := p2_s m
        rw [if_neg (show ¬ (j < m + 1 ∧ g (j : Int) = true) from fun w => by omega), Int.ediv_eq_zero_of_lt (by split <;> omega) (by split <;> omega)]
        rfl
theorem bit_B {g : Int → Bool} {m : Nat} (j : Nat) : bitF (slB g m) (j : Int) = (decide (j < m) && g (j : Int)) := by
  unfold bitF
  rw [Int.toNat_natCast, slB_d]
  by_cases c : j < m
  · cases q : g (j : Int) with
    | true => rw [if_pos ⟨c, rfl⟩, decide_eq_true c]; rfl
    | false => rw [if_neg (fun w => absurd w.2 (by decide)), decide_eq_true c]; rfl
  · rw [if_neg (fun w => c w.1), decide_eq_false c]; rfl
theorem bitN {g : Int → Bool} {m k : Nat} (h : k ≤ m) : slN (bitF (slB g m)) k = slN g k := slN_c k (fun i hi => by rw [bit_B, decide_eq_true (by omega : i < m), Bool.true_and])
theorem bitN_o {g : Int → Bool} {m k : Nat} (h : m ≤ k) : slN (bitF (slB g m)) k = slN g m := (slN_o k h (fun i hi => by rw [bit_B, decide_eq_false (by omega : ¬ i < m), Bool.false_and])).trans (bitN (Nat.le_refl m))
theorem bitL_o {g : Int → Bool} {m k : Nat} (h : m ≤ k) : slL (bitF (slB g m)) k = slL g m := (slL_o k h (fun i hi => by rw [bit_B, decide_eq_false (by omega : ¬ i < m), Bool.false_and])).trans (slL_c m (fun i hi => by rw [bit_B, decide_eq_true (by omega : i < m), Bool.true_and]))
theorem or_all : (List.range 10).all (fun s => (List.range (2 ^ s)).all (fun F => decide ((iI (F : Int) ||| (iI 1 <<< (iI (s : Int) &&& 31))).toInt = (F : Int) + ((2 ^ s : Nat) : Int)))) = true := by decide +kernel
theorem or_z : (List.range 1024).all (fun F => decide ((iI (F : Int) ||| iI 0).toInt = (F : Int))) = true := by decide +kernel
theorem slB_y {g : Int → Bool} {s F y z : Int} (h : F = slB g s.toNat) (s0 : 0 ≤ s) (s1 : s ≤ 9) (hy : y = (iI 1 <<< (iI s &&& 31)).toInt) (hz : z = (iI F ||| iI y).toInt) (hg : g s = true) : z = slB g (s + 1).toNat := by
  have b := slB_b (g := g) s.toNat
  have e2 : ((s.toNat : Nat) : Int) = s := Int.toNat_of_nonneg s0
  have t := of_decide_eq_true (List.all_eq_true.mp (List.all_eq_true.mp or_all s.toNat (List.mem_range.mpr (by omega))) F.toNat (List.mem_range.mpr (by omega)))
  rw [e2, Int.toNat_of_nonneg (by omega)] at t
  rw [hy, iI_x] at hz
  rw [show (s + 1).toNat = s.toNat + 1 by omega, slB, e2, if_pos hg, ← h, hz]
  exact t
theorem slB_n {g : Int → Bool} {s F z : Int} (h : F = slB g s.toNat) (s0 : 0 ≤ s) (s1 : s ≤ 10) (hz : z = (iI F ||| iI 0).toInt) (hg : ¬ g s = true) : z = slB g (s + 1).toNat := by
  have b := slB_b (g := g) s.toNat
  have pl := p2_l (m := s.toNat) (j := 10) (by omega)
  have e3 : ((2 ^ 10 : Nat) : Int) = 1024 := by decide
  have e2 : ((s.toNat : Nat) : Int) = s := Int.toNat_of_nonneg s0
  have t := of_decide_eq_true (List.all_eq_true.mp or_z F.toNat (List.mem_range.mpr (by omega)))
  rw [Int.toNat_of_nonneg (by omega)] at t
  rw [show (s + 1).toNat = s.toNat + 1 by omega, slB, e2, if_neg hg, Int.add_zero, ← h, hz]
  exact t
theorem ior_10 {a b : Int} (a0 : 0 ≤ a) (a1 : a ≤ 1023) (b0 : 0 ≤ b) (b1 : b ≤ 1023) : 0 ≤ (iI a ||| iI b).toInt ∧ (iI a ||| iI b).toInt ≤ 1023 := by
  have ea := iI_i (z := a) (by omega) (by omega)
  have eb := iI_i (z := b) (by omega) (by omega)
  have e : (iI a ||| iI b).toBitVec.toNat = (iI a).toBitVec.toNat ||| (iI b).toBitVec.toNat := by rw [Int32.toBitVec_or, BitVec.toNat_or]
  have h1 := tb_nat (x := iI a) (by omega)
  have h2 := tb_nat (x := iI b) (by omega)
  have h3 : (iI a).toBitVec.toNat ||| (iI b).toBitVec.toNat < 2 ^ 10 := Nat.or_lt_two_pow (by omega) (by omega)
  have h4 := ti_of e (by omega)
  omega
theorem ishl_10 {q : Int} (h0 : 0 ≤ q) (h1 : q ≤ 9) : 1 ≤ (iI 1 <<< (iI q &&& 31)).toInt ∧ (iI 1 <<< (iI q &&& 31)).toInt ≤ 512 := by
  have h : q = 0 ∨ q = 1 ∨ q = 2 ∨ q = 3 ∨ q = 4 ∨ q = 5 ∨ q = 6 ∨ q = 7 ∨ q = 8 ∨ q = 9 := by omega
  rcases h with rfl | rfl | rfl | rfl | rfl | rfl | rfl | rfl | rfl | rfl <;> decide +kernel
-- how many bits
def bc1 (x : Int32) : Int32 := (x - (((Int32.toUInt32 x >>> (Int32.toUInt32 (iI 1) &&& Int32.toUInt32 31)).toInt32) &&& (iI 1431655765)))
def bc2 (x : Int32) : Int32 := ((x &&& (iI 858993459)) + (((Int32.toUInt32 x >>> (Int32.toUInt32 (iI 2) &&& Int32.toUInt32 31)).toInt32) &&& (iI 858993459)))
def bc3 (x : Int32) : Int32 := ((x + ((Int32.toUInt32 x >>> (Int32.toUInt32 (iI 4) &&& Int32.toUInt32 31)).toInt32)) &&& (iI 252645135))
def bc4 (x : Int32) : Int32 := (x + ((Int32.toUInt32 x >>> (Int32.toUInt32 (iI 8) &&& Int32.toUInt32 31)).toInt32))
def bc5 (x : Int32) : Int32 := (x + ((Int32.toUInt32 x >>> (Int32.toUInt32 (iI 16) &&& Int32.toUInt32 31)).toInt32))
def bc6 (x : Int32) : Int32 := (x &&& (iI 63))
theorem bc_all : (List.range 1024).all (fun F => decide ((bc6 (bc5 (bc4 (bc3 (bc2 (bc1 (iI (F : Int)))))))).toInt = slN (bitF (F : Int)) 10)) = true := by decide +kernel
theorem bc_x {x a b c d e r : Int} (x0 : 0 ≤ x) (x1 : x ≤ 1023) (h1 : iI a = bc1 (iI x)) (h2 : iI b = bc2 (iI a)) (h3 : iI c = bc3 (iI b)) (h4 : iI d = bc4 (iI c)) (h5 : iI e = bc5 (iI d)) (h6 : iI r = bc6 (iI e)) (r0 : -2147483648 ≤ r) (r1 : r ≤ 2147483647) : r = slN (bitF x) 10 := by
  have t := of_decide_eq_true (List.all_eq_true.mp bc_all x.toNat (List.mem_range.mpr (by omega)))
  rw [Int.toNat_of_nonneg x0, ← h1, ← h2, ← h3, ← h4, ← h5, ← h6, iI_i r0 r1] at t
  exact t
-- the lowest bit
def ntY (F y : Int) : Prop := (y = 0 ∧ slL (bitF F) 10 = 0) ∨ (y = 1 ∧ slL (bitF F) 10 = 1) ∨ (y = 3 ∧ slL (bitF F) 10 = 2) ∨ (y = 7 ∧ slL (bitF F) 10 = 3) ∨ (y = 15 ∧ slL (bitF F) 10 = 4) ∨ (y = 31 ∧ slL (bitF F) 10 = 5) ∨ (y = 63 ∧ slL (bitF F) 10 = 6) ∨ (y = 127 ∧ slL (bitF F) 10 = 7) ∨ (y = 255 ∧ slL (bitF F) 10 = 8) ∨ (y = 511 ∧ slL (bitF F) 10 = 9)
def ntG (F : Nat) : Int := ((iI (F : Int) ^^^ iI (-1)) &&& (iI (F : Int) - iI 1)).toInt
theorem ntz_all10 : (List.range 1024).all (fun F => decide (F = 0) || decide ((ntG F = 0 ∧ slL (bitF (F : Int)) 10 = 0) ∨ (ntG F = 1 ∧ slL (bitF (F : Int)) 10 = 1) ∨ (ntG F = 3 ∧ slL (bitF (F : Int)) 10 = 2) ∨ (ntG F = 7 ∧ slL (bitF (F : Int)) 10 = 3) ∨ (ntG F = 15 ∧ slL (bitF (F : Int)) 10 = 4) ∨ (ntG F = 31 ∧ slL (bitF (F : Int)) 10 = 5) ∨ (ntG F = 63 ∧ slL (bitF (F : Int)) 10 = 6) ∨ (ntG F = 127 ∧ slL (bitF (F : Int)) 10 = 7) ∨ (ntG F = 255 ∧ slL (bitF (F : Int)) 10 = 8) ∨ (ntG F = 511 ∧ slL (bitF (F : Int)) 10 = 9))) = true := by decide +kernel
theorem ntY_x {a : Int} (h0 : 1 ≤ a) (h1 : a ≤ 1023) : ntY a ((iI a ^^^ iI (-1)) &&& (iI (a - 1))).toInt := by
  have h := List.all_eq_true.mp ntz_all10 a.toNat (List.mem_range.mpr (by omega))
  rw [Bool.or_eq_true_iff] at h
  have e : ((a.toNat : Nat) : Int) = a := Int.toNat_of_nonneg (by omega)
  rcases h with h | h
  · have := of_decide_eq_true h; omega
  · have h2 := of_decide_eq_true h
    unfold ntG at h2
    rw [e, iI_sub] at h2
    exact h2
theorem ntz_and10 {a : Int} (h0 : 1 ≤ a) (h1 : a ≤ 1023) : 0 ≤ ((iI a ^^^ iI (-1)) &&& (iI (a - 1))).toInt ∧ ((iI a ^^^ iI (-1)) &&& (iI (a - 1))).toInt ≤ 511 := by
  have h := ntY_x h0 h1
  unfold ntY at h
  omega
def ntR (y r : Int) : Prop := (y ≤ 0 ∧ r = 0) ∨ (1 ≤ y ∧ y ≤ 4 ∧ r = 1 + y / 2) ∨ (4 < y ∧ y ≤ 16 ∧ r = 3 + y / 4 / 2) ∨ (16 < y ∧ y / 16 ≤ 4 ∧ y ≤ 256 ∧ r = 5 + y / 16 / 2) ∨ (16 < y ∧ 4 < y / 16 ∧ y ≤ 256 ∧ r = 7 + y / 16 / 4 / 2) ∨ (256 < y ∧ r = 9 + y / 256 / 2)
theorem nt_f {F y r : Int} (h : ntY F y) (hr : ntR y r) : r = slL (bitF F) 10 := by
  unfold ntR at hr
  rcases h with ⟨a, b⟩ | ⟨a, b⟩ | ⟨a, b⟩ | ⟨a, b⟩ | ⟨a, b⟩ | ⟨a, b⟩ | ⟨a, b⟩ | ⟨a, b⟩ | ⟨a, b⟩ | ⟨a, b⟩ <;> (rw [b]; subst a; omega)
-- how many bits up to a number
theorem mk_all : (List.range 9).all (fun p => (List.range 1024).all (fun F => decide ((iI (F : Int) &&& iI ((iI 1 <<< (iI ((p : Int) + 1) &&& 31)).toInt - 1)).toInt = (F : Int) % ((2 ^ (p + 1) : Nat) : Int)))) = true := by decide +kernel
theorem bit_m {F : Int} {p : Nat} (F0 : 0 ≤ F) (i : Nat) : bitF (F % ((2 ^ p : Nat) : Int)) (i : Int) = (decide (i < p) && bitF F (i : Int)) := by
  have pi := p2_p i
  have pp := p2_p p
  unfold bitF
  rw [Int.toNat_natCast]
  by_cases c : i < p
  · rw [decide_eq_true c, Bool.true_and]
    congr 1
    have e := Int.emod_add_mul_ediv F ((2 ^ p : Nat) : Int)
    have e2 : F = F % ((2 ^ p : Nat) : Int) + ((2 ^ i : Nat) : Int) * (2 * ((2 ^ (p - i - 1) : Nat) : Int) * (F / ((2 ^ p : Nat) : Int))) := by
      rw [← Int.mul_assoc, ← p2_m c]; exact e.symm
    have e3 : F / ((2 ^ i : Nat) : Int) = F % ((2 ^ p : Nat) : Int) / ((2 ^ i : Nat) : Int) + 2 * (((2 ^ (p - i - 1) : Nat) : Int) * (F / ((2 ^ p : Nat) : Int))) := by
      conv => lhs; rw [e2]
      rw [Int.add_mul_ediv_left _ _ (by omega), Int.mul_assoc]
    rw [e3, Int.add_mul_emod_self_left]
  · rw [decide_eq_false c, Bool.false_and]
    apply decide_eq_false
    have pl := p2_l (m := p) (j := i) (by omega)
    have m0 := Int.emod_nonneg F (show ((2 ^ p : Nat) : Int) ≠ 0 by omega)
    have m1 := Int.emod_lt_of_pos F pp
    rw [Int.ediv_eq_zero_of_lt m0 (by omega)]
    decide
theorem mk_x {F p y z r : Int} (F0 : 0 ≤ F) (F1 : F ≤ 1023) (p0 : 0 ≤ p) (p1 : p ≤ 8) (hy : y = (iI 1 <<< (iI (p + 1) &&& 31)).toInt) (hz : z = (iI F &&& iI (y - 1)).toInt) (hr : r = slN (bitF z) 10) : r = slN (bitF F) (p + 1).toNat := by
  have t := of_decide_eq_true (List.all_eq_true.mp (List.all_eq_true.mp mk_all p.toNat (List.mem_range.mpr (by omega))) F.toNat (List.mem_range.mpr (by omega)))
  rw [Int.toNat_of_nonneg p0, Int.toNat_of_nonneg F0, ← hy, ← hz] at t
  rw [hr, t, show (p + 1).toNat = p.toNat + 1 by omega, slN_o (m := p.toNat + 1) 10 (by omega) (fun i hi => by rw [bit_m F0, decide_eq_false (by omega : ¬ i < p.toNat + 1), Bool.false_and])]
  exact slN_c _ (fun i hi => by rw [bit_m F0, decide_eq_true hi, Bool.true_and])
theorem mx_x {x y z : Int} (x0 : -2147483648 ≤ x) (x1 : x ≤ 2147483647) (y0 : -2147483648 ≤ y) (y1 : y ≤ 2147483647) (z0 : -2147483648 ≤ z) (z1 : z ≤ 2147483647) (h : iI z = (if iI x < iI y then iI y else iI x)) : x ≤ z ∧ y ≤ z ∧ (z = x ∨ z = y) := by
  by_cases c : iI x < iI y
  · rw [if_pos c] at h
    have c2 := (iI_lt x0 x1 y0 y1).mp c
    have e := iI_inj z0 z1 y0 y1 h
    omega
  · rw [if_neg c] at h
    have c2 : ¬ x < y := fun w => c ((iI_lt x0 x1 y0 y1).mpr w)
    have e := iI_inj z0 z1 x0 x1 h
    omega
def LB (F P : Int) : Int → Int := fun p => lfF P (slN (bitF F) (p + 1).toNat) (slN (bitF F) 10) p
theorem LB_c {f : Int → Int} {P n F s : Int} (P0 : 0 ≤ P) (P1 : P ≤ 9) (h : F = slB (slb f P n) s.toNat) (hs : s = P + 1) (j : Int) (j0 : 0 ≤ j) (j1 : j < P) : LB F P j = LL f P n j := by
  unfold LB LL
  rw [h, hs, bitN (by omega), bitN_o (by omega)]
def bqJ (F P p t w : Int) : Prop := (p = 0 ∧ t = -1) ∨ (0 < p ∧ bsJ (LB F P) p t ∧ w = LB F P t)
theorem bqJ_0 {F P w : Int} : bqJ F P 0 (-1) w := Or.inl ⟨rfl, rfl⟩
theorem bqJ_t {F P p t w t' w' r : Int} (h : bqJ F P p t w) (p0 : 0 ≤ p) (hr : lfQ P p (slN (bitF F) (p + 1).toNat) (slN (bitF F) 10) r) (hs : ((t = -1 ∨ r < w) ∧ t' = p ∧ w' = r) ∨ (¬ t = -1 ∧ w ≤ r ∧ t' = t ∧ w' = w)) : bqJ F P (p + 1) t' w' := by
  have e : r = LB F P p := lfQ_e hr
  refine Or.inr ⟨by omega, ?_⟩
  rcases h with ⟨h1, h2⟩ | ⟨h1, h2, h3⟩
  · rcases hs with ⟨-, q2, q3⟩ | ⟨q1, -⟩
    · rw [q2, h1]
      exact ⟨bsJ_0, by rw [q3, e, h1]⟩
    · exact absurd h2 q1
  · have h4 := h2.1
    rcases hs with ⟨q1, q2, q3⟩ | ⟨-, q1, q2, q3⟩
    · refine ⟨bsJ_t h2 (Or.inl ⟨?_, q2⟩), by rw [q3, e, q2]⟩
      rw [← e, ← h3]
      omega
    · refine ⟨bsJ_t h2 (Or.inr ⟨?_, q2⟩), by rw [q3, h3, q2]⟩
      rw [← e, ← h3]
      exact q1
theorem bqJ_f {F P p t w : Int} (h : bqJ F P p t w) (hp : p = P) (P0 : 0 < P) : bsJ (LB F P) P t := by
  rcases h with ⟨h1, -⟩ | ⟨-, h2, -⟩
  · omega
  · rw [hp] at h2; exact h2
theorem jd_0 {f : Int → Int} {P n s F m l t : Int} (hv : slV f P n) (P0 : 0 ≤ P) (P1 : P ≤ 9) (h : F = slB (slb f P n) s.toNat) (hs : s = P + 1) (hF : F = 0) (hm : m = slN (bitF F) 10) : slQ f P n m l l t t := by
  have e : m = slN (slb f P n) (P + 1).toNat := by rw [hm, h, hs, bitN_o (by omega)]
  have e2 : m = 0 := by rw [hm, hF]; decide +kernel
  exact Or.inr ⟨hv, e, Or.inl ⟨e2, rfl, rfl⟩⟩
theorem jd_1 {f : Int → Int} {P n s F m l x t t' : Int} (hv : slV f P n) (P0 : 0 ≤ P) (P1 : P ≤ 9) (h : F = slB (slb f P n) s.toNat) (hs : s = P + 1) (hF : ¬ F = 0) (hm : m = slN (bitF F) 10) (hx : x = slL (bitF F) 10) (x0 : 0 ≤ x) (hf : 0 ≤ f 0) (hb : 0 < P → bsJ (LB F P) P t') : slQ f P n m l x t t' := by
  have e : m = slN (slb f P n) (P + 1).toNat := by rw [hm, h, hs, bitN_o (by omega)]
  have e3 : x = slL (slb f P n) (P + 1).toNat := by rw [hx, h, hs, bitL_o (by omega)]
  have hn := slN_nn (g := slb f P n) (P + 1).toNat
  have hl := slL_n (g := slb f P n) (P + 1).toNat
  have ho := hv.2 0 (by decide) (by have := hv.1; omega)
  rw [Int.mul_zero] at ho
  have hP : 0 < P := by have := ho.1; omega
  refine Or.inr ⟨hv, e, Or.inr ⟨?_, e3, ?_⟩⟩
  · have : ¬ m = 0 := fun w => by have := hl.mpr (by omega); omega
    omega
  · exact bsJ_c (hb hP) (fun j j0 j1 => LB_c P0 P1 h hs j j0 j1)
def taV (r : Int) (f : Int → Int) (P n : Int) : Prop := (r = 1 ∧ slV f P n) ∨ (r = 0 ∧ ¬ slV f P n)
def ftV (r : Int) (f : Int → Int) (P n s : Int) : Prop := (r = 1 ∧ slF f P n s) ∨ (r = 0 ∧ ¬ slF f P n s)
theorem ta_1 {r P n : Int} {f : Int → Int} (h : taV r f P n) (hr : ¬ r = 0) : slV f P n := by
  rcases h with ⟨-, h⟩ | ⟨h, -⟩
  · exact h
  · exact absurd h hr
theorem ta_0 {r P n : Int} {f : Int → Int} (h : taV r f P n) (hr : r = 0) : ¬ slV f P n := by
  rcases h with ⟨h, -⟩ | ⟨-, h⟩
  · omega
  · exact h
theorem ft_1 {r P n s : Int} {f : Int → Int} (h : ftV r f P n s) (hr : ¬ r = 0) : slF f P n s := by
  rcases h with ⟨-, h⟩ | ⟨h, -⟩
  · exact h
  · exact absurd h hr
theorem ft_0 {r P n s : Int} {f : Int → Int} (h : ftV r f P n s) (hr : r = 0) : ¬ slF f P n s := by
  rcases h with ⟨h, -⟩ | ⟨-, h⟩
  · omega
  · exact h
theorem slA_p {f : Int → Int} {P k : Int} (h : slA f P k) (hk : 0 < k) (hf : 0 ≤ f 0) : 1 ≤ P := by
  have w := h 0 (by decide) (by omega)
  rw [Int.mul_zero] at w
  have := w.1
  omega
theorem bsJ_e {L : Int → Int} {p P t : Int} (h : bsJ L p t) (e : p = P) : bsJ L P t := by rw [← e]; exact h
theorem ml_0 {P p a b : Int} (h1 : a = inB P p p) (h2 : b = inB P p (p + 1)) (he : a = b) (hp : p ≤ 250) : P ≤ p + 1 := by
  rw [h1, h2, inB_e hp] at he
  omega
theorem ml_2 {P p a b F N u r : Int} (h1 : a = inB P p p) (h2 : b = inB P p (p + 1)) (he : ¬ a = b) (hp : p ≤ 250) (hN : N = slN (bitF F) 10) (hu : u = slN (bitF F) (p + 1).toNat) (hm : u ≤ r ∧ N - u ≤ r ∧ (r = u ∨ r = N - u)) : lfQ P p (slN (bitF F) (p + 1).toNat) (slN (bitF F) 10) r := by
  rw [h1, h2, inB_e hp] at he
  rw [← hN, ← hu]
  unfold lfQ
  omega
theorem sl_law {fx fm : Int → Int} {Px Pm nx nm rx rm lx lm lx' lm' tx tm tx' tm' : Int} (h : slQ fx Px nx rx lx lx' tx tx') (h2 : slQ fm Pm nm rm lm lm' tm tm') (e1 : fm = fx) (e2 : Pm = Px) (e3 : nm = nx) (e4 : lm = lx) (e5 : tm = tx) : rm = rx ∧ lm' = lx' ∧ tm' = tx' := by
  rw [e1, e2, e3, e4, e5] at h2
  exact slQ_u h2 h
