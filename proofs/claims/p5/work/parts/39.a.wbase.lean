-- ===== ways through streets =====
theorem rng_rg {lo hi a b x : Int} {c : Int → Int} (h : rng lo hi c) (h0 : lo ≤ x) (h1 : x ≤ hi) : rng lo hi (rgz a b x c) := by
  intro j
  simp only [rgz]
  split
  · exact ⟨h0, h1⟩
  · exact h j
abbrev wE (n : Int → Int) (a b : Int) : Prop := hb (iI (n (44 + a))) b
def wyI (n c : Int → Int) (q : Int) : Prop := (∀ a, 0 ≤ a → a ≤ 8 → 0 ≤ c a ∧ c a ≤ 100000) ∧ c q = 0 ∧ ∀ a, 0 ≤ a → a ≤ 8 → a ≠ q → 1 ≤ c a ∧ (c a < 100000 → ∃ b, 0 ≤ b ∧ b ≤ 8 ∧ wE n a b ∧ c b + 1 ≤ c a)
def wL (n c : Int → Int) (q r A B : Int) : Prop := wyI n c q ∧ (∀ a b, 0 ≤ a → a ≤ 8 → 0 ≤ b → b ≤ 8 → wE n a b → c b < r → c a ≤ c b + 1) ∧ ∀ a b, 0 ≤ a → a ≤ 8 → 0 ≤ b → b ≤ 8 → (a < A ∨ (a = A ∧ b < B)) → wE n a b → c b ≤ r → c a ≤ c b + 1
theorem wL_0 {n c : Int → Int} {q : Int} : wL n (upz (rgz 0 9 100000 c) q 0) q 0 0 0 := by
  have e : ∀ j, 0 ≤ j → j ≤ 8 → j ≠ q → upz (rgz 0 9 100000 c) q 0 j = 100000 := fun j a b h => by
    rw [upz_n h]; simp only [rgz]; rw [if_pos ⟨a, by omega⟩]
  have eq : upz (rgz 0 9 100000 c) q 0 q = 0 := upz_s _ _ _
  refine ⟨⟨fun a a0 a1 => ?_, eq, fun a a0 a1 h => ⟨?_, fun h2 => ?_⟩⟩, fun a b a0 a1 b0 b1 _ h => ?_, fun a b a0 a1 b0 b1 h => ?_⟩
  · by_cases h : a = q
    · rw [h, eq]; omega
    · rw [e a a0 a1 h]; omega
  · rw [e a a0 a1 h]; omega
  · rw [e a a0 a1 h] at h2; omega
  · by_cases hb : b = q
    · rw [hb, eq] at h; omega
    · rw [e b b0 b1 hb] at h; omega
  · omega
theorem wL_no {n c : Int → Int} {q r A B : Int} (h : wL n c q r A B) (hn : ¬ wE n A B) : wL n c q r A (B + 1) := by
  refine ⟨h.1, h.2.1, fun a b a0 a1 b0 b1 hp hE hb => ?_⟩
  by_cases e : a = A ∧ b = B
  · rw [e.1, e.2] at hE; exact absurd hE hn
  · exact h.2.2 a b a0 a1 b0 b1 (by omega) hE hb
theorem wL_up {n c : Int → Int} {q r A B x : Int} (h : wL n c q r A B) (A0 : 0 ≤ A) (A1 : A ≤ 8) (B0 : 0 ≤ B) (B1 : B ≤ 8) (hE : wE n A B) (hx : (x = c A ∧ c A ≤ c B + 1) ∨ (x = c B + 1 ∧ c B + 1 ≤ c A)) : wL n (upz c A x) q r A (B + 1) := by
  by_cases hA : x = c A
  · have e : upz c A x = c := by
      funext j
      by_cases hj : j = A
      · rw [hj, upz_s, hA]
      · rw [upz_n hj]
    rw [e]
    refine ⟨h.1, h.2.1, fun a b a0 a1 b0 b1 hp hE2 hb => ?_⟩
    by_cases e2 : a = A ∧ b = B
    · rw [e2.1, e2.2]; omega
    · exact h.2.2 a b a0 a1 b0 b1 (by omega) hE2 hb
  · have hlt : c B + 1 < c A := by omega
    have hxv : x = c B + 1 := by omega
    obtain ⟨⟨hb0, hq, hw⟩, hP, hR⟩ := h
    have hr : r ≤ c B := by
      by_cases h9 : c B < r
      · exact absurd (hP A B A0 A1 B0 B1 hE h9) (by omega)
      · omega
    have hB0 := hb0 B B0 B1
    have hA0 := hb0 A A0 A1
    have hAq : A ≠ q := fun e => by rw [e, hq] at hlt; omega
    have dA : upz c A x A = x := upz_s _ _ _
    have dn : ∀ j, j ≠ A → upz c A x j = c j := fun j hj => upz_n hj
    have dle : ∀ j, upz c A x j ≤ c j := fun j => by
      by_cases hj : j = A
      · rw [hj, dA]; omega
      · rw [dn j hj]; exact Int.le_refl _
    have dB : upz c A x B = c B := dn B (fun e => by rw [e] at hlt; omega)
    refine ⟨⟨fun a a0 a1 => ?_, ?_, fun a a0 a1 hne => ?_⟩, fun a b a0 a1 b0 b1 hE2 hb => ?_, fun a b a0 a1 b0 b1 hp hE2 hb => ?_⟩
    · by_cases e : a = A
      · rw [e, dA]; omega
      · rw [dn a e]; exact hb0 a a0 a1
    · rw [dn q (Ne.symm hAq)]; exact hq
    · by_cases e : a = A
      · rw [e, dA]; exact ⟨by omega, fun _ => ⟨B, B0, B1, hE, by rw [dB]; omega⟩⟩
      · rw [dn a e]
        refine ⟨(hw a a0 a1 hne).1, fun h2 => ?_⟩
        obtain ⟨b, b0, b1, hE2, hb⟩ := (hw a a0 a1 hne).2 h2
        exact ⟨b, b0, b1, hE2, by have := dle b; omega⟩
    · have hbA : b ≠ A := fun e => by rw [e, dA] at hb; omega
      rw [dn b hbA] at hb ⊢
      have e1 := hP a b a0 a1 b0 b1 hE2 hb
      have e2 := dle a
      omega
    · have hbA : b ≠ A := fun e => by rw [e, dA] at hb; omega
      rw [dn b hbA] at hb ⊢
      by_cases e2 : a = A ∧ b = B
      · rw [e2.1, e2.2, dA]; omega
      · have e1 := hR a b a0 a1 b0 b1 (by omega) hE2 hb
        have e3 := dle a
        omega
theorem wL_A {n c : Int → Int} {q r A B : Int} (h : wL n c q r A B) (hB : 9 ≤ B) : wL n c q r (A + 1) 0 :=
  ⟨h.1, h.2.1, fun a b a0 a1 b0 b1 hp hE hb => h.2.2 a b a0 a1 b0 b1 (by omega) hE hb⟩
theorem wL_R {n c : Int → Int} {q r A B : Int} (h : wL n c q r A B) (hA : 9 ≤ A) : wL n c q (r + 1) 0 0 :=
  ⟨h.1, fun a b a0 a1 b0 b1 hE hb => h.2.2 a b a0 a1 b0 b1 (by omega) hE (by omega), fun a b a0 a1 b0 b1 hp => by omega⟩
theorem wpig : ∀ (m : Nat) (l : List Int), (∀ i : Nat, i < m → (i : Int) ∈ l) → m ≤ l.length := by
  intro m
  induction m with
  | zero => intro l _; exact Nat.zero_le _
  | succ m ih =>
    intro l h
    have h1 := h m (Nat.lt_succ_self _)
    have h2 := ih (l.erase (m : Int)) (fun i hi => (List.mem_erase_of_ne (by omega)).mpr (h i (by omega)))
    rw [List.length_erase_of_mem h1] at h2
    have h3 : 0 < l.length := List.length_pos_of_mem h1
    omega
def wF (n c : Int → Int) : Prop := ∀ a, 0 ≤ a → a ≤ 8 → c a < 100000 → 0 ≤ c a ∧ c a ≤ 8 ∧ (0 < c a → ∃ b, 0 ≤ b ∧ b ≤ 8 ∧ wE n a b ∧ c b = c a - 1)
theorem wL_fin {n c : Int → Int} {q r : Int} (h : wL n c q r 0 0) (hr : 9 ≤ r) : wF n c := by
  obtain ⟨⟨hb0, hq, hw⟩, hP, -⟩ := h
  have s1 : ∀ a, 0 ≤ a → a ≤ 8 → c a ≤ 9 → 0 < c a → ∃ b, 0 ≤ b ∧ b ≤ 8 ∧ wE n a b ∧ c b = c a - 1 := by
    intro a a0 a1 h9 hp
    have hne : a ≠ q := fun e => by rw [e, hq] at hp; omega
    obtain ⟨b, b0, b1, hE, hb⟩ := (hw a a0 a1 hne).2 (by omega)
    have e1 := hP a b a0 a1 b0 b1 hE (by omega)
    exact ⟨b, b0, b1, hE, by omega⟩
  have s2 : ∀ a, 0 ≤ a → a ≤ 8 → c a ≠ 9 := by
    intro a a0 a1 h9
    have hch : ∀ d : Nat, d ≤ 9 → ∃ b, 0 ≤ b ∧ b ≤ 8 ∧ c b = 9 - (d : Int) := by
      intro d
      induction d with
      | zero => exact fun _ => ⟨a, a0, a1, by omega⟩
      | succ d ih =>
        intro hd
        obtain ⟨b, b0, b1, hb⟩ := ih (by omega)
        obtain ⟨b', b0', b1', -, hb'⟩ := s1 b b0 b1 (by omega) (by omega)
        exact ⟨b', b0', b1', by omega⟩
    have hl := wpig 10 [c 0, c 1, c 2, c 3, c 4, c 5, c 6, c 7, c 8] (fun i hi => by
      obtain ⟨b, b0, b1, hb⟩ := hch (9 - i) (by omega)
      have hbi : c b = (i : Int) := by omega
      rw [← hbi]
      rcases (show b = 0 ∨ b = 1 ∨ b = 2 ∨ b = 3 ∨ b = 4 ∨ b = 5 ∨ b = 6 ∨ b = 7 ∨ b = 8 by omega) with rfl | rfl | rfl | rfl | rfl | rfl | rfl | rfl | rfl <;> simp)
    simp at hl
  have s3 : ∀ (v : Nat) (a : Int), 0 ≤ a → a ≤ 8 → c a = (v : Int) → c a < 100000 → c a ≤ 8 := by
    intro v
    induction v using Nat.strongRecOn with
    | _ v ih =>
      intro a a0 a1 hv hlt
      by_cases h8 : c a ≤ 8
      · exact h8
      · exfalso
        have hne : a ≠ q := fun e => by rw [e, hq] at h8; omega
        obtain ⟨b, b0, b1, hE, hb⟩ := (hw a a0 a1 hne).2 hlt
        have hbb := hb0 b b0 b1
        by_cases h9 : c b ≤ 8
        · have e1 := hP a b a0 a1 b0 b1 hE (by omega)
          exact s2 a a0 a1 (by omega)
        · have e1 := ih (c b).toNat (by omega) b b0 b1 (by omega) (by omega)
          omega
  intro a a0 a1 hlt
  have h0 := hb0 a a0 a1
  have h8 := s3 (c a).toNat a a0 a1 (by omega) hlt
  exact ⟨h0.1, h8, fun hp => s1 a a0 a1 (by omega) hp⟩
theorem wN_le {n c : Int → Int} {a z : Int} (hF : wF n c) (a0 : 0 ≤ a) (a1 : a ≤ 8) (hc : c a < 100000) (hp : 0 < c a) (hn : ∀ j : Int, 0 ≤ j → j < z → ¬ (wE n a j ∧ c j = c a - 1)) : z ≤ 8 := by
  obtain ⟨b, b0, b1, hE, hb⟩ := (hF a a0 a1 hc).2.2 hp
  by_cases h : z ≤ 8
  · exact h
  · exact absurd ⟨hE, hb⟩ (hn b b0 (by omega))
theorem wN_s {n c : Int → Int} {a z : Int} (hn : ∀ j : Int, 0 ≤ j → j < z → ¬ (wE n a j ∧ c j = c a - 1)) (h : ¬ (wE n a z ∧ c z = c a - 1)) : ∀ j : Int, 0 ≤ j → j < z + 1 → ¬ (wE n a j ∧ c j = c a - 1) := by
  intro j j0 j1
  by_cases e : j = z
  · rw [e]; exact h
  · exact hn j j0 (by omega)
