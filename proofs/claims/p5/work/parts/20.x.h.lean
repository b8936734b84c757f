-- ===== what a text of a sentence tells =====
abbrev SS : Type := (Tk × Int × Int) × Int
abbrev SR : Type := (Int × Int) ⊕ SS
def bnS : SR → (SS → SR) → SR
  | .inl q, _ => .inl q
  | .inr s, g => g s
def bnV : PV → (Int → SR) → SR
  | .inl q, _ => .inl q
  | .inr v, g => g v
def kwF (y : Tk) : Nat → Nat → Nat
  | 0, a => a
  | k + 1, a => if isW y a then a else kwF y k (a + 1)
def seW (y : Tk) : Int := ((kwF y 10 17 : Nat) : Int)
def seL (f : Int → Int) (n L : Int) (w : Nat) (g : SS → SR) : Nat → SS → SR
  | 0, s => .inr s
  | k + 1, s => if isW s.1.1 w then bnS (g (nx f n L s.1, s.2)) (seL f n L w g k) else .inr s
def seJ (f : Int → Int) (n L : Int) (w : Nat) (g : SS → SR) (s : SS) : SR := bnS (g s) (seL f n L w g 40)
def sOfS (f : Int → Int) (n L : Int) (pn : Tk × Int × Int → PV) (s : SS) : SR := bnV (pn s.1) fun _ => .inr (nx f n L s.1, s.2)
def sCmpS (f : Int → Int) (n L : Int) (s : SS) : SR := if s.1.1 = tkSign 60 ∨ s.1.1 = tkSign 61 ∨ s.1.1 = tkSign 62 then bnV (sNu 0 999 (nx f n L s.1)) fun _ => .inr (nx f n L (nx f n L s.1), s.2) else .inl (1, s.1.2.1)
def sBrS (f : Int → Int) (n L : Int) (g : SS → SR) (s : SS) : SR := bnS (g s) fun s1 => if s1.1.1 = tkSign 41 then .inr (nx f n L s1.1, s1.2) else .inl (1, s1.1.2.1)
abbrev seB (s : SS) : Prop := s.1.1 = tkSign 40 ∨ seW s.1.1 < 27
def seOne (f : Int → Int) (n L : Int) (pn : Tk × Int × Int → PV) : Nat → SS → SR
  | 0, s => if seB s then .inl (4, s.1.2.1) else .inl (1, s.1.2.1)
  | k + 1, s => if seB s then (if s.2 = 20 then .inl (4, s.1.2.1) else if s.1.1 = tkSign 40 then sBrS f n L (seJ f n L 15 (seJ f n L 16 (seOne f n L pn k))) (nx f n L s.1, s.2 + 1) else if seW s.1.1 = 17 then seOne f n L pn k (nx f n L s.1, s.2 + 1) else if seW s.1.1 < 22 then .inr (nx f n L s.1, s.2 + 1) else if seW s.1.1 < 24 then sOfS f n L pn (nx f n L s.1, s.2 + 1) else sCmpS f n L (nx f n L s.1, s.2 + 1)) else .inl (1, s.1.2.1)
def seF : SR → PV
  | .inl q => .inl q
  | .inr s => if s.1.1 = tkStop then .inr s.2 else .inl (1, s.1.2.1)
def seS (f : Int → Int) (n : Int) (pn : Tk × Int × Int → PV) : PV := seF (seJ f n 200 15 (seJ f n 200 16 (seOne f n 200 pn 8)) (tkAt f n 200 0, 0))
def sqR : PV → Int → Prop
  | .inl (_, p), r => r = -1 - p
  | .inr v, r => r = v
theorem sq_u {m : PV} {r r' : Int} (h : sqR m r) (h' : sqR m r') : r = r' := by
  rcases m with ⟨k, p⟩ | v
  · exact Eq.trans h (Eq.symm h')
  · exact Eq.trans h (Eq.symm h')
theorem sx_0 {m : PV} {r fk fp t R : Int} (h : RV m r fk fp t) (hr : r = 0) (hR : R = -1 - fp) : sqR m R := by
  rcases m with ⟨k, p⟩ | v
  · obtain ⟨-, -, e⟩ := h; rw [e] at hR; exact hR
  · exact absurd (h.1.symm.trans hr) (by decide)
theorem sx_1 {m : PV} {r fk fp t R : Int} (h : RV m r fk fp t) (hr : r = 1) (hR : R = t) : sqR m R := by
  rcases m with ⟨k, p⟩ | v
  · exact absurd (h.1.symm.trans hr) (by decide)
  · exact hR.trans h.2
def RS : SR → Int → Int → Int → (Tk × Int × Int → Prop) → Int → Prop
  | .inl (k, p), r, fa, pl, _, _ => r = 0 ∧ fa = k ∧ pl = p
  | .inr s, r, _, _, G, on => r = 1 ∧ G s.1 ∧ on = s.2
section RSs
variable {m : SR} {r r' fa pl fa' pl' on on' R : Int} {G G' : Tk × Int × Int → Prop}
theorem RS_e (c : RS m r fa pl G on) (e : r = r') : RS m r' fa pl G on := by rw [← e]; exact c
theorem RS_0 (c : RS m r fa pl G on) (hr : r = 0) : RS m 0 fa pl G' on' := by
  rcases m with ⟨k, p⟩ | s
  · exact ⟨rfl, c.2⟩
  · exact absurd (c.1.symm.trans hr) (by decide)
theorem RS_1 (c : RS m r fa pl G on) (hr : r = 1) : RS m 1 fa' pl' G on := by
  rcases m with ⟨k, p⟩ | s
  · exact absurd (c.1.symm.trans hr) (by decide)
  · exact ⟨rfl, c.2⟩
theorem RS_i (c : RS m r fa pl G on) (hr : r = 1) : ∃ y, m = .inr (y, on) ∧ G y := by
  rcases m with ⟨k, p⟩ | ⟨y, o⟩
  · exact absurd (c.1.symm.trans hr) (by decide)
  · obtain ⟨-, c2, c3⟩ := c
    have e : on = o := c3
    exact ⟨y, by rw [e], c2⟩
theorem RS_f (c : RS m r fa pl G on) (hr : r = 0) : m = .inl (fa, pl) := by
  rcases m with ⟨k, p⟩ | s
  · obtain ⟨-, rfl, rfl⟩ := c; rfl
  · exact absurd (c.1.symm.trans hr) (by decide)
theorem bnS_0 {g : SS → SR} (c : RS m r fa pl G on) (hr : r = 0) : RS (bnS m g) 0 fa pl G' on' := by
  rw [RS_f c hr]
  exact ⟨rfl, rfl, rfl⟩
theorem bnS_1 {g : SS → SR} (c : RS m r fa pl G on) (hr : r = 1) (hg : ∀ y, G y → RS (g (y, on)) R fa' pl' G' on') : RS (bnS m g) R fa' pl' G' on' := by
  obtain ⟨y, e, hy⟩ := RS_i c hr
  rw [e]
  exact hg y hy
theorem bnV_0 {m : PV} {g : Int → SR} {t : Int} (c : RV m r fa pl t) (hr : r = 0) : RS (bnV m g) 0 fa pl G on := by
  rcases m with ⟨k, p⟩ | v
  · exact ⟨rfl, c.2⟩
  · exact absurd (c.1.symm.trans hr) (by decide)
theorem bnV_1 {m : PV} {g : Int → SR} {t : Int} (c : RV m r fa pl t) (hr : r = 1) (hg : ∀ v, RS (g v) R fa' pl' G on) : RS (bnV m g) R fa' pl' G on := by
  rcases m with ⟨k, p⟩ | v
  · exact absurd (c.1.symm.trans hr) (by decide)
  · exact hg v
theorem bnX_0 {m : PV} {g : Int → SR} (c : XV m r fa pl) (hr : r = -1) : RS (bnV m g) 0 fa pl G on := by
  rcases m with ⟨k, p⟩ | v
  · exact ⟨rfl, c.2⟩
  · have := c.1; have := c.2; omega
theorem bnX_1 {m : PV} {g : Int → SR} (c : XV m r fa pl) (hr : ¬ r = -1) (hg : ∀ v, RS (g v) R fa' pl' G on) : RS (bnV m g) R fa' pl' G on := by
  rcases m with ⟨k, p⟩ | v
  · exact absurd c.1 hr
  · exact hg v
variable {f : Int → Int} {n L : Int} {pn : Tk × Int × Int → PV} {g : SS → SR} {s : SS} {k w : Nat} {x : Tk × Int × Int}
theorem br_2 {r2 fa2 pl2 : Int} {G2 : Tk × Int × Int → Prop} (c : RS (g s) r fa pl G on) (hr : r = 1) (q : ∀ y, G y → enP f n L 41 y r2 fa2 pl2 G2) : RS (sBrS f n L g s) r2 fa2 pl2 G2 on := by
  refine bnS_1 c hr (fun y hy => ?_)
  rcases q y hy with ⟨a, b, c⟩ | ⟨a, b, c, d⟩
  · show RS (if y.1 = tkSign 41 then _ else _) r2 fa2 pl2 G2 on
    rw [if_pos b]
    exact ⟨a, c, rfl⟩
  · show RS (if y.1 = tkSign 41 then _ else _) r2 fa2 pl2 G2 on
    rw [if_neg b]
    exact ⟨a, c, d⟩
theorem of_0 {t : Int} (c : RV (pn x) r fa pl t) (hr : r = 0) : RS (sOfS f n L pn (x, on)) 0 fa pl G on' := bnV_0 c hr
theorem of_1 {t : Int} (c : RV (pn x) r fa pl t) (hr : r = 1) (hg : G (nx f n L x)) : RS (sOfS f n L pn (x, on)) 1 fa' pl' G on := bnV_1 c hr (fun _ => ⟨rfl, hg, rfl⟩)
theorem cm_0 (hn : ¬ (x.1 = tkSign 60 ∨ x.1 = tkSign 61 ∨ x.1 = tkSign 62)) (hf : fa = 1) (hp : pl = x.2.1) : RS (sCmpS f n L (x, on)) 0 fa pl G on' := by
  rw [sCmpS, if_neg hn]
  exact ⟨rfl, hf, hp⟩
theorem cm_1 (hs : x.1 = tkSign 60 ∨ x.1 = tkSign 61 ∨ x.1 = tkSign 62) (c : RS (bnV (sNu 0 999 (nx f n L x)) fun _ => .inr (nx f n L (nx f n L x), on)) r fa pl G on') : RS (sCmpS f n L (x, on)) r fa pl G on' := by
  rw [sCmpS, if_pos hs]
  exact c
/-- going on while a word joins -/
def seI (f : Int → Int) (n L : Int) (w : Nat) (g : SS → SR) (S : SS) (G : Tk × Int × Int → Prop) (on : Int) : Prop := ∃ (y : Tk × Int × Int) (j : Nat), G y ∧ 20 - on < (j : Int) ∧ seJ f n L w g S = seL f n L w g j (y, on)
theorem si_0 (c : RS (g s) r fa pl G on) (hr : r = 1) (h0 : 0 ≤ on) : seI f n L w g s G on := by
  obtain ⟨y, e, hy⟩ := RS_i c hr
  refine ⟨y, 40, hy, by omega, ?_⟩
  rw [seJ, e]
  rfl
theorem si_r {G1 G2 : Tk × Int × Int → Prop} (h : seI f n L w g s G on) (ho : on ≤ 20) (hw : ∀ y, G y → isW y.1 w) (hx : ∀ y, G y → G1 (nx f n L y)) (q : ∀ y, G1 y → RS (g (y, on)) r fa pl G2 on') : ∃ (m : SR) (j : Nat), 20 - on < (j : Int) + 1 ∧ RS m r fa pl G2 on' ∧ seJ f n L w g s = bnS m (seL f n L w g j) := by
  obtain ⟨y, j, hy, hj, e⟩ := h
  cases j with
  | zero => omega
  | succ j =>
    refine ⟨_, j, by omega, q _ (hx y hy), ?_⟩
    rw [e, seL, if_pos (hw y hy)]
theorem si_t {G1 G2 : Tk × Int × Int → Prop} (h : seI f n L w g s G on) (ho : on ≤ 20) (hw : ∀ y, G y → isW y.1 w) (hx : ∀ y, G y → G1 (nx f n L y)) (q : ∀ y, G1 y → RS (g (y, on)) r fa pl G2 on') (hr : r = 1) (hu : on + 1 ≤ on') : seI f n L w g s G2 on' := by
  obtain ⟨m, j, hj, c, e⟩ := si_r h ho hw hx q
  obtain ⟨y, e2, hy⟩ := RS_i c hr
  refine ⟨y, j, hy, by omega, ?_⟩
  rw [e, e2]
  rfl
theorem si_f {G1 G2 : Tk × Int × Int → Prop} (h : seI f n L w g s G on) (ho : on ≤ 20) (hw : ∀ y, G y → isW y.1 w) (hx : ∀ y, G y → G1 (nx f n L y)) (q : ∀ y, G1 y → RS (g (y, on)) r fa pl G2 on') (hr : r = 0) {on2 : Int} : RS (seJ f n L w g s) 0 fa pl G' on2 := by
  obtain ⟨m, j, -, c, e⟩ := si_r h ho hw hx q
  rw [e]
  exact bnS_0 c hr
theorem si_e (h : seI f n L w g s G on) (ho : on ≤ 20) (hn : ∀ y, G y → ¬ isW y.1 w) : RS (seJ f n L w g s) 1 fa pl G on := by
  obtain ⟨y, j, hy, hj, e⟩ := h
  cases j with
  | zero => omega
  | succ j =>
    rw [e, seL, if_neg (hn y hy)]
    exact ⟨rfl, hy, rfl⟩
-- which word it is
theorem kwF_e {y : Tk} : ∀ (k a w : Nat), a ≤ w → w ≤ a + k → (∀ j : Nat, a ≤ j → j < w → ¬ isW y j) → (w = a + k ∨ isW y w) → kwF y k a = w := by
  intro k
  induction k with
  | zero => intro a w h0 h1 _ _; rw [kwF]; omega
  | succ k ih =>
    intro a w h0 h1 h2 h3
    rw [kwF]
    by_cases q : isW y a
    · rw [if_pos q]
      by_cases c : a = w
      · exact c
      · exact absurd q (h2 a (Nat.le_refl a) (by omega))
    · rw [if_neg q]
      by_cases c : a = w
      · rcases h3 with h3 | h3
        · omega
        · rw [← c] at h3; exact absurd h3 q
      · exact ih (a + 1) w (by omega) (by omega) (fun j j0 j1 => h2 j (by omega) j1) (by rcases h3 with h3 | h3; exact Or.inl (by omega); exact Or.inr h3)
theorem seW_x {y : Tk} {w : Nat} (h0 : 17 ≤ w) (h1 : w ≤ 27) (h2 : ∀ j : Nat, 17 ≤ j → j < w → ¬ isW y j) (h3 : w = 27 ∨ isW y w) : seW y = (w : Int) := by
  unfold seW
  rw [kwF_e 10 17 w h0 (by omega) h2 (by rcases h3 with h3 | h3; exact Or.inl (by omega); exact Or.inr h3)]
theorem isW_u {y : Tk} {i j : Nat} (hi : i < 27) (hj : j < 27) (h : isW y i) (h' : isW y j) : i = j := by
  rcases y with u | u | ⟨x, w⟩ | v | c
  · exact absurd h Bool.false_ne_true
  · exact absurd h Bool.false_ne_true
  · exact wd_inj hi hj ((isW_w.mp h).symm.trans (isW_w.mp h'))
  · exact absurd h Bool.false_ne_true
  · exact absurd h Bool.false_ne_true
theorem seW_i {y : Tk} {w : Nat} (h0 : 17 ≤ w) (h1 : w ≤ 26) (h : isW y w) : seW y = (w : Int) := seW_x h0 (by omega) (fun j j0 j1 q => by have := isW_u (by omega) (by omega) q h; omega) (Or.inr h)
theorem seW_b {y : Tk} (h : y = tkBad) : seW y = 27 := by
  subst h
  exact seW_x (w := 27) (by decide) (by decide) (fun j _ _ q => absurd q Bool.false_ne_true) (Or.inl rfl)
-- one ONE
theorem se_n (h : ¬ seB s) : seOne f n L pn k s = .inl (1, s.1.2.1) := by
  cases k with
  | zero => rw [seOne, if_neg h]
  | succ k => rw [seOne, if_neg h]
theorem se_4 (h : seB s) (h4 : s.2 = 20 ∨ k = 0) : seOne f n L pn k s = .inl (4, s.1.2.1) := by
  cases k with
  | zero => rw [seOne, if_pos h]
  | succ k => rw [seOne, if_pos h, if_pos (by omega)]
theorem ro_n (hq : ¬ x.1 = tkSign 40) (hw : seW x.1 = 27) (hf : fa = 1) (hp : pl = x.2.1) : RS (seOne f n L pn k (x, on)) 0 fa pl G on' := by
  rw [se_n (s := (x, on)) (fun h => by rcases h with h | h; exact hq h; exact absurd (show seW x.1 < 27 from h) (by omega))]
  exact ⟨rfl, hf, hp⟩
theorem ro_4 (hq : x.1 = tkSign 40 ∨ seW x.1 < 27) (h4 : on = 20 ∨ k = 0) (hf : fa = 4) (hp : pl = x.2.1) : RS (seOne f n L pn k (x, on)) 0 fa pl G on' := by
  rw [se_4 (s := (x, on)) hq h4]
  exact ⟨rfl, hf, hp⟩
theorem ro_br (hq : x.1 = tkSign 40) (hn : ¬ on = 20) (c : RS (sBrS f n L (seJ f n L 15 (seJ f n L 16 (seOne f n L pn k))) (nx f n L x, on + 1)) r fa pl G on') : RS (seOne f n L pn (k + 1) (x, on)) r fa pl G on' := by
  rw [seOne, if_pos (show seB (x, on) from Or.inl hq), if_neg (show ¬ (x, on).2 = 20 from hn), if_pos (show (x, on).1.1 = tkSign 40 from hq)]
  exact c
theorem ro_w (hq : ¬ x.1 = tkSign 40) (hw : seW x.1 < 27) (hn : ¬ on = 20) (c : RS (if seW x.1 = 17 then seOne f n L pn k (nx f n L x, on + 1) else if seW x.1 < 22 then .inr (nx f n L x, on + 1) else if seW x.1 < 24 then sOfS f n L pn (nx f n L x, on + 1) else sCmpS f n L (nx f n L x, on + 1)) r fa pl G on') : RS (seOne f n L pn (k + 1) (x, on)) r fa pl G on' := by
  rw [seOne, if_pos (show seB (x, on) from Or.inr hw), if_neg (show ¬ (x, on).2 = 20 from hn), if_neg (show ¬ (x, on).1.1 = tkSign 40 from hq)]
  exact c
theorem ro_not (hq : ¬ x.1 = tkSign 40) (hw : seW x.1 = 17) (hn : ¬ on = 20) (c : RS (seOne f n L pn k (nx f n L x, on + 1)) r fa pl G on') : RS (seOne f n L pn (k + 1) (x, on)) r fa pl G on' := by
  refine ro_w hq (by omega) hn ?_
  rw [if_pos hw]
  exact c
theorem ro_wd (hq : ¬ x.1 = tkSign 40) (hw : 17 < seW x.1 ∧ seW x.1 < 22) (hn : ¬ on = 20) (hg : G (nx f n L x)) (ho : on' = on + 1) : RS (seOne f n L pn (k + 1) (x, on)) 1 fa pl G on' := by
  refine ro_w hq (by omega) hn ?_
  rw [if_neg (by omega), if_pos (by omega)]
  exact ⟨rfl, hg, ho⟩
theorem ro_of (hq : ¬ x.1 = tkSign 40) (hw : 22 ≤ seW x.1 ∧ seW x.1 < 24) (hn : ¬ on = 20) (c : RS (sOfS f n L pn (nx f n L x, on + 1)) r fa pl G on') : RS (seOne f n L pn (k + 1) (x, on)) r fa pl G on' := by
  refine ro_w hq (by omega) hn ?_
  rw [if_neg (by omega), if_neg (by omega), if_pos (by omega)]
  exact c
theorem ro_cm (hq : ¬ x.1 = tkSign 40) (hw : 24 ≤ seW x.1 ∧ seW x.1 < 27) (hn : ¬ on = 20) (c : RS (sCmpS f n L (nx f n L x, on + 1)) r fa pl G on') : RS (seOne f n L pn (k + 1) (x, on)) r fa pl G on' := by
  refine ro_w hq (by omega) hn ?_
  rw [if_neg (by omega), if_neg (by omega), if_neg (by omega)]
  exact c
-- the whole
theorem se_f0 {m : SR} (c : RS m r fa pl G on) (hr : r = 0) : seF m = .inl (fa, pl) := by rw [RS_f c hr]; rfl
theorem se_f1 {m : SR} (c : RS m r fa pl G on) (hr : r = 1) (hs : ∀ y, G y → y.1 = tkStop) : seF m = .inr on := by
  obtain ⟨y, e, hy⟩ := RS_i c hr
  rw [e]
  exact if_pos (hs y hy)
theorem se_f2 {m : SR} {p : Int} (c : RS m r fa pl G on) (hr : r = 1) (hs : ∀ y, G y → ¬ y.1 = tkStop ∧ p = y.2.1) : seF m = .inl (1, p) := by
  obtain ⟨y, e, hy⟩ := RS_i c hr
  obtain ⟨h1, h2⟩ := hs y hy
  rw [e, h2]
  exact if_neg h1
-- what names tell
theorem se_c {pn' : Tk × Int × Int → PV} (hp : ∀ t : Int, pn (tkAt f n L t) = pn' (tkAt f n L t)) : ∀ k : Nat, seOne f n L pn k = seOne f n L pn' k := by
  intro k
  induction k with
  | zero => funext s; rw [seOne, seOne]
  | succ k ih =>
    funext s
    have e : sOfS f n L pn (nx f n L s.1, s.2 + 1) = sOfS f n L pn' (nx f n L s.1, s.2 + 1) := by
      unfold sOfS
      show bnV (pn (tkAt f n L s.1.2.2)) _ = bnV (pn' (tkAt f n L s.1.2.2)) _
      rw [hp]
    rw [seOne, seOne, ih, e]
theorem se_cS {pn' : Tk × Int × Int → PV} (hp : ∀ t : Int, pn (tkAt f n 200 t) = pn' (tkAt f n 200 t)) : seS f n pn = seS f n pn' := by rw [seS, seS, se_c hp]
theorem tk_nr (t : Int) (hn : isNm (tkAt f n L t).1) : nmR (xdO (tkAt f n L t).1) (wdO (tkAt f n L t).1) := by
  have hl : ∀ a e : Int, a ≤ e → isNm (runTk f a e) → nmR (xdO (runTk f a e)) (wdO (runTk f a e)) := fun a e h0 h => by
    by_cases q : aL f a e ∧ e - a ≤ 7
    · rw [run_w q.1 h0 q.2]
      exact run_nm q.1 h0 q.2
    · by_cases q2 : aD f a e ∧ e - a ≤ 3
      · rw [runTk, if_neg (fun w => q ⟨(aL_b h0).mp w.1, w.2⟩), if_pos ⟨(aD_b h0).mpr q2.1, q2.2⟩] at h
        exact absurd h Bool.false_ne_true
      · rw [run_b h0 q q2] at h
        exact absurd h Bool.false_ne_true
  by_cases c1 : L < n ∧ L ≤ sk f n t
  · rw [tk_lim rfl c1.1 c1.2] at hn; exact absurd hn Bool.false_ne_true
  · by_cases c2 : n ≤ sk f n t
    · rw [tk_stop rfl (by omega) c2] at hn; exact absurd hn Bool.false_ne_true
    · by_cases c3 : (97 ≤ f (sk f n t) ∧ f (sk f n t) ≤ 122) ∨ (48 ≤ f (sk f n t) ∧ f (sk f n t) ≤ 57)
      · rw [tk_run rfl (by omega) (by omega) c3 rfl] at hn ⊢
        exact hl _ _ (rn_ge f n _) hn
      · by_cases c4 : mkS (f (sk f n t))
        · rw [tk_sg rfl (by omega) (by omega) c3 c4] at hn; exact absurd hn Bool.false_ne_true
        · rw [tk_no rfl (by omega) (by omega) c3 c4] at hn; exact absurd hn Bool.false_ne_true
end RSs
section TPn
variable {f : Int → Int} {n L : Int} {nw : Int → Int} {nm : Nat → Int64} {wa : Nat → Int64} {wb wc wd we : Int → Int} {wf : Nat → Int64} {wg : Int → Int} {wh wi wj wk : Int}
theorem tn_pn (h : TN nw nm 0 0 wa wb wc wd we wf wg wh wi wj wk) (t : Int) : sNa wa wh (tkAt f n L t) = sOne (fun _ => nw 0) nm (tkAt f n L t) := by
  have h0 : nw 0 = wh := h.1.1
  by_cases q : isNm (tkAt f n L t).1
  · have e : FI wa 0 wh (xdO (tkAt f n L t).1) = FI nm 0 (nw 0) (wdO (tkAt f n L t).1) := by
      rw [h0]
      refine FI_al (fun p p0 p1 => ?_)
      have e9 := (h.2.1 p p0 p1).2.2.2
      rw [Int.zero_add] at e9 ⊢
      exact nmR_iff e9 (tk_nr t q)
    rw [sNa, sOne, e]
  · rw [sNa, sOne, if_pos q, if_pos q]
theorem se_law {f' : Int → Int} {n' r r' : Int} (h : TN nw nm 0 0 wa wb wc wd we wf wg wh wi wj wk) (hx : sqR (seS f n (sNa wa wh)) r) (hm : sqR (seS f' n' (sOne (fun _ => nw 0) nm)) r') (ef : f' = f) (en : n' = n) : r = r' := by
  rw [ef, en] at hm
  rw [se_cS (pn' := sOne (fun _ => nw 0) nm) (tn_pn h)] at hx
  exact sq_u hx hm
end TPn
-- ===== the reference's tokens =====
section RTs
variable {x : Tk × Int × Int} {kind fr to sign q fa pl c : Int} {word : Int64} {number : Int32}
theorem sg_1 (g : gT x kind fr to word number sign) (h : sgQ q kind sign c) (hq : ¬ q = 0) : x.1 = tkSign c := (gT_sg g c).mp (by unfold sgQ at h; omega)
theorem sg_0 (g : gT x kind fr to word number sign) (h : sgQ q kind sign c) (hq : q = 0) : ¬ x.1 = tkSign c := fun e => by
  have := (gT_sg g c).mpr e
  unfold sgQ at h
  omega
theorem kw_l {w : Int} {a : Nat} (hl : ∀ j : Nat, a ≤ j → (j : Int) < w → ¬ (kind = 2 ∧ word = wrd j)) (hq : wdQ q kind word (wrdZ w)) (h1 : q = 0) (h0 : 0 ≤ w) : ∀ j : Nat, a ≤ j → (j : Int) < w + 1 → ¬ (kind = 2 ∧ word = wrd j) := by
  intro j j0 jw
  by_cases e : (j : Int) < w
  · exact hl j j0 e
  · have ew : w = (j : Int) := by omega
    subst ew
    rcases hq with ⟨a, -⟩ | ⟨-, b⟩
    · omega
    · exact b
theorem seW_n {w : Int} (g : gT x kind fr to word number sign) (hl : ∀ j : Nat, 17 ≤ j → (j : Int) < w → ¬ (kind = 2 ∧ word = wrd j)) (hw : 26 < w) : seW x.1 = 27 :=
  seW_x (w := 27) (by decide) (by decide) (fun j j0 j1 e => hl j j0 (by omega) ((gT_isW g j).mpr e)) (Or.inl rfl)
theorem seW_k {w : Int} (g : gT x kind fr to word number sign) (hl : ∀ j : Nat, 17 ≤ j → (j : Int) < w → ¬ (kind = 2 ∧ word = wrd j)) (hq : wdQ q kind word (wrdZ w)) (h1 : ¬ q = 0) (h17 : 17 ≤ w) (h26 : w ≤ 26) : seW x.1 = w := by
  obtain ⟨j, rfl⟩ : ∃ j : Nat, w = (j : Int) := ⟨w.toNat, by omega⟩
  refine seW_x (by omega) (by omega) (fun i i0 i1 e => hl i i0 (by omega) ((gT_isW g i).mpr e)) (Or.inr ?_)
  exact wd_1 g hq (by unfold wdQ at hq; omega)
theorem bad_4 (g : gT x kind fr to word number sign) (hq : x.1 = tkSign 40 ∨ seW x.1 < 27) (hb : baQ kind 4 fa) : fa = 4 := by
  have hk : ¬ kind = 1 := fun e => by
    have e2 := (gT_bad g).mp e
    rcases hq with h | h
    · rw [e2] at h; cases h
    · rw [seW_b e2] at h; omega
  unfold baQ at hb
  omega
end RTs
-- ===== the class's words =====
def stQ (T : Nat → ClassId) (o : Option Nat) (r : Int) (a b : Nat) : Prop := (r = 1 ∧ ∃ k : Nat, a ≤ k ∧ k ≤ b ∧ o = some (T (10 + k))) ∨ (r = 0 ∧ ∀ k : Nat, a ≤ k → k ≤ b → ¬ o = some (T (10 + k)))
section STs
variable {T : Nat → ClassId} {o : Option Nat} {r : Int} {a b k : Nat}
theorem st_1 (h0 : a ≤ k) (h1 : k ≤ b) (e : o = some (T (10 + k))) : stQ T o 1 a b := Or.inl ⟨rfl, k, h0, h1, e⟩
theorem st_m1 {a' : Nat} (h : stQ T o r a' b) (hr : ¬ r = 0) (ha : a ≤ a') : stQ T o 1 a b := by
  rcases h with ⟨-, k, h0, h1, e⟩ | ⟨h, -⟩
  · exact Or.inl ⟨rfl, k, by omega, h1, e⟩
  · exact absurd h hr
theorem st_m0 {a' : Nat} (h : stQ T o r a' b) (hr : r = 0) (hn : ∀ k : Nat, a ≤ k → k < a' → ¬ o = some (T (10 + k))) : stQ T o 0 a b := by
  rcases h with ⟨h, -⟩ | ⟨-, h⟩
  · omega
  · refine Or.inr ⟨rfl, fun k h0 h1 => ?_⟩
    by_cases c : k < a'
    · exact hn k h0 c
    · exact h k (by omega) h1
theorem st_no (h : stQ T none r a b) (hr : ¬ r = 0) : False := by
  rcases h with ⟨-, k, -, -, e⟩ | ⟨h, -⟩
  · cases e
  · exact hr h
variable {x : Tk × Int × Int} {tok pl nxt mq q c : Int} {nm : Int64} {nu : Int32} {wo : Option Nat}
theorem am_1 (g : gC T x tok pl nxt nm nu mq wo) (h : amQ q tok mq c) (hq : ¬ q = 0) : x.1 = tkSign c := (gC_sg g c).mp (by unfold amQ at h; omega)
theorem am_0 (g : gC T x tok pl nxt nm nu mq wo) (h : amQ q tok mq c) (hq : q = 0) : ¬ x.1 = tkSign c := fun e => by
  have := (gC_sg g c).mpr e
  unfold amQ at h
  omega
theorem cse_k (hw : ∀ i j : Nat, i < 27 → j < 27 → T (10 + i) = T (10 + j) → i = j) (g : gC T x tok pl nxt nm nu mq wo) (h0 : 17 ≤ k) (h1 : k ≤ 26) (e : wo = some (T (10 + k))) : seW x.1 = (k : Int) := by
  rw [e] at g
  exact seW_i h0 h1 (cw_1 hw g (by omega) rfl)
theorem cse_n (g : gC T x tok pl nxt nm nu mq wo) (h : stQ T wo r 17 26) (hr : r = 0) : seW x.1 = 27 := by
  rcases h with ⟨h, -⟩ | ⟨-, h⟩
  · omega
  · refine seW_x (w := 27) (by decide) (by decide) (fun j j0 j1 e => ?_) (Or.inl rfl)
    cases wo with
    | none => exact cw_n g (by omega) e
    | some p => exact cw_0 g (by omega) (h j j0 (by omega)) e
theorem cse_m (hw : ∀ i j : Nat, i < 27 → j < 27 → T (10 + i) = T (10 + j) → i = j) (g : gC T x tok pl nxt nm nu mq wo) (h : stQ T wo r a b) (hr : ¬ r = 0) (ha : 17 ≤ a) (hb : b ≤ 26) : (a : Int) ≤ seW x.1 ∧ seW x.1 ≤ (b : Int) := by
  rcases h with ⟨-, k, h0, h1, e⟩ | ⟨h, -⟩
  · rw [cse_k hw g (by omega) (by omega) e]; omega
  · exact absurd h hr
theorem cse_w (hw : ∀ i j : Nat, i < 27 → j < 27 → T (10 + i) = T (10 + j) → i = j) (g : gC T x tok pl nxt nm nu mq wo) (h : stQ T wo r 17 26) (hr : ¬ r = 0) (n17 : ¬ wo = some (T (10 + 17))) (n22 : ¬ wo = some (T (10 + 22))) (n23 : ¬ wo = some (T (10 + 23))) {r2 : Int} (hm : stQ T wo r2 24 26) (hr2 : r2 = 0) : 17 < seW x.1 ∧ seW x.1 < 22 := by
  rcases h with ⟨-, k, h0, h1, e⟩ | ⟨h, -⟩
  · rcases hm with ⟨hm, -⟩ | ⟨-, hm⟩
    · omega
    · rw [cse_k hw g h0 h1 e]
      have c1 : ¬ k = 17 := fun w => n17 (by rw [← w]; exact e)
      have c2 : ¬ k = 22 := fun w => n22 (by rw [← w]; exact e)
      have c3 : ¬ k = 23 := fun w => n23 (by rw [← w]; exact e)
      have c4 : ¬ 24 ≤ k := fun w => hm k w h1 e
      omega
  · exact absurd h hr
end STs
