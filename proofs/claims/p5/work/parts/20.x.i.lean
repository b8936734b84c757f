-- ===== which fault it was =====
def kpB (r a b : Int) : Prop := r = 1 → b = a
def kpF (r a b : Int) : Prop := ¬ r = -1 → b = a
def CPf : CR → Int → Prop
  | .inl (k, _), fa => fa = k
  | .inr _, fa => fa = 0
def sqF : PV → Int → Prop
  | .inl (k, _), fa => fa = k
  | .inr _, fa => fa = 0
def bqF : SR → Int → Prop
  | .inl (k, _), fa => fa = k
  | .inr _, fa => fa = 0
theorem CPf_u {c : CR} {a b : Int} (h : CPf c a) (h' : CPf c b) : a = b := by
  rcases c with ⟨k, p⟩ | s
  · exact Eq.trans h (Eq.symm h')
  · exact Eq.trans h (Eq.symm h')
theorem sqF_u {c : PV} {a b : Int} (h : sqF c a) (h' : sqF c b) : a = b := by
  rcases c with ⟨k, p⟩ | s
  · exact Eq.trans h (Eq.symm h')
  · exact Eq.trans h (Eq.symm h')
theorem bqF_u {c : SR} {a b : Int} (h : bqF c a) (h' : bqF c b) : a = b := by
  rcases c with ⟨k, p⟩ | s
  · exact Eq.trans h (Eq.symm h')
  · exact Eq.trans h (Eq.symm h')
theorem cx_fa {c : CR} {r fk fp ln : Int} {V : (Int → Int) → (Nat → Int64) → (Int → Int) → Prop} (h : CXr c r fk fp ln V) (hz : kpB r 0 fk) (h1 : r = 0 ∨ r = 1) : CPf c fk := by
  rcases c with ⟨k, p⟩ | ⟨s, k⟩
  · exact h.2.1
  · exact hz h.1
theorem sx_fa {m : PV} {r fk fp t : Int} (h : RV m r fk fp t) (hz : kpB r 0 fk) : sqF m fk := by
  rcases m with ⟨k, p⟩ | v
  · exact h.2.1
  · exact hz h.1
theorem bx_fa {m : SR} {r fk fp o : Int} {G : Tk × Int × Int → Prop} (h : RS m r fk fp G o) (hz : kpB r 0 fk) : bqF m fk := by
  rcases m with ⟨k, p⟩ | v
  · exact h.2.1
  · exact hz h.1
-- ===== what a text of a book tells =====
def sMn (h : Nat → Int64) (M : Int) (x : Tk × Int × Int) : PV := if ¬ isNm x.1 then .inl (1, x.2.1) else if FI h 9 M (wdO x.1) = -1 then .inl (3, x.2.1) else .inr (FI h 9 M (wdO x.1))
section BK
variable (f : Int → Int) (n L : Int) (pn mn : Tk × Int × Int → PV)
def bkE (s : SS) : SR := if s.1.1 = tkSign 59 then .inr (nx f n L s.1, s.2 + 1) else .inl (1, s.1.2.1)
def bkP (s : SS) : SR := bnV (pn s.1) fun _ => .inr (nx f n L s.1, s.2)
def bkY (s : SS) : SR := bnV (sNu 1 60 s.1) fun _ => .inr (nx f n L s.1, s.2)
def bkD (s : SS) : SR := if isW s.1.1 11 then bnS (bkP f n L pn (nx f n L s.1, s.2)) (bkP f n L pn) else if isW s.1.1 12 then bkP f n L pn (nx f n L s.1, s.2) else .inl (1, s.1.2.1)
def bkL (s : SS) : SR := if isW s.1.1 13 then (if s.2 = 40 then .inl (4, s.1.2.1) else bkP f n L pn (nx f n L s.1, s.2)) else if isW s.1.1 14 then (if s.2 = 40 then .inl (4, s.1.2.1) else bkY f n L (nx f n L s.1, s.2)) else bnV (mn s.1) fun _ => if s.2 = 40 then .inl (4, s.1.2.1) else bkD f n L pn (nx f n L s.1, s.2)
def bkM (s : SS) : SR := bnS (bkL f n L pn mn s) (bkE f n L)
end BK
def bkN (f : Int → Int) (n L : Int) (pn mn : Tk × Int × Int → PV) : Nat → SS → SR
  | 0, s => .inr s
  | k + 1, s => if s.1.1 = tkStop then .inr s else bnS (bkM f n L pn mn s) (bkN f n L pn mn k)
def bkS (f : Int → Int) (n : Int) (pn mn : Tk × Int × Int → PV) : SR := bkN f n 400 pn mn 60 (tkAt f n 400 0, 0)
section BKs
variable {f : Int → Int} {n L : Int} {pn mn : Tk × Int × Int → PV} {r fa pl fa' pl' on on' R : Int} {G G' : Tk × Int × Int → Prop} {x : Tk × Int × Int} {s : SS}
theorem bp_0 {t : Int} (c : RV (pn x) r fa pl t) (hr : r = 0) : RS (bkP f n L pn (x, on)) 0 fa pl G on' := bnV_0 c hr
theorem bp_1 {t : Int} (c : RV (pn x) r fa pl t) (hr : r = 1) (hg : G (nx f n L x)) : RS (bkP f n L pn (x, on)) 1 fa' pl' G on := bnV_1 c hr (fun _ => ⟨rfl, hg, rfl⟩)
theorem by_0 {t : Int} (c : RV (sNu 1 60 x) r fa pl t) (hr : r = 0) : RS (bkY f n L (x, on)) 0 fa pl G on' := bnV_0 c hr
theorem by_1 {t : Int} (c : RV (sNu 1 60 x) r fa pl t) (hr : r = 1) (hg : G (nx f n L x)) : RS (bkY f n L (x, on)) 1 fa' pl' G on := bnV_1 c hr (fun _ => ⟨rfl, hg, rfl⟩)
theorem bd_b (hw : isW x.1 11) (c : RS (bnS (bkP f n L pn (nx f n L x, on)) (bkP f n L pn)) r fa pl G on') : RS (bkD f n L pn (x, on)) r fa pl G on' := by
  rw [bkD, if_pos hw]
  exact c
theorem bd_l (h11 : ¬ isW x.1 11) (hw : isW x.1 12) (c : RS (bkP f n L pn (nx f n L x, on)) r fa pl G on') : RS (bkD f n L pn (x, on)) r fa pl G on' := by
  rw [bkD, if_neg h11, if_pos hw]
  exact c
theorem bd_n (h11 : ¬ isW x.1 11) (h12 : ¬ isW x.1 12) (hf : fa = 1) (hp : pl = x.2.1) : RS (bkD f n L pn (x, on)) 0 fa pl G on' := by
  rw [bkD, if_neg h11, if_neg h12]
  exact ⟨rfl, hf, hp⟩
theorem bl_m (hw : isW x.1 13) (hn : ¬ on = 40) (c : RS (bkP f n L pn (nx f n L x, on)) r fa pl G on') : RS (bkL f n L pn mn (x, on)) r fa pl G on' := by
  rw [bkL, if_pos hw, if_neg (show ¬ (x, on).2 = 40 from hn)]
  exact c
theorem bl_d (h13 : ¬ isW x.1 13) (hw : isW x.1 14) (hn : ¬ on = 40) (c : RS (bkY f n L (nx f n L x, on)) r fa pl G on') : RS (bkL f n L pn mn (x, on)) r fa pl G on' := by
  rw [bkL, if_neg h13, if_pos hw, if_neg (show ¬ (x, on).2 = 40 from hn)]
  exact c
theorem bl_o (h13 : ¬ isW x.1 13) (h14 : ¬ isW x.1 14) (c : RS (bnV (mn x) fun _ => if on = 40 then .inl (4, x.2.1) else bkD f n L pn (nx f n L x, on)) r fa pl G on') : RS (bkL f n L pn mn (x, on)) r fa pl G on' := by
  rw [bkL, if_neg h13, if_neg h14]
  exact c
theorem bl_4 (hw : isW x.1 13 ∨ isW x.1 14) (hn : on = 40) (hf : fa = 4) (hp : pl = x.2.1) : RS (bkL f n L pn mn (x, on)) 0 fa pl G on' := by
  by_cases h13 : isW x.1 13
  · rw [bkL, if_pos h13, if_pos (show (x, on).2 = 40 from hn)]
    exact ⟨rfl, hf, hp⟩
  · rw [bkL, if_neg h13, if_pos (hw.resolve_left h13), if_pos (show (x, on).2 = 40 from hn)]
    exact ⟨rfl, hf, hp⟩
theorem if_4 {m : SR} (hn : on = 40) (hf : fa = 4) (hp : pl = x.2.1) : RS (if on = 40 then .inl (4, x.2.1) else m) 0 fa pl G on' := by
  rw [if_pos hn]
  exact ⟨rfl, hf, hp⟩
theorem if_o {m : SR} (hn : ¬ on = 40) (c : RS m r fa pl G on') : RS (if on = 40 then .inl (4, x.2.1) else m) r fa pl G on' := by
  rw [if_neg hn]
  exact c
theorem be_x {G2 : Tk × Int × Int → Prop} {r2 fa2 pl2 : Int} (q : ∀ y, G y → enP f n L 59 y r2 fa2 pl2 G2) : ∀ y, G y → RS (bkE f n L (y, on)) r2 fa2 pl2 G2 (on + 1) := by
  intro y hy
  rcases q y hy with ⟨a, b, c⟩ | ⟨a, b, c, d⟩
  · rw [bkE, if_pos (show (y, on).1.1 = tkSign 59 from b)]
    exact ⟨a, c, rfl⟩
  · rw [bkE, if_neg (show ¬ (y, on).1.1 = tkSign 59 from b)]
    exact ⟨a, c, d⟩
/-- line by line -/
def bkJ (f : Int → Int) (n L : Int) (pn mn : Tk × Int × Int → PV) (S : SS) (G : Tk × Int × Int → Prop) (on : Int) : Prop := ∃ (y : Tk × Int × Int) (j : Nat), G y ∧ 40 - on < (j : Int) ∧ bkN f n L pn mn 60 S = bkN f n L pn mn j (y, on)
theorem bi_0 (hg : G x) : bkJ f n L pn mn (x, 0) G 0 := ⟨x, 60, hg, by decide, rfl⟩
theorem bi_t {G2 : Tk × Int × Int → Prop} (h : bkJ f n L pn mn s G on) (ho : on ≤ 40) (hs : ∀ y, G y → ¬ y.1 = tkStop) (q : ∀ y, G y → RS (bkM f n L pn mn (y, on)) r fa pl G2 (on + 1)) (hr : r = 1) : bkJ f n L pn mn s G2 (on + 1) := by
  obtain ⟨y, j, hy, hj, e⟩ := h
  cases j with
  | zero => omega
  | succ j =>
    obtain ⟨z, e2, hz⟩ := RS_i (q y hy) hr
    refine ⟨z, j, hz, by omega, ?_⟩
    rw [e, bkN, if_neg (hs y hy), e2]
    rfl
theorem bi_f {G2 : Tk × Int × Int → Prop} (h : bkJ f n L pn mn s G on) (ho : on ≤ 40) (hs : ∀ y, G y → ¬ y.1 = tkStop) (q : ∀ y, G y → RS (bkM f n L pn mn (y, on)) r fa pl G2 on') (hr : r = 0) : RS (bkN f n L pn mn 60 s) 0 fa pl G' R := by
  obtain ⟨y, j, hy, hj, e⟩ := h
  cases j with
  | zero => omega
  | succ j =>
    rw [e, bkN, if_neg (hs y hy)]
    exact bnS_0 (q y hy) hr
theorem bi_e (h : bkJ f n L pn mn s G on) (ho : on ≤ 40) (hs : ∀ y, G y → y.1 = tkStop) : RS (bkN f n L pn mn 60 s) 1 fa pl G on := by
  obtain ⟨y, j, hy, hj, e⟩ := h
  cases j with
  | zero => omega
  | succ j =>
    rw [e, bkN, if_pos (hs y hy)]
    exact ⟨rfl, hy, rfl⟩
theorem bk_c {pn' mn' : Tk × Int × Int → PV} (hp : ∀ t : Int, pn (tkAt f n L t) = pn' (tkAt f n L t)) (hm : ∀ t : Int, mn (tkAt f n L t) = mn' (tkAt f n L t)) : ∀ (k : Nat) (t o : Int), bkN f n L pn mn k (tkAt f n L t, o) = bkN f n L pn' mn' k (tkAt f n L t, o) := by
  have eP : ∀ (x : Tk × Int × Int) (o : Int), bkP f n L pn (nx f n L x, o) = bkP f n L pn' (nx f n L x, o) := fun x o => by
    unfold bkP
    show bnV (pn (tkAt f n L x.2.2)) _ = bnV (pn' (tkAt f n L x.2.2)) _
    rw [hp]
  have eD : ∀ (x : Tk × Int × Int) (o : Int), bkD f n L pn (nx f n L x, o) = bkD f n L pn' (nx f n L x, o) := fun x o => by
    unfold bkD
    rw [eP]
    have e2 : bnS (bkP f n L pn' (nx f n L (nx f n L x), o)) (bkP f n L pn) = bnS (bkP f n L pn' (nx f n L (nx f n L x), o)) (bkP f n L pn') := by
      unfold bkP
      cases pn' (nx f n L (nx f n L x)) with
      | inl q => rfl
      | inr v =>
        show bnV (pn (tkAt f n L (nx f n L (nx f n L x)).2.2)) _ = bnV (pn' (tkAt f n L (nx f n L (nx f n L x)).2.2)) _
        rw [hp]
    rw [e2]
  have eL : ∀ (t o : Int), bkM f n L pn mn (tkAt f n L t, o) = bkM f n L pn' mn' (tkAt f n L t, o) := fun t o => by
    unfold bkM bkL
    show bnS (if isW (tkAt f n L t).1 13 then (if o = 40 then _ else bkP f n L pn (nx f n L (tkAt f n L t), o)) else if isW (tkAt f n L t).1 14 then _ else bnV (mn (tkAt f n L t)) fun _ => if o = 40 then _ else bkD f n L pn (nx f n L (tkAt f n L t), o)) _ = bnS (if isW (tkAt f n L t).1 13 then (if o = 40 then _ else bkP f n L pn' (nx f n L (tkAt f n L t), o)) else if isW (tkAt f n L t).1 14 then _ else bnV (mn' (tkAt f n L t)) fun _ => if o = 40 then _ else bkD f n L pn' (nx f n L (tkAt f n L t), o)) _
    rw [eP, eD, hm]
  have eR : ∀ (t o : Int) (s1 : SS), bkM f n L pn' mn' (tkAt f n L t, o) = .inr s1 → ∃ t' : Int, s1.1 = tkAt f n L t' := fun t o s1 h => by
    unfold bkM at h
    rcases hb : bkL f n L pn' mn' (tkAt f n L t, o) with q | s2
    · rw [hb] at h; cases h
    · rw [hb] at h
      have h2 : bkE f n L s2 = .inr s1 := h
      unfold bkE at h2
      by_cases c : s2.1.1 = tkSign 59
      · rw [if_pos c] at h2
        obtain rfl := Sum.inr.inj h2
        exact ⟨s2.1.2.2, rfl⟩
      · rw [if_neg c] at h2; cases h2
  intro k
  induction k with
  | zero => intro t o; rfl
  | succ k ih =>
    intro t o
    rw [bkN, bkN, eL]
    by_cases c : (tkAt f n L t).1 = tkStop
    · rw [if_pos c, if_pos c]
    · rw [if_neg c, if_neg c]
      rcases hb : bkM f n L pn' mn' (tkAt f n L t, o) with q | s1
      · rfl
      · obtain ⟨t', e⟩ := eR t o s1 hb
        obtain ⟨y, o'⟩ := s1
        have e' : y = tkAt f n L t' := e
        subst e'
        exact ih t' o'
end BKs
section BLs
variable {f : Int → Int} {n L : Int} {nw : Int → Int} {nm : Nat → Int64} {wa : Nat → Int64} {wb wc wd we : Int → Int} {wf : Nat → Int64} {wg : Int → Int} {wh wi wj wk : Int}
theorem tn_mn (h : TN nw nm 0 0 wa wb wc wd we wf wg wh wi wj wk) (t : Int) : sNa wf wi (tkAt f n L t) = sMn nm (nw 1) (tkAt f n L t) := by
  have h0 : nw 1 = wi := h.1.2.1
  by_cases q : isNm (tkAt f n L t).1
  · have e : FI wf 0 wi (xdO (tkAt f n L t).1) = FI nm 9 (nw 1) (wdO (tkAt f n L t).1) := by
      rw [h0]
      refine FI_al (fun p p0 p1 => ?_)
      have e9 := (h.2.2.1 p p0 p1).2
      rw [Int.zero_add] at e9 ⊢
      exact nmR_iff e9 (tk_nr t q)
    rw [sNa, sMn, e]
  · rw [sNa, sMn, if_pos q, if_pos q]
theorem bk_law {f' : Int → Int} {n' a b : Int} (h : TN nw nm 0 0 wa wb wc wd we wf wg wh wi wj wk) (hx : bqF (bkS f n (sNa wa wh) (sNa wf wi)) a) (hm : bqF (bkS f' n' (sOne (fun _ => nw 0) nm) (sMn nm (nw 1))) b) (ef : f' = f) (en : n' = n) : b = a := by
  rw [ef, en] at hm
  rw [bkS, bk_c (pn' := sOne (fun _ => nw 0) nm) (mn' := sMn nm (nw 1)) (tn_pn h) (tn_mn h)] at hx
  exact bqF_u hm hx
theorem bk_fa {f' : Int → Int} {n' a b a' b' k : Int} (h : TN nw nm 0 0 wa wb wc wd we wf wg wh wi wj wk) (hx : (0 ≤ k → k ≤ 1 → bqF (bkS f n (sNa wa wh) (sNa wf wi)) a') ∧ (k < 0 ∨ 1 < k → a' = a)) (hm : (0 ≤ k → k ≤ 1 → bqF (bkS f' n' (sOne (fun _ => nw 0) nm) (sMn nm (nw 1))) b') ∧ (k < 0 ∨ 1 < k → b' = b)) (ef : f' = f) (en : n' = n) (ea : b = a) : b' = a' := by
  by_cases c : 0 ≤ k ∧ k ≤ 1
  · exact bk_law h (hx.1 c.1 c.2) (hm.1 c.1 c.2) ef en
  · rw [hx.2 (by omega), hm.2 (by omega), ea]
theorem se_fa {f' : Int → Int} {n' a b : Int} (h : TN nw nm 0 0 wa wb wc wd we wf wg wh wi wj wk) (hx : sqF (seS f n (sNa wa wh)) a) (hm : sqF (seS f' n' (sOne (fun _ => nw 0) nm)) b) (ef : f' = f) (en : n' = n) : b = a := by
  rw [ef, en] at hm
  rw [se_cS (pn' := sOne (fun _ => nw 0) nm) (tn_pn h)] at hx
  exact sqF_u hm hx
theorem ct_fa {f' : Int → Int} {n' a b : Int} {hh : Nat → Int64} (hx : ∀ (rd : Int → Int) (h : Nat → Int64) (o : Int → Int), rd0P rd → o0P o → CPf (ctN f n 900 1000 ⟨tkAt f n 900 0, rd, h, o⟩ 0) a) (hm : ∃ rd o : Int → Int, rd0P rd ∧ o0P o ∧ CPf (ctN f' n' 900 1000 ⟨tkAt f' n' 900 0, rd, hh, o⟩ 0) b) (ef : f' = f) (en : n' = n) : b = a := by
  rw [ef, en] at hm
  obtain ⟨rd, o, h1, h2, h3⟩ := hm
  exact CPf_u h3 (hx rd hh o h1 h2)
end BLs
section MNs
variable {x : Tk × Int × Int} {kind fr to sign q fa pl t : Int} {word : Int64} {number : Int32} {h : Nat → Int64} {M : Int}
theorem mn_A (hn : nmQ q kind word) (hq : q = 0) (hb : baQ kind 1 fa) (hp : pl = fr) : ∀ x, gT x kind fr to word number sign → RV (sMn h M x) 0 fa pl t := by
  intro x g
  rw [sMn, if_pos (nm_0 g hn hq)]
  exact ⟨rfl, by unfold baQ at hb; omega, hp.trans g.1⟩
theorem mn_B (hn : nmQ q kind word) (hq : q = 1) (ht : t = FI h 9 M word) (h1 : t = -1) (hb : baQ kind 3 fa) (hp : pl = fr) : ∀ x, gT x kind fr to word number sign → RV (sMn h M x) 0 fa pl t := by
  intro x g
  obtain ⟨a, b, c⟩ := nm_1 g hn hq
  rw [sMn, if_neg (fun e => e a), b, if_pos (ht.symm.trans h1)]
  exact ⟨rfl, by unfold baQ at hb; omega, hp.trans g.1⟩
theorem mn_C (hn : nmQ q kind word) (hq : q = 1) (ht : t = FI h 9 M word) (h1 : ¬ t = -1) : ∀ x, gT x kind fr to word number sign → RV (sMn h M x) 1 fa pl t := by
  intro x g
  obtain ⟨a, b, c⟩ := nm_1 g hn hq
  rw [sMn, if_neg (fun e => e a), b, if_neg (fun e => h1 (ht.trans e))]
  exact ⟨rfl, ht⟩
theorem bad_w (g : gT x kind fr to word number sign) (hq : ¬ x.1 = tkBad) (hb : baQ kind 4 fa) : fa = 4 := by
  have hk : ¬ kind = 1 := fun e => hq ((gT_bad g).mp e)
  unfold baQ at hb
  omega
theorem bad_n (g : gT x kind fr to word number sign) (hq : isNm x.1) (hb : baQ kind 4 fa) : fa = 4 := bad_w g (fun e => by rw [e] at hq; exact absurd hq Bool.false_ne_true) hb
end MNs
