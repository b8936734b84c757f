-- ===== the town of the class and the heads of the reference =====
def TN (nw : Int → Int) (nm : Nat → Int64) (b c : Int) (nms : Nat → Int64) (lo bu sg st : Int → Int) (mns : Nat → Int64) (hk : Int → Int) (P M ye ju : Int) : Prop :=
  (nw (b + 0) = P ∧ nw (b + 1) = M ∧ nw (b + 3) = ye ∧ nw (b + 4) = ju ∧ 0 ≤ P ∧ P ≤ 9 ∧ 0 ≤ M ∧ M ≤ 3) ∧
  (∀ p : Int, 0 ≤ p → p < P → lo p = nw (b + (5 + p)) ∧ bu p = nw (b + (14 + p)) ∧ sg p = nw (b + (23 + p)) ∧ nmR (nms (ix p)) (nm (ix (c + p)))) ∧
  (∀ p : Int, 0 ≤ p → p < M → hk p = nw (b + (41 + p)) ∧ nmR (mns (ix p)) (nm (ix (c + (9 + p))))) ∧
  ∀ p : Int, 0 ≤ p → p < 9 → st p = nw (b + (44 + p))
def cpW (nms : Nat → Int64) (lo bu sg st : Int → Int) (mns : Nat → Int64) (hk : Int → Int) (P M ye ju : Int) (nms' : Nat → Int64) (lo' bu' sg' st' : Int → Int) (mns' : Nat → Int64) (hk' : Int → Int) (P' M' ye' ju' : Int) : Prop :=
  (P' = P ∧ M' = M ∧ ye' = ye ∧ ju' = ju) ∧ (∀ p : Int, 0 ≤ p → p < 9 → nms' (ix p) = nms (ix p) ∧ lo' p = lo p ∧ bu' p = bu p ∧ sg' p = sg p ∧ st' p = st p) ∧ ∀ p : Int, 0 ≤ p → p < 3 → mns' (ix p) = mns (ix p) ∧ hk' p = hk p
theorem cpW_rf {nms : Nat → Int64} {lo bu sg st : Int → Int} {mns : Nat → Int64} {hk : Int → Int} {P M ye ju : Int} : cpW nms lo bu sg st mns hk P M ye ju nms lo bu sg st mns hk P M ye ju := ⟨⟨rfl, rfl, rfl, rfl⟩, fun _ _ _ => ⟨rfl, rfl, rfl, rfl, rfl⟩, fun _ _ _ => ⟨rfl, rfl⟩⟩
section TNs
variable {nw nw' : Int → Int} {nm nm' : Nat → Int64} {b c b' c' : Int} {nms nms' : Nat → Int64} {lo bu sg st lo' bu' sg' st' : Int → Int} {mns mns' : Nat → Int64} {hk hk' : Int → Int} {P M ye ju P' M' ye' ju' : Int}
theorem tn_mv (h : TN nw nm b c nms lo bu sg st mns hk P M ye ju) (hr : ∀ i : Int, 0 ≤ i → i < 53 → nw' (b' + i) = nw (b + i)) (hn : ∀ j : Int, 0 ≤ j → j < 12 → nm' (ix (c' + j)) = nm (ix (c + j))) (hc : cpW nms lo bu sg st mns hk P M ye ju nms' lo' bu' sg' st' mns' hk' P' M' ye' ju') : TN nw' nm' b' c' nms' lo' bu' sg' st' mns' hk' P' M' ye' ju' := by
  obtain ⟨⟨e0, e1, e3, e4, q0, q1, q2, q3⟩, h1, h2, h3⟩ := h
  obtain ⟨⟨rfl, rfl, rfl, rfl⟩, c1, c2⟩ := hc
  refine ⟨⟨(hr 0 (by decide) (by decide)).trans e0, (hr 1 (by decide) (by decide)).trans e1, (hr 3 (by decide) (by decide)).trans e3, (hr 4 (by decide) (by decide)).trans e4, q0, q1, q2, q3⟩, fun p p0 p1 => ?_, fun p p0 p1 => ?_, fun p p0 p1 => ?_⟩
  · obtain ⟨a1, a2, a3, a4⟩ := h1 p p0 p1
    obtain ⟨d0, d1, d2, d3, -⟩ := c1 p p0 (by omega)
    rw [hr _ (by omega) (by omega), hr _ (by omega) (by omega), hr _ (by omega) (by omega), hn _ p0 (by omega), d0, d1, d2, d3]
    exact ⟨a1, a2, a3, a4⟩
  · obtain ⟨a1, a2⟩ := h2 p p0 p1
    obtain ⟨d0, d1⟩ := c2 p p0 (by omega)
    rw [hr _ (by omega) (by omega), hn _ (by omega) (by omega), d0, d1]
    exact ⟨a1, a2⟩
  · rw [hr _ (by omega) (by omega), (c1 p p0 p1).2.2.2.2]
    exact h3 p p0 p1
theorem tn_kp (h : TN nw nm 0 0 nms lo bu sg st mns hk P M ye ju) (hr : kp 53 nw nw') : TN nw' nm 0 0 nms lo bu sg st mns hk P M ye ju := tn_mv h (fun i i0 i1 => hr (0 + i) (by omega)) (fun _ _ _ => rfl) cpW_rf
theorem tn_city {s : PS} {inn frm : Int → Int} {sp so yo jo : Int} (hw : XW s.2.1 s.2.2.1 s.2.2.2 nms lo bu sg st inn frm mns hk P M sp ye ju so yo jo) (hr : ∀ i : Int, 0 ≤ i → i < 53 → nw i = s.2.1 i) (hn : ∀ j : Int, 0 ≤ j → j < 12 → nm (ix j) = s.2.2.1 (ix j)) : TN nw nm 0 0 nms lo bu sg st mns hk P M ye ju := by
  obtain ⟨⟨e0, e1, e2, e3, e4, e5, e6, e7, b0, b1, b2, b3⟩, h1, h2, h3, h4, h5⟩ := hw
  have hz : ∀ i : Int, 0 ≤ i → i < 53 → nw (0 + i) = s.2.1 i := fun i i0 i1 => by rw [Int.zero_add]; exact hr i i0 i1
  refine ⟨⟨(hz 0 (by decide) (by decide)).trans e0, (hz 1 (by decide) (by decide)).trans e1, (hz 3 (by decide) (by decide)).trans e3, (hz 4 (by decide) (by decide)).trans e4, b0, b1, b2, b3⟩, fun p p0 p1 => ?_, fun p p0 p1 => ?_, fun p p0 p1 => ?_⟩
  · obtain ⟨a1, a2, a3, a4⟩ := h1 p p0 p1
    rw [hz _ (by omega) (by omega), hz _ (by omega) (by omega), hz _ (by omega) (by omega), Int.zero_add, hn p p0 (by omega)]
    exact ⟨a2, a3, a4, a1⟩
  · obtain ⟨a1, a2⟩ := h2 p p0 p1
    rw [hz _ (by omega) (by omega), Int.zero_add, hn (9 + p) (by omega) (by omega)]
    exact ⟨a2, a1⟩
  · rw [hz _ (by omega) (by omega)]
    exact (h3 p p0 p1).1
end TNs
theorem kp_cp {n dp sp m : Int} {c d f : Int → Int} (h : kp n f d) (hd : n ≤ dp) : kp n f (cpz c d sp dp m) := by
  intro j hj
  simp only [cpz]
  rw [if_neg (by omega)]
  exact h j hj
def imH (k : Int) (kt kt' nw : Int → Int) (kn kn' nm : Nat → Int64) : Prop := (0 ≤ k ∧ k ≤ 1 ∧ (∀ i : Int, 0 ≤ i → i < 53 → kt' (329 * k + i) = nw i) ∧ (∀ i : Int, 0 ≤ i → i < 53 → kt' (329 * (1 - k) + i) = kt (329 * (1 - k) + i)) ∧ (∀ j : Int, 0 ≤ j → j < 12 → kn' (ix (12 * k + j)) = nm (ix j)) ∧ ∀ j : Int, 0 ≤ j → j < 12 → kn' (ix (12 * (1 - k) + j)) = kn (ix (12 * (1 - k) + j))) ∨ ((k < 0 ∨ 1 < k) ∧ kt' = kt ∧ kn' = kn)
def rsH (k : Int) (ik nw nw' kt : Int → Int) (nm nm' kn : Nat → Int64) : Prop := (0 ≤ k ∧ k ≤ 1 ∧ ik k = 1 ∧ (∀ i : Int, 0 ≤ i → i < 53 → nw' i = kt (329 * k + i)) ∧ ∀ j : Int, 0 ≤ j → j < 12 → nm' (ix j) = kn (ix (12 * k + j))) ∨ ((k < 0 ∨ 1 < k ∨ ik k = 0) ∧ nw' = nw ∧ nm' = nm)
def CPn : CR → (Int → Int) → (Int → Int) → (Nat → Int64) → (Nat → Int64) → Prop
  | .inl _, nw, nw', nm, nm' => nw' = nw ∧ nm' = nm
  | .inr (s, _), _, nw', _, nm' => (∀ i : Int, 0 ≤ i → i < 53 → nw' i = s.2.1 i) ∧ ∀ j : Int, 0 ≤ j → j < 12 → nm' (ix j) = s.2.2.1 (ix j)
theorem nm_up {a b : Nat → Int64} {k j : Int} (h : ∀ j : Int, 0 ≤ j → j < k → a (ix j) = b (ix j)) (k0 : 0 ≤ k) (k1 : k < 100) (j0 : 0 ≤ j) (j1 : j < k + 1) : vp_updL a (Int32.toNatClampNeg (iI k)) (b (Int32.toNatClampNeg (iI k))) (ix j) = b (ix j) := by
  by_cases q : j = k
  · subst q; exact upL_s
  · have e : ¬ ix j = Int32.toNatClampNeg (iI k) := by
      have e1 := ix_e j0 (by omega)
      have e2 := ix_e k0 (by omega)
      unfold ix at e1 e2 ⊢
      omega
    rw [upL_o e]
    exact h j j0 (by omega)
theorem nm_up2 {a b : Nat → Int64} {k j m : Int} (h : ∀ j : Int, 0 ≤ j → j < k → a (ix j) = b (ix (12 * m + j))) (k0 : 0 ≤ k) (k1 : k < 100) (j0 : 0 ≤ j) (j1 : j < k + 1) : vp_updL a (Int32.toNatClampNeg (iI k)) (b (Int32.toNatClampNeg (iI (12 * m + k)))) (ix j) = b (ix (12 * m + j)) := by
  by_cases q : j = k
  · subst q; exact upL_s
  · have e : ¬ ix j = Int32.toNatClampNeg (iI k) := by
      have e1 := ix_e j0 (by omega)
      have e2 := ix_e k0 (by omega)
      unfold ix at e1 e2 ⊢
      omega
    rw [upL_o e]
    exact h j j0 (by omega)
theorem nm_im {a b c : Nat → Int64} {k m : Int} (h : (∀ j : Int, 0 ≤ j → j < k → a (ix (12 * m + j)) = b (ix j)) ∧ ∀ j : Int, 0 ≤ j → j < 12 → a (ix (12 * (1 - m) + j)) = c (ix (12 * (1 - m) + j))) (k0 : 0 ≤ k) (k1 : k < 12) (m0 : 0 ≤ m) (m1 : m ≤ 1) : (∀ j : Int, 0 ≤ j → j < k + 1 → vp_updL a (Int32.toNatClampNeg (iI (12 * m + k))) (b (Int32.toNatClampNeg (iI k))) (ix (12 * m + j)) = b (ix j)) ∧ ∀ j : Int, 0 ≤ j → j < 12 → vp_updL a (Int32.toNatClampNeg (iI (12 * m + k))) (b (Int32.toNatClampNeg (iI k))) (ix (12 * (1 - m) + j)) = c (ix (12 * (1 - m) + j)) := by
  have ne : ∀ x : Int, 0 ≤ x → x ≤ 100 → ¬ x = 12 * m + k → ¬ ix x = Int32.toNatClampNeg (iI (12 * m + k)) := fun x x0 x1 hx => by
    have e1 := ix_e x0 (by omega)
    have e2 := ix_e (z := 12 * m + k) (by omega) (by omega)
    unfold ix at e1 e2 ⊢
    omega
  refine ⟨fun j j0 j1 => ?_, fun j j0 j1 => ?_⟩
  · by_cases q : j = k
    · subst q; exact upL_s
    · rw [upL_o (ne _ (by omega) (by omega) (by omega))]
      exact h.1 j j0 (by omega)
  · have hm : m = 0 ∨ m = 1 := by omega
    rw [upL_o (ne _ (by omega) (by omega) (by omega))]
    exact h.2 j j0 j1
theorem cpz_in {c d : Int → Int} {dp n i : Int} (i0 : 0 ≤ i) (i1 : i < n) : cpz c d 0 dp n (dp + i) = c i := by
  simp only [cpz]
  rw [if_pos (by omega)]
  congr 1
  omega
theorem cpz_in0 {c d : Int → Int} {sp n i : Int} (i0 : 0 ≤ i) (i1 : i < n) : cpz c d sp 0 n i = c (sp + i) := by
  simp only [cpz]
  rw [if_pos (by omega)]
  congr 1
  omega
theorem cpz_z {c d : Int → Int} {n i : Int} (i0 : 0 ≤ i) (i1 : i < n) : cpz c d 0 0 n i = c i := by
  simp only [cpz]
  rw [if_pos (by omega)]
  congr 1
  omega
theorem cpz_off {c d : Int → Int} {sp dp n j : Int} (h : j < dp ∨ dp + n ≤ j) (_ : 0 ≤ n) : cpz c d sp dp n j = d j := by
  simp only [cpz]
  rw [if_neg (by omega)]
theorem cpy_in {a b : Nat → Int64} {p : Int} (h : 0 ≤ p ∧ p < 9) : va_cpy a b (Int32.toNatClampNeg (iI 0)) (Int32.toNatClampNeg (iI 0)) (Int32.toNatClampNeg (iI 9)) (ix p) = a (ix p) := by
  rw [ix_e h.1 (by omega), iI_cl (by decide) (by decide), iI_cl (by decide) (by decide)]
  simp only [va_cpy]
  rw [if_pos (by omega)]
  congr 1
  omega
theorem cpy_in3 {a b : Nat → Int64} {p : Int} (h : 0 ≤ p ∧ p < 3) : va_cpy a b (Int32.toNatClampNeg (iI 0)) (Int32.toNatClampNeg (iI 0)) (Int32.toNatClampNeg (iI 3)) (ix p) = a (ix p) := by
  rw [ix_e h.1 (by omega), iI_cl (by decide) (by decide), iI_cl (by decide) (by decide)]
  simp only [va_cpy]
  rw [if_pos (by omega)]
  congr 1
  omega
theorem cxr_0 {c : CR} {r fk fp ln : Int} {V : (Int → Int) → (Nat → Int64) → (Int → Int) → Prop} (h : CXr c r fk fp ln V) (hr : r = 0) : ∃ q, c = .inl q := by
  rcases c with q | ⟨s, k⟩
  · exact ⟨q, rfl⟩
  · exact absurd (h.1.symm.trans hr) (by decide)
theorem cxr_1 {c : CR} {r fk fp ln : Int} {V : (Int → Int) → (Nat → Int64) → (Int → Int) → Prop} (h : CXr c r fk fp ln V) (hr : r = 1) : ∃ (s : PS) (k : Int), c = .inr (s, k) ∧ V s.2.1 s.2.2.1 s.2.2.2 := by
  rcases c with ⟨a, b⟩ | ⟨s, k⟩
  · exact absurd (h.1.symm.trans hr) (by decide)
  · exact ⟨s, k, rfl, h.2.2⟩
def coQ (r w a b c d e : Int) : Prop := (w = 0 ∧ r = a) ∨ (w = 1 ∧ r = b) ∨ (w = 2 ∧ r = c) ∨ (w = 3 ∧ r = d) ∨ (w = 4 ∧ r = e) ∨ ((w < 0 ∨ 4 < w) ∧ r = -1)
def ipQ (r p n : Int) : Prop := (r = 1 ∧ 0 ≤ p ∧ p < n) ∨ (r = 0 ∧ (p < 0 ∨ n ≤ p))
def neQ (r p n s : Int) : Prop := (0 ≤ p ∧ p < n ∧ r = s) ∨ ((p < 0 ∨ n ≤ p) ∧ r = -1)
section TLs
variable {nw nw' kt kt' ik ik' : Int → Int} {nm nm' kn kn' : Nat → Int64} {f : Int → Int} {n k r f0 f1 : Int} {hh : Nat → Int64}
variable {wa : Nat → Int64} {wb wc wd we : Int → Int} {wf : Nat → Int64} {wg : Int → Int} {wh wi wj wk : Int}
variable {va : Nat → Int64} {vb vc vd ve : Int → Int} {vf : Nat → Int64} {vg : Int → Int} {vh vi vj vk : Int}
variable {ia : Nat → Int64} {ib ic i4 ie : Int → Int} {i6 : Nat → Int64} {ig : Int → Int} {ih ii ij ik9 : Int}
variable {ja : Nat → Int64} {jb jc jd je : Int → Int} {jf : Nat → Int64} {jg : Int → Int} {jh ji jj jk : Int}
variable {pa : Nat → Int64} {pb pc pd pe : Int → Int} {pf : Nat → Int64} {pg : Int → Int} {ph pi pj pk : Int}
variable {qa : Nat → Int64} {qb qc qd qe : Int → Int} {qf : Nat → Int64} {qg : Int → Int} {qh qi qj qk : Int}
theorem tn_c0 (h : TN nw nm 0 0 wa wb wc wd we wf wg wh wi wj wk) (qx : ∀ (rd : Int → Int) (h : Nat → Int64) (o : Int → Int), rd0P rd → o0P o → ∃ q, ctN f n 900 1000 ⟨tkAt f n 900 0, rd, h, o⟩ 0 = .inl q) (qm : ∃ rd o : Int → Int, rd0P rd ∧ o0P o ∧ CPn (ctN f n 900 1000 ⟨tkAt f n 900 0, rd, hh, o⟩ 0) nw nw' nm nm') : TN nw' nm' 0 0 wa wb wc wd we wf wg wh wi wj wk := by
  obtain ⟨rd, o, h1, h2, h3⟩ := qm
  obtain ⟨q, e⟩ := qx rd hh o h1 h2
  rw [e] at h3
  obtain ⟨e1, e2⟩ := h3
  rw [e1, e2]
  exact h
theorem tn_c1 {inn frm : Int → Int} {sp so yo jo : Int} (qx : ∀ (rd : Int → Int) (h : Nat → Int64) (o : Int → Int), rd0P rd → o0P o → ∃ (s : PS) (k : Int), ctN f n 900 1000 ⟨tkAt f n 900 0, rd, h, o⟩ 0 = .inr (s, k) ∧ XW s.2.1 s.2.2.1 s.2.2.2 wa wb wc wd we inn frm wf wg wh wi sp wj wk so yo jo) (qm : ∃ rd o : Int → Int, rd0P rd ∧ o0P o ∧ CPn (ctN f n 900 1000 ⟨tkAt f n 900 0, rd, hh, o⟩ 0) nw nw' nm nm') : TN nw' nm' 0 0 wa wb wc wd we wf wg wh wi wj wk := by
  obtain ⟨rd, o, h1, h2, h3⟩ := qm
  obtain ⟨s, k, e, hx⟩ := qx rd hh o h1 h2
  rw [e] at h3
  exact tn_city hx h3.1 h3.2
theorem tn_rs (hw : TN nw nm 0 0 wa wb wc wd we wf wg wh wi wj wk) (hv : (ik 0 = 1 → TN kt kn 0 0 ia ib ic i4 ie i6 ig ih ii ij ik9) ∧ (ik 1 = 1 → TN kt kn 329 12 ja jb jc jd je jf jg jh ji jj jk)) (hu : ik 0 = f0 ∧ ik 1 = f1) (hm : rsH k ik nw nw' kt nm nm' kn) (hx : (k = 0 ∧ f0 = 1 ∧ cpW ia ib ic i4 ie i6 ig ih ii ij ik9 va vb vc vd ve vf vg vh vi vj vk) ∨ (k = 1 ∧ f1 = 1 ∧ cpW ja jb jc jd je jf jg jh ji jj jk va vb vc vd ve vf vg vh vi vj vk) ∨ ((k < 0 ∨ 1 < k ∨ (k = 0 ∧ f0 = 0) ∨ (k = 1 ∧ f1 = 0)) ∧ cpW wa wb wc wd we wf wg wh wi wj wk va vb vc vd ve vf vg vh vi vj vk)) : TN nw' nm' 0 0 va vb vc vd ve vf vg vh vi vj vk := by
  rcases hm with ⟨k0, k1, hk, h1, h2⟩ | ⟨hk, h1, h2⟩
  · rcases hx with ⟨e, -, hc⟩ | ⟨e, -, hc⟩ | ⟨e, -⟩
    · subst e
      exact tn_mv (hv.1 hk) (fun i i0 i1 => by have e9 := h1 i i0 i1; rw [show (329 : Int) * 0 + i = i by omega] at e9; rw [Int.zero_add]; exact e9) (fun j j0 j1 => by have e9 := h2 j j0 j1; rw [show (12 : Int) * 0 + j = j by omega] at e9; rw [Int.zero_add]; exact e9) hc
    · subst e
      exact tn_mv (hv.2 hk) (fun i i0 i1 => by rw [Int.zero_add]; exact h1 i i0 i1) (fun j j0 j1 => by rw [Int.zero_add]; exact h2 j j0 j1) hc
    · exfalso
      have hkk : k = 0 ∨ k = 1 := by omega
      rcases hkk with rfl | rfl <;> omega
  · rw [h1, h2]
    rcases hx with ⟨e, e2, -⟩ | ⟨e, e2, -⟩ | ⟨-, hc⟩
    · subst e; exfalso; omega
    · subst e; exfalso; omega
    · exact tn_mv hw (fun _ _ _ => rfl) (fun _ _ _ => rfl) hc
theorem tn_im (hw : TN nw nm 0 0 wa wb wc wd we wf wg wh wi wj wk) (hv : (ik 0 = 1 → TN kt kn 0 0 ia ib ic i4 ie i6 ig ih ii ij ik9) ∧ (ik 1 = 1 → TN kt kn 329 12 ja jb jc jd je jf jg jh ji jj jk)) (hi : imT r k ik ik') (hm : imH k kt kt' nw kn kn' nm) (hx : (k = 0 ∧ cpW wa wb wc wd we wf wg wh wi wj wk pa pb pc pd pe pf pg ph pi pj pk ∧ cpW ja jb jc jd je jf jg jh ji jj jk qa qb qc qd qe qf qg qh qi qj qk) ∨ (k = 1 ∧ cpW wa wb wc wd we wf wg wh wi wj wk qa qb qc qd qe qf qg qh qi qj qk ∧ cpW ia ib ic i4 ie i6 ig ih ii ij ik9 pa pb pc pd pe pf pg ph pi pj pk) ∨ ((k < 0 ∨ 1 < k) ∧ cpW ia ib ic i4 ie i6 ig ih ii ij ik9 pa pb pc pd pe pf pg ph pi pj pk ∧ cpW ja jb jc jd je jf jg jh ji jj jk qa qb qc qd qe qf qg qh qi qj qk)) : (ik' 0 = 1 → TN kt' kn' 0 0 pa pb pc pd pe pf pg ph pi pj pk) ∧ (ik' 1 = 1 → TN kt' kn' 329 12 qa qb qc qd qe qf qg qh qi qj qk) := by
  rcases hx with ⟨e, c1, c2⟩ | ⟨e, c1, c2⟩ | ⟨e, c1, c2⟩
  · subst e
    rcases hm with ⟨-, -, h1, h2, h3, h4⟩ | ⟨e, -⟩
    · rcases hi with ⟨-, -, -, e⟩ | ⟨e, -⟩
      · refine ⟨fun _ => tn_mv hw (fun i i0 i1 => ?_) (fun j j0 j1 => ?_) c1, fun q => tn_mv (hv.2 ?_) (fun i i0 i1 => h2 i i0 i1) (fun j j0 j1 => h4 j j0 j1) c2⟩
        · have e9 := h1 i i0 i1; rw [show (329 : Int) * 0 + i = i by omega] at e9; rw [Int.zero_add]; exact e9
        · have e9 := h3 j j0 j1; rw [show (12 : Int) * 0 + j = j by omega] at e9; rw [Int.zero_add]; exact e9
        · rw [e, upz_o (by decide)] at q; exact q
      · omega
    · omega
  · subst e
    rcases hm with ⟨-, -, h1, h2, h3, h4⟩ | ⟨e, -⟩
    · rcases hi with ⟨-, -, -, e⟩ | ⟨e, -⟩
      · refine ⟨fun q => tn_mv (hv.1 ?_) (fun i i0 i1 => h2 i i0 i1) (fun j j0 j1 => h4 j j0 j1) c2, fun _ => tn_mv hw (fun i i0 i1 => ?_) (fun j j0 j1 => ?_) c1⟩
        · rw [e, upz_o (by decide)] at q; exact q
        · rw [Int.zero_add]; exact h1 i i0 i1
        · rw [Int.zero_add]; exact h3 j j0 j1
      · omega
    · omega
  · rcases hm with ⟨a, b, -⟩ | ⟨-, e1, e2⟩
    · omega
    · rcases hi with ⟨a, b, -⟩ | ⟨-, -, e3⟩
      · omega
      · rw [e1, e2, e3]
        exact ⟨fun q => tn_mv (hv.1 q) (fun _ _ _ => rfl) (fun _ _ _ => rfl) c1, fun q => tn_mv (hv.2 q) (fun _ _ _ => rfl) (fun _ _ _ => rfl) c2⟩
theorem tn_hd (h : TN nw nm 0 0 wa wb wc wd we wf wg wh wi wj wk) : nw 0 = wh ∧ nw 1 = wi ∧ nw 3 = wj ∧ nw 4 = wk := ⟨h.1.1, h.1.2.1, h.1.2.2.1, h.1.2.2.2.1⟩
theorem tn_co {r2 w e e' : Int} (h : TN nw nm 0 0 wa wb wc wd we wf wg wh wi wj wk) (h1 : coQ r w wh wi wj wk e) (h2 : coQ r2 w (nw 0) (nw 1) (nw 3) (nw 4) e') (he : e' = e) : r = r2 := by
  have h3 := tn_hd h
  unfold coQ at h1 h2
  omega
theorem tn_ne {r2 p : Int} (h : TN nw nm 0 0 wa wb wc wd we wf wg wh wi wj wk) (h1 : neQ r p wh (we p)) (h2 : neQ r2 p (nw 0) (nw (44 + p))) : r = r2 := by
  have h3 := tn_hd h
  have h5 := h.1
  rcases h1 with ⟨a, b, c⟩ | ⟨a, c⟩
  · have h4 := h.2.2.2 p a (by omega)
    rw [Int.zero_add] at h4
    rcases h2 with ⟨-, -, d⟩ | ⟨d, -⟩
    · rw [c, d, h4]
    · omega
  · rcases h2 with ⟨d, e, -⟩ | ⟨-, d⟩
    · omega
    · omega
end TLs
