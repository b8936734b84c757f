-- ===== exact rows of the machine =====
theorem and_255 (x : Int32) : 0 ≤ (x &&& iI 255).toInt ∧ (x &&& iI 255).toInt ≤ 255 := by
  have h := and_r (x := x) (y := iI 255) (by decide +kernel)
  rw [show (iI 255).toInt = 255 by decide +kernel] at h
  exact h
theorem i2c_x {z : Int} (h0 : 0 ≤ z) (h1 : z ≤ 65535) : ((iI z).toUInt32 % 65536).toInt32 = iI z := by
  apply Int32.toInt_inj.mp
  have hz := iI_i (z := z) (by omega) (by omega)
  have h3 : (iI z).toInt = (iI z).toBitVec.toInt := rfl
  have h7 := (iI z).toBitVec.isLt
  have h2 : ((iI z).toBitVec.toNat : Int) = z := by
    rw [h3, BitVec.toInt_eq_toNat_cond] at hz
    split at hz <;> omega
  have h4 : ((iI z).toUInt32 % 65536).toNat = (iI z).toUInt32.toNat % 65536 := by rw [UInt32.toNat_mod]; rfl
  have h8 : ((iI z).toUInt32 % 65536).toInt32.toBitVec.toNat = ((iI z).toUInt32 % 65536).toNat := rfl
  have h5 : (iI z).toUInt32.toNat = (iI z).toBitVec.toNat := rfl
  have h6 : ((iI z).toUInt32 % 65536).toInt32.toInt = ((iI z).toUInt32 % 65536).toInt32.toBitVec.toInt := rfl
  rw [h6, BitVec.toInt_eq_toNat_cond, h8, h4, h5, if_pos (by omega), hz]
  omega
theorem i2b_all : (List.range 256).all (fun k => decide ((iI (k : Int)).toInt8.toInt32 = iI (if (k : Int) ≤ 127 then (k : Int) else (k : Int) - 256))) = true := by decide +kernel
theorem i2b_x {z : Int} (h0 : 0 ≤ z) (h1 : z ≤ 255) : ∃ y : Int, -128 ≤ y ∧ y ≤ 127 ∧ (y = z ∨ y = z - 256) ∧ (iI z).toInt8.toInt32 = iI y := by
  have h := of_decide_eq_true (List.all_eq_true.mp i2b_all z.toNat (List.mem_range.mpr (by omega)))
  rw [Int.toNat_of_nonneg h0] at h
  by_cases q : z ≤ 127
  · rw [if_pos q] at h; exact ⟨z, by omega, q, Or.inl rfl, h⟩
  · rw [if_neg q] at h; exact ⟨z - 256, by omega, by omega, Or.inr rfl, h⟩
section BX
variable {p : Program} {l : Launch} {e : Env} {R : Room} {s : State} {m : MethodId} {args : Array Value} {below : List Frame} {meth : Method} {c : Code} {H : Heap} {locs : List Loc} {cells slots : Nat} {Q : State → Prop}
variable {pc : Nat} {ls : Array Slot} {rest : List Value}
theorem b_anyx {v : Int32} (kk : ∀ z : Int, -2147483648 ≤ z → z ≤ 2147483647 → iI z = v → W p l e R s m args below meth c H locs cells slots Q (F0 m pc ls (.int (iI z) :: rest))) : W p l e R s m args below meth c H locs cells slots Q (F0 m pc ls (.int v :: rest)) := by
  have h := kk v.toInt (ib0 v) (ib1 v) (iI_x v)
  rw [iI_x] at h
  exact h
theorem b_rngx {v : Int32} {lo hi : Int} (hv : lo ≤ v.toInt ∧ v.toInt ≤ hi) (kk : ∀ z : Int, lo ≤ z → z ≤ hi → z = v.toInt → W p l e R s m args below meth c H locs cells slots Q (F0 m pc ls (.int (iI z) :: rest))) : W p l e R s m args below meth c H locs cells slots Q (F0 m pc ls (.int v :: rest)) := by
  have h := kk v.toInt hv.1 hv.2 rfl
  rw [iI_x] at h
  exact h
end BX
section RX
variable {p : Program} {l : Launch} {e : Env} {R : Room} {s : State} {m : MethodId} {args : Array Value} {below : List Frame} {meth : Method} {c : Code} {H : Heap} {locs : List Loc} {cells slots : Nat} {Q : State → Prop}
variable {cc : ByteArray} {pc nL : Nat} {ls : Array Slot} {rest : List Value} {D : va_G} {T : Nat → ClassId} {A : Nat → Prop} {ws : va_W} {own : String}
theorem wok_atX {U : State} {H : Heap} (k : Nat) (hk : k < 27) (hZ : ZX T U H) : va_OF WNM "letters" "J" (.long (wltF k)) (T (10 + k)) (A6 T) U H ∧ va_OF WNM "kind" "I" (.int (iI (wkdF k))) (T (10 + k)) (A6 T) U H := by
  have hl : wnm[k]? = some (wnm[k]'(by simpa [wnm] using hk)) := List.getElem?_eq_getElem _
  have h := (hZ.1 k _ hl).2.2
  rw [wkdF, iI_x]
  exact h
theorem r_wletX (M : MC p s m args c cc own nL D T A) (w : WD D A s.heap ws H locs) {k index : Nat} (hk : k < 27) (hl : Cond.fieldLink own index WNM "letters" "J" ∈ GW) (hdg : decode cc pc = .ok (.getfield index, 3)) (kk : W p l e R s m args below meth c H locs cells slots Q (F0 m (pc + 3) ls (.long (wltF k) :: rest))) : W p l e R s m args below meth c H locs cells slots Q (F0 m pc ls (.ref (T (10 + k)) :: rest)) :=
  vk_getf M.1.1 M.1.2.1 ((wok_atX k hk M.2.2.2.2).1.narrow M.2.2.1) w.2.2.1 M.1.2.2.2.1 (M.1.2.2.2.2 _ hl) (fun _ h => h) hdg kk
theorem r_wkindXN (M : MC p s m args c cc own nL D T A) (w : WD D A s.heap ws H locs) {q index : Nat} {host : String} (hq : wok T (some q)) (hl : Cond.fieldLinkNest own index WNM "kind" "I" host ∈ lw_tbl) (hdg : decode cc pc = .ok (.getfield index, 3)) (kk : ∀ k : Nat, k < 27 → q = T (10 + k) → W p l e R s m args below meth c H locs cells slots Q (F0 m (pc + 3) ls (.int (iI (wkdF k)) :: rest))) : W p l e R s m args below meth c H locs cells slots Q (F0 m pc ls (.ref q :: rest)) := by
  rcases hq with hq | ⟨k, hk, hq⟩
  · cases hq
  · cases hq
    obtain ⟨cf, k2, fi, f, cell, h1, h2, h3, h4, h5, h6⟩ := ((wok_atX k hk M.2.2.2.2).2.narrow M.2.2.1).kept w.2.2.1.2.1
    exact va_Wgetf M.1.1 M.1.2.1 M.1.2.2.2.1 (va_Nw.use rfl (M.2.1.2.1 _ hl rfl)) h1 h2 h3 h4 (v := .int (iI (wkdF k))) h5 rfl rfl hdg (kk k hk rfl)
theorem r_wkindX (M : MC p s m args c cc own nL D T A) (w : WD D A s.heap ws H locs) {q index : Nat} (hq : wok T (some q)) (hl : Cond.fieldLink own index WNM "kind" "I" ∈ GW) (hdg : decode cc pc = .ok (.getfield index, 3)) (kk : ∀ k : Nat, k < 27 → q = T (10 + k) → W p l e R s m args below meth c H locs cells slots Q (F0 m (pc + 3) ls (.int (iI (wkdF k)) :: rest))) : W p l e R s m args below meth c H locs cells slots Q (F0 m pc ls (.ref q :: rest)) := by
  rcases hq with hq | ⟨k, hk, hq⟩
  · cases hq
  · cases hq
    exact vk_getf M.1.1 M.1.2.1 ((wok_atX k hk M.2.2.2.2).2.narrow M.2.2.1) w.2.2.1 M.1.2.2.2.1 (M.1.2.2.2.2 _ hl) (fun _ h => h) hdg (kk k hk rfl)
theorem r_allAtX (M : MC p s m args c cc own nL D T A) (w : WD D A s.heap ws H locs) {z : Int} (h0 : 0 ≤ z) (h1 : z ≤ 26) (hdg : decode cc pc = .ok (.aaload, 1)) (kk : W p l e R s m args below meth c H locs cells slots Q (F0 m (pc + 1) ls (.ref (T (10 + (Int.toNat z))) :: rest))) : W p l e R s m args below meth c H locs cells slots Q (F0 m pc ls (.int (iI z) :: .ref (T 9) :: rest)) := by
  refine vb_tq M.1.1 M.1.2.1 (M.2.2.2.2.2.1.2.narrow M.2.2.1) w.2.2.1 (iI_in h0 (n := 27) (by omega) (by decide)) rfl hdg ?_
  rw [iI_cl h0 (by omega)]
  exact kk
theorem r_sbytX (M : MC p s m args c cc own nL D T A) (w : WD D A s.heap ws H locs) (k : Nat) {q : String × Nat × String × List Int32} (hq : sto[k]? = some q) {i : Int32} (hin : vp_in i q.2.2.2.length) {z : Int} (hz : q.2.2.2.getD i.toNatClampNeg 0 = iI z) (hdg : decode cc pc = .ok (.baload, 1)) (kk : W p l e R s m args below meth c H locs cells slots Q (F0 m (pc + 1) ls (.int (iI z) :: rest))) : W p l e R s m args below meth c H locs cells slots Q (F0 m pc ls (.int i :: .ref (T (60 + k)) :: rest)) :=
  va_tb M.1.1 M.1.2.1 ((M.2.2.2.2.2.2.1.2 k q hq).2.2.2.narrow M.2.2.1) w.2.2.1 hin rfl hdg (hz ▸ kk)
end RX
theorem wkd_all : (List.range 27).all (fun k => decide (-1 ≤ wkdF k ∧ wkdF k ≤ 3)) = true := by decide +kernel
theorem wkd_b (k : Nat) : -1 ≤ wkdF k ∧ wkdF k ≤ 3 := by
  by_cases hk : k < 27
  · exact of_decide_eq_true (List.all_eq_true.mp wkd_all k (List.mem_range.mpr hk))
  · have e : wkdF k = 0 := by
      unfold wkdF
      rw [List.getD_eq_getElem?_getD, List.getElem?_eq_none (by have : wkd.length = 27 := rfl; omega)]
      rfl
    omega
-- ===== the bytes that come =====
def byt (w k : Int) : Int := ((Int32.toUInt32 (iI w) >>> (Int32.toUInt32 (iI k) &&& Int32.toUInt32 31)).toInt32 &&& iI 255).toInt
def bts (f : Int → Int) (t w : Int) : Int → Int := upz (upz (upz (upz f t (byt w 24)) (t + 1) (byt w 16)) ((t + 1) + 1) (byt w 8)) (((t + 1) + 1) + 1) (byt w 0)
def fdF (f : Int → Int) (t a b c d e : Int) : Int → Int := if t ≤ 920 then bts (bts (bts (bts (bts f t a) (t + 4) b) (t + 8) c) (t + 12) d) (t + 16) e else f
