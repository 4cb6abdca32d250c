/-! events and digest -/
def fm (x y : Int32) : Option Int32 := ob (dM x y) (fun x1 => if 0 ≤ (x ^^^ y) then some x1 else if x1 = 0 then some x1 else some (x1 + y))
theorem fm_eq {x y : Int32} {N : AH} : f_J9_floorMod_7cf53 x y N = ob (fm x y) (fun z => some (z, N)) := by
  unfold f_J9_floorMod_7cf53 fm
  cases h : dM x y with
  | none => rfl
  | some z =>
    show (if 0 ≤ (x ^^^ y) then some (z, N) else if z = 0 then some (z, N) else some (z + y, N)) = ob (if 0 ≤ (x ^^^ y) then some z else if z = 0 then some z else some (z + y)) (fun z => some (z, N))
    split
    · rfl
    · split <;> rfl
theorem fm_ok : ∀ n, n < 20 → ∀ k, k < 20 → fm (nI n - 1 - nI k) 20 = some (nI ((n + 19 - k) % 20)) := by decide +kernel
def mx (h : Int64) (v : Int32) : Int64 := 31 * h + v.toInt64
def mxN (f : Nat → Int32) : Nat → Int64 → Int64
  | 0, h => h
  | n + 1, h => mx (mxN f n h) (f n)
theorem mxN_cg {f g : Nat → Int32} {h : Int64} : ∀ n, (∀ k, k < n → f k = g k) → mxN f n h = mxN g n h
  | 0, _ => rfl
  | n + 1, q => by rw [mxN, mxN, mxN_cg n (fun k hk => q k (by omega)), q n (by omega)]
theorem c_mixed {h v : Int64} {N : AH} : f_X9_mixed h v N = some (31 * h + v, N) := rfl
section
variable {b : Nat} {W : WD} {T : Nat}
theorem c_slotOf {n k : Nat} (hn : n < 20) (hk : k < 20) (h : W.1 0 0 0 1 = nI n) : f_X0_slotOf (b + ad 0 0 0) (nI k) (wd b W) = some (nI ((n + 19 - k) % 20), wd b W) := by
  have e : f_J9_floorMod_7cf53 (nI n - 1 - nI k) 20 (wd b W) = some (nI ((n + 19 - k) % 20), wd b W) := by
    rw [fm_eq, fm_ok n hn k hk]
    rfl
  unfold f_X0_slotOf
  rw [oO_0 h00, o0_1 h00, h, ob2_i e]
theorem q_event {v w : Int32} (h : inv T W) : both T T b W (f_X9_event (b + ad 9 0 0) v w) (f_X10_event (b + ad 10 0 0) v w) := by
  obtain ⟨hE1, hE2⟩ := h.1.1.2.2.1
  obtain ⟨l1, n, l2, l3, l4⟩ := h.2.1.2.2.2.2
  have ei : f_X9_isOneOf v (nI (nE (W.2.1 10 0 0 0))) (wd b W) = some (bI (inR v (nE (W.2.1 10 0 0 0))), wd b W) := c_oneN
  have em : f_X10_in v.toInt64 (0 : Int64) (nI (nE (W.2.1 10 0 0 0)) - 1).toInt64 (wd b W) = some (bI (inR v (nE (W.2.1 10 0 0 0))), wd b W) := m_inN (by omega)
  have ew : f_X10_in w.toInt64 (0 : Int64) (2 : Int64) (wd b W) = some (bI (inR w 3), wd b W) := m_inN (n := 3) (by omega)
  cases hb : inR v (nE (W.2.1 10 0 0 0)) with
  | false =>
    rw [hb] at ei em
    refine both_0 h (v := -2) ?_ ?_
    · unfold f_X9_event
      rw [oO_9 h9, o9_1 h9, o7_11 h70, o0_0 h00, l1, hE1, ob2_i ei, if_neg (by decide)]
    · unfold f_X10_event
      rw [oO_10 h10, o10_0 h10, oR0 8 8 rfl (by omega), hE1, ob2_i em, if_neg (by decide)]
  | true =>
    rw [hb] at ei em
    obtain ⟨e, e1, rfl⟩ := inR_ex (by omega) hb
    have hs := c_slotOf (b := b) (W := W) (k := e) l2 (by omega) l3
    have hl := l4 (nE (W.2.1 10 0 0 0) - 1 - e) (by omega)
    rw [show n + 20 - nE (W.2.1 10 0 0 0) + (nE (W.2.1 10 0 0 0) - 1 - e) = n + 19 - e by omega] at hl
    have hm : (n + 19 - e) % 20 < 20 := Nat.mod_lt _ (by omega)
    generalize (n + 19 - e) % 20 = x at *
    unfold ev1 at hl
    obtain ⟨y1, y2⟩ := Prod.mk.inj hl
    obtain ⟨y2, y3⟩ := Prod.mk.inj y2
    have start : f_X9_event (b + ad 9 0 0) (nI e) w (wd b W) = (if w = 0 then ob (hR (wd b W) (b + ad 9 0 0) 9 1) (fun x11 => ob (hR (wd b W) x11 7 11) (fun x12 => ob (hR (wd b W) x12 0 2) (fun x13 => ob (aI (wd b W) x13 (nI x)) (fun x14 => some (x14, wd b W))))) else if w = 1 then ob (hR (wd b W) (b + ad 9 0 0) 9 1) (fun x16 => ob (hR (wd b W) x16 7 11) (fun x17 => ob (hR (wd b W) x17 0 3) (fun x18 => ob (aI (wd b W) x18 (nI x)) (fun x19 => some (x19, wd b W))))) else if w = 2 then ob (hR (wd b W) (b + ad 9 0 0) 9 1) (fun x21 => ob (hR (wd b W) x21 7 11) (fun x22 => ob (hR (wd b W) x22 0 4) (fun x23 => ob (aI (wd b W) x23 (nI x)) (fun x24 => some (x24, wd b W))))) else some ((-3 : Int32), wd b W)) := by
      unfold f_X9_event
      rw [oO_9 h9, o9_1 h9, o7_11 h70, o0_0 h00, l1, hE1, ob2_i ei, if_pos (by decide), o9_1 h9, o7_11 h70, ob2_i hs]
    have startm : f_X10_event (b + ad 10 0 0) (nI e) w (wd b W) = (if bI (inR w 3) = 0 then some ((-3 : Int32), wd b W) else ob (hR (wd b W) (b + ad 10 0 0) 10 0) (fun x9 => ob (hR (wd b W) (b + ad 10 0 0) 10 0) (fun x10 => ob (aI (wd b W) x10 (8 : Int32)) (fun x11 => ob (aI (wd b W) x9 (((1122 : Int32) + ((3 : Int32) * ((x11 - (1 : Int32)) - nI e))) + w)) (fun x12 => some (x12, wd b W)))))) := by
      unfold f_X10_event
      rw [oO_10 h10, o10_0 h10, oR0 8 8 rfl (by omega), hE1, ob2_i em, if_pos (by decide), ob2_i ew]
    have go : ∀ k : Nat, k < 3 → w = nI k → ∀ z : Int32, z = W.2.1 10 0 0 0 (1122 + 3 * (nE (W.2.1 10 0 0 0) - 1 - e) + k) → f_X9_event (b + ad 9 0 0) (nI e) w (wd b W) = some (z, wd b W) → both T T b W (f_X9_event (b + ad 9 0 0) (nI e) w) (f_X10_event (b + ad 10 0 0) (nI e) w) := by
      intro k hk hw z hz hc
      refine both_0 h (v := z) hc ?_
      rw [startm, hw, inR_nI (by omega) hk, if_neg (by decide), o10_0 h10, o10_0 h10, oR0 8 8 rfl (by omega), hE1, show nI (nE (W.2.1 10 0 0 0)) - 1 = nI (nE (W.2.1 10 0 0 0) - 1) from pk_sub (b := 1) (by omega), pk_sub (by omega), li 3, pk_mul, li 1122, nI_add, nI_add, oa10_0 h10 (by omega), hz]
    by_cases w0 : w = 0
    · refine go 0 (by omega) w0 _ rfl ?_
      rw [start, if_pos w0, o9_1 h9, o7_11 h70, o0_2 h00, oa0_2 h00 hm, y1]
      rfl
    · by_cases w1 : w = 1
      · refine go 1 (by omega) w1 _ rfl ?_
        rw [start, if_neg w0, if_pos w1, o9_1 h9, o7_11 h70, o0_3 h00, oa0_3 h00 hm, y2]
      · by_cases w2 : w = 2
        · refine go 2 (by omega) w2 _ rfl ?_
          rw [start, if_neg w0, if_neg w1, if_pos w2, o9_1 h9, o7_11 h70, o0_4 h00, oa0_4 h00 hm, y3]
        · have hn3 : inR w 3 = false := by
            cases hb3 : inR w 3 with
            | false => rfl
            | true =>
              obtain ⟨k, k1, k2⟩ := inR_ex (by omega) hb3
              have : k = 0 ∨ k = 1 ∨ k = 2 := by omega
              rcases this with rfl | rfl | rfl
              · exact absurd k2 w0
              · exact absurd k2 w1
              · exact absurd k2 w2
          refine both_0 h (v := -3) ?_ ?_
          · rw [start, if_neg w0, if_neg w1, if_neg w2]
          · rw [startm, hn3, if_pos (by decide)]
end
