/-! the invariant of the law -/
def prt (row : Nat → Int32) (j : Nat) : Nat → Int32 := fun q => row (1182 * j + q)
def okS (r : Nat → Int32) (T : Nat) : Prop := okR r T ∧ ¬ r 1 = 6
def hisR (W : WD) (row : Nat → Int32) (s T : Nat) : Prop := W.1 5 0 0 0 = nI s ∧ ∃ x, x < 6 ∧ W.1 5 0 0 1 = nI x ∧ ∀ j, 1 ≤ j → j ≤ s → stR W (1 + (x + 5 - (s - j)) % 6) (prt row j) ∧ okS (prt row j) T
def txtR (W : WD) : Prop := ∃ ℓ, ℓ ≤ 120 ∧ W.1 10 0 0 3 = nI ℓ ∧ W.1 2 0 0 0 = nI ℓ ∧ ∀ p, p < ℓ → W.2.1 10 0 0 2 p = W.2.1 2 0 0 2 p ∧ ∃ c, c < 256 ∧ W.2.1 2 0 0 2 p = nI c
def cacR (W : WD) (row : Nat → Int32) : Prop := W.1 3 0 0 5 = 0 ∨ (W.1 3 0 0 5 = 1 ∧ 1 ≤ opN row (nG row) ∧ opN row (nG row) ≤ 4 ∧ ∃ bj, BO row (W.1 3 0 0 3) bj ∧ ∀ x, x < opN row (nG row) → W.2.1 3 0 0 4 x = nI (oJ row bj x))
def inv (T : Nat) (W : WD) : Prop := okS (W.2.1 10 0 0 0) T ∧ stR W 0 (W.2.1 10 0 0 0) ∧ (∃ s, s ≤ 6 ∧ W.1 10 0 0 1 = nI s ∧ hisR W (W.2.1 10 0 0 0) s T) ∧ txtR W ∧ W.1 10 0 0 8 = 0 ∧ cacR W (W.2.1 10 0 0 0)
theorem okS_mono {r : Nat → Int32} {T T' : Nat} (h : okS r T) (hT : T ≤ T') : okS r T' := ⟨okR_mono h.1 hT, h.2⟩
theorem okS_cg {r r' : Nat → Int32} {T : Nat} (h : okS r T) (hq : ∀ q, q < 1182 → r' q = r q) : okS r' T := ⟨okR_cg h.1 hq, by rw [hq 1 (by omega)]; exact h.2⟩
theorem prt_cg {r r' : Nat → Int32} (hq : ∀ q, 1182 ≤ q → q < 8274 → r' q = r q) {j : Nat} (h1 : 1 ≤ j) (h6 : j ≤ 6) : ∀ q, q < 1182 → prt r' j q = prt r j q := fun q h => hq _ (by omega) (by omega)
theorem hisR_cg {W : WD} {r r' : Nat → Int32} {s T : Nat} (hs : s ≤ 6) (h : hisR W r s T) (hq : ∀ q, 1182 ≤ q → q < 8274 → r' q = r q) : hisR W r' s T := by
  obtain ⟨h1, x, h2, h3, h4⟩ := h
  refine ⟨h1, x, h2, h3, fun j j1 j2 => ?_⟩
  obtain ⟨a1, a2⟩ := h4 j j1 j2
  have hp := prt_cg hq j1 (by omega)
  exact ⟨stR_ok a2.1 a1 hp, okS_cg a2 hp⟩
theorem hisR_mono {W : WD} {r : Nat → Int32} {s T T' : Nat} (h : hisR W r s T) (hT : T ≤ T') : hisR W r s T' := by
  obtain ⟨h1, x, h2, h3, h4⟩ := h
  exact ⟨h1, x, h2, h3, fun j j1 j2 => ⟨(h4 j j1 j2).1, okS_mono (h4 j j1 j2).2 hT⟩⟩
theorem hisR.fr {Q : Nat → Nat → Nat → Nat → Prop} {W V : WD} {r : Nat → Int32} {s T : Nat} (h : hisR W r s T) (hf : frQ Q W V) (h5 : ∀ k, ¬ Q 5 0 0 k) (hS : ∀ c i g k, inS c → 1 ≤ i → i ≤ 6 → ¬ Q c i g k) : hisR V r s T := by
  obtain ⟨h1, x, h2, h3, h4⟩ := h
  refine ⟨by rw [hf.1 5 0 0 0 (h5 0)]; exact h1, x, h2, by rw [hf.1 5 0 0 1 (h5 1)]; exact h3, fun j j1 j2 => ⟨(h4 j j1 j2).1.fr hf (fun c g k hc => hS c _ g k hc (by omega) ?_), (h4 j j1 j2).2⟩⟩
  have := Nat.mod_lt (x + 5 - (s - j)) (show 0 < 6 by omega)
  omega
theorem cacR_cg {W : WD} {r r' : Nat → Int32} (h12 : nG r ≤ 12) (h : cacR W r) (hq : ∀ q, q < 1182 → r' q = r q) : cacR W r' := by
  rcases h with h | ⟨h1, h2, h3, bj, h4, h5⟩
  · exact Or.inl h
  · refine Or.inr ⟨h1, by rw [opN_cg hq h12]; exact h2, by rw [opN_cg hq h12]; exact h3, bj, BO_cg hq h12 h4, ?_⟩
    rw [opN_cg hq h12, oJ_cg hq h12]
    exact h5
/-- scratch of the class -/
def qsQ : Nat → Nat → Nat → Nat → Prop := fun c i _ k => fnQ c i 0 k ∨ (c = 8 ∧ i = 0) ∨ (c = 6 ∧ i = 0) ∨ (c = 2 ∧ k = 1) ∨ c = 12
theorem inv_c {T : Nat} {W V : WD} (h : inv T W) (hf : frQ qsQ W V) : inv T V := by
  obtain ⟨h1, h2, ⟨s, h3, h4, h5⟩, ⟨ℓ, t1, t2, t3, t4⟩, h7, h8⟩ := h
  have nq : ∀ c i g k, c = 10 ∨ c = 3 ∨ c = 5 ∨ (c = 2 ∧ k ≠ 1) ∨ (inS c ∧ i ≠ 7) → ¬ qsQ c i g k := by
    intro c i g k hc
    unfold qsQ fnQ inS
    unfold inS at hc
    omega
  have er : V.2.1 10 0 0 0 = W.2.1 10 0 0 0 := hf.2.1 10 0 0 0 (nq _ _ _ _ (by omega))
  unfold inv
  rw [er]
  refine ⟨h1, h2.fr hf (fun c g k hc => nq _ _ _ _ (Or.inr (Or.inr (Or.inr (Or.inr ⟨hc, by omega⟩))))), ⟨s, h3, by rw [hf.1 10 0 0 1 (nq _ _ _ _ (by omega))]; exact h4, h5.fr hf (fun k => nq _ _ _ _ (by omega)) (fun c i g k hc i1 i2 => nq _ _ _ _ (Or.inr (Or.inr (Or.inr (Or.inr ⟨hc, by omega⟩)))))⟩, ⟨ℓ, t1, by rw [hf.1 10 0 0 3 (nq _ _ _ _ (by omega))]; exact t2, by rw [hf.1 2 0 0 0 (nq _ _ _ _ (by omega))]; exact t3, ?_⟩, by rw [hf.1 10 0 0 8 (nq _ _ _ _ (by omega))]; exact h7, ?_⟩
  · rw [hf.2.1 10 0 0 2 (nq _ _ _ _ (by omega)), hf.2.1 2 0 0 2 (nq _ _ _ _ (by omega))]
    exact t4
  · unfold cacR
    rw [hf.1 3 0 0 5 (nq _ _ _ _ (by omega)), hf.1 3 0 0 3 (nq _ _ _ _ (by omega)), hf.2.1 3 0 0 4 (nq _ _ _ _ (by omega))]
    exact h8
/-- what a query of the reference may change -/
def rqF (W W' : WD) : Prop := frQ (fun c _ _ _ => c = 10) W W' ∧ W'.1 10 0 0 1 = W.1 10 0 0 1 ∧ W'.1 10 0 0 3 = W.1 10 0 0 3 ∧ W'.1 10 0 0 8 = W.1 10 0 0 8 ∧ W'.2.1 10 0 0 2 = W.2.1 10 0 0 2 ∧ ∀ q, q < 8274 → W'.2.1 10 0 0 0 q = W.2.1 10 0 0 0 q
theorem rqF.rf {W : WD} : rqF W W := ⟨frQ.rf, rfl, rfl, rfl, rfl, fun _ _ => rfl⟩
theorem frM_Q {ki ka kl : List Nat} {W W' : WD} (h : frM ki ka kl W W') : frQ (fun c _ _ _ => c = 10) W W' := ⟨fun c i g k q => h.1 c i g k (fun z => q z.1), fun c i g k q => h.2.1 c i g k (fun z => q z.1), fun c i g k q => h.2.2 c i g k (fun z => q z.1)⟩
theorem rqF_M {ki ka kl : List Nat} {W W' : WD} (h : frM ki ka kl W W') (h1 : 1 ∉ ki) (h3 : 3 ∉ ki) (h8 : W'.1 10 0 0 8 = W.1 10 0 0 8) (h2 : 2 ∉ ka) (hr : ∀ q, q < 8274 → W'.2.1 10 0 0 0 q = W.2.1 10 0 0 0 q) : rqF W W' := ⟨frM_Q h, h.mi 1 h1, h.mi 3 h3, h8, h.ma 2 h2, hr⟩
theorem inv_m {T : Nat} {W V : WD} (h : inv T W) (hf : rqF W V) : inv T V := by
  obtain ⟨h1, h2, ⟨s, h3, h4, h5⟩, ⟨ℓ, t1, t2, t3, t4⟩, h7, h8⟩ := h
  obtain ⟨f1, f2, f3, f4, f5, f6⟩ := hf
  refine ⟨okS_cg h1 (fun q hq => f6 q (by omega)), stR_ok h1.1 (h2.fr f1 (fun c g k hc => by unfold inS at hc; omega)) (fun q hq => f6 q (by omega)), ⟨s, h3, by rw [f2]; exact h4, hisR_cg h3 (h5.fr f1 (fun k => by omega) (fun c i g k hc _ _ => by unfold inS at hc; omega)) (fun q _ hq => f6 q hq)⟩, ⟨ℓ, t1, by rw [f3]; exact t2, by rw [f1.1 2 0 0 0 (by omega)]; exact t3, ?_⟩, by rw [f4]; exact h7, ?_⟩
  · rw [f5, f1.2.1 2 0 0 2 (by omega)]
    exact t4
  · refine cacR_cg h1.1.1.1.2 ?_ (fun q hq => f6 q (by omega))
    unfold cacR
    rw [f1.1 3 0 0 5 (by omega), f1.1 3 0 0 3 (by omega), f1.2.1 3 0 0 4 (by omega)]
    exact h8
/-! ranges -/
def inR (v : Int32) (n : Nat) : Bool := decide (¬ v < 0 ∧ ¬ nI n ≤ v)
theorem inR_ex {v : Int32} {n : Nat} (hn : n < 2147483648) (h : inR v n = true) : ∃ g, g < n ∧ v = nI g := by
  unfold inR at h
  simp only [decide_eq_true_eq] at h
  obtain ⟨j, j1, j2⟩ := nI_of h.1
  refine ⟨j, ?_, j2⟩
  rcases Nat.lt_or_ge j n with q | q
  · exact q
  · exact absurd (by rw [j2]; exact le_p q (by omega)) h.2
theorem inR_nI {g n : Nat} (hn : n < 2147483648) (h : g < n) : inR (nI g) n = true := by
  unfold inR
  simp only [decide_eq_true_eq]
  exact ⟨lt_n (b := 0) (by omega) (by omega), le_n h (by omega)⟩
theorem c_oneN {v : Int32} {n : Nat} {N : AH} : f_X9_isOneOf v (nI n) N = some (bI (inR v n), N) := by
  rw [c_isOneOf]
  unfold inR
  by_cases h1 : v < 0
  · rw [if_pos h1]
    simp [h1, bI]
  · rw [if_neg h1]
    by_cases h2 : nI n ≤ v
    · rw [if_pos h2]
      simp [h2, bI]
    · rw [if_neg h2]
      simp [h1, h2, bI]
theorem m_in32 {b : Nat} {W : WD} {x lo hi : Int32} : f_X10_in x.toInt64 lo.toInt64 hi.toInt64 (wd b W) = some (if x < lo then 0 else if hi < x then 0 else 1, wd b W) := by
  rw [m_in]
  simp only [t64_lt]
theorem m_inN {b : Nat} {W : WD} {v : Int32} {n : Nat} (hn : n < 1073741824) : f_X10_in v.toInt64 (0 : Int64) (nI n - 1).toInt64 (wd b W) = some (bI (inR v n), wd b W) := by
  have e := m_in32 (b := b) (W := W) (x := v) (lo := 0) (hi := nI n - 1)
  have e0 : (0 : Int32).toInt64 = (0 : Int64) := rfl
  rw [e0] at e
  rw [e]
  unfold inR
  have h2 : ¬ v < 0 → (nI n - 1 < v ↔ nI n ≤ v) := by
    intro h1
    obtain ⟨j, j1, j2⟩ := nI_of h1
    rw [j2]
    have e1 : (nI n - 1).toInt = (n : Int) - 1 := by
      have := pk_sub_toInt (a := n) (b := 1) (by omega) (by omega)
      exact this
    rw [Int32.lt_iff_toInt_lt, Int32.le_iff_toInt_le, e1, nI_toInt (by omega), nI_toInt (by omega)]
    omega
  by_cases h1 : v < 0
  · rw [if_pos h1]
    simp [h1, bI]
  · rw [if_neg h1]
    by_cases h3 : nI n ≤ v
    · rw [if_pos ((h2 h1).mpr h3)]
      simp [h3, bI]
    · rw [if_neg (fun z => h3 ((h2 h1).mp z))]
      simp [h1, h3, bI]
theorem h9 : vo 9 0 0 = true := rfl
theorem h70 : vo 7 0 0 = true := rfl
theorem hz8 : (0 : Nat) < 8 := by omega
section
variable {b : Nat} {W : WD} {T : Nat}
theorem rZ_bI {c : Bool} {N : AH} : rZ (bI c) N = some (bI c, N) := by cases c <;> rfl
theorem c_isGroup (h : inv T W) {v : Int32} : f_X9_isGroup (b + ad 9 0 0) v (wd b W) = some (bI (inR v (nG (W.2.1 10 0 0 0))), wd b W) := by
  unfold f_X9_isGroup
  rw [oO_9 h9, o9_1 h9, o7_6 h70, h.2.1.1 6 (by omega), h.1.1.1.1.1, ob2_i c_oneN, rZ_bI]
theorem m_isGroup (h : okS (W.2.1 10 0 0 0) T) {v : Int32} : f_X10_isGroup (b + ad 10 0 0) v (wd b W) = some (bI (inR v (nG (W.2.1 10 0 0 0))), wd b W) := by
  unfold f_X10_isGroup
  have h12 := h.1.1.1.2
  rw [oO_10 h10, o10_0 h10, oR0 6 6 rfl (by omega), h.1.1.1.1, ob2_i (m_inN (by omega)), rZ_bI]
/-- both sides answer alike and keep the invariant -/
def both (T T' b : Nat) (W : WD) (fx fm : AH → Option (Int32 × AH)) : Prop := ∃ v W1 W2, fx (wd b W) = some (v, wd b W1) ∧ fm (wd b W1) = some (v, wd b W2) ∧ inv T' W2
theorem both_q {T : Nat} {W : WD} {fx fm : AH → Option (Int32 × AH)} (h : inv T W) {v : Int32} {W1 : WD} (hx : fx (wd b W) = some (v, wd b W1)) (hf : frQ qsQ W W1) (hm : ∃ W2, fm (wd b W1) = some (v, wd b W2) ∧ rqF W1 W2) : both T T b W fx fm := by
  obtain ⟨W2, h1, h2⟩ := hm
  exact ⟨v, W1, W2, hx, h1, inv_m (inv_c h hf) h2⟩
theorem both_0 {T : Nat} {W : WD} {fx fm : AH → Option (Int32 × AH)} (h : inv T W) {v : Int32} (hx : fx (wd b W) = some (v, wd b W)) (hm : fm (wd b W) = some (v, wd b W)) : both T T b W fx fm := both_q h hx frQ.rf ⟨W, hm, rqF.rf⟩
theorem q_time (h : inv T W) : both T T b W (f_X9_time (b + ad 9 0 0)) (f_X10_time (b + ad 10 0 0)) := by
  refine both_0 h (v := W.2.1 10 0 0 0 0) ?_ ?_
  · unfold f_X9_time
    rw [oO_9 h9, o9_1 h9, o7_0 h70, h.2.1.1 0 (by omega)]
  · unfold f_X10_time
    rw [oO_10 h10, o10_0 h10, oR0 0 0 rfl (by omega)]
theorem q_groupCount (h : inv T W) : both T T b W (f_X9_groupCount (b + ad 9 0 0)) (f_X10_groupCount (b + ad 10 0 0)) := by
  refine both_0 h (v := W.2.1 10 0 0 0 6) ?_ ?_
  · unfold f_X9_groupCount
    rw [oO_9 h9, o9_1 h9, o7_6 h70, h.2.1.1 6 (by omega)]
  · unfold f_X10_groupCount
    rw [oO_10 h10, o10_0 h10, oR0 6 6 rfl (by omega)]
theorem q_preemptions (h : inv T W) : both T T b W (f_X9_preemptions (b + ad 9 0 0)) (f_X10_preemptions (b + ad 10 0 0)) := by
  refine both_0 h (v := W.2.1 10 0 0 0 4) ?_ ?_
  · unfold f_X9_preemptions
    rw [oO_9 h9, o9_1 h9, o7_4 h70, h.2.1.1 4 (by omega)]
  · unfold f_X10_preemptions
    rw [oO_10 h10, o10_0 h10, oR0 4 4 rfl (by omega)]
theorem h00 : vo 0 0 0 = true := rfl
theorem q_eventCount (h : inv T W) : both T T b W (f_X9_eventCount (b + ad 9 0 0)) (f_X10_eventCount (b + ad 10 0 0)) := by
  refine both_0 h (v := W.2.1 10 0 0 0 8) ?_ ?_
  · unfold f_X9_eventCount
    rw [oO_9 h9, o9_1 h9, o7_11 h70, o0_0 h00, h.2.1.2.2.2.2.1]
  · unfold f_X10_eventCount
    rw [oO_10 h10, o10_0 h10, oR0 8 8 rfl (by omega)]
theorem q_state {v : Int32} (h : inv T W) : both T T b W (f_X9_state (b + ad 9 0 0) v) (f_X10_state (b + ad 10 0 0) v) := by
  have h12 := h.1.1.1.1.2
  have eg := c_isGroup (b := b) h (v := v)
  have em := m_isGroup (b := b) (T := T) h.1 (v := v)
  cases hb : inR v (nG (W.2.1 10 0 0 0)) with
  | false =>
    rw [hb] at eg em
    refine both_0 h (v := -2) ?_ ?_
    · unfold f_X9_state
      rw [oO_9 h9, ob2_i eg, if_pos (by decide)]
    · unfold f_X10_state
      rw [oO_10 h10, ob2_i em, if_pos (by decide)]
  | true =>
    rw [hb] at eg em
    obtain ⟨g, g1, rfl⟩ := inR_ex (by omega) hb
    have hgk := h.1.1.2.2.2.2.2.2.2 g g1
    refine both_0 h (v := stO (W.2.1 10 0 0 0) g) ?_ ?_
    · unfold f_X9_state
      rw [oO_9 h9, ob2_i eg, if_neg (by decide), o9_1 h9, o7_10 h70, oa7_10 h70 (by omega), o9_1 h9, o7_0 h70, h.2.1.1 0 (by omega), ob2_i (c_stateAt (b := b) (vo4 hz8 (by omega)) (h.2.1.2.2.2.1 g g1).1 (hgk.2.2.2.1.imp id And.left))]
      rfl
    · unfold f_X10_state
      rw [oO_10 h10, ob2_i em, if_neg (by decide), ob2_i (m_stateOf (by omega))]
theorem q_arrival {v : Int32} (h : inv T W) : both T T b W (f_X9_arrival (b + ad 9 0 0) v) (f_X10_arrival (b + ad 10 0 0) v) := by
  have h12 := h.1.1.1.1.2
  have eg := c_isGroup (b := b) h (v := v)
  have em := m_isGroup (b := b) (T := T) h.1 (v := v)
  cases hb : inR v (nG (W.2.1 10 0 0 0)) with
  | false =>
    rw [hb] at eg em
    refine both_0 h (v := -2) ?_ ?_
    · unfold f_X9_arrival
      rw [oO_9 h9, ob2_i eg, if_pos (by decide)]
    · unfold f_X10_arrival
      rw [oO_10 h10, ob2_i em, if_pos (by decide)]
  | true =>
    rw [hb] at eg em
    obtain ⟨g, g1, rfl⟩ := inR_ex (by omega) hb
    refine both_0 h (v := gO (W.2.1 10 0 0 0) g 0) ?_ ?_
    · unfold f_X9_arrival
      rw [oO_9 h9, ob2_i eg, if_neg (by decide), o9_1 h9, o7_10 h70, oa7_10 h70 (by omega), o4_0 (vo4 hz8 (by omega)), (h.2.1.2.2.2.1 g g1).1 0 (by omega)]
    · unfold f_X10_arrival
      rw [oO_10 h10, ob2_i em, if_neg (by decide), ob2_i (m_ofk 0 0 rfl (by omega))]
theorem q_end {v : Int32} (h : inv T W) : both T T b W (f_X9_end (b + ad 9 0 0) v) (f_X10_end (b + ad 10 0 0) v) := by
  have h12 := h.1.1.1.1.2
  have eg := c_isGroup (b := b) h (v := v)
  have em := m_isGroup (b := b) (T := T) h.1 (v := v)
  cases hb : inR v (nG (W.2.1 10 0 0 0)) with
  | false =>
    rw [hb] at eg em
    refine both_0 h (v := -2) ?_ ?_
    · unfold f_X9_end
      rw [oO_9 h9, ob2_i eg, if_pos (by decide)]
    · unfold f_X10_end
      rw [oO_10 h10, ob2_i em, if_pos (by decide)]
  | true =>
    rw [hb] at eg em
    obtain ⟨g, g1, rfl⟩ := inR_ex (by omega) hb
    refine both_0 h (v := gO (W.2.1 10 0 0 0) g 3) ?_ ?_
    · unfold f_X9_end
      rw [oO_9 h9, ob2_i eg, if_neg (by decide), o9_1 h9, o7_10 h70, oa7_10 h70 (by omega), o4_3 (vo4 hz8 (by omega)), (h.2.1.2.2.2.1 g g1).1 3 (by omega)]
    · unfold f_X10_end
      rw [oO_10 h10, ob2_i em, if_neg (by decide), ob2_i (m_ofk 3 3 rfl (by omega))]
theorem q_flowCount {v : Int32} (h : inv T W) : both T T b W (f_X9_flowCount (b + ad 9 0 0) v) (f_X10_flowCount (b + ad 10 0 0) v) := by
  have h12 := h.1.1.1.1.2
  have eg := c_isGroup (b := b) h (v := v)
  have em := m_isGroup (b := b) (T := T) h.1 (v := v)
  cases hb : inR v (nG (W.2.1 10 0 0 0)) with
  | false =>
    rw [hb] at eg em
    refine both_0 h (v := -2) ?_ ?_
    · unfold f_X9_flowCount
      rw [oO_9 h9, ob2_i eg, if_pos (by decide)]
    · unfold f_X10_flowCount
      rw [oO_10 h10, ob2_i em, if_pos (by decide)]
  | true =>
    rw [hb] at eg em
    obtain ⟨g, g1, rfl⟩ := inR_ex (by omega) hb
    refine both_0 h (v := gO (W.2.1 10 0 0 0) g 5) ?_ ?_
    · unfold f_X9_flowCount
      rw [oO_9 h9, ob2_i eg, if_neg (by decide), o9_1 h9, o7_10 h70, oa7_10 h70 (by omega), o4_5 (vo4 hz8 (by omega)), o1_0 (vo1 hz8 (by omega)), (h.2.1.2.2.2.1 g g1).2.1.1]
    · unfold f_X10_flowCount
      rw [oO_10 h10, ob2_i em, if_neg (by decide), ob2_i (m_ofk 5 5 rfl (by omega))]
theorem q_rest {v : Int32} (h : inv T W) : both T T b W (f_X9_rest (b + ad 9 0 0) v) (f_X10_rest (b + ad 10 0 0) v) := by
  have h12 := h.1.1.1.1.2
  have eg := c_isGroup (b := b) h (v := v)
  have em := m_isGroup (b := b) (T := T) h.1 (v := v)
  cases hb : inR v (nG (W.2.1 10 0 0 0)) with
  | false =>
    rw [hb] at eg em
    refine both_0 h (v := -2) ?_ ?_
    · unfold f_X9_rest
      rw [oO_9 h9, ob2_i eg, if_pos (by decide)]
    · unfold f_X10_rest
      rw [oO_10 h10, ob2_i em, if_pos (by decide)]
  | true =>
    rw [hb] at eg em
    obtain ⟨g, g1, rfl⟩ := inR_ex (by omega) hb
    have hk := h.1.1.1.2.1 g g1
    refine both_0 h (v := rstO (W.2.1 10 0 0 0) g) ?_ ?_
    · unfold f_X9_rest
      rw [oO_9 h9, ob2_i eg, if_neg (by decide), o9_1 h9, o7_10 h70, oa7_10 h70 (by omega), o4_5 (vo4 hz8 (by omega)), ob2_i (c_sumOfRests (b := b) (vo1 hz8 (by omega)) (h.2.1.2.2.2.1 g g1).2.1 hk)]
    · unfold f_X10_rest
      rw [oO_10 h10, ob2_i em, if_neg (by decide), ob2_i (m_restOf (by omega) hk.2.1 hk.1)]
      rfl
theorem q_level {v : Int32} (h : inv T W) : both T T b W (f_X9_level (b + ad 9 0 0) v) (f_X10_level (b + ad 10 0 0) v) := by
  have h12 := h.1.1.1.1.2
  have eg := c_isGroup (b := b) h (v := v)
  have em := m_isGroup (b := b) (T := T) h.1 (v := v)
  cases hb : inR v (nG (W.2.1 10 0 0 0)) with
  | false =>
    rw [hb] at eg em
    refine both_0 h (v := -2) ?_ ?_
    · unfold f_X9_level
      rw [oO_9 h9, ob2_i eg, if_pos (by decide)]
    · unfold f_X10_level
      rw [oO_10 h10, ob2_i em, if_pos (by decide)]
  | true =>
    rw [hb] at eg em
    obtain ⟨g, g1, rfl⟩ := inR_ex (by omega) hb
    have hk := h.1.1.1.2.1 g g1
    refine both_0 h (v := levO (W.2.1 10 0 0 0) g) ?_ ?_
    · unfold f_X9_level
      rw [oO_9 h9, ob2_i eg, if_neg (by decide), o9_1 h9, o7_10 h70, oa7_10 h70 (by omega), o4_5 (vo4 hz8 (by omega)), ob2_i (c_level (b := b) (vo1 hz8 (by omega)) (h.2.1.2.2.2.1 g g1).2.1 hk)]
    · unfold f_X10_level
      rw [oO_10 h10, ob2_i em, if_neg (by decide), ob2_i (m_levelOf (by omega) hk)]
theorem q_loneSpan {v : Int32} (h : inv T W) : both T T b W (f_X9_loneSpan (b + ad 9 0 0) v) (f_X10_loneSpan (b + ad 10 0 0) v) := by
  have h12 := h.1.1.1.1.2
  have eg := c_isGroup (b := b) h (v := v)
  have em := m_isGroup (b := b) (T := T) h.1 (v := v)
  cases hb : inR v (nG (W.2.1 10 0 0 0)) with
  | false =>
    rw [hb] at eg em
    refine both_0 h (v := -2) ?_ ?_
    · unfold f_X9_loneSpan
      rw [oO_9 h9, ob2_i eg, if_neg (by decide)]
    · unfold f_X10_loneSpan
      rw [oO_10 h10, ob2_i em, if_neg (by decide)]
  | true =>
    rw [hb] at eg em
    obtain ⟨g, g1, rfl⟩ := inR_ex (by omega) hb
    have hk := h.1.1.1.2.1 g g1
    have hgk := h.1.1.2.2.2.2.2.2.2 g g1
    have est : f_X4_stateAt (b + ad 4 0 g) (W.2.1 10 0 0 0 0) (wd b W) = some (stO (W.2.1 10 0 0 0) g, wd b W) := c_stateAt (b := b) (vo4 hz8 (by omega)) (h.2.1.2.2.2.1 g g1).1 (hgk.2.2.2.1.imp id And.left)
    by_cases h2 : stO (W.2.1 10 0 0 0) g = 2
    · refine both_0 h (v := -1) ?_ ?_
      · unfold f_X9_loneSpan
        rw [oO_9 h9, ob2_i eg, if_pos (by decide), o9_1 h9, o7_10 h70, oa7_10 h70 (by omega), o9_1 h9, o7_0 h70, h.2.1.1 0 (by omega), ob2_i est, if_neg (fun q => q h2)]
      · unfold f_X10_loneSpan
        rw [oO_10 h10, ob2_i em, if_pos (by decide), ob2_i (m_stateOf (by omega)), if_neg (fun q => q h2)]
    · obtain ⟨V, e1, e2⟩ := c_spanOf (b := b) (W := W) (t := 0) (i := 0) (g := g) (x := b + aa 7 0 0 7) (A := capR (W.2.1 10 0 0 0)) h80 (vo1 hz8 (by omega)) (h.2.1.2.2.2.1 g g1).2.1 hk h.1.1.cap (fun V hV p hp => by
        rw [a7_7 h70 hp, hV.2.1 7 0 0 7 (by unfold scr; omega), (h.2.1.2.1 p hp).1]
        rfl)
      have e2' : frQ qsQ W V := e2.mono (fun c i g k q => Or.inr (Or.inl ⟨q.1, q.2.1⟩))
      have hV := inv_c h e2'
      have er : V.2.1 10 0 0 0 = W.2.1 10 0 0 0 := e2.2.1 10 0 0 0 (by unfold scr; omega)
      refine both_q h (v := spn (W.2.1 10 0 0 0) g (capR (W.2.1 10 0 0 0))) (W1 := V) ?_ e2' ?_
      · unfold f_X9_loneSpan
        rw [oO_9 h9, ob2_i eg, if_pos (by decide), o9_1 h9, o7_10 h70, oa7_10 h70 (by omega), o9_1 h9, o7_0 h70, h.2.1.1 0 (by omega), ob2_i est, if_pos h2, o9_3 h9, o4_5 (vo4 hz8 (by omega)), o9_1 h9, o7_7 h70, ob2_i e1]
      · have em2 := m_isGroup (b := b) (T := T) hV.1 (v := nI g)
        rw [er, hb] at em2
        obtain ⟨V2, f1, f2⟩ := m_loneSpan (b := b) (W := V) (g := g) (by omega) (by rw [er]; exact hk) (by rw [er]; exact h.1.1.cap.k)
        rw [er] at f1
        refine ⟨V2, ?_, rqF_M f2 (by decide) (by decide) (f2.mi 8 (by decide)) (by decide) (fun q _ => by rw [f2.ma 0 (by decide)])⟩
        unfold f_X10_loneSpan
        rw [oO_10 h10, ob2_i em2, if_pos (by decide), ob2_i (m_stateOf (by omega)), er, if_pos h2, ob2_i f1]
end
