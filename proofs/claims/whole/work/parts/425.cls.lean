/-! the next order -/
def trn (fx : Nat → Nat) : Nat → Option Nat
  | 0 => none
  | k + 1 => if fx k ≤ fx (k + 1) then some k else trn fx k
def oth (fx : Nat → Nat) (t : Nat) : Nat → Nat
  | 0 => 0
  | j + 1 => if fx t ≤ fx (j + 1) then j + 1 else oth fx t j
def swN (fx : Nat → Nat) (x y : Nat) : Nat → Nat := fun z => if z = y then fx x else if z = x then fx y else fx z
def nxN (fx : Nat → Nat) (K : Nat) : Bool × (Nat → Nat) := match trn fx (K - 1) with
  | none => (false, fx)
  | some t => (true, if t + 1 < K - 1 then swN (swN fx t (oth fx t (K - 1))) (t + 1) (K - 1) else swN fx t (oth fx t (K - 1)))
def prm (K : Nat) : List (List Nat) := match K with
  | 1 => [[0]]
  | 2 => [[0, 1], [1, 0]]
  | 3 => [[0, 1, 2], [0, 2, 1], [1, 0, 2], [1, 2, 0], [2, 0, 1], [2, 1, 0]]
  | 4 => [[0, 1, 2, 3], [0, 1, 3, 2], [0, 2, 1, 3], [0, 2, 3, 1], [0, 3, 1, 2], [0, 3, 2, 1], [1, 0, 2, 3], [1, 0, 3, 2], [1, 2, 0, 3], [1, 2, 3, 0], [1, 3, 0, 2], [1, 3, 2, 0], [2, 0, 1, 3], [2, 0, 3, 1], [2, 1, 0, 3], [2, 1, 3, 0], [2, 3, 0, 1], [2, 3, 1, 0], [3, 0, 1, 2], [3, 0, 2, 1], [3, 1, 0, 2], [3, 1, 2, 0], [3, 2, 0, 1], [3, 2, 1, 0]]
  | _ => []
def pS (K j x : Nat) : Nat := ((prm K).getD j []).getD x 0
def fct (K : Nat) : Nat := match K with
  | 1 => 1
  | 2 => 2
  | 3 => 6
  | 4 => 24
  | _ => 1
theorem K14 {K : Nat} (h1 : 1 ≤ K) (h4 : K ≤ 4) : K = 1 ∨ K = 2 ∨ K = 3 ∨ K = 4 := by omega
theorem fct_le {K : Nat} (h1 : 1 ≤ K) (h4 : K ≤ 4) : 1 ≤ fct K ∧ fct K ≤ 24 := by
  rcases K14 h1 h4 with rfl | rfl | rfl | rfl <;> decide
theorem pS_nx {K : Nat} (h1 : 1 ≤ K) (h4 : K ≤ 4) : ∀ j, j < fct K → ((nxN (pS K j) K).1 = decide (j + 1 < fct K)) ∧ (j + 1 < fct K → ∀ x, x < K → (nxN (pS K j) K).2 x = pS K (j + 1) x) := by
  rcases K14 h1 h4 with rfl | rfl | rfl | rfl
  · decide
  · decide
  · decide
  · decide +kernel
theorem pS_0 {K : Nat} (h1 : 1 ≤ K) (h4 : K ≤ 4) : ∀ x, x < K → pS K 0 x = x := by
  rcases K14 h1 h4 with rfl | rfl | rfl | rfl <;> decide
theorem pS_p {K : Nat} (h1 : 1 ≤ K) (h4 : K ≤ 4) : ∀ j, j < fct K → (∀ x, x < K → pS K j x < K) ∧ (∀ x, x < K → ∀ y, y < K → pS K j x = pS K j y → x = y) ∧ ∀ k, k < K → ∃ x, x < K ∧ pS K j x = k := by
  rcases K14 h1 h4 with rfl | rfl | rfl | rfl
  · decide
  · decide
  · decide +kernel
  · decide +kernel
section
variable {a σ : Nat → Nat} {K : Nat}
theorem trn_rel (ha : ∀ x y, x < K → y < K → (a x ≤ a y ↔ x ≤ y)) (hs : ∀ x, x < K → σ x < K) : ∀ k, k + 1 ≤ K → trn (fun x => a (σ x)) k = trn σ k
  | 0, _ => rfl
  | k + 1, h => by
    rw [trn, trn, trn_rel ha hs k (by omega)]
    have e := ha (σ k) (σ (k + 1)) (hs k (by omega)) (hs (k + 1) (by omega))
    by_cases q : σ k ≤ σ (k + 1)
    · rw [if_pos q, if_pos (e.mpr q)]
    · rw [if_neg q, if_neg (fun z => q (e.mp z))]
theorem oth_rel (ha : ∀ x y, x < K → y < K → (a x ≤ a y ↔ x ≤ y)) (hs : ∀ x, x < K → σ x < K) {t : Nat} (ht : t < K) : ∀ j, j + 1 ≤ K → oth (fun x => a (σ x)) t j = oth σ t j
  | 0, _ => rfl
  | j + 1, h => by
    rw [oth, oth, oth_rel ha hs ht j (by omega)]
    have e := ha (σ t) (σ (j + 1)) (hs t ht) (hs (j + 1) (by omega))
    by_cases q : σ t ≤ σ (j + 1)
    · rw [if_pos q, if_pos (e.mpr q)]
    · rw [if_neg q, if_neg (fun z => q (e.mp z))]
theorem swN_rel (x y : Nat) : swN (fun z => a (σ z)) x y = fun z => a (swN σ x y z) := by
  funext z
  unfold swN
  split
  · rfl
  · split <;> rfl
theorem trn_lt {fx : Nat → Nat} : ∀ {k t : Nat}, trn fx k = some t → t < k ∧ fx t ≤ fx (t + 1)
  | 0, t, h => (by cases h)
  | k + 1, t, h => by
    rw [trn] at h
    by_cases q : fx k ≤ fx (k + 1)
    · rw [if_pos q] at h
      cases h
      exact ⟨Nat.lt_succ_self _, q⟩
    · rw [if_neg q] at h
      have := trn_lt h
      exact ⟨by omega, this.2⟩
theorem nx_rel (h1 : 1 ≤ K) (ha : ∀ x y, x < K → y < K → (a x ≤ a y ↔ x ≤ y)) (hs : ∀ x, x < K → σ x < K) : (nxN (fun x => a (σ x)) K).1 = (nxN σ K).1 ∧ ∀ x, (nxN (fun x => a (σ x)) K).2 x = a ((nxN σ K).2 x) := by
  unfold nxN
  rw [trn_rel ha hs (K - 1) (by omega)]
  cases h : trn σ (K - 1) with
  | none => exact ⟨rfl, fun _ => rfl⟩
  | some t =>
    have ht := (trn_lt h).1
    refine ⟨rfl, fun x => ?_⟩
    simp only
    rw [oth_rel ha hs (by omega) (K - 1) (by omega), swN_rel (a := a) (σ := σ) t (oth σ t (K - 1))]
    split
    · exact congrFun (swN_rel (a := a) (σ := swN σ t (oth σ t (K - 1))) (t + 1) (K - 1)) x
    · rfl
end
theorem oth_le {fx : Nat → Nat} {t : Nat} : ∀ j, oth fx t j ≤ j
  | 0 => Nat.le_refl _
  | j + 1 => by
    have := oth_le (fx := fx) (t := t) j
    rw [oth]
    split <;> omega
theorem sub1 (a : Nat) : nI a + (-1 : Int32) = nI a - 1 := by rw [Int32.sub_eq_add_neg]
theorem sub1s (a : Nat) : nI (a + 1) - (1 : Int32) = nI a := pk_sub (a := a + 1) (b := 1) (by omega)
theorem m1neg : nI 0 - (1 : Int32) < 0 := by decide
section
variable {b : Nat} {W : WD} {fx : Nat → Nat} {K : Nat}
theorem m_swaps {x y : Nat} (hx : x < K) (hy : y < K) (hK : K ≤ 4) (h9 : ∀ z, z < K → W.2.1 10 0 0 9 z = nI (fx z)) : ∃ A, f_X10_swaps (b + ad 10 0 0) (nI x) (nI y) (wd b W) = some ((), wd b (wsA W 10 0 0 9 A)) ∧ ∀ z, z < K → A z = nI (swN fx x y z) := by
  unfold f_X10_swaps
  rw [oO_10 h10, o10_9 h10, oa10_9 h10 (by omega), o10_9 h10, o10_9 h10, oa10_9 h10 (by omega), ot10_9 h10 (by omega), o10_9 h10, ot10_9 h10 (by omega), wsA_r, wsA_2, h9 x hx, h9 y hy]
  refine ⟨_, rfl, fun z hz => ?_⟩
  unfold swN
  by_cases q1 : z = y
  · rw [if_pos q1, q1, pk_us]
  · rw [if_neg q1, pk_un q1]
    by_cases q2 : z = x
    · rw [if_pos q2, q2, pk_us]
    · rw [if_neg q2, pk_un q2]
      exact h9 z hz
theorem m_next (h1 : 1 ≤ K) (hK : K ≤ 4) (hf : ∀ x, x < K → fx x < 12) (h10' : W.1 10 0 0 10 = nI K) (h9 : ∀ z, z < K → W.2.1 10 0 0 9 z = nI (fx z)) : ∃ A, f_X10_next (b + ad 10 0 0) (wd b W) = some (bI (nxN fx K).1, wd b (wsA W 10 0 0 9 A)) ∧ ∀ z, z < K → A z = nI ((nxN fx K).2 z) := by
  unfold f_X10_next
  rw [oO_10 h10, o10_10 h10, h10']
  have l7 : ∀ (a m : Nat) (k : Int32 → AH → Option (Int32 × AH)), a + 1 ≤ K → a < m → f_X10_next_L7 (b + ad 10 0 0) k m (nI a - 1) (wd b W) = k (match trn fx a with | none => -1 | some t => nI t) (wd b W) := by
    intro a
    induction a with
    | zero =>
      intro m k _ hm
      obtain ⟨m, rfl⟩ : ∃ q, m = q + 1 := ⟨m - 1, by omega⟩
      rw [f_X10_next_L7, if_pos m1neg]
      rfl
    | succ a ih =>
      intro m k ha hm
      obtain ⟨m, rfl⟩ : ∃ q, m = q + 1 := ⟨m - 1, by omega⟩
      have f1 := hf a (by omega)
      have f2 := hf (a + 1) (by omega)
      rw [sub1s, f_X10_next_L7, if_neg (show ¬ nI a < 0 from lt_n (b := 0) (by omega) (by omega)), o10_9 h10, oa10_9 h10 (by omega), o10_9 h10, nI_1, oa10_9 h10 (by omega), h9 a (by omega), h9 (a + 1) (by omega), trn]
      by_cases q : fx a ≤ fx (a + 1)
      · rw [if_pos (le_p q (by omega)), if_pos q]
      · rw [if_neg (le_n (by omega) (by omega)), if_neg q, sub1]
        exact ih m k (by omega) (by omega)
  have e2 : nI K - (2 : Int32) = nI (K - 1) - 1 := by rcases K14 h1 hK with rfl | rfl | rfl | rfl <;> rfl
  rw [e2, l7 (K - 1) FU _ (by omega) (by have := FUgt; omega)]
  unfold nxN
  cases ht : trn fx (K - 1) with
  | none =>
    try dsimp only
    unfold f_X10_next_J34
    rw [if_neg (by decide)]
    refine ⟨W.2.1 10 0 0 9, ?_, h9⟩
    rw [wsA_s]
    rfl
  | some t =>
    obtain ⟨t1, t2⟩ := trn_lt ht
    try dsimp only
    unfold f_X10_next_J34
    rw [if_pos (show (0 : Int32) ≤ nI t from le_p (a := 0) (by omega) (by omega)), o10_10 h10, h10', show nI K - (1 : Int32) = nI (K - 1) from pk_sub (b := 1) h1]
    have l47 : ∀ (j m : Nat) (k : Int32 → AH → Option (Int32 × AH)), t + 1 ≤ j → j < K → j < m → f_X10_next_L47 (b + ad 10 0 0) (nI t) k m (nI j) (wd b W) = k (nI (oth fx t j)) (wd b W) := by
      intro j
      induction j with
      | zero => intro m k h; omega
      | succ j ih =>
        intro m k hj hjK hm
        obtain ⟨m, rfl⟩ : ∃ q, m = q + 1 := ⟨m - 1, by omega⟩
        have f1 := hf t (by omega)
        have f2 := hf (j + 1) (by omega)
        rw [f_X10_next_L47, o10_9 h10, oa10_9 h10 (by omega), o10_9 h10, oa10_9 h10 (by omega), h9 t (by omega), h9 (j + 1) (by omega), oth]
        by_cases q : fx t ≤ fx (j + 1)
        · rw [if_pos (le_p q (by omega)), if_pos q]
        · rw [if_neg (le_n (by omega) (by omega)), if_neg q, pk_m1]
          have : j ≠ t := fun z => q (by rw [z]; exact t2)
          exact ih m k (by omega) (by omega) (by omega)
    rw [l47 (K - 1) FU _ (by omega) (by omega) (by have := FUgt; omega)]
    have hoth := oth_le (fx := fx) (t := t) (K - 1)
    obtain ⟨A, s1, s2⟩ := m_swaps (b := b) (W := W) (fx := fx) (x := t) (y := oth fx t (K - 1)) (by omega) (by omega) hK h9
    try dsimp only
    rw [ob2_i s1, o10_10 h10, wsA_1, h10', show nI K - (1 : Int32) = nI (K - 1) from pk_sub (b := 1) h1, nI_1]
    obtain ⟨m, hm⟩ : ∃ m, FU = m + 2 := ⟨4094, rfl⟩
    rw [hm, f_X10_next_L86]
    by_cases hlt : t + 1 < K - 1
    · obtain ⟨A2, u1, u2⟩ := m_swaps (b := b) (W := wsA W 10 0 0 9 A) (fx := swN fx t (oth fx t (K - 1))) (x := t + 1) (y := K - 1) (by omega) (by omega) hK (fun z hz => by rw [wsA_r]; exact s2 z hz)
      rw [wsA_2] at u1
      rw [if_neg (le_n hlt (by omega)), ob2_i u1, f_X10_next_L86, nI_1, show nI (K - 1) + (-1 : Int32) = nI (K - 2) by rw [sub1, show K - 1 = K - 2 + 1 by omega, sub1s], if_pos (le_p (by omega) (by omega)), if_pos hlt]
      exact ⟨A2, rfl, u2⟩
    · rw [if_pos (le_p (by omega) (by omega)), if_neg hlt]
      exact ⟨A, rfl, s2⟩
theorem c_swap {x y : Nat} (hx : x < K) (hy : y < K) (hK : K ≤ 4) (h9 : ∀ z, z < K → W.2.1 3 0 0 6 z = nI (fx z)) : ∃ A, f_X3_swap (b + ad 3 0 0) (nI x) (nI y) (wd b W) = some ((), wd b (wsA W 3 0 0 6 A)) ∧ ∀ z, z < K → A z = nI (swN fx x y z) := by
  unfold f_X3_swap
  rw [oO_3 h3, o3_6 h3, oa3_6 h3 (by omega), o3_6 h3, o3_6 h3, oa3_6 h3 (by omega), ot3_6 h3 (by omega), o3_6 h3, ot3_6 h3 (by omega), wsA_r, wsA_2, h9 x hx, h9 y hy]
  refine ⟨_, rfl, fun z hz => ?_⟩
  unfold swN
  by_cases q1 : z = y
  · rw [if_pos q1, q1, pk_us]
  · rw [if_neg q1, pk_un q1]
    by_cases q2 : z = x
    · rw [if_pos q2, q2, pk_us]
    · rw [if_neg q2, pk_un q2]
      exact h9 z hz
theorem c_next (h1 : 1 ≤ K) (hK : K ≤ 4) (hf : ∀ x, x < K → fx x < 12) (h9 : ∀ z, z < K → W.2.1 3 0 0 6 z = nI (fx z)) : ∃ A, f_X3_stepToNextOrder (b + ad 3 0 0) (nI K) (wd b W) = some (bI (nxN fx K).1, wd b (wsA W 3 0 0 6 A)) ∧ ∀ z, z < K → A z = nI ((nxN fx K).2 z) := by
  unfold f_X3_stepToNextOrder
  rw [oO_3 h3]
  have l7 : ∀ (a m : Nat) (k : Int32 → AH → Option (Int32 × AH)), a + 1 ≤ K → a < m → f_X3_stepToNextOrder_L4 (b + ad 3 0 0) (nI K) k m (nI a - 1) (wd b W) = k (match trn fx a with | none => -1 | some t => nI t) (wd b W) := by
    intro a
    induction a with
    | zero =>
      intro m k _ hm
      obtain ⟨m, rfl⟩ : ∃ q, m = q + 1 := ⟨m - 1, by omega⟩
      rw [f_X3_stepToNextOrder_L4, if_pos m1neg]
      rfl
    | succ a ih =>
      intro m k ha hm
      obtain ⟨m, rfl⟩ : ∃ q, m = q + 1 := ⟨m - 1, by omega⟩
      have f1 := hf a (by omega)
      have f2 := hf (a + 1) (by omega)
      rw [sub1s, f_X3_stepToNextOrder_L4, if_neg (show ¬ nI a < 0 from lt_n (b := 0) (by omega) (by omega)), o3_6 h3, oa3_6 h3 (by omega), o3_6 h3, nI_1, oa3_6 h3 (by omega), h9 a (by omega), h9 (a + 1) (by omega), trn]
      by_cases q : fx a ≤ fx (a + 1)
      · rw [if_pos (le_p q (by omega)), if_pos q]
      · rw [if_neg (le_n (by omega) (by omega)), if_neg q, sub1]
        exact ih m k (by omega) (by omega)
  have e2 : nI K - (2 : Int32) = nI (K - 1) - 1 := by rcases K14 h1 hK with rfl | rfl | rfl | rfl <;> rfl
  rw [e2, l7 (K - 1) FU _ (by omega) (by have := FUgt; omega)]
  unfold nxN
  cases ht : trn fx (K - 1) with
  | none =>
    try dsimp only
    unfold f_X3_stepToNextOrder_J31
    rw [if_neg (by decide)]
    refine ⟨W.2.1 3 0 0 6, ?_, h9⟩
    rw [wsA_s]
    rfl
  | some t =>
    obtain ⟨t1, t2⟩ := trn_lt ht
    try dsimp only
    unfold f_X3_stepToNextOrder_J31
    rw [if_pos (show (0 : Int32) ≤ nI t from le_p (a := 0) (by omega) (by omega)), show nI K - (1 : Int32) = nI (K - 1) from pk_sub (b := 1) h1]
    have l47 : ∀ (j m : Nat) (k : Int32 → AH → Option (Int32 × AH)), t + 1 ≤ j → j < K → j < m → f_X3_stepToNextOrder_L41 (b + ad 3 0 0) (nI K) (nI t) k m (nI j) (wd b W) = k (nI (oth fx t j)) (wd b W) := by
      intro j
      induction j with
      | zero => intro m k h; omega
      | succ j ih =>
        intro m k hj hjK hm
        obtain ⟨m, rfl⟩ : ∃ q, m = q + 1 := ⟨m - 1, by omega⟩
        have f1 := hf t (by omega)
        have f2 := hf (j + 1) (by omega)
        rw [f_X3_stepToNextOrder_L41, if_neg (le_n (by omega) (by omega)), o3_6 h3, oa3_6 h3 (by omega), o3_6 h3, oa3_6 h3 (by omega), h9 t (by omega), h9 (j + 1) (by omega), oth]
        by_cases q : fx t ≤ fx (j + 1)
        · rw [if_pos (le_p q (by omega)), if_pos q]
        · rw [if_neg (le_n (by omega) (by omega)), if_neg q, pk_m1]
          have : j ≠ t := fun z => q (by rw [z]; exact t2)
          exact ih m k (by omega) (by omega) (by omega)
    rw [l47 (K - 1) FU _ (by omega) (by omega) (by have := FUgt; omega)]
    have hoth := oth_le (fx := fx) (t := t) (K - 1)
    obtain ⟨A, s1, s2⟩ := c_swap (b := b) (W := W) (fx := fx) (x := t) (y := oth fx t (K - 1)) (by omega) (by omega) hK h9
    try dsimp only
    unfold f_X3_stepToNextOrder_J67
    rw [ob2_i s1, show nI K - (1 : Int32) = nI (K - 1) from pk_sub (b := 1) h1, nI_1]
    obtain ⟨m, hm⟩ : ∃ m, FU = m + 2 := ⟨4094, rfl⟩
    rw [hm, f_X3_stepToNextOrder_L83]
    by_cases hlt : t + 1 < K - 1
    · obtain ⟨A2, u1, u2⟩ := c_swap (b := b) (W := wsA W 3 0 0 6 A) (fx := swN fx t (oth fx t (K - 1))) (x := t + 1) (y := K - 1) (by omega) (by omega) hK (fun z hz => by rw [wsA_r]; exact s2 z hz)
      rw [wsA_2] at u1
      rw [if_neg (le_n hlt (by omega)), ob2_i u1, f_X3_stepToNextOrder_L83, nI_1, show nI (K - 1) + (-1 : Int32) = nI (K - 2) by rw [sub1, show K - 1 = K - 2 + 1 by omega, sub1s], if_pos (le_p (by omega) (by omega)), if_pos hlt]
      exact ⟨A2, rfl, u2⟩
    · rw [if_pos (le_p (by omega) (by omega)), if_neg hlt]
      exact ⟨A, rfl, s2⟩
end
