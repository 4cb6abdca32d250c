/-! the reference: runs of ticks -/
def mdW (W : WD) (md : Option ((Nat → Nat) × Nat)) : Prop := match md with
  | none => W.1 10 0 0 8 = 0
  | some fk => W.1 10 0 0 8 = 1 ∧ W.1 10 0 0 10 = nI fk.2 ∧ ∀ x, x < fk.2 → W.2.1 10 0 0 9 x = nI (fk.1 x)
theorem mdW_K {W : WD} {md : Option ((Nat → Nat) × Nat)} (h : mdW W md) (hv : mdV md (W.2.1 10 0 0 0)) : mdK W (dlOf md) (ordOf md (W.2.1 10 0 0 0)).1 (ordOf md (W.2.1 10 0 0 0)).2 := by
  cases md with
  | none => exact Or.inl ⟨rfl, h, rfl, rfl⟩
  | some fk =>
    obtain ⟨P, p1, p2, p3⟩ := hv
    obtain ⟨h1, h2, h3⟩ := h
    exact Or.inr ⟨rfl, h1, fk.1, fk.2, p1, h2, fun x hx => ⟨h3 x hx, (p2 x hx).1⟩, rfl, rfl⟩
def tkF (W W' : WD) : Prop := frM [7] [0, 4, 5, 6, 13, 14] [11, 12] W W'
theorem mdW.fr {W V : WD} {md : Option ((Nat → Nat) × Nat)} (h : mdW W md) (hf : tkF W V) : mdW V md := by
  cases md with
  | none => exact (hf.mi 8 (by decide)).trans h
  | some fk =>
    obtain ⟨h1, h2, h3⟩ := h
    exact ⟨(hf.mi 8 (by decide)).trans h1, (hf.mi 10 (by decide)).trans h2, fun x hx => by rw [hf.ma 9 (by decide)]; exact h3 x hx⟩
def sumE (r : Nat → Int32) (n : Nat) : Int32 := sumI (fun g => if gO r g 3 = -1 then 0 else gO r g 3 - gO r g 0) n
def totP (v : Int32) (ρ : Nat → Nat → Int32) (n : Nat) : Prop := n ≤ 300 ∧ (∀ k, k < n → 0 < opN (ρ k) (nG (ρ k))) ∧ ((opN (ρ n) (nG (ρ n)) = 0 ∧ v = sumE (ρ n) (nG (ρ n))) ∨ (n = 300 ∧ 0 < opN (ρ n) (nG (ρ n)) ∧ v = -1))
def stN (r : Nat → Int32) (s : Int32) (n : Nat) : Nat := sumN (fun g => if stO r g = s then 1 else 0) n
theorem stN_le (r : Nat → Int32) (s : Int32) : ∀ n, stN r s n ≤ n
  | 0 => Nat.le_refl _
  | n + 1 => by
    have ih := stN_le r s n
    have e : stN r s (n + 1) = stN r s n + (if stO r n = s then 1 else 0) := rfl
    rw [e]
    split <;> omega
theorem stN_op {r : Nat → Int32} {T : Nat} : ∀ n, (∀ g, g < n → grK r g T) → stN r 0 n + stN r 1 n = opN r n
  | 0, _ => rfl
  | n + 1, h => by
    have ih := stN_op n (fun g hg => h g (by omega))
    have e0 : stN r 0 (n + 1) = stN r 0 n + (if stO r n = 0 then 1 else 0) := rfl
    have e1 : stN r 1 (n + 1) = stN r 1 n + (if stO r n = 1 then 1 else 0) := rfl
    have e2 : opN r (n + 1) = opN r n + (if opB r n = true then 1 else 0) := rfl
    have h3 := opB_st (h n (by omega))
    rw [e0, e1, e2]
    by_cases q1 : stO r n = 1
    · rw [if_pos q1, if_neg (by rw [q1]; decide), if_pos (h3.mpr (Or.inl q1))]
      omega
    · by_cases q0 : stO r n = 0
      · rw [if_neg q1, if_pos q0, if_pos (h3.mpr (Or.inr q0))]
        omega
      · rw [if_neg q1, if_neg q0, if_neg (fun z => (h3.mp z).elim q1 q0)]
        omega
section
variable {b : Nat} {W : WD}
theorem m_many {r : Nat → Int32} (hr : W.2.1 10 0 0 0 = r) (h6 : r 6 = nI (nG r)) (h12 : nG r ≤ 12) {s : Int32} : f_X10_many (b + ad 10 0 0) s (wd b W) = some (nI (stN r s (nG r)), wd b W) := by
  unfold f_X10_many
  rw [oO_10 h10]
  refine loopN (fun m j => f_X10_many_L4 (b + ad 10 0 0) s (fun v7 N8 => some (v7, N8)) m (nI (stN r s j)) (nI j) (wd b W)) (nG r) ?_ ?_ FU 0 (by omega) (by have := FUgt; omega)
  · intro m j hj
    have e1 : stN r s (j + 1) = stN r s j + (if stO r j = s then 1 else 0) := rfl
    try dsimp only
    rw [f_X10_many_L4, o10_0 h10, oR0 6 6 rfl (by omega), hr, h6, if_neg (le_n hj (by omega)), ob2_i (m_stateOf (by omega)), hr, nI_1, e1]
    by_cases q : stO r j = s
    · rw [if_neg (fun z => z q), if_pos q, nI_1]
    · rw [if_pos q, if_neg q, Int32.add_zero]
      rfl
  · intro m
    try dsimp only
    rw [f_X10_many_L4, o10_0 h10, oR0 6 6 rfl (by omega), hr, h6, if_pos (le_p (Nat.le_refl _) (by omega))]
theorem m_left {r : Nat → Int32} {T : Nat} (hr : W.2.1 10 0 0 0 = r) (ho : okR r T) : f_X10_left (b + ad 10 0 0) (wd b W) = some (nI (opN r (nG r)), wd b W) := by
  unfold f_X10_left
  rw [oO_10 h10, ob2_i (m_many hr ho.1.1.1 ho.1.1.2), ob2_i (m_many hr ho.1.1.1 ho.1.1.2), nI_add, stN_op _ (fun g hg => ho.2.2.2.2.2.2.2 g hg)]
theorem m_tick1 {r : Nat → Int32} {T : Nat} {md : Option ((Nat → Nat) × Nat)} (hr : W.2.1 10 0 0 0 = r) (ho : okR r T) (hT : T ≤ 900000) (hm : mdW W md) (hv : mdV md r) : ∃ W', f_X10_ticks (b + ad 10 0 0) (wd b W) = some ((), wd b W') ∧ tkF W W' ∧ tkS md r (W'.2.1 10 0 0 0) := by
  have hK := mdW_K hm (by rw [hr]; exact hv)
  rw [hr] at hK
  obtain ⟨W', e1, e2, e3⟩ := m_ticks (b := b) hr ho.1 (ho.tm hT) ho.2.2.1 ho.ld hK
  exact ⟨W', e1, e2, e3⟩
/-- a chain, one tick longer -/
def extC (ρ : Nat → Nat → Int32) (k : Nat) (r : Nat → Int32) : Nat → Nat → Int32 := fun j => if j ≤ k then ρ j else r
theorem extC_le {ρ : Nat → Nat → Int32} {k j : Nat} {r : Nat → Int32} (h : j ≤ k) : extC ρ k r j = ρ j := if_pos h
theorem extC_s {ρ : Nat → Nat → Int32} {k : Nat} {r : Nat → Int32} : extC ρ k r (k + 1) = r := if_neg (by omega)
theorem extC_chn {md : Option ((Nat → Nat) × Nat)} {ρ : Nat → Nat → Int32} {k : Nat} {r : Nat → Int32} (h : chn md ρ k) (hs : tkS md (ρ k) r) : chn md (extC ρ k r) (k + 1) := by
  intro j hj
  rcases Nat.lt_or_ge j k with q | q
  · rw [extC_le (by omega), extC_le (by omega)]
    exact h j q
  · rw [show j = k by omega, extC_le (Nat.le_refl _), extC_s]
    exact hs
theorem m_passL {r : Nat → Int32} {T n : Nat} (hr : W.2.1 10 0 0 0 = r) (ho : okR r T) (hn : n ≤ 500) (hT : T + n ≤ 900000) (hm : mdW W none) {k : AH → Option (Int32 × AH)} : ∃ W' ρ, f_X10_pass_L21 (b + ad 10 0 0) (nI n) k FU (0 : Int32) (wd b W) = k (wd b W') ∧ tkF W W' ∧ ρ 0 = r ∧ chn none ρ n ∧ W'.2.1 10 0 0 0 = ρ n := by
  have key := loopE (fun m j (s : WD × (Nat → Nat → Int32)) => f_X10_pass_L21 (b + ad 10 0 0) (nI n) k m (nI j) (wd b s.1)) n (fun j s => tkF W s.1 ∧ s.2 0 = r ∧ chn none s.2 j ∧ s.1.2.1 10 0 0 0 = s.2 j) (fun y => ∃ W' ρ, y = k (wd b W') ∧ tkF W W' ∧ ρ 0 = r ∧ chn none ρ n ∧ W'.2.1 10 0 0 0 = ρ n) ?_ ?_ FU 0 (W, fun _ => r) (by omega) (by have := FUgt; omega) ⟨frM.rf, rfl, fun j hj => absurd hj (Nat.not_lt_zero j), hr⟩
  · exact key
  · rintro m j ⟨V, ρ⟩ hj ⟨k1, k2, k3, k4⟩
    simp only at k1 k2 k3 k4
    obtain ⟨a1, a2, a3⟩ := chn_ok (T := T) (by rw [k2]; exact ho) (md := none) trivial (by omega) k3 j (Nat.le_refl _)
    obtain ⟨V', e1, e2, e3⟩ := m_tick1 (b := b) (W := V) (md := none) k4 a1 (by omega) (hm.fr k1) a2
    try dsimp only
    rw [f_X10_pass_L21, if_neg (le_n hj (by omega)), ob2_i e1, nI_1]
    exact ⟨(V', extC ρ j (V'.2.1 10 0 0 0)), ⟨frM.tr k1 e2, by simp only; rw [extC_le (Nat.zero_le _)]; exact k2, extC_chn k3 e3, by simp only; rw [extC_s]⟩, rfl⟩
  · rintro m ⟨V, ρ⟩ ⟨k1, k2, k3, k4⟩
    try dsimp only
    rw [f_X10_pass_L21, if_pos (le_p (Nat.le_refl _) (by omega))]
    exact ⟨V, ρ, rfl, k1, k2, k3, k4⟩
/-- what outlook's loop leaves -/
def outP (g : Nat) (ρ : Nat → Nat → Int32) (n : Nat) : Prop := n ≤ 1000 ∧ (∀ k, k < n → opB (ρ k) g = true) ∧ (opB (ρ n) g = false ∨ n = 1000)
theorem st_lt2 {r : Nat → Int32} {T g : Nat} (h : grK r g T) : (2 : Int32) ≤ stO r g ↔ opB r g = false := by
  have h1 := opB_st h
  have h2 : stO r g = 0 ∨ stO r g = 1 ∨ stO r g = 2 ∨ stO r g = 3 := by
    unfold stO
    repeat' split
    all_goals simp
  cases hb : opB r g with
  | true =>
    rcases h1.mp hb with q | q <;> rw [q] <;> decide
  | false =>
    rcases h2 with q | q | q | q
    · rw [h1.mpr (Or.inr q)] at hb; cases hb
    · rw [h1.mpr (Or.inl q)] at hb; cases hb
    · rw [q]; decide
    · rw [q]; decide
theorem m_outL {r : Nat → Int32} {T g : Nat} (hr : W.2.1 10 0 0 0 = r) (ho : okR r T) (hT : T + 1000 ≤ 900000) (hm : mdW W none) (hg : g < nG r) {k : AH → Option (Int32 × AH)} : ∃ W' ρ n, f_X10_outlook_L21 (b + ad 10 0 0) (nI g) k FU (0 : Int32) (wd b W) = k (wd b W') ∧ tkF W W' ∧ ρ 0 = r ∧ chn none ρ n ∧ W'.2.1 10 0 0 0 = ρ n ∧ outP g ρ n := by
  have h12 := ho.1.1.2
  have key := loopX (fun m j (s : WD × (Nat → Nat → Int32)) => f_X10_outlook_L21 (b + ad 10 0 0) (nI g) k m (nI j) (wd b s.1)) 1000 (fun j s => (tkF W s.1 ∧ s.2 0 = r ∧ chn none s.2 j ∧ s.1.2.1 10 0 0 0 = s.2 j) ∧ ∀ q, q < j → opB (s.2 q) g = true) (fun y => ∃ W' ρ n, y = k (wd b W') ∧ tkF W W' ∧ ρ 0 = r ∧ chn none ρ n ∧ W'.2.1 10 0 0 0 = ρ n ∧ outP g ρ n) ?_ ?_ FU 0 (W, fun _ => r) (by omega) (by have := FUgt; omega) ⟨⟨frM.rf, rfl, fun j hj => absurd hj (Nat.not_lt_zero j), hr⟩, fun q hq => absurd hq (Nat.not_lt_zero q)⟩
  · exact key
  · rintro m j ⟨V, ρ⟩ hj ⟨⟨k1, k2, k3, k4⟩, k5⟩
    simp only at k1 k2 k3 k4 k5
    obtain ⟨a1, a2, a3⟩ := chn_ok (T := T) (by rw [k2]; exact ho) (md := none) trivial (by omega) k3 j (Nat.le_refl _)
    have hg' : g < nG (ρ j) := by rw [a3, k2]; exact hg
    have hst := st_lt2 (a1.2.2.2.2.2.2.2 g hg')
    try dsimp only
    rw [f_X10_outlook_L21, li 1000, if_neg (le_n hj (by omega)), ob2_i (m_stateOf (by omega)), k4]
    cases hb : opB (ρ j) g with
    | false =>
      right
      rw [if_pos (hst.mpr hb)]
      exact ⟨V, ρ, j, rfl, k1, k2, k3, k4, by omega, k5, Or.inl hb⟩
    | true =>
      left
      obtain ⟨V', e1, e2, e3⟩ := m_tick1 (b := b) (W := V) (md := none) k4 a1 (by omega) (hm.fr k1) a2
      rw [if_neg (fun z => by rw [hst.mp z] at hb; cases hb), ob2_i e1, nI_1]
      refine ⟨(V', extC ρ j (V'.2.1 10 0 0 0)), ⟨⟨frM.tr k1 e2, by simp only; rw [extC_le (Nat.zero_le _)]; exact k2, extC_chn k3 e3, by simp only; rw [extC_s]⟩, fun q hq => ?_⟩, rfl⟩
      simp only
      rw [extC_le (by omega)]
      rcases Nat.lt_or_ge q j with z | z
      · exact k5 q z
      · rw [show q = j by omega]; exact hb
  · rintro m ⟨V, ρ⟩ ⟨⟨k1, k2, k3, k4⟩, k5⟩
    try dsimp only
    rw [f_X10_outlook_L21, li 1000, if_pos (le_p (Nat.le_refl _) (by omega))]
    exact ⟨V, ρ, 1000, rfl, k1, k2, k3, k4, by omega, k5, Or.inr rfl⟩
theorem m_sumE {r : Nat → Int32} (hr : W.2.1 10 0 0 0 = r) (h6 : r 6 = nI (nG r)) (h12 : nG r ≤ 12) {v : Int32} {k : Int32 → AH → Option (Int32 × AH)} : f_X10_totalOf_L37 (b + ad 10 0 0) v k FU (0 : Int32) (0 : Int32) (wd b W) = k (sumE r (nG r)) (wd b W) := by
  refine loopN (fun m j => f_X10_totalOf_L37 (b + ad 10 0 0) v k m (sumE r j) (nI j) (wd b W)) (nG r) ?_ ?_ FU 0 (by omega) (by have := FUgt; omega)
  · intro m j hj
    have e1 : sumE r (j + 1) = sumE r j + (if gO r j 3 = -1 then 0 else gO r j 3 - gO r j 0) := rfl
    try dsimp only
    rw [f_X10_totalOf_L37, o10_0 h10, oR0 6 6 rfl (by omega), hr, h6, if_neg (le_n hj (by omega)), ob2_i (m_ofk 3 3 rfl (by omega)), hr, nI_1, e1]
    by_cases q : gO r j 3 = -1
    · rw [if_neg (fun z => z q), if_pos q]
    · rw [if_pos q, if_neg q, ob2_i (m_ofk 3 3 rfl (by omega)), ob2_i (m_ofk 0 0 rfl (by omega)), hr]
  · intro m
    try dsimp only
    rw [f_X10_totalOf_L37, o10_0 h10, oR0 6 6 rfl (by omega), hr, h6, if_pos (le_p (Nat.le_refl _) (by omega))]
theorem m_totalOf {r : Nat → Int32} {T : Nat} {md : Option ((Nat → Nat) × Nat)} (hr : W.2.1 10 0 0 0 = r) (ho : okR r T) (hT : T + 300 ≤ 900000) (hm : mdW W md) (hv : mdV md r) : ∃ v W' ρ n, f_X10_totalOf (b + ad 10 0 0) (wd b W) = some (v, wd b W') ∧ tkF W W' ∧ ρ 0 = r ∧ chn md ρ n ∧ W'.2.1 10 0 0 0 = ρ n ∧ totP v ρ n := by
  unfold f_X10_totalOf
  rw [oO_10 h10]
  -- behind the loop
  have tail : ∀ (V : WD) (ρ : Nat → Nat → Int32) (j c : Nat), tkF W V → ρ 0 = r → chn md ρ j → V.2.1 10 0 0 0 = ρ j → j ≤ 300 → c ≤ 301 → (∀ q, q < j → 0 < opN (ρ q) (nG (ρ q))) → ((c ≤ 300 ∧ opN (ρ j) (nG (ρ j)) = 0) ∨ (c = 301 ∧ j = 300 ∧ 0 < opN (ρ j) (nG (ρ j)))) → ∃ v W' ρ n, f_X10_totalOf_L37 (b + ad 10 0 0) (nI c) (fun v19 N20 => if nI c ≤ (300 : Int32) then some (v19, N20) else some ((-1 : Int32), N20)) FU (0 : Int32) (0 : Int32) (wd b V) = some (v, wd b W') ∧ tkF W W' ∧ ρ 0 = r ∧ chn md ρ n ∧ W'.2.1 10 0 0 0 = ρ n ∧ totP v ρ n := by
    intro V ρ j c k1 k2 k3 k4 k5 kc k6 k7
    obtain ⟨a1, a2, a3⟩ := chn_ok (T := T) (by rw [k2]; exact ho) (by rw [k2]; exact hv) (by omega) k3 j (Nat.le_refl _)
    rw [m_sumE k4 a1.1.1.1 a1.1.1.2]
    rcases k7 with ⟨q1, q2⟩ | ⟨q1, q2, q3⟩
    · rw [if_pos (show nI c ≤ 300 from le_p (b := 300) q1 (by omega))]
      exact ⟨_, V, ρ, j, rfl, k1, k2, k3, k4, k5, k6, Or.inl ⟨q2, rfl⟩⟩
    · rw [if_neg (show ¬ nI c ≤ 300 from le_n (b := 300) (by omega) (by omega))]
      exact ⟨_, V, ρ, j, rfl, k1, k2, k3, k4, k5, k6, Or.inr ⟨q2, q3, rfl⟩⟩
  refine loopX (fun m j (s : WD × (Nat → Nat → Int32)) => f_X10_totalOf_L2 (b + ad 10 0 0) (fun v7 N8 => f_X10_totalOf_L37 (b + ad 10 0 0) v7 (fun v19 N20 => if v7 ≤ (300 : Int32) then some (v19, N20) else some ((-1 : Int32), N20)) FU (0 : Int32) (0 : Int32) N8) m (nI j) (wd b s.1)) 301 (fun j s => (tkF W s.1 ∧ s.2 0 = r ∧ chn md s.2 (min j 300) ∧ s.1.2.1 10 0 0 0 = s.2 (min j 300)) ∧ ∀ q, q < j → 0 < opN (s.2 q) (nG (s.2 q))) (fun y => ∃ v W' ρ n, y = some (v, wd b W') ∧ tkF W W' ∧ ρ 0 = r ∧ chn md ρ n ∧ W'.2.1 10 0 0 0 = ρ n ∧ totP v ρ n) ?_ ?_ FU 0 (W, fun _ => r) (by omega) (by have := FUgt; omega) ⟨⟨frM.rf, rfl, fun j hj => absurd hj (by omega), hr⟩, fun q hq => absurd hq (Nat.not_lt_zero q)⟩
  · rintro m j ⟨V, ρ⟩ hj ⟨⟨k1, k2, k3, k4⟩, k5⟩
    simp only at k1 k2 k3 k4 k5
    rw [show min j 300 = j by omega] at k3 k4
    obtain ⟨a1, a2, a3⟩ := chn_ok (T := T) (by rw [k2]; exact ho) (by rw [k2]; exact hv) (by omega) k3 j (Nat.le_refl _)
    have hle := opN_le (ρ j) (nG (ρ j))
    have h12 := a1.1.1.2
    try dsimp only
    rw [f_X10_totalOf_L2, if_neg (show ¬ (300 : Int32) < nI j from lt_n (a := 300) (b := j) (by omega) (by omega)), ob2_i (m_left k4 a1)]
    rcases Nat.eq_zero_or_pos (opN (ρ j) (nG (ρ j))) with hz | hz
    · right
      rw [hz, if_pos (by decide)]
      exact tail V ρ j j k1 k2 k3 k4 (by omega) (by omega) k5 (Or.inl ⟨by omega, hz⟩)
    · left
      rw [if_neg (show ¬ nI (opN (ρ j) (nG (ρ j))) ≤ 0 from le_n (b := 0) hz (by omega))]
      have all : ∀ q, q < j + 1 → 0 < opN (ρ q) (nG (ρ q)) := by
        intro q hq
        rcases Nat.lt_or_ge q j with z | z
        · exact k5 q z
        · rw [show q = j by omega]; exact hz
      rcases Nat.lt_or_ge j 300 with hj3 | hj3
      · obtain ⟨V', e1, e2, e3⟩ := m_tick1 (b := b) (W := V) (md := md) k4 a1 (by omega) (hm.fr k1) a2
        rw [if_neg (show ¬ (300 : Int32) ≤ nI j from le_n (a := 300) hj3 (by omega)), ob2_i e1, nI_1]
        refine ⟨(V', extC ρ j (V'.2.1 10 0 0 0)), ⟨⟨frM.tr k1 e2, by simp only; rw [extC_le (Nat.zero_le _)]; exact k2, ?_, ?_⟩, fun q hq => ?_⟩, rfl⟩
        · rw [show min (j + 1) 300 = j + 1 by omega]
          exact extC_chn k3 e3
        · simp only
          rw [show min (j + 1) 300 = j + 1 by omega, extC_s]
        · simp only
          rw [extC_le (by omega)]
          exact all q hq
      · rw [if_pos (show (300 : Int32) ≤ nI j from le_p (a := 300) hj3 (by omega)), nI_1]
        refine ⟨(V, ρ), ⟨⟨k1, k2, ?_, ?_⟩, all⟩, rfl⟩
        · rw [show min (j + 1) 300 = j by omega]
          exact k3
        · rw [show min (j + 1) 300 = j by omega]
          exact k4
  · rintro m ⟨V, ρ⟩ ⟨⟨k1, k2, k3, k4⟩, k5⟩
    simp only at k1 k2 k3 k4 k5
    rw [show min 301 300 = 300 by omega] at k3 k4
    try dsimp only
    rw [f_X10_totalOf_L2, if_pos (by decide)]
    exact tail V ρ 300 301 k1 k2 k3 k4 (by omega) (by omega) (fun q hq => k5 q (by omega)) (Or.inr ⟨rfl, rfl, k5 300 (by omega)⟩)
end
