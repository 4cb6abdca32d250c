/-! rows that agree -/
def capK (r : Nat → Int32) : Prop := ∀ p, p < 16 → capR r p = nI (vN (capR r p)) ∧ vN (capR r p) ≤ 1000
theorem okR_w {r r' : Nat → Int32} {T : Nat} (h : okR r T) (hq : ∀ q, q < 1182 → q ≠ 1 → q ≠ 2 → q ≠ 3 → ¬ (10 ≤ q ∧ q < 26) → r' q = r q) (h1 : r' 1 = nI (vN (r' 1)) ∧ vN (r' 1) ≤ 6) (h2 : r' 2 = 0 ∨ r' 2 = 1) (h3 : r' 3 = 0 ∨ r' 3 = 1) (hc : capK r') : okR r' T := by
  obtain ⟨⟨⟨g1, g2⟩, g3, g4⟩, k2, k3, k4, ⟨k5, k5'⟩, k6, k7, k8⟩ := h
  have eG : nG r' = nG r := nG_cg (hq 6 (by omega) (by omega) (by omega) (by omega) (by omega))
  have eg : ∀ g k, g < 12 → k < 6 → gO r' g k = gO r g k := fun g k hg hk => hq _ (by omega) (by omega) (by omega) (by omega) (by omega)
  have ef : ∀ g f k, g < 12 → f < 16 → k < 5 → fO r' g f k = fO r g f k := fun g f k hg hf hk => hq _ (by omega) (by omega) (by omega) (by omega) (by omega)
  have eF : ∀ g, g < 12 → nF r' g = nF r g := fun g hg => nF_cg (eg g 5 hg (by omega))
  refine ⟨⟨⟨by rw [eG, hq 6 (by omega) (by omega) (by omega) (by omega) (by omega)]; exact g1, by rw [eG]; exact g2⟩, fun g hg => ?_, fun p hp => ⟨(hc p hp).1, vN_lt _⟩⟩, by rw [hq 0 (by omega) (by omega) (by omega) (by omega) (by omega)]; exact k2, ?_, by rw [eG, hq 5 (by omega) (by omega) (by omega) (by omega) (by omega)]; exact k4, ⟨h1, k5'.cg (hq 7 (by omega) (by omega) (by omega) (by omega) (by omega)) (fun q q1 q2 => hq q (by omega) (by omega) (by omega) (by omega) (by omega))⟩, ⟨h2, h3⟩, fun p hp => (hc p hp).2, fun g hg => ?_⟩
  · rw [eG] at hg
    have hk := g3 g hg
    have h16 := hk.2.1
    rw [eF g (by omega)]
    refine ⟨by rw [eg g 5 (by omega) (by omega)]; exact hk.1, h16, fun f hf => ?_⟩
    rw [ef g f 0 (by omega) (by omega) (by omega), ef g f 1 (by omega) (by omega) (by omega), ef g f 3 (by omega) (by omega) (by omega)]
    exact hk.2.2 f hf
  · unfold okE nE
    rw [hq 8 (by omega) (by omega) (by omega) (by omega) (by omega)]
    exact k3
  · rw [eG] at hg
    have h16 := (g3 g hg).2.1
    obtain ⟨c1, c2, c3, c4, c5, c6⟩ := k8 g hg
    unfold grK
    rw [eF g (by omega), eg g 0 (by omega) (by omega), eg g 1 (by omega) (by omega), eg g 2 (by omega) (by omega), eg g 3 (by omega) (by omega), eg g 4 (by omega) (by omega)]
    refine ⟨c1, c2, c3, c4, fun f hf => ?_, ?_⟩
    · rw [ef g f 2 (by omega) (by omega) (by omega), ef g f 3 (by omega) (by omega) (by omega)]
      exact c5 f hf
    · rcases c6 with ⟨q1, f, f1, f2⟩ | ⟨q1, q2, q3⟩
      · exact Or.inl ⟨q1, f, f1, by rw [ef g f 3 (by omega) (by omega) (by omega)]; exact f2⟩
      · exact Or.inr ⟨q1, q2, fun f hf => by rw [ef g f 3 (by omega) (by omega) (by omega)]; exact q3 f hf⟩
theorem okR.ck {r : Nat → Int32} {T : Nat} (h : okR r T) : capK r := fun p hp => ⟨(h.1.2.2 p hp).1, h.2.2.2.2.2.2.1 p hp⟩
theorem okR_cg {r r' : Nat → Int32} {T : Nat} (h : okR r T) (hq : ∀ q, q < 1182 → r' q = r q) : okR r' T := by
  have hc : capK r' := fun p hp => by
    have e : capR r' p = capR r p := hq _ (by omega)
    rw [e]
    exact h.ck p hp
  refine okR_w h (fun q h1 _ _ _ _ => hq q h1) ?_ ?_ ?_ hc
  · rw [hq 1 (by omega)]; exact h.2.2.2.2.1.1
  · rw [hq 2 (by omega)]; exact h.2.2.2.2.2.1.1
  · rw [hq 3 (by omega)]; exact h.2.2.2.2.2.1.2
theorem okR_mono {r : Nat → Int32} {T T' : Nat} (h : okR r T) (hT : T ≤ T') : okR r T' := by
  obtain ⟨k1, k2, k3, k4, k5, k6, k7, k8⟩ := h
  refine ⟨k1, ⟨k2.1, by have := k2.2; omega⟩, k3, k4, k5, k6, k7, fun g hg => ?_⟩
  obtain ⟨c1, c2, c3, c4, c5, c6⟩ := k8 g hg
  refine ⟨⟨c1.1, by have := c1.2; omega⟩, c2, c3, c4, c5, ?_⟩
  rcases c6 with q | ⟨q1, q2, q3⟩
  · exact Or.inl q
  · exact Or.inr ⟨q1, by omega, q3⟩
theorem stR_cg {W : WD} {i : Nat} {r r' : Nat → Int32} (h12 : nG r ≤ 12) (h16 : ∀ g, g < nG r → nF r g ≤ 16) (hD : nD r ≤ 16) (hE : nE r ≤ 20) (h : stR W i r) (hq : ∀ q, q < 1182 → r' q = r q) : stR W i r' := by
  obtain ⟨k1, k2, k3, k4, k5⟩ := h
  have eG : nG r' = nG r := nG_cg (hq 6 (by omega))
  have eD : nD r' = nD r := by unfold nD; rw [hq 7 (by omega)]
  have eE : nE r' = nE r := by unfold nE; rw [hq 8 (by omega)]
  have eg : ∀ g k, g < 12 → k < 6 → gO r' g k = gO r g k := fun g k hg hk => hq _ (by omega)
  have ef : ∀ g f k, g < 12 → f < 16 → k < 5 → fO r' g f k = fO r g f k := fun g f k hg hf hk => hq _ (by omega)
  refine ⟨fun k hk => by rw [hq k (by omega)]; exact k1 k hk, fun p hp => by rw [hq _ (by omega), hq _ (by omega)]; exact k2 p hp, ⟨by rw [hq 7 (by omega)]; exact k3.1, fun f hf => ?_⟩, fun g hg => ?_, ?_⟩
  · rw [eD] at hf
    rw [hq _ (by omega), hq _ (by omega), hq _ (by omega)]
    exact k3.2 f hf
  · rw [eG] at hg
    have h1 := h16 g hg
    have eF : nF r' g = nF r g := nF_cg (eg g 5 (by omega) (by omega))
    obtain ⟨a1, a2, a3⟩ := k4 g hg
    refine ⟨fun k hk => by rw [eg g k (by omega) (by omega)]; exact a1 k hk, ⟨by rw [eg g 5 (by omega) (by omega)]; exact a2.1, fun f hf => ?_⟩, fun f hf => ?_⟩
    · rw [eF] at hf
      rw [ef g f 0 (by omega) (by omega) (by omega), ef g f 1 (by omega) (by omega) (by omega), ef g f 2 (by omega) (by omega) (by omega), ef g f 3 (by omega) (by omega) (by omega)]
      exact a2.2 f hf
    · rw [eF] at hf
      rw [ef g f 4 (by omega) (by omega) (by omega)]
      exact a3 f hf
  · obtain ⟨l1, n, l2, l3, l4⟩ := k5
    refine ⟨by rw [hq 8 (by omega)]; exact l1, n, l2, l3, fun k hk => ?_⟩
    rw [eE] at hk ⊢
    rw [l4 k hk]
    unfold ev1
    rw [hq _ (by omega), hq _ (by omega), hq _ (by omega)]
theorem stR_ok {W : WD} {i T : Nat} {r r' : Nat → Int32} (ho : okR r T) (h : stR W i r) (hq : ∀ q, q < 1182 → r' q = r q) : stR W i r' := stR_cg ho.1.1.2 (fun g hg => (ho.1.2.1 g hg).2.1) ho.2.2.2.2.1.2.2.1 ho.2.2.1.2 h hq
/-! trials -/
def trl (r : Nat → Int32) : Nat → Int32 := va_cpy r r 0 8274 1182
theorem trl_lo {r : Nat → Int32} {q : Nat} (h : q < 8274) : trl r q = r q := pk_cpy_out (by omega)
theorem chn_hi {md : Option ((Nat → Nat) × Nat)} {ρ : Nat → Nat → Int32} {n : Nat} (h : chn md ρ n) : ∀ k, k ≤ n → ∀ q, 1182 ≤ q → ρ k q = ρ 0 q := by
  intro k
  induction k with
  | zero => exact fun _ q _ => rfl
  | succ k ih =>
    intro hk q hq
    rw [(h k (by omega)).2.2.2.2.2.2.2.2.2 q hq]
    exact ih (by omega) q hq
theorem trl_back {r r3 : Nat → Int32} (h : ∀ q, 1182 ≤ q → r3 q = trl r q) : va_cpy r3 r3 8274 0 1182 = trl r := by
  funext q
  rcases Nat.lt_or_ge q 1182 with h1 | h1
  · rw [pk_cpy_in (by omega) (by omega), h _ (by omega)]
    unfold trl
    rw [pk_cpy_in (by omega) (by omega), pk_cpy_out (by omega), show 0 + (8274 + (q - 0) - 8274) = q by omega]
  · rw [pk_cpy_out (by omega), h q h1]
section
variable {b : Nat} {W : WD}
theorem m_totalBy {r : Nat → Int32} {T p : Nat} (hr : W.2.1 10 0 0 0 = r) (ho : okR r T) (hT : T + 300 ≤ 900000) (h8 : W.1 10 0 0 8 = 0) (hp : p ≤ 5) : ∃ v W' ρ n, f_X10_totalBy (b + ad 10 0 0) (nI p) (wd b W) = some (v, wd b W') ∧ tkF W W' ∧ W'.2.1 10 0 0 0 = trl r ∧ (∀ q, q < 1182 → ρ 0 q = upd r 1 (nI p) q) ∧ chn none ρ n ∧ totP v ρ n := by
  unfold f_X10_totalBy
  have ec := m_copies (b := b) (W := W) (f := 0) (t := 8274) (by omega) (by omega) (by omega)
  rw [hr] at ec
  rw [oO_10 h10, li 8274, li 0, ob2_i ec, o10_0 h10, oS0 1 1 rfl (by omega), wsA_r, wsA_2]
  have h2 : ∀ q, q < 1182 → upd (trl r) 1 (nI p) q = upd r 1 (nI p) q := by
    intro q hq
    by_cases h1 : q = 1
    · rw [h1, pk_us, pk_us]
    · rw [pk_un h1, pk_un h1, trl_lo (by omega)]
  have ho1 : okR (upd r 1 (nI p)) T := by
    refine okR_w ho (fun q _ h1 _ _ _ => pk_un h1) ?_ (by rw [pk_un (by omega)]; exact ho.2.2.2.2.2.1.1) (by rw [pk_un (by omega)]; exact ho.2.2.2.2.2.1.2) (fun q hq => ?_)
    · rw [pk_us, vN_nI (by omega)]
      exact ⟨rfl, by omega⟩
    · have e : capR (upd r 1 (nI p)) q = capR r q := pk_un (by omega)
      rw [e]
      exact ho.ck q hq
  obtain ⟨v, V, ρ, n, e1, e2, e3, e4, e5, e6⟩ := m_totalOf (b := b) (W := wsA W 10 0 0 0 (upd (trl r) 1 (nI p))) (md := none) (wsA_r _ _ _ _ _ _) (okR_cg ho1 h2) hT (show (wsA W 10 0 0 0 (upd (trl r) 1 (nI p))).1 10 0 0 8 = 0 from h8) trivial
  have hb : va_cpy (V.2.1 10 0 0 0) (V.2.1 10 0 0 0) 8274 0 1182 = trl r := trl_back (fun q hq => by
    rw [e5, chn_hi e4 n (Nat.le_refl _) q hq, e3, pk_un (by omega)])
  refine ⟨v, wsA V 10 0 0 0 (trl r), ρ, n, ?_, ?_, wsA_r _ _ _ _ _ _, fun q hq => by rw [e3]; exact h2 q hq, e4, e6⟩
  · have ec2 := m_copies (b := b) (W := V) (f := 8274) (t := 0) (by omega) (by omega) (by omega)
    rw [hb] at ec2
    have e1' : f_X10_totalOf (b + ad 10 0 0) (wd b (wsA W 10 0 0 0 (upd (va_cpy r r 0 8274 1182) 1 (nI p)))) = some (v, wd b V) := e1
    rw [ob2_i e1', ob2_i ec2]
  · exact (frM.A (by decide)).tr (frM.tr e2 (frM.A (by decide)))
/-! saves, undo -/
def savP (r : Nat → Int32) (s : Nat) (r' : Nat → Int32) (s' : Nat) : Prop := s' = min (s + 1) 6 ∧ (∀ q, q < 1182 → r' q = r q) ∧ (∀ j q, 1 ≤ j → j < s' → q < 1182 → r' (1182 * j + q) = r (1182 * (j + (s + 1 - s')) + q)) ∧ ∀ q, q < 1182 → r' (1182 * s' + q) = r q
theorem m_saves {r : Nat → Int32} {s : Nat} (hr : W.2.1 10 0 0 0 = r) (hs : W.1 10 0 0 1 = nI s) (h6 : s ≤ 6) : ∃ r' s', f_X10_saves (b + ad 10 0 0) (wd b W) = some ((), wd b (wsI (wsA W 10 0 0 0 r') 10 0 0 1 (nI s'))) ∧ savP r s r' s' := by
  unfold f_X10_saves
  rw [oO_10 h10]
  rcases Nat.lt_or_ge s 6 with h | h
  · obtain ⟨m, hm⟩ : ∃ m, FU = m + 1 := ⟨4095, rfl⟩
    rw [hm, f_X10_saves_L2, if_neg (by decide), o10_1 h10, hs, if_pos (show ¬ nI s = 6 from ne_p (b := 6) (by omega) (by omega) (by omega))]
    unfold f_X10_saves_J39 f_X10_saves_J58
    rw [o10_1 h10, o10_1 h10, hs, if_pos (show ¬ nI s = 6 from ne_p (b := 6) (by omega) (by omega) (by omega)), Int32.sub_zero, p10_1 h10, o10_1 h10, wsI_r, nI_1, p10_1 h10, wsI_2, o10_1 h10, wsI_r, li 1182, pk_mul]
    have ec := m_copies (b := b) (W := wsI W 10 0 0 1 (nI (s + 1))) (f := 0) (t := 1182 * (s + 1)) (by omega) (by omega) (by omega)
    rw [wsI_A, hr] at ec
    have e0 : (0 : Int32) = nI 0 := rfl
    rw [e0, ob2_i ec]
    refine ⟨va_cpy r r 0 (1182 * (s + 1)) 1182, s + 1, ?_, by omega, fun q hq => pk_cpy_out (by omega), fun j q j1 j2 hq => ?_, fun q hq => ?_⟩
    · rfl
    · rw [pk_cpy_out (by omega), show j + (s + 1 - (s + 1)) = j by omega]
    · rw [pk_cpy_in (by omega) (by omega), show 0 + (1182 * (s + 1) + q - 1182 * (s + 1)) = q by omega]
  · have h66 : s = 6 := by omega
    subst h66
    have key := loopE (fun m j (ρ : Nat → Int32) => f_X10_saves_L2 (b + ad 10 0 0) (fun N5 => f_X10_saves_J39 (b + ad 10 0 0) N5) m (nI (j + 1)) (wd b (wsA W 10 0 0 0 ρ))) 5 (fun j ρ => (∀ q, q < 1182 → ρ q = r q) ∧ (∀ a q, 1 ≤ a → a ≤ j → q < 1182 → ρ (1182 * a + q) = r (1182 * (a + 1) + q)) ∧ ∀ a q, j < a → a ≤ 6 → q < 1182 → ρ (1182 * a + q) = r (1182 * a + q)) (fun y => ∃ r' s', y = some ((), wd b (wsI (wsA W 10 0 0 0 r') 10 0 0 1 (nI s'))) ∧ savP r 6 r' s') ?_ ?_ FU 0 r (by omega) (by have := FUgt; omega) ⟨fun _ _ => rfl, fun a q h1 h2 => by omega, fun _ _ _ _ _ => rfl⟩
    · try dsimp only at key
      rw [← hr, wsA_s] at key
      rw [hr] at key
      exact key
    · intro m j ρ hj ⟨k1, k2, k3⟩
      try dsimp only
      have ec := m_copies (b := b) (W := wsA W 10 0 0 0 ρ) (f := 1182 * (j + 1 + 1)) (t := 1182 * (j + 1)) (by omega) (by omega) (by omega)
      rw [wsA_r, wsA_2] at ec
      rw [f_X10_saves_L2, if_neg (show ¬ (6 : Int32) ≤ nI (j + 1) from le_n (a := 6) (by omega) (by omega)), o10_1 h10, wsA_1, hs, if_neg (fun q => q rfl), li 1182, pk_mul, nI_1, pk_mul, ob2_i ec]
      refine ⟨_, ⟨fun q hq => ?_, fun a q h1 h2 hq => ?_, fun a q h1 h2 hq => ?_⟩, rfl⟩
      · rw [pk_cpy_out (by omega)]; exact k1 q hq
      · rcases Nat.lt_or_ge a (j + 1) with z | z
        · rw [pk_cpy_out (by omega)]
          exact k2 a q h1 (by omega) hq
        · have e : a = j + 1 := by omega
          subst e
          rw [pk_cpy_in (by omega) (by omega), show 1182 * (j + 1 + 1) + (1182 * (j + 1) + q - 1182 * (j + 1)) = 1182 * (j + 1 + 1) + q by omega]
          exact k3 (j + 1 + 1) q (by omega) (by omega) hq
      · rw [pk_cpy_out (by omega)]
        exact k3 a q (by omega) h2 hq
    · intro m ρ ⟨k1, k2, k3⟩
      try dsimp only
      rw [f_X10_saves_L2, if_pos (by decide)]
      unfold f_X10_saves_J39 f_X10_saves_J58
      have hs' : (wsA W 10 0 0 0 ρ).1 10 0 0 1 = nI 6 := hs
      rw [o10_1 h10, o10_1 h10, hs', if_neg (fun q => q rfl), p10_1 h10, o10_1 h10, wsI_r, p10_1 h10, wsI_2, o10_1 h10, wsI_r, show nI 6 - 1 + 1 = nI 6 from rfl, li 1182, pk_mul]
      have ec := m_copies (b := b) (W := wsI (wsA W 10 0 0 0 ρ) 10 0 0 1 (nI 6)) (f := 0) (t := 1182 * 6) (by omega) (by omega) (by omega)
      rw [wsI_A, wsA_r] at ec
      have e0 : (0 : Int32) = nI 0 := rfl
      rw [e0, ob2_i ec]
      refine ⟨va_cpy ρ ρ 0 (1182 * 6) 1182, 6, ?_, by omega, fun q hq => by rw [pk_cpy_out (by omega)]; exact k1 q hq, fun j q j1 j2 hq => ?_, fun q hq => ?_⟩
      · refine congrArg (fun z => some ((), wd b z)) ?_
        refine Prod.ext rfl (Prod.ext ?_ rfl)
        funext c i g k
        simp only [wsI_A, wsA_A]
        by_cases hc : c = 10 ∧ i = 0 ∧ g = 0 ∧ k = 0
        · simp [hc]
        · simp [hc]
      · rw [pk_cpy_out (by omega)]
        exact k2 j q j1 (by omega) hq
      · rw [pk_cpy_in (by omega) (by omega), show 0 + (1182 * 6 + q - 1182 * 6) = q by omega]
        exact k1 q hq
theorem m_undo {r : Nat → Int32} {s : Nat} (hr : W.2.1 10 0 0 0 = r) (hs : W.1 10 0 0 1 = nI s) (h6 : s ≤ 6) : (s = 0 ∧ f_X10_undo (b + ad 10 0 0) (wd b W) = some (-4, wd b W)) ∨ (0 < s ∧ f_X10_undo (b + ad 10 0 0) (wd b W) = some (nI (s - 1), wd b (wsI (wsA W 10 0 0 0 (va_cpy r r (1182 * s) 0 1182)) 10 0 0 1 (nI (s - 1))))) := by
  unfold f_X10_undo
  rw [oO_10 h10, o10_1 h10, hs]
  rcases Nat.eq_zero_or_pos s with h | h
  · left
    rw [if_neg (fun q => q (by rw [h]; rfl))]
    exact ⟨h, rfl⟩
  · right
    have ec := m_copies (b := b) (W := W) (f := 1182 * s) (t := 0) (by omega) (by omega) (by omega)
    rw [hr] at ec
    have e0 : (0 : Int32) = nI 0 := rfl
    rw [if_pos (show ¬ nI s = 0 from ne_p (b := 0) (by omega) (by omega) (by omega)), o10_1 h10, hs, li 1182, pk_mul, e0, ob2_i ec, o10_1 h10, wsA_1, hs, p10_1 h10, o10_1 h10, wsI_r, li 1, pk_sub h]
    exact ⟨h, rfl⟩
end
