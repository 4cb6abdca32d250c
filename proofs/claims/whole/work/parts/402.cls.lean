theorem sub_neg {a u : Nat} (h : a < u) (hu : u < 1073741824) : ¬ (0 : Int32) ≤ nI a - nI u := by
  intro q
  have h1 := Int32.le_iff_toInt_le.mp q
  rw [pk_sub_toInt (by omega) (by omega)] at h1
  have h3 : (0 : Int32).toInt = 0 := rfl
  omega
theorem sub_pos {a u : Nat} (h : u ≤ a) (ha : a < 2147483648) : (0 : Int32) ≤ nI a - nI u := by
  rw [pk_sub h]
  exact le_p (a := 0) (by omega) (by omega)
theorem un_us {r : Nat → Int32} {g p : Nat} : ∀ n, (∀ f, f < n → vN (fO r g f 3) ≤ 100000) → unN r g n p ≤ 100000 * usN r g n p
  | 0, _ => Nat.zero_le _
  | n + 1, h => by
    have ih := un_us (r := r) (g := g) (p := p) n (fun f hf => h f (by omega))
    have hn := h n (by omega)
    have e1 : unN r g (n + 1) p = unN r g n p + (if vN (fO r g n 0) = p ∨ 8 + vN (fO r g n 1) = p then vN (fO r g n 3) else 0) := rfl
    have e3 : usN r g (n + 1) p = usN r g n p + (if (vN (fO r g n 0) = p ∨ 8 + vN (fO r g n 1) = p) ∧ 0 < vN (fO r g n 3) then 1 else 0) := rfl
    rw [e1, e3, Nat.mul_add]
    by_cases hu : vN (fO r g n 0) = p ∨ 8 + vN (fO r g n 1) = p
    · by_cases hz : 0 < vN (fO r g n 3)
      · rw [if_pos hu, if_pos ⟨hu, hz⟩]
        omega
      · rw [if_pos hu, if_neg (fun q => hz q.2)]
        omega
    · rw [if_neg hu, if_neg (fun q => hu q.1)]
      omega
theorem us_le {r : Nat → Int32} {g p : Nat} : ∀ n, usN r g n p ≤ n
  | 0 => Nat.le_refl _
  | n + 1 => by
    have ih := us_le (r := r) (g := g) (p := p) n
    have e3 : usN r g (n + 1) p = usN r g n p + (if (vN (fO r g n 0) = p ∨ 8 + vN (fO r g n 1) = p) ∧ 0 < vN (fO r g n 3) then 1 else 0) := rfl
    rw [e3]
    split <;> omega
theorem need0 {r : Nat → Int32} {g y p : Nat} (hk : flK r g (nF r g)) (h0 : 0 < y) (h : usN r g (nF r g) p = 0) : needN r g y p = 0 := by
  have h1 := un_us (r := r) (g := g) (p := p) (nF r g) (fun f hf => (hk.2.2 f hf).2.2.2)
  have h2 := (need_un (r := r) (g := g) (p := p) h0 (nF r g)).2
  have h3 : needN r g y p = needU r g y (nF r g) p := rfl
  rw [h] at h1 h2
  rw [Nat.mul_zero] at h1 h2
  have h4 : y * needU r g y (nF r g) p = 0 := by omega
  rcases Nat.mul_eq_zero.mp h4 with q | q
  · omega
  · rw [h3, q]
/-- the caps are small -/
def avS (A : Nat → Int32) : Prop := ∀ p, p < 16 → A p = nI (vN (A p)) ∧ vN (A p) ≤ 1000000
theorem avS.k {A : Nat → Int32} (h : avS A) : avK A := fun p hp => ⟨(h p hp).1, by have := (h p hp).2; omega⟩
section
variable {b : Nat} {W : WD}
theorem c_spanL {t i g x : Nat} {A r : Nat → Int32} (ht : vo 8 t 0 = true) (hv : vo 1 i g = true) (hf : flR W i g r) (hk : flK r g (nF r g)) (hA : avK A) (hx : ∀ V, frQ (scr t) W V → ∀ p, p < 16 → aI (wd b V) x (nI p) = some (A p)) : ∀ (d m lo hi : Nat) (V : WD), frQ (scr t) W V → d ≤ 20 → d < m → 1 ≤ lo → hi < lo + 2 ^ d → (hi < lo → fitN r g A lo) → lo ≤ 100000 → hi ≤ 100000 → (lo ≤ hi → fitN r g A hi) → (∀ z, 1 ≤ z → z < lo → ¬ fitN r g A z) → ∃ W', f_X8_spanOf_L127 (b + ad 8 t 0) (b + ad 1 i g) x (fun v41 N42 => some (v41, N42)) m (nI lo) (nI hi) (nI (20 - d)) (wd b V) = some (spn r g A, wd b W') ∧ frQ (scr t) W W' := by
  intro d
  induction d with
  | zero =>
    intro m lo hi V hV h1 h2 h3 h4 h5 h6 h7 h8 h9
    obtain ⟨m, rfl⟩ : ∃ q, m = q + 1 := ⟨m - 1, by omega⟩
    rw [f_X8_spanOf_L127, if_pos (by decide)]
    have hfit : fitN r g A lo := by
      rcases Nat.lt_or_ge hi lo with q | q
      · exact h5 q
      · rw [show lo = hi by omega]; exact h8 q
    rw [spn_eq (x := nI lo) (Or.inr ⟨lo, h3, h6, rfl, hfit, h9⟩)]
    exact ⟨V, rfl, hV⟩
  | succ d ih =>
    intro m lo hi V hV h1 h2 h3 h4 h5 h6 h7 h8 h9
    obtain ⟨m, rfl⟩ : ∃ q, m = q + 1 := ⟨m - 1, by omega⟩
    rw [f_X8_spanOf_L127, if_neg (show ¬ (20 : Int32) ≤ nI (20 - (d + 1)) from le_n (a := 20) (by omega) (by omega))]
    rcases Nat.lt_or_ge lo hi with hl | hl
    · rw [if_neg (le_n hl (by omega))]
      have hd : dV (nI (lo + hi)) (nI 2) = some (nI ((lo + hi) / 2)) := by
        unfold dV
        rw [if_neg (by decide), pk_div (by omega) (by omega) (by omega)]
      have hfV : flR V i g r := by
        refine ⟨by rw [hV.1 1 i g 0 (by unfold scr; omega)]; exact hf.1, fun f hff => ?_⟩
        rw [hV.2.1 1 i g 1 (by unfold scr; omega), hV.2.1 1 i g 2 (by unfold scr; omega), hV.2.1 1 i g 3 (by unfold scr; omega), hV.2.1 1 i g 4 (by unfold scr; omega)]
        exact hf.2 f hff
      obtain ⟨c, V2, e1, e2, e3⟩ := c_isEnough (b := b) (W := V) (t := t) (i := i) (g := g) (x := x) (y := (lo + hi) / 2) (A := A) (r := r) ht hv hfV hk hA (fun U hU => hx U (hV.tr hU)) (by omega) (by omega)
      rw [nI_add, li 2, ob_i hd, ob2_i e1]
      rw [Nat.pow_succ] at h4
      cases c with
      | false =>
        have hnf : ¬ fitN r g A ((lo + hi) / 2) := fun q => by simpa using e3.mpr q
        rw [if_pos (show bI false = 0 from rfl), nI_1, nI_1, show 20 - (d + 1) + 1 = 20 - d by omega]
        exact ih m ((lo + hi) / 2 + 1) hi V2 (hV.tr e2) (by omega) (by omega) (by omega) (by omega) (fun q => by omega) (by omega) h7 (fun _ => h8 (by omega)) (fun z z1 z2 q => hnf (fitN_mono (by omega) (by omega) q))
      | true =>
        rw [if_neg (by decide), nI_1, show 20 - (d + 1) + 1 = 20 - d by omega]
        exact ih m lo ((lo + hi) / 2) V2 (hV.tr e2) (by omega) (by omega) h3 (by omega) (fun q => by omega) h6 (by omega) (fun _ => e3.mp rfl) h9
    · rw [if_pos (le_p hl (by omega))]
      have hfit : fitN r g A lo := by
        rcases Nat.lt_or_ge hi lo with q | q
        · exact h5 q
        · rw [show lo = hi by omega]; exact h8 q
      rw [spn_eq (x := nI lo) (Or.inr ⟨lo, h3, h6, rfl, hfit, h9⟩)]
      exact ⟨V, rfl, hV⟩
theorem c_spanOf {t i g x : Nat} {A r : Nat → Int32} (ht : vo 8 t 0 = true) (hv : vo 1 i g = true) (hf : flR W i g r) (hk : flK r g (nF r g)) (hA : avS A) (hx : ∀ V, frQ (scr t) W V → ∀ p, p < 16 → aI (wd b V) x (nI p) = some (A p)) : ∃ W', f_X8_spanOf (b + ad 8 t 0) (b + ad 1 i g) x (wd b W) = some (spn r g A, wd b W') ∧ frQ (scr t) W W' := by
  obtain ⟨W1, e1, e2, e3⟩ := c_addUp (b := b) ht hv hf hk
  have e2' : frQ (scr t) W W1 := e2.mono (fun c i g k ⟨h1, h2, h3⟩ => ⟨h1, h2, by omega⟩)
  have hr16 := hk.2.1
  have hgr : grN r g (nF r g) ≤ 100000 := grN_le (fun f hf => (hk.2.2 f hf).2.2.2)
  have hun : ∀ p, unN r g (nF r g) p ≤ 1600000 := fun p => by
    have h1 := un_us (r := r) (g := g) (p := p) (nF r g) (fun f hf => (hk.2.2 f hf).2.2.2)
    have h2 := us_le (r := r) (g := g) (p := p) (nF r g)
    have h3 := Nat.mul_le_mul_left 100000 (Nat.le_trans h2 hr16)
    omega
  have hus : ∀ p, usN r g (nF r g) p ≤ 16 := fun p => Nat.le_trans (us_le _) hr16
  unfold f_X8_spanOf
  rw [oO_8 ht, ob2_i e1]
  refine loopX (fun m p (s : Nat × Nat) => f_X8_spanOf_L15 (b + ad 8 t 0) (b + ad 1 i g) x (nI (grN r g (nF r g))) (fun N29 => some ((-1 : Int32), N29)) (fun v30 v31 N32 => ob2 (f_J9_min_7cf53 v31 (nI (grN r g (nF r g))) N32) (fun x34 N33 => f_X8_spanOf_L127 (b + ad 8 t 0) (b + ad 1 i g) x (fun v41 N42 => some (v41, N42)) FU v30 x34 (0 : Int32) N33)) m (nI s.1) (nI s.2) (nI p) (wd b W1)) 16 (fun p s => (∀ q, q < p → usN r g (nF r g) q ≤ vN (A q)) ∧ (1 ≤ s.1 ∧ s.1 ≤ 1700000 ∧ 1 ≤ s.2 ∧ s.2 ≤ 1700000) ∧ (∀ z, 1 ≤ z → z < s.1 → ¬ fitN r g A z) ∧ ∀ q, q < p → ∀ y, s.2 ≤ y → needN r g y q ≤ vN (A q)) (fun z => ∃ W', z = some (spn r g A, wd b W') ∧ frQ (scr t) W W') ?_ ?_ FU 0 (1, 1) (by omega) (by have := FUgt; omega) ⟨fun q hq => by omega, ⟨by decide, by decide, by decide, by decide⟩, fun z z1 z2 => by simp only at z2; omega, fun q hq => by omega⟩
  · intro m p ⟨lo, hi⟩ hp ⟨k1, ⟨k2, k3, k4, k5⟩, k6, k7⟩
    simp only at k2 k3 k4 k5 k6 k7
    obtain ⟨a1, a2⟩ := hA p hp
    obtain ⟨u1, u2⟩ := e3 p hp
    have hus' := hus p
    have hun' := hun p
    have hxp := hx W1 e2' p hp
    rw [a1] at hxp
    generalize ha : vN (A p) = a at *
    try dsimp only
    rw [f_X8_spanOf_L15, li 16, if_neg (le_n hp (by omega)), ob_i hxp, o8_9 ht, oa8_9 ht hp, u2]
    rcases Nat.lt_or_ge a (usN r g (nF r g) p) with hl | hl
    · right
      rw [if_neg (sub_neg hl (by omega)), spn_eq (x := -1) (Or.inl ⟨rfl, fun q => ?_⟩)]
      · exact ⟨W1, rfl, e2'⟩
      · have h1 := q p hp
        have h2 := usN_need (r := r) (g := g) (y := 100000) (p := p) (by omega)
        omega
    · left
      rw [if_pos (sub_pos hl (by omega)), o8_9 ht, oa8_9 ht hp, u2]
      have i1' : ∀ q, q < p + 1 → usN r g (nF r g) q ≤ vN (A q) := by
        intro q hq
        rcases Nat.lt_or_ge q p with h | h
        · exact k1 q h
        · rw [show q = p by omega, ha]; exact hl
      by_cases hz : usN r g (nF r g) p = 0
      · rw [hz, if_pos (by decide), nI_1]
        refine ⟨(lo, hi), ⟨i1', ⟨k2, k3, k4, k5⟩, k6, fun q hq y hy => ?_⟩, rfl⟩
        rcases Nat.lt_or_ge q p with h | h
        · exact k7 q h y hy
        · rw [show q = p by omega, need0 hk (by omega) hz]
          exact Nat.zero_le _
      · rw [if_neg (show ¬ nI (usN r g (nF r g) p) ≤ 0 from le_n (b := 0) (by omega) (by omega)), o8_8 ht, oa8_8 ht hp, u1, ob_i hxp, ob2_i (c_upN (by omega) (by omega)), ob2_i (c_maxN (by omega) (by have := cdiv_le (a := unN r g (nF r g) p) (n := a) (by omega); omega))]
        have hcd := cdiv_le (a := unN r g (nF r g) p) (n := a) (by omega)
        have k6' : ∀ z, 1 ≤ z → z < max lo (cdiv (unN r g (nF r g) p) a) → ¬ fitN r g A z := by
          intro z z1 z2 q
          rcases Nat.lt_or_ge z lo with h | h
          · exact k6 z z1 h q
          · have h2 := nofit_low (r := r) (g := g) (y := z) (p := p) (a := a) (by omega) (by omega) (by omega)
            have h3 := q p hp
            omega
        by_cases he : a = usN r g (nF r g) p
        · rw [if_neg (show ¬ ¬ nI a - nI (usN r g (nF r g) p) = 0 from fun q => q (by rw [he, pk_sub (Nat.le_refl _), Nat.sub_self]; rfl)), ob2_i (c_maxN (by omega) (by omega)), nI_1]
          refine ⟨(_, _), ⟨i1', ⟨?_, ?_, ?_, ?_⟩, k6', fun q hq y hy => ?_⟩, rfl⟩
          · simp only; omega
          · simp only; omega
          · simp only; omega
          · simp only; omega
          · simp only at hy
            rcases Nat.lt_or_ge q p with h | h
            · exact k7 q h y (by omega)
            · rw [show q = p by omega, need_gr (by omega) (by omega)]
              omega
        · rw [if_pos (show ¬ nI a - nI (usN r g (nF r g) p) = 0 by rw [pk_sub hl]; exact ne_p (b := 0) (by omega) (by omega) (by omega)), o8_8 ht, oa8_8 ht hp, u1, o8_9 ht, oa8_9 ht hp, u2, pk_sub ((need_un (r := r) (g := g) (p := p) (y := 1) (by omega) (nF r g)).1), pk_sub hl, ob2_i (c_upN (by omega) (by omega)), ob2_i (c_maxN (by omega) (by have := cdiv_le (a := unN r g (nF r g) p - usN r g (nF r g) p) (n := a - usN r g (nF r g) p) (by omega); omega)), nI_1]
          have hcd2 := cdiv_le (a := unN r g (nF r g) p - usN r g (nF r g) p) (n := a - usN r g (nF r g) p) (by omega)
          refine ⟨(_, _), ⟨i1', ⟨?_, ?_, ?_, ?_⟩, k6', fun q hq y hy => ?_⟩, rfl⟩
          · simp only; omega
          · simp only; omega
          · simp only; omega
          · simp only; omega
          · simp only at hy
            rcases Nat.lt_or_ge q p with h | h
            · exact k7 q h y (by omega)
            · rw [show q = p by omega, ha]
              exact fit_high (by omega) (by omega) (by omega)
  · intro m ⟨lo, hi⟩ ⟨k1, ⟨k2, k3, k4, k5⟩, k6, k7⟩
    simp only at k2 k3 k4 k5 k6 k7
    try dsimp only
    rw [f_X8_spanOf_L15, li 16, if_pos (le_p (Nat.le_refl _) (by omega)), ob2_i (c_minN (by omega) (by omega))]
    have fgr : ∀ y, 1 ≤ y → grN r g (nF r g) ≤ y → fitN r g A y := fun y y1 y2 p hp => by
      rw [need_gr (by omega) y2]
      exact k1 p hp
    have flo : lo ≤ max 1 (min hi (grN r g (nF r g))) := by
      rcases Nat.lt_or_ge (max 1 (min hi (grN r g (nF r g)))) lo with h | h
      · refine absurd ?_ (k6 _ (by omega) h)
        rcases Nat.lt_or_ge hi (grN r g (nF r g)) with h2 | h2
        · rw [show max 1 (min hi (grN r g (nF r g))) = hi by omega]
          exact fun p hp => k7 p hp hi (Nat.le_refl _)
        · exact fgr _ (by omega) (by omega)
      · exact h
    have hfV : flR W1 i g r := by
      refine ⟨by rw [e2'.1 1 i g 0 (by unfold scr; omega)]; exact hf.1, fun f hff => ?_⟩
      rw [e2'.2.1 1 i g 1 (by unfold scr; omega), e2'.2.1 1 i g 2 (by unfold scr; omega), e2'.2.1 1 i g 3 (by unfold scr; omega), e2'.2.1 1 i g 4 (by unfold scr; omega)]
      exact hf.2 f hff
    have fhi : lo ≤ min hi (grN r g (nF r g)) → fitN r g A (min hi (grN r g (nF r g))) := by
      intro h
      rcases Nat.lt_or_ge hi (grN r g (nF r g)) with h2 | h2
      · rw [show min hi (grN r g (nF r g)) = hi by omega]
        exact fun p hp => k7 p hp hi (Nat.le_refl _)
      · exact fgr _ (by omega) (by omega)
    have fl : min hi (grN r g (nF r g)) < lo → fitN r g A lo := fun h => fgr lo k2 (by omega)
    exact c_spanL (b := b) (W := W) ht hv hf hk hA.k hx 20 FU lo (min hi (grN r g (nF r g))) W1 e2' (by omega) (by have := FUgt; omega) k2 (by omega) fl (by omega) (by omega) fhi k6
end
