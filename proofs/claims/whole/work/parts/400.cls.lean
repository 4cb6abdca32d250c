/-! THE CLASS. What a call may change -/
def frQ (Q : Nat → Nat → Nat → Nat → Prop) (W W' : WD) : Prop := (∀ c i g k, ¬ Q c i g k → W'.1 c i g k = W.1 c i g k) ∧ (∀ c i g k, ¬ Q c i g k → W'.2.1 c i g k = W.2.1 c i g k) ∧ (∀ c i g k, ¬ Q c i g k → W'.2.2 c i g k = W.2.2 c i g k)
theorem frQ.rf {Q : Nat → Nat → Nat → Nat → Prop} {W : WD} : frQ Q W W := ⟨fun _ _ _ _ _ => rfl, fun _ _ _ _ _ => rfl, fun _ _ _ _ _ => rfl⟩
theorem frQ.tr {Q : Nat → Nat → Nat → Nat → Prop} {W W1 W2 : WD} (h : frQ Q W W1) (h2 : frQ Q W1 W2) : frQ Q W W2 := ⟨fun c i g k q => (h2.1 c i g k q).trans (h.1 c i g k q), fun c i g k q => (h2.2.1 c i g k q).trans (h.2.1 c i g k q), fun c i g k q => (h2.2.2 c i g k q).trans (h.2.2 c i g k q)⟩
theorem frQ.mono {Q Q' : Nat → Nat → Nat → Nat → Prop} {W W1 : WD} (h : frQ Q W W1) (hq : ∀ c i g k, Q c i g k → Q' c i g k) : frQ Q' W W1 := ⟨fun c i g k q => h.1 c i g k (fun z => q (hq _ _ _ _ z)), fun c i g k q => h.2.1 c i g k (fun z => q (hq _ _ _ _ z)), fun c i g k q => h.2.2 c i g k (fun z => q (hq _ _ _ _ z))⟩
theorem frQ.A {Q : Nat → Nat → Nat → Nat → Prop} {W : WD} {c i g k : Nat} {f : Nat → Int32} (h : Q c i g k) : frQ Q W (wsA W c i g k f) := ⟨fun _ _ _ _ _ => rfl, fun c' i' g' k' q => by rw [wsA_A, if_neg]; rintro ⟨rfl, rfl, rfl, rfl⟩; exact q h, fun _ _ _ _ _ => rfl⟩
theorem frQ.I {Q : Nat → Nat → Nat → Nat → Prop} {W : WD} {c i g k : Nat} {v : Int32} (h : Q c i g k) : frQ Q W (wsI W c i g k v) := ⟨fun c' i' g' k' q => by rw [wsI_1, if_neg]; rintro ⟨rfl, rfl, rfl, rfl⟩; exact q h, fun _ _ _ _ _ => rfl, fun _ _ _ _ _ => rfl⟩
theorem frQ.L {Q : Nat → Nat → Nat → Nat → Prop} {W : WD} {c i g k : Nat} {f : Nat → Int64} (h : Q c i g k) : frQ Q W (wsL W c i g k f) := ⟨fun _ _ _ _ _ => rfl, fun _ _ _ _ _ => rfl, fun c' i' g' k' q => by rw [wsL_L, if_neg]; rintro ⟨rfl, rfl, rfl, rfl⟩; exact q h⟩
theorem wsA_n (W : WD) {c i g k c' i' g' k' : Nat} {f : Nat → Int32} (h : ¬ (c' = c ∧ i' = i ∧ g' = g ∧ k' = k)) : (wsA W c i g k f).2.1 c' i' g' k' = W.2.1 c' i' g' k' := by rw [wsA_A, if_neg h]
theorem wsI_n (W : WD) {c i g k c' i' g' k' : Nat} {v : Int32} (h : ¬ (c' = c ∧ i' = i ∧ g' = g ∧ k' = k)) : (wsI W c i g k v).1 c' i' g' k' = W.1 c' i' g' k' := by rw [wsI_1, if_neg h]
/-! small static methods -/
theorem c_isOneOf {x y : Int32} {N : AH} : f_X9_isOneOf x y N = some (if x < 0 then 0 else if y ≤ x then 0 else 1, N) := by
  unfold f_X9_isOneOf
  split
  · rfl
  · split <;> rfl
theorem c_max {x y : Int32} {N : AH} : f_J9_max_7cf53 x y N = some (if x < y then y else x, N) := by
  unfold f_J9_max_7cf53
  split <;> rfl
theorem c_min {x y : Int32} {N : AH} : f_J9_min_7cf53 x y N = some (if y < x then y else x, N) := by
  unfold f_J9_min_7cf53
  split <;> rfl
theorem c_maxN {x y : Nat} {N : AH} (hx : x < 2147483648) (hy : y < 2147483648) : f_J9_max_7cf53 (nI x) (nI y) N = some (nI (max x y), N) := by
  rw [c_max]
  by_cases h : x < y
  · rw [if_pos (lt_p h hy), Nat.max_eq_right (by omega)]
  · rw [if_neg (lt_n (by omega) hx), Nat.max_eq_left (by omega)]
theorem c_minN {x y : Nat} {N : AH} (hx : x < 2147483648) (hy : y < 2147483648) : f_J9_min_7cf53 (nI x) (nI y) N = some (nI (min x y), N) := by
  rw [c_min]
  by_cases h : y < x
  · rw [if_pos (lt_p h hx), Nat.min_eq_right (by omega)]
  · rw [if_neg (lt_n (by omega) hy), Nat.min_eq_left (by omega)]
theorem c_upN {x y : Nat} {N : AH} (h0 : 0 < y) (h : x + y < 2147483648) : f_X9_roundedUp (nI x) (nI y) N = some (nI (cdiv x y), N) := by
  unfold f_X9_roundedUp
  have e : dV (nI x + nI y - 1) (nI y) = some (nI (cdiv x y)) := by
    unfold dV
    rw [if_neg (show ¬ nI y = 0 from ne_p (b := 0) (by omega) (by omega) (by omega)), ← upI_nI h0 h]
    rfl
  rw [if_pos (show 1 ≤ nI y from le_p (a := 1) (by omega) (by omega)), ob_i e]
section
variable {b : Nat} {W : WD}
/-- Arrays.fill of an array of the tick -/
theorem c_fill8 {t k n : Nat} (ht : vo 8 t 0 = true) (hk : (k = 8 ∨ k = 9 ∨ k = 10) ∧ n = 16) {v : Int32} : f_J7_fill_53178 (b + aa 8 t 0 k) v (wd b W) = some ((), wd b (wsA W 8 t 0 k (filI (W.2.1 8 t 0 k) n (fun _ => v)))) := by
  obtain ⟨hk, rfl⟩ := hk
  have hS : ∀ (W1 : WD) (x : Nat) (y : Int32), x < 16 → sI (wd b W1) (b + aa 8 t 0 k) (nI x) y = some (wd b (wsA W1 8 t 0 k (upd (W1.2.1 8 t 0 k) x y))) := by
    intro W1 x y hx
    rcases hk with rfl | rfl | rfl
    · exact t8_8 ht hx
    · exact t8_9 ht hx
    · exact t8_10 ht hx
  have hLen : aL (wd b W) (b + aa 8 t 0 k) = some (nI 16) := by
    rcases hk with rfl | rfl | rfl
    · simp only [aL, q8_8 ht, arr]; rfl
    · simp only [aL, q8_9 ht, arr]; rfl
    · simp only [aL, q8_10 ht, arr]; rfl
  unfold f_J7_fill_53178
  rw [ob_i hLen]
  have e := loopN (fun m i => f_J7_fill_53178_L5 (b + aa 8 t 0 k) v (nI 16) (fun N4 => some ((), N4)) m (nI i) (wd b (wsA W 8 t 0 k (filI (W.2.1 8 t 0 k) i (fun _ => v))))) 16 (y := some ((), wd b (wsA W 8 t 0 k (filI (W.2.1 8 t 0 k) 16 (fun _ => v))))) ?_ ?_ FU 0 (by omega) (by have := FUgt; omega)
  · rw [filI_0, wsA_s] at e
    exact e
  · intro m i hi
    try dsimp only
    rw [f_J7_fill_53178_L5, if_neg (le_n hi (by omega)), ob_i (hS _ i v hi), nI_1, wsA_r, wsA_2, filI_s _ (fun _ => v)]
  · intro m
    try dsimp only
    rw [f_J7_fill_53178_L5, if_pos (le_p (Nat.le_refl _) (by omega))]
end
/-- the flows of the group g of the state i are those of the row -/
def flR (W : WD) (i g : Nat) (r : Nat → Int32) : Prop := W.1 1 i g 0 = gO r g 5 ∧ ∀ f, f < nF r g → W.2.1 1 i g 1 f = fO r g f 0 ∧ W.2.1 1 i g 2 f = fO r g f 1 ∧ W.2.1 1 i g 3 f = fO r g f 2 ∧ W.2.1 1 i g 4 f = fO r g f 3
/-! sums of a group as numbers -/
def unN (r : Nat → Int32) (g i p : Nat) : Nat := sumN (fun f => if vN (fO r g f 0) = p ∨ 8 + vN (fO r g f 1) = p then vN (fO r g f 3) else 0) i
def usN (r : Nat → Int32) (g i p : Nat) : Nat := sumN (fun f => if (vN (fO r g f 0) = p ∨ 8 + vN (fO r g f 1) = p) ∧ 0 < vN (fO r g f 3) then 1 else 0) i
def grN (r : Nat → Int32) (g : Nat) : Nat → Nat
  | 0 => 0
  | i + 1 => max (grN r g i) (vN (fO r g i 3))
theorem grN_ge {r : Nat → Int32} {g : Nat} : ∀ {i f : Nat}, f < i → vN (fO r g f 3) ≤ grN r g i
  | 0, f, h => absurd h (Nat.not_lt_zero f)
  | i + 1, f, h => by
    rw [grN]
    rcases Nat.lt_or_ge f i with q | q
    · have := grN_ge (r := r) (g := g) q
      omega
    · rw [show f = i by omega]
      omega
theorem grN_le {r : Nat → Int32} {g B : Nat} : ∀ {i : Nat}, (∀ f, f < i → vN (fO r g f 3) ≤ B) → grN r g i ≤ B
  | 0, _ => Nat.zero_le _
  | i + 1, h => by
    have h1 := grN_le (r := r) (g := g) (B := B) (i := i) (fun f hf => h f (by omega))
    have h2 := h i (by omega)
    rw [grN]
    omega
section
variable {b : Nat} {W : WD}
/-- Tick.addUp -/
theorem c_addUp {t i g : Nat} {r : Nat → Int32} (ht : vo 8 t 0 = true) (hv : vo 1 i g = true) (hf : flR W i g r) (hk : flK r g (nF r g)) : ∃ W', f_X8_addUp (b + ad 8 t 0) (b + ad 1 i g) (wd b W) = some (nI (grN r g (nF r g)), wd b W') ∧ frQ (fun c i g k => c = 8 ∧ i = t ∧ (k = 8 ∨ k = 9)) W W' ∧ ∀ p, p < 16 → W'.2.1 8 t 0 8 p = nI (unN r g (nF r g) p) ∧ W'.2.1 8 t 0 9 p = nI (usN r g (nF r g) p) := by
  obtain ⟨hc, hn, hfl⟩ := hk
  unfold f_X8_addUp
  rw [oO_8 ht, o8_8 ht, ob2_i (c_fill8 ht ⟨Or.inl rfl, rfl⟩), o8_9 ht, ob2_i (c_fill8 ht ⟨Or.inr (Or.inl rfl), rfl⟩), wsA_n _ (by omega)]
  generalize hW1 : wsA (wsA W 8 t 0 8 (filI (W.2.1 8 t 0 8) 16 (fun _ => 0))) 8 t 0 9 (filI (W.2.1 8 t 0 9) 16 (fun _ => 0)) = W1
  have f0 : frQ (fun c i g k => c = 8 ∧ i = t ∧ (k = 8 ∨ k = 9)) W W1 := by
    rw [← hW1]
    exact (frQ.A (by simp)).tr (frQ.A (by simp))
  have z0 : ∀ p, p < 16 → W1.2.1 8 t 0 8 p = nI (unN r g 0 p) ∧ W1.2.1 8 t 0 9 p = nI (usN r g 0 p) := by
    intro p hp
    rw [← hW1, wsA_r, wsA_n _ (by omega), wsA_r, filI_lt hp, filI_lt hp]
    exact ⟨rfl, rfl⟩
  refine loopE (fun m j (V : WD) => f_X8_addUp_L20 (b + ad 8 t 0) (b + ad 1 i g) (fun v28 N29 => some (v28, N29)) m (nI (grN r g j)) (nI j) (wd b V)) (nF r g) (fun j V => frQ (fun c i g k => c = 8 ∧ i = t ∧ (k = 8 ∨ k = 9)) W V ∧ ∀ p, p < 16 → V.2.1 8 t 0 8 p = nI (unN r g j p) ∧ V.2.1 8 t 0 9 p = nI (usN r g j p)) (fun z => ∃ W', z = some (nI (grN r g (nF r g)), wd b W') ∧ frQ (fun c i g k => c = 8 ∧ i = t ∧ (k = 8 ∨ k = 9)) W W' ∧ ∀ p, p < 16 → W'.2.1 8 t 0 8 p = nI (unN r g (nF r g) p) ∧ W'.2.1 8 t 0 9 p = nI (usN r g (nF r g) p)) ?_ ?_ FU 0 W1 (by omega) (by have := FUgt; omega) ⟨f0, z0⟩
  · intro m j V hj ⟨k1, k2⟩
    obtain ⟨x1, x2, x3, x4⟩ := hf.2 j hj
    obtain ⟨⟨s1, s2⟩, ⟨t1, t2⟩, q1, q2⟩ := hfl j hj
    have e0 : V.1 1 i g 0 = nI (nF r g) := by rw [k1.1 1 i g 0 (by omega), hf.1, hc]
    have e1 : V.2.1 1 i g 1 j = nI (vN (fO r g j 0)) := by rw [k1.2.1 1 i g 1 (by omega), x1, ← s1]
    have e2 : V.2.1 1 i g 2 j = nI (vN (fO r g j 1)) := by rw [k1.2.1 1 i g 2 (by omega), x2, ← t1]
    have e4 : V.2.1 1 i g 4 j = nI (vN (fO r g j 3)) := by rw [k1.2.1 1 i g 4 (by omega), x4, ← q1]
    have hgl : grN r g j ≤ 100000 := grN_le (fun f hf => (hfl f (by omega)).2.2.2)
    try dsimp only
    rw [f_X8_addUp_L20, o1_0 hv, e0, if_neg (le_n hj (by omega)), o1_4 hv, oa1_4 hv (by omega), e4]
    by_cases hz : vN (fO r g j 3) = 0
    · rw [hz, if_pos (by decide), nI_1]
      refine ⟨V, ⟨k1, fun p hp => ?_⟩, ?_⟩
      · obtain ⟨a1, a2⟩ := k2 p hp
        rw [a1, a2, unN, unN, usN, usN, sumN, sumN, hz]
        simp
      · rw [grN, hz, Nat.max_eq_left (Nat.zero_le _)]
    · rw [if_neg (show ¬ nI (vN (fO r g j 3)) ≤ 0 from le_n (b := 0) (by omega) (by omega)), o1_1 hv, oa1_1 hv (by omega), e1, o1_2 hv, oa1_2 hv (by omega), e2, o8_8 ht, oa8_8 ht (by omega), ot8_8 ht (by omega), o8_8 ht, li 8, nI_add, oa8_8 ht (by omega), wsA_r, ot8_8 ht (by omega), wsA_r, wsA_2, upd_add2 (by omega), o8_9 ht, oa8_9 ht (by omega), wsA_n _ (by omega), ot8_9 ht (by omega), wsA_n _ (by omega), o8_9 ht, oa8_9 ht (by omega), wsA_r, ot8_9 ht (by omega), wsA_r, wsA_2, upd_add2 (by omega), ob2_i (c_maxN (by omega) (by omega)), nI_1]
      refine ⟨_, ⟨k1.tr ((frQ.A (by simp)).tr (frQ.A (by simp))), fun p hp => ?_⟩, rfl⟩
      obtain ⟨a1, a2⟩ := k2 p hp
      rw [wsA_n _ (by omega), wsA_r, wsA_r, a1, a2, unN, unN, usN, usN, sumN, sumN]
      by_cases hu : vN (fO r g j 0) = p ∨ 8 + vN (fO r g j 1) = p
      · rw [if_pos hu, if_pos hu, if_pos hu, if_pos ⟨hu, by omega⟩, nI_add]
        exact ⟨rfl, nI_1 _⟩
      · rw [if_neg hu, if_neg hu, if_neg hu, if_neg (fun q => hu q.1), Int32.add_zero, Int32.add_zero]
        exact ⟨rfl, rfl⟩
  · intro m V ⟨k1, k2⟩
    try dsimp only
    rw [f_X8_addUp_L20, o1_0 hv, k1.1 1 i g 0 (by omega), hf.1, hc, if_pos (le_p (Nat.le_refl _) (by omega))]
    exact ⟨V, rfl, k1, k2⟩
end
