def opN (r : Nat → Int32) (n : Nat) : Nat := sumN (fun g => if opB r g = true then 1 else 0) n
theorem opN_le (r : Nat → Int32) : ∀ n, opN r n ≤ n
  | 0 => Nat.le_refl _
  | n + 1 => by
    have ih := opN_le r n
    have e : opN r (n + 1) = opN r n + (if opB r n = true then 1 else 0) := rfl
    rw [e]
    split <;> omega
section
variable {b : Nat} {W : WD} {t i T : Nat} {r : Nat → Int32}
theorem c_countOpen (hi : i < 8) (h6 : W.1 7 i 0 6 = nI (nG r)) (h12 : nG r ≤ 12) (hg : ∀ g, g < nG r → ∀ k, k < 5 → W.1 4 i g k = gO r g k) : f_X7_countOpen (b + ad 7 i 0) (wd b W) = some (nI (opN r (nG r)), wd b W) := by
  have hv7 := vo7 hi
  unfold f_X7_countOpen
  rw [oO_7 hv7]
  refine loopN (fun m j => f_X7_countOpen_L4 (b + ad 7 i 0) (fun v8 N9 => some (v8, N9)) m (nI (opN r j)) (nI j) (wd b W)) (nG r) ?_ ?_ FU 0 (by omega) (by have := FUgt; omega)
  · intro m j hj
    try dsimp only
    rw [f_X7_countOpen_L4, o7_6 hv7, h6, if_neg (le_n hj (by omega)), o7_10 hv7, oa7_10 hv7 (by omega), ob2_i (c_isOpen (b := b) (vo4 hi (by omega)) (hg j hj)), nI_1]
    have e : opN r (j + 1) = opN r j + (if opB r j = true then 1 else 0) := rfl
    rw [e]
    cases opB r j with
    | true => rw [if_neg (show ¬ bI true = 0 by decide), if_pos rfl, nI_1]
    | false => rw [if_pos (show bI false = 0 by decide), if_neg (show ¬ false = true by decide)]; rfl
  · intro m
    try dsimp only
    rw [f_X7_countOpen_L4, o7_6 hv7, h6, if_pos (le_p (Nat.le_refl _) (by omega))]
/-- where a group stands in the order -/
theorem c_placeOf (ht : vo 8 t 0 = true) {M : Nat} {O : Nat → Nat} (hM : M ≤ 12) (h0 : W.1 8 t 0 0 = nI M) (h1 : ∀ x, x < M → W.2.1 8 t 0 1 x = nI (O x)) {v : Int32} : ∃ c, f_X8_placeOf (b + ad 8 t 0) v (wd b W) = some (c, wd b W) ∧ ((c = -1 ∧ ∀ x, x < M → ¬ nI (O x) = v) ∨ ∃ x, x < M ∧ c = nI x ∧ nI (O x) = v ∧ ∀ y, y < x → ¬ nI (O y) = v) := by
  unfold f_X8_placeOf
  rw [oO_8 ht]
  refine loopX (fun m j (_ : Unit) => f_X8_placeOf_L2 (b + ad 8 t 0) v (fun v6 N7 => some (v6, N7)) (fun N8 => some ((-1 : Int32), N8)) m (nI j) (wd b W)) M (fun j _ => ∀ x, x < j → ¬ nI (O x) = v) (fun y => ∃ c, y = some (c, wd b W) ∧ ((c = -1 ∧ ∀ x, x < M → ¬ nI (O x) = v) ∨ ∃ x, x < M ∧ c = nI x ∧ nI (O x) = v ∧ ∀ y, y < x → ¬ nI (O y) = v)) ?_ ?_ FU 0 () (by omega) (by have := FUgt; omega) (fun x hx => absurd hx (Nat.not_lt_zero x))
  · intro m j _ hj hI
    try dsimp only
    rw [f_X8_placeOf_L2, o8_0 ht, h0, if_neg (le_n hj (by omega)), o8_1 ht, oa8_1 ht (by omega), h1 j hj]
    by_cases h : nI (O j) = v
    · right
      rw [if_neg (fun q => q h)]
      exact ⟨_, rfl, Or.inr ⟨j, hj, rfl, h, hI⟩⟩
    · left
      rw [if_pos h, nI_1]
      refine ⟨(), fun x hx => ?_, rfl⟩
      rcases Nat.lt_or_ge x j with q | q
      · exact hI x q
      · rw [show x = j by omega]; exact h
  · intro m _ hI
    try dsimp only
    rw [f_X8_placeOf_L2, o8_0 ht, h0, if_pos (le_p (Nat.le_refl _) (by omega))]
    exact ⟨_, rfl, Or.inl ⟨rfl, hI⟩⟩
def prQ (s : Nat) : Nat → Nat → Nat → Nat → Prop := fun c i _ k => i = s ∧ (c = 0 ∨ (c = 7 ∧ (k = 4 ∨ k = 5)))
theorem c_preempt (ht : vo 8 t 0 = true) (hi : i < 8) (ho : okR r T) {M : Nat} {O : Nat → Nat} (hO : ordC r M O) (h0 : W.1 8 t 0 0 = nI M) (h1 : ∀ x, x < M → W.2.1 8 t 0 1 x = nI (O x)) (hs : ∀ k, k < 7 → W.1 7 i 0 k = r k) {l : List (Int32 × Int32 × Int32)} (hl : lgV W i l) : ∃ V, f_X8_notePreemption (b + ad 8 t 0) (b + ad 7 i 0) (wd b W) = some ((), wd b V) ∧ frQ (prQ i) W V ∧ V.1 7 i 0 4 = (if preB r M O = true then r 4 + 1 else r 4) ∧ V.1 7 i 0 5 = (if M = 0 then r 5 else nI (O 0)) ∧ lgV V i (if preB r M O = true then push1 l (2, r 5, r 0) else l) := by
  have h12 := ho.1.1.2
  have hM := hO.1.1
  have hv7 := vo7 hi
  unfold f_X8_notePreemption
  rw [oO_8 ht, o8_0 ht, h0]
  by_cases hM0 : M = 0
  · rw [if_neg (fun q => q (by rw [hM0]; rfl))]
    have hp : preB r M O = false := by simp [preB, hM0]
    exact ⟨W, rfl, frQ.rf, by rw [hp, hs 4 (by omega)]; simp, by rw [if_pos hM0, hs 5 (by omega)], by rw [hp]; exact hl⟩
  · rw [if_pos (show ¬ nI M = 0 from ne_p (b := 0) hM0 (by omega) (by omega)), o7_5 hv7, hs 5 (by omega), o8_1 ht, li 0, oa8_1 ht (by omega), h1 0 (by omega), p7_5 hv7, o8_1 ht, oa8_1 ht (by omega), wsI_A, h1 0 (by omega)]
    generalize hV : wsI W 7 i 0 5 (nI (O 0)) = V
    have f1 : frQ (prQ i) W V := by rw [← hV]; exact frQ.I ⟨rfl, by omega⟩
    have v5 : V.1 7 i 0 5 = nI (O 0) := by rw [← hV, wsI_r]
    have v4 : V.1 7 i 0 4 = r 4 := by rw [← hV, wsI_k _ (by decide), hs 4 (by omega)]
    have lV : lgV V i l := by rw [← hV]; exact hl.fr (frQ.I (Q := fun c _ _ _ => c = 7) rfl) (fun k q => by cases q)
    by_cases h2 : r 5 = nI (O 0)
    · have hp : preB r M O = false := by simp [preB, h2]
      rw [if_pos h2]
      exact ⟨V, rfl, f1, by rw [hp, v4]; simp, by rw [if_neg hM0, v5], by rw [hp]; exact lV⟩
    · rw [if_neg h2]
      obtain ⟨c, c1, c2⟩ := c_placeOf (b := b) (W := V) ht hM (by rw [f1.1 8 t 0 0 (by unfold prQ; omega), h0]) (fun x hx => by rw [f1.2.1 8 t 0 1 (by unfold prQ; omega)]; exact h1 x hx) (v := r 5)
      rw [ob2_i c1]
      rcases c2 with ⟨rfl, c2⟩ | ⟨x, x1, rfl, x2, -⟩
      · have hp : preB r M O = false := by
          cases hb : preB r M O with
          | false => rfl
          | true =>
            simp only [preB, Bool.and_eq_true, decide_eq_true_eq] at hb
            obtain ⟨-, b1, -, b2⟩ := hb
            rcases ho.2.2.2.1 with q | ⟨q1, q2⟩
            · exact absurd q b1
            · obtain ⟨x, x1, x2⟩ := hO.2.2 _ q2 b2
              exact absurd (by rw [x2]; exact q1.symm) (c2 x x1)
        rw [if_pos rfl]
        exact ⟨V, rfl, f1, by rw [hp, v4]; simp, by rw [if_neg hM0, v5], by rw [hp]; exact lV⟩
      · have hOx := hO.1.2 x x1
        have hvn : vN (r 5) = O x := by rw [← x2, vN_nI (by omega)]
        have hp : preB r M O = true := by
          simp only [preB, Bool.and_eq_true, decide_eq_true_eq]
          refine ⟨hM0, ?_, h2, by rw [hvn]; exact hOx.2⟩
          rw [← x2]
          exact nI_ne_m1 (by omega)
        rw [if_neg (nI_ne_m1 (by omega)), o7_4 hv7, v4, p7_4 hv7, o7_11 hv7, o7_0 hv7]
        obtain ⟨V2, a1, a2, a3⟩ := c_add (b := b) (W := wsI V 7 i 0 4 (r 4 + 1)) (i := i) hi (l := l) (lV.fr (frQ.I (Q := fun c _ _ _ => c = 7) rfl) (fun k q => by cases q)) (x := 2) (y := r 5) (z := (wsI V 7 i 0 4 (r 4 + 1)).1 7 i 0 0)
        rw [ob2_i a1]
        have e0 : (wsI V 7 i 0 4 (r 4 + 1)).1 7 i 0 0 = r 0 := by rw [wsI_k _ (by decide), ← hV, wsI_k _ (by decide), hs 0 (by omega)]
        rw [e0] at a3
        refine ⟨V2, rfl, (f1.tr (frQ.I ⟨rfl, by omega⟩)).tr (a2.mono (fun c i g k ⟨q1, q2⟩ => ⟨q2, Or.inl q1⟩)), ?_, ?_, ?_⟩
        · rw [a2.1 7 i 0 4 (by unfold lgQ; omega), wsI_r, hp, if_pos rfl]
        · rw [a2.1 7 i 0 5 (by unfold lgQ; omega), wsI_k _ (by decide), v5, if_neg hM0]
        · rw [hp]
          exact a3
def dnQ (s : Nat) : Nat → Nat → Nat → Nat → Prop := fun c i _ k => i = s ∧ (c = 0 ∨ (c = 4 ∧ k = 3))
theorem c_done (ht : vo 8 t 0 = true) (hi : i < 8) {n : Nat} {τ : Int32} {r' : Nat → Int32} (hn : n ≤ 12) (h6 : W.1 7 i 0 6 = nI n) (h0 : W.1 7 i 0 0 = τ) (hg : ∀ g, g < n → ∀ k, k < 5 → W.1 4 i g k = gO r g k) (hf : ∀ g, g < n → flR W i g r' ∧ flK r' g (nF r' g)) {l : List (Int32 × Int32 × Int32)} (hl : lgV W i l) : ∃ V, f_X8_noteDone (b + ad 8 t 0) (b + ad 7 i 0) (wd b W) = some ((), wd b V) ∧ frQ (dnQ i) W V ∧ (∀ g, g < n → V.1 4 i g 3 = if (opB r g && decide (undO r' g = 0)) = true then τ else gO r g 3) ∧ lgV V i (evG l 1 τ (fun g => opB r g && decide (undO r' g = 0)) n) := by
  have hv7 := vo7 hi
  unfold f_X8_noteDone
  rw [oO_8 ht]
  refine loopE (fun m g (V : WD) => f_X8_noteDone_L2 (b + ad 7 i 0) (fun N17 => some ((), N17)) m (nI g) (wd b V)) n (fun g V => frQ (dnQ i) W V ∧ (∀ q, q < n → V.1 4 i q 3 = if q < g ∧ (opB r q && decide (undO r' q = 0)) = true then τ else gO r q 3) ∧ lgV V i (evG l 1 τ (fun g => opB r g && decide (undO r' g = 0)) g)) (fun y => ∃ V, y = some ((), wd b V) ∧ frQ (dnQ i) W V ∧ (∀ g, g < n → V.1 4 i g 3 = if (opB r g && decide (undO r' g = 0)) = true then τ else gO r g 3) ∧ lgV V i (evG l 1 τ (fun g => opB r g && decide (undO r' g = 0)) n)) ?_ ?_ FU 0 W (by omega) (by have := FUgt; omega) ⟨frQ.rf, fun q hq => by rw [if_neg (fun z => by omega)]; exact hg q hq 3 (by omega), hl⟩
  · intro m g V hgn ⟨k1, k2, k3⟩
    have e6 : V.1 7 i 0 6 = nI n := by rw [k1.1 7 i 0 6 (by unfold dnQ; omega), h6]
    have e0 : V.1 7 i 0 0 = τ := by rw [k1.1 7 i 0 0 (by unfold dnQ; omega), h0]
    have hv4 := vo4 (g := g) hi (by omega)
    have hv1 := vo1 (g := g) hi (by omega)
    have hgV : ∀ k, k < 5 → V.1 4 i g k = gO r g k := by
      intro k hk
      by_cases hk3 : k = 3
      · rw [hk3, k2 g hgn, if_neg (fun z => by omega)]
      · rw [k1.1 4 i g k (by unfold dnQ; omega)]
        exact hg g hgn k hk
    have hfV : flR V i g r' := (hf g hgn).1.fr k1 (fun k hk => by unfold dnQ; omega)
    have hno : ¬ (opB r g && decide (undO r' g = 0)) = true → ∃ s', (frQ (dnQ i) W s' ∧ (∀ q, q < n → s'.1 4 i q 3 = if q < g + 1 ∧ (opB r q && decide (undO r' q = 0)) = true then τ else gO r q 3) ∧ lgV s' i (evG l 1 τ (fun g => opB r g && decide (undO r' g = 0)) (g + 1))) ∧ f_X8_noteDone_L2 (b + ad 7 i 0) (fun N17 => some ((), N17)) m (nI (g + 1)) (wd b V) = f_X8_noteDone_L2 (b + ad 7 i 0) (fun N17 => some ((), N17)) m (nI (g + 1)) (wd b s') := by
      intro hc
      refine ⟨V, ⟨k1, fun q hq => ?_, by rw [evG, if_neg hc]; exact k3⟩, rfl⟩
      rw [k2 q hq]
      by_cases hqg : q = g
      · subst hqg
        rw [if_neg (fun z => hc z.2), if_neg (fun z => hc z.2)]
      · by_cases hlt : q < g
        · simp [hlt, show q < g + 1 by omega]
        · simp [hlt, show ¬ q < g + 1 by omega]
    try dsimp only
    rw [f_X8_noteDone_L2, o7_6 hv7, e6, if_neg (le_n hgn (by omega)), o7_10 hv7, oa7_10 hv7 (by omega), ob2_i (c_isOpen (b := b) hv4 hgV), nI_1]
    cases hop : opB r g with
    | false =>
      rw [if_pos (by decide)]
      exact hno (by rw [hop]; simp)
    | true =>
      rw [if_neg (by decide), o4_5 hv4, ob2_i (c_countUndone (b := b) hv1 hfV (hf g hgn).2)]
      by_cases hu : undO r' g = 0
      · have hc : (opB r g && decide (undO r' g = 0)) = true := by simp [hop, hu]
        rw [if_neg (fun q => q hu), o7_0 hv7, e0, p4_3 hv4, o7_11 hv7, o7_0 hv7]
        obtain ⟨V2, a1, a2, a3⟩ := c_add (b := b) (W := wsI V 4 i g 3 τ) (i := i) hi (k3.fr (frQ.I (Q := fun c _ _ _ => c = 4) rfl) (fun k q => by cases q)) (x := 1) (y := nI g) (z := (wsI V 4 i g 3 τ).1 7 i 0 0)
        have ez : (wsI V 4 i g 3 τ).1 7 i 0 0 = τ := by rw [wsI_n _ (by omega), e0]
        rw [ob2_i a1]
        rw [ez] at a3
        refine ⟨V2, ⟨(k1.tr (frQ.I ⟨rfl, by omega⟩)).tr (a2.mono (fun c i g k ⟨q1, q2⟩ => ⟨q2, Or.inl q1⟩)), fun q hq => ?_, by rw [evG, if_pos hc]; exact a3⟩, rfl⟩
        rw [a2.1 4 i q 3 (by unfold lgQ; omega)]
        by_cases hqg : q = g
        · subst hqg
          rw [wsI_r, if_pos ⟨by omega, hc⟩]
        · rw [wsI_n _ (by omega), k2 q hq]
          by_cases hlt : q < g
          · simp [hlt, show q < g + 1 by omega]
          · simp [hlt, show ¬ q < g + 1 by omega]
      · rw [if_pos hu]
        exact hno (by simp [hu])
  · intro m V ⟨k1, k2, k3⟩
    have e6 : V.1 7 i 0 6 = nI n := by rw [k1.1 7 i 0 6 (by unfold dnQ; omega), h6]
    try dsimp only
    rw [f_X8_noteDone_L2, o7_6 hv7, e6, if_pos (le_p (Nat.le_refl _) (by omega))]
    exact ⟨V, rfl, k1, fun g hgn => by rw [k2 g hgn]; simp [hgn], k3⟩
theorem c_late (ht : vo 8 t 0 = true) (hi : i < 8) {n : Nat} {τ : Int32} (hn : n ≤ 12) (h6 : W.1 7 i 0 6 = nI n) (h0 : W.1 7 i 0 0 = τ) (hg : ∀ g, g < n → ∀ k, k < 5 → W.1 4 i g k = gO r g k) {l : List (Int32 × Int32 × Int32)} (hl : lgV W i l) : ∃ V, f_X8_noteLate (b + ad 8 t 0) (b + ad 7 i 0) (wd b W) = some ((), wd b V) ∧ frQ (lgQ i) W V ∧ lgV V i (evG l 4 τ (fun g => opB r g && (!decide (gO r g 2 ≤ 0) && decide (gO r g 0 + gO r g 2 = τ))) n) := by
  have hv7 := vo7 hi
  unfold f_X8_noteLate
  rw [oO_8 ht]
  refine loopE (fun m g (V : WD) => f_X8_noteLate_L2 (b + ad 7 i 0) (fun N17 => some ((), N17)) m (nI g) (wd b V)) n (fun g V => frQ (lgQ i) W V ∧ lgV V i (evG l 4 τ (fun g => opB r g && (!decide (gO r g 2 ≤ 0) && decide (gO r g 0 + gO r g 2 = τ))) g)) (fun y => ∃ V, y = some ((), wd b V) ∧ frQ (lgQ i) W V ∧ lgV V i (evG l 4 τ (fun g => opB r g && (!decide (gO r g 2 ≤ 0) && decide (gO r g 0 + gO r g 2 = τ))) n)) ?_ ?_ FU 0 W (by omega) (by have := FUgt; omega) ⟨frQ.rf, hl⟩
  · intro m g V hgn ⟨k1, k3⟩
    have e6 : V.1 7 i 0 6 = nI n := by rw [k1.1 7 i 0 6 (by unfold lgQ; omega), h6]
    have e0 : V.1 7 i 0 0 = τ := by rw [k1.1 7 i 0 0 (by unfold lgQ; omega), h0]
    have hv4 := vo4 (g := g) hi (by omega)
    have hgV : ∀ k, k < 5 → V.1 4 i g k = gO r g k := fun k hk => by
      rw [k1.1 4 i g k (by unfold lgQ; omega)]
      exact hg g hgn k hk
    have hno : ¬ (opB r g && (!decide (gO r g 2 ≤ 0) && decide (gO r g 0 + gO r g 2 = τ))) = true → ∃ s', (frQ (lgQ i) W s' ∧ lgV s' i (evG l 4 τ (fun g => opB r g && (!decide (gO r g 2 ≤ 0) && decide (gO r g 0 + gO r g 2 = τ))) (g + 1))) ∧ f_X8_noteLate_L2 (b + ad 7 i 0) (fun N17 => some ((), N17)) m (nI (g + 1)) (wd b V) = f_X8_noteLate_L2 (b + ad 7 i 0) (fun N17 => some ((), N17)) m (nI (g + 1)) (wd b s') := by
      intro hc
      exact ⟨V, ⟨k1, by rw [evG, if_neg hc]; exact k3⟩, rfl⟩
    try dsimp only
    rw [f_X8_noteLate_L2, o7_6 hv7, e6, if_neg (le_n hgn (by omega)), o7_10 hv7, oa7_10 hv7 (by omega), ob2_i (c_isOpen (b := b) hv4 hgV), nI_1]
    cases hop : opB r g with
    | false =>
      rw [if_pos (by decide)]
      exact hno (by rw [hop]; simp)
    | true =>
      rw [if_neg (by decide), o4_2 hv4, hgV 2 (by omega)]
      by_cases h2 : gO r g 2 ≤ 0
      · rw [if_pos h2]
        exact hno (by simp [h2])
      · rw [if_neg h2, ob2_i (c_deadlineEnd (b := b) hv4 hgV), o7_0 hv7, e0]
        by_cases h3 : gO r g 0 + gO r g 2 = τ
        · have hc : (opB r g && (!decide (gO r g 2 ≤ 0) && decide (gO r g 0 + gO r g 2 = τ))) = true := by simp only [hop, h2, h3]; rfl
          rw [if_neg (fun q => q h3), o7_11 hv7, o7_0 hv7, e0]
          obtain ⟨V2, a1, a2, a3⟩ := c_add (b := b) (W := V) (i := i) hi k3 (x := 4) (y := nI g) (z := τ)
          rw [ob2_i a1]
          exact ⟨V2, ⟨k1.tr a2, by rw [evG, if_pos hc]; exact a3⟩, rfl⟩
        · rw [if_pos h3]
          exact hno (by simp [h3])
  · intro m V ⟨k1, k3⟩
    have e6 : V.1 7 i 0 6 = nI n := by rw [k1.1 7 i 0 6 (by unfold lgQ; omega), h6]
    try dsimp only
    rw [f_X8_noteLate_L2, o7_6 hv7, e6, if_pos (le_p (Nat.le_refl _) (by omega))]
    exact ⟨V, rfl, k1, k3⟩
end
