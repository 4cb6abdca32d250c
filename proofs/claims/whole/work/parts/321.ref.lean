/-! a tick of the reference -/
def anyB (f : Nat → Bool) : Nat → Bool
  | 0 => false
  | n + 1 => anyB f n || f n
theorem anyB_iff {f : Nat → Bool} : ∀ {n : Nat}, anyB f n = true ↔ ∃ i, i < n ∧ f i = true
  | 0 => ⟨fun h => (by cases h), fun ⟨i, h, _⟩ => absurd h (Nat.not_lt_zero i)⟩
  | n + 1 => by
    rw [anyB, Bool.or_eq_true, anyB_iff]
    constructor
    · rintro (⟨i, h1, h2⟩ | h)
      · exact ⟨i, by omega, h2⟩
      · exact ⟨n, by omega, h⟩
    · rintro ⟨i, h1, h2⟩
      rcases Nat.lt_or_ge i n with h | h
      · exact Or.inl ⟨i, h, h2⟩
      · rw [show i = n by omega] at h2
        exact Or.inr h2
def inB (M : Nat) (O : Nat → Nat) (g : Nat) : Bool := anyB (fun x => decide (O x = g)) M
noncomputable def dnS (r : Nat → Int32) (dl : Bool) (M : Nat) (O : Nat → Nat) (g : Nat) : Bool := inB M O g && decide (sumI (fun f => fO r g f 3 - finR r dl M O g f) (nF r g) = 0)
noncomputable def enS (r : Nat → Int32) (dl : Bool) (M : Nat) (O : Nat → Nat) (g : Nat) : Int32 := if dnS r dl M O g = true then r 0 + 1 else gO r g 3
noncomputable def ltS (r : Nat → Int32) (dl : Bool) (M : Nat) (O : Nat → Nat) (g : Nat) : Bool := !decide (gO r g 2 ≤ 0) && (decide (gO r g 0 + gO r g 2 = r 0 + 1) && decide ((if gO r g 4 = 1 then (3 : Int32) else if enS r dl M O g = -1 then (if gO r g 0 ≤ r 0 + 1 then 1 else 0) else 2) = 1))
def evG (l : List (Int32 × Int32 × Int32)) (k : Int32) (t : Int32) (c : Nat → Bool) : Nat → List (Int32 × Int32 × Int32)
  | 0 => l
  | g + 1 => if c g = true then push1 (evG l k t c g) (k, nI g, t) else evG l k t c g
theorem evG_cg {l : List (Int32 × Int32 × Int32)} {k t : Int32} {c c' : Nat → Bool} : ∀ {n : Nat}, (∀ g, g < n → c g = c' g) → evG l k t c n = evG l k t c' n
  | 0, _ => rfl
  | n + 1, h => by rw [evG, evG, evG_cg (fun g hg => h g (by omega)), h n (by omega)]
noncomputable def evT (r : Nat → Int32) (dl : Bool) (M : Nat) (O : Nat → Nat) : List (Int32 × Int32 × Int32) := evG (evG (if preB r M O = true then push1 (evs r) (2, r 5, r 0) else evs r) 1 (r 0 + 1) (dnS r dl M O) (nG r)) 4 (r 0 + 1) (ltS r dl M O) (nG r)
/-- r' is what a tick makes of r, with the order O of M groups -/
def tkR (dl : Bool) (M : Nat) (O : Nat → Nat) (r r' : Nat → Int32) : Prop :=
  r' 0 = r 0 + 1 ∧ (r' 1 = r 1 ∧ r' 2 = r 2 ∧ r' 3 = r 3 ∧ r' 6 = r 6 ∧ r' 7 = r 7) ∧ r' 4 = (if preB r M O = true then r 4 + 1 else r 4) ∧ r' 5 = (if M = 0 then r 5 else nI (O 0)) ∧ (∀ q, 10 ≤ q → q < 26 → r' q = r q) ∧ (∀ q, 42 ≤ q → q < 90 → r' q = r q) ∧ (∀ p, p < 16 → r' (26 + p) = r (26 + p) + sumI (fun g => sumI (fun f => thr1 r g f p (finR r dl M O g f)) (nF r g)) (nG r)) ∧ (∀ g, g < nG r → (∀ k, k ≠ 3 → k < 6 → gO r' g k = gO r g k) ∧ gO r' g 3 = enS r dl M O g ∧ ∀ f, f < nF r g → (∀ k, k < 3 → fO r' g f k = fO r g f k) ∧ fO r' g f 3 = fO r g f 3 - finR r dl M O g f ∧ fO r' g f 4 = finR r dl M O g f) ∧ (okE r' ∧ evs r' = evT r dl M O) ∧ ∀ q, 1182 ≤ q → r' q = r q
section
variable {b : Nat} {W : WD}
theorem m_was {g M : Nat} {O : Nat → Nat} (hM : M ≤ 12) (h7 : W.1 10 0 0 7 = nI M) (h6 : ∀ x, x < M → W.2.1 10 0 0 6 x = nI (O x) ∧ O x < 12) (hg : g < 12) {k : Int32 → AH → Option (Unit × AH)} : f_X10_ticks_L59 (b + ad 10 0 0) (nI g) k FU (0 : Int32) (0 : Int32) (wd b W) = k (bI (inB M O g)) (wd b W) := by
  refine loopN (fun m i => f_X10_ticks_L59 (b + ad 10 0 0) (nI g) k m (bI (inB i O g)) (nI i) (wd b W)) M ?_ ?_ FU 0 (by omega) (by have := FUgt; omega)
  · intro m i hi
    obtain ⟨o1, o2⟩ := h6 i hi
    try dsimp only
    rw [f_X10_ticks_L59, o10_7 h10, h7, if_neg (le_n hi (by omega))]
    cases h : inB i O g with
    | true =>
      rw [if_pos (by decide), nI_1]
      simp [inB, anyB] at h ⊢
      simp [h, bI]
    | false =>
      rw [if_neg (by decide), o10_6 h10, oa10_6 h10 (by omega), o1, nI_1]
      by_cases hog : O i = g
      · rw [if_neg (fun q => q (by rw [hog]))]
        simp [inB, anyB, hog, bI]
      · rw [if_pos (ne_p hog (by omega) (by omega))]
        simp [inB, anyB, hog, bI] at h ⊢
        simp [h]
  · intro m
    try dsimp only
    rw [f_X10_ticks_L59, o10_7 h10, h7, if_pos (le_p (Nat.le_refl _) (by omega))]
theorem m_done {M : Nat} {O : Nat → Nat} {r1 : Nat → Int32} (hr : W.2.1 10 0 0 0 = r1) (hM : M ≤ 12) (h7 : W.1 10 0 0 7 = nI M) (h6 : ∀ x, x < M → W.2.1 10 0 0 6 x = nI (O x) ∧ O x < 12) (hG1 : r1 6 = nI (nG r1)) (hG2 : nG r1 ≤ 12) (hF : ∀ g, g < nG r1 → gO r1 g 5 = nI (nF r1 g) ∧ nF r1 g ≤ 16) (hE : okE r1) {k : AH → Option (Unit × AH)} : ∃ r', f_X10_ticks_L44 (b + ad 10 0 0) k FU (0 : Int32) (wd b W) = k (wd b (wsA W 10 0 0 0 r')) ∧ (∀ q, q ≠ 8 → q < 1122 ∨ 1182 ≤ q → (∀ g, g < nG r1 → q ≠ 90 + 86 * g + 3) → r' q = r1 q) ∧ (∀ g, g < nG r1 → gO r' g 3 = if (inB M O g && decide (rstO r1 g = 0)) = true then r1 0 else gO r1 g 3) ∧ okE r' ∧ evs r' = evG (evs r1) 1 (r1 0) (fun g => inB M O g && decide (rstO r1 g = 0)) (nG r1) := by
  suffices h : ∃ r', f_X10_ticks_L44 (b + ad 10 0 0) k FU (nI 0) (wd b (wsA W 10 0 0 0 r1)) = k (wd b (wsA W 10 0 0 0 r')) ∧ (∀ q, q ≠ 8 → q < 1122 ∨ 1182 ≤ q → (∀ g, g < nG r1 → q ≠ 90 + 86 * g + 3) → r' q = r1 q) ∧ (∀ g, g < nG r1 → gO r' g 3 = if (inB M O g && decide (rstO r1 g = 0)) = true then r1 0 else gO r1 g 3) ∧ okE r' ∧ evs r' = evG (evs r1) 1 (r1 0) (fun g => inB M O g && decide (rstO r1 g = 0)) (nG r1) by
    rw [← hr, wsA_s] at h
    rw [hr] at h
    exact h
  refine loopE (fun m i (rr : Nat → Int32) => f_X10_ticks_L44 (b + ad 10 0 0) k m (nI i) (wd b (wsA W 10 0 0 0 rr))) (nG r1) (fun i rr => (∀ q, q ≠ 8 → q < 1122 ∨ 1182 ≤ q → (∀ g, g < i → q ≠ 90 + 86 * g + 3) → rr q = r1 q) ∧ (∀ g, g < i → gO rr g 3 = if (inB M O g && decide (rstO r1 g = 0)) = true then r1 0 else gO r1 g 3) ∧ okE rr ∧ evs rr = evG (evs r1) 1 (r1 0) (fun g => inB M O g && decide (rstO r1 g = 0)) i) (fun z => ∃ r', z = k (wd b (wsA W 10 0 0 0 r')) ∧ (∀ q, q ≠ 8 → q < 1122 ∨ 1182 ≤ q → (∀ g, g < nG r1 → q ≠ 90 + 86 * g + 3) → r' q = r1 q) ∧ (∀ g, g < nG r1 → gO r' g 3 = if (inB M O g && decide (rstO r1 g = 0)) = true then r1 0 else gO r1 g 3) ∧ okE r' ∧ evs r' = evG (evs r1) 1 (r1 0) (fun g => inB M O g && decide (rstO r1 g = 0)) (nG r1)) ?_ ?_ FU 0 r1 (by omega) (by have := FUgt; omega) ⟨fun _ _ _ _ => rfl, fun g hg => absurd hg (Nat.not_lt_zero g), hE, rfl⟩
  · intro m i rr hi ⟨f1, f2, f3, f4⟩
    obtain ⟨c1, c2⟩ := hF i hi
    have h6r : rr 6 = nI (nG r1) := by rw [f1 6 (by omega) (by omega) (fun g _ => by omega)]; exact hG1
    have h0r : rr 0 = r1 0 := f1 0 (by omega) (by omega) (fun g _ => by omega)
    have h5 : gO rr i 5 = nI (nF r1 i) := by
      unfold gO
      rw [f1 _ (by omega) (by omega) (fun g _ => by omega)]
      exact c1
    have hfo : ∀ f, f < nF r1 i → fO rr i f 3 = fO r1 i f 3 := fun f hf => by
      unfold fO
      rw [f1 _ (by omega) (by omega) (fun g _ => Ne.symm (ix_gf (by omega) (by omega) (by omega)))]
    have hno : ¬ (inB M O i && decide (rstO r1 i = 0)) = true → ∃ s', ((∀ q, q ≠ 8 → q < 1122 ∨ 1182 ≤ q → (∀ g, g < i + 1 → q ≠ 90 + 86 * g + 3) → s' q = r1 q) ∧ (∀ g, g < i + 1 → gO s' g 3 = if (inB M O g && decide (rstO r1 g = 0)) = true then r1 0 else gO r1 g 3) ∧ okE s' ∧ evs s' = evG (evs r1) 1 (r1 0) (fun g => inB M O g && decide (rstO r1 g = 0)) (i + 1)) ∧ f_X10_ticks_L44 (b + ad 10 0 0) k m (nI (i + 1)) (wd b (wsA W 10 0 0 0 rr)) = f_X10_ticks_L44 (b + ad 10 0 0) k m (nI (i + 1)) (wd b (wsA W 10 0 0 0 s')) := by
      intro hc
      refine ⟨rr, ⟨fun q q1 q2 q3 => f1 q q1 q2 (fun g hg => q3 g (by omega)), ?_, f3, ?_⟩, rfl⟩
      · intro g hg
        by_cases hgi : g = i
        · subst hgi
          rw [if_neg hc]
          unfold gO
          exact f1 _ (by omega) (by omega) (fun g' hg' => by omega)
        · exact f2 g (by omega)
      · rw [f4, evG, if_neg hc]
    try dsimp only
    rw [f_X10_ticks_L44, o10_0 h10, oR0 6 6 rfl (by omega), wsA_r, h6r, if_neg (le_n hi (by omega)), m_was hM (by rw [wsA_1]; exact h7) (fun x hx => by rw [wsA_k _ (by decide)]; exact h6 x hx) (by omega)]
    try dsimp only
    cases hin : inB M O i with
    | false =>
      rw [if_pos (show bI false = 0 from rfl), nI_1]
      exact hno (by simp [hin])
    | true =>
      rw [if_neg (by decide), ob2_i (m_restOf (by omega) c2 (by rw [wsA_r]; exact h5)), wsA_r, sumI_cg hfo]
      by_cases hz : rstO r1 i = 0
      · have hz' : sumI (fun f => fO r1 i f 3) (nF r1 i) = 0 := hz
        have hc : (inB M O i && decide (rstO r1 i = 0)) = true := by simp [hin, hz]
        rw [if_neg (fun q => q hz'), o10_0 h10, oR0 0 0 rfl (by omega), wsA_r, h0r, li 3, ob2_i (m_sets (by omega)), wsA_r, wsA_2, o10_0 h10, oR0 0 0 rfl (by omega), wsA_r, pk_un (by omega), h0r]
        have hE1 : okE (upd rr (90 + 86 * i + 3) (r1 0)) := by
          refine ⟨?_, ?_⟩
          · unfold nE
            rw [pk_un (by omega)]
            exact f3.1
          · unfold nE
            rw [pk_un (by omega)]
            exact f3.2
        obtain ⟨r2, n1, n2, n3, n4⟩ := m_notes (b := b) (W := wsA W 10 0 0 0 (upd rr (90 + 86 * i + 3) (r1 0))) (x := 1) (y := nI i) (z := r1 0) (by rw [wsA_r]) hE1
        rw [wsA_2] at n1
        rw [ob2_i n1, nI_1]
        refine ⟨r2, ⟨?_, ?_, n3, ?_⟩, rfl⟩
        · intro q q1 q2 q3
          rw [n2 q q1 q2, pk_un (q3 i (by omega))]
          exact f1 q q1 q2 (fun g hg => q3 g (by omega))
        · intro g hg
          have e : gO r2 g 3 = gO (upd rr (90 + 86 * i + 3) (r1 0)) g 3 := n2 _ (by omega) (by omega)
          rw [e]
          by_cases hgi : g = i
          · subst hgi
            rw [if_pos hc]
            exact pk_us
          · rw [gO_un (by omega)]
            exact f2 g (by omega)
        · rw [n4, evG, if_pos hc]
          congr 1
          rw [← f4]
          exact evs_cg (pk_un (by omega)) (fun q q1 q2 => pk_un (by omega)) f3.2
      · have hz' : ¬ sumI (fun f => fO r1 i f 3) (nF r1 i) = 0 := hz
        rw [if_pos hz', nI_1]
        exact hno (by simp [hz])
  · intro m rr ⟨f1, f2, f3, f4⟩
    have h6r : rr 6 = nI (nG r1) := by rw [f1 6 (by omega) (by omega) (fun g _ => by omega)]; exact hG1
    try dsimp only
    rw [f_X10_ticks_L44, o10_0 h10, oR0 6 6 rfl (by omega), wsA_r, h6r, if_pos (le_p (Nat.le_refl _) (by omega))]
    exact ⟨rr, rfl, f1, f2, f3, f4⟩
theorem m_late {r1 : Nat → Int32} (hr : W.2.1 10 0 0 0 = r1) (hG1 : r1 6 = nI (nG r1)) (hG2 : nG r1 ≤ 12) (hE : okE r1) {k : AH → Option (Unit × AH)} : ∃ r', f_X10_ticks_L137 (b + ad 10 0 0) k FU (0 : Int32) (wd b W) = k (wd b (wsA W 10 0 0 0 r')) ∧ (∀ q, q ≠ 8 → q < 1122 ∨ 1182 ≤ q → r' q = r1 q) ∧ okE r' ∧ evs r' = evG (evs r1) 4 (r1 0) (fun g => !decide (gO r1 g 2 ≤ 0) && (decide (gO r1 g 0 + gO r1 g 2 = r1 0) && decide (stO r1 g = 1))) (nG r1) := by
  suffices h : ∃ r', f_X10_ticks_L137 (b + ad 10 0 0) k FU (nI 0) (wd b (wsA W 10 0 0 0 r1)) = k (wd b (wsA W 10 0 0 0 r')) ∧ (∀ q, q ≠ 8 → q < 1122 ∨ 1182 ≤ q → r' q = r1 q) ∧ okE r' ∧ evs r' = evG (evs r1) 4 (r1 0) (fun g => !decide (gO r1 g 2 ≤ 0) && (decide (gO r1 g 0 + gO r1 g 2 = r1 0) && decide (stO r1 g = 1))) (nG r1) by
    rw [← hr, wsA_s] at h
    rw [hr] at h
    exact h
  refine loopE (fun m i (rr : Nat → Int32) => f_X10_ticks_L137 (b + ad 10 0 0) k m (nI i) (wd b (wsA W 10 0 0 0 rr))) (nG r1) (fun i rr => (∀ q, q ≠ 8 → q < 1122 ∨ 1182 ≤ q → rr q = r1 q) ∧ okE rr ∧ evs rr = evG (evs r1) 4 (r1 0) (fun g => !decide (gO r1 g 2 ≤ 0) && (decide (gO r1 g 0 + gO r1 g 2 = r1 0) && decide (stO r1 g = 1))) i) (fun z => ∃ r', z = k (wd b (wsA W 10 0 0 0 r')) ∧ (∀ q, q ≠ 8 → q < 1122 ∨ 1182 ≤ q → r' q = r1 q) ∧ okE r' ∧ evs r' = evG (evs r1) 4 (r1 0) (fun g => !decide (gO r1 g 2 ≤ 0) && (decide (gO r1 g 0 + gO r1 g 2 = r1 0) && decide (stO r1 g = 1))) (nG r1)) ?_ ?_ FU 0 r1 (by omega) (by have := FUgt; omega) ⟨fun _ _ _ => rfl, hE, rfl⟩
  · intro m i rr hi ⟨f1, f3, f4⟩
    have h6r : rr 6 = nI (nG r1) := by rw [f1 6 (by omega) (by omega)]; exact hG1
    have h0r : rr 0 = r1 0 := f1 0 (by omega) (by omega)
    have hgo : ∀ k, k < 6 → gO rr i k = gO r1 i k := fun k hk => by unfold gO; exact f1 _ (by omega) (by omega)
    have hst : stO rr i = stO r1 i := by
      unfold stO
      rw [hgo 4 (by omega), hgo 3 (by omega), hgo 0 (by omega), h0r]
    have hno : ¬ (!decide (gO r1 i 2 ≤ 0) && (decide (gO r1 i 0 + gO r1 i 2 = r1 0) && decide (stO r1 i = 1))) = true → ∃ s', ((∀ q, q ≠ 8 → q < 1122 ∨ 1182 ≤ q → s' q = r1 q) ∧ okE s' ∧ evs s' = evG (evs r1) 4 (r1 0) (fun g => !decide (gO r1 g 2 ≤ 0) && (decide (gO r1 g 0 + gO r1 g 2 = r1 0) && decide (stO r1 g = 1))) (i + 1)) ∧ f_X10_ticks_L137 (b + ad 10 0 0) k m (nI (i + 1)) (wd b (wsA W 10 0 0 0 rr)) = f_X10_ticks_L137 (b + ad 10 0 0) k m (nI (i + 1)) (wd b (wsA W 10 0 0 0 s')) := by
      intro hc
      exact ⟨rr, ⟨f1, f3, by rw [f4, evG, if_neg hc]⟩, rfl⟩
    try dsimp only
    rw [f_X10_ticks_L137, o10_0 h10, oR0 6 6 rfl (by omega), wsA_r, h6r, if_neg (le_n hi (by omega)), ob2_i (m_ofk 2 2 rfl (by omega)), wsA_r, hgo 2 (by omega)]
    by_cases h2 : gO r1 i 2 ≤ 0
    · rw [if_pos h2, nI_1]
      exact hno (by simp [h2])
    · rw [if_neg h2, ob2_i (m_ofk 0 0 rfl (by omega)), wsA_r, hgo 0 (by omega), ob2_i (m_ofk 2 2 rfl (by omega)), wsA_r, hgo 2 (by omega), o10_0 h10, oR0 0 0 rfl (by omega), wsA_r, h0r]
      by_cases h3 : gO r1 i 0 + gO r1 i 2 = r1 0
      · rw [if_neg (fun q => q h3), ob2_i (m_stateOf (by omega)), wsA_r, hst]
        by_cases h4 : stO r1 i = 1
        · have hc : (!decide (gO r1 i 2 ≤ 0) && (decide (gO r1 i 0 + gO r1 i 2 = r1 0) && decide (stO r1 i = 1))) = true := by simp only [h2, h3, h4]; rfl
          rw [if_neg (fun q => q h4), o10_0 h10, oR0 0 0 rfl (by omega), wsA_r, h0r]
          obtain ⟨r2, n1, n2, n3, n4⟩ := m_notes (b := b) (W := wsA W 10 0 0 0 rr) (x := 4) (y := nI i) (z := r1 0) (by rw [wsA_r]) f3
          rw [wsA_2] at n1
          rw [ob2_i n1, nI_1]
          refine ⟨r2, ⟨fun q q1 q2 => by rw [n2 q q1 q2, f1 q q1 q2], n3, ?_⟩, rfl⟩
          rw [n4, evG, if_pos hc, f4]
        · rw [if_pos h4, nI_1]
          exact hno (by simp [h4])
      · rw [if_pos h3, nI_1]
        exact hno (by simp [h3])
  · intro m rr ⟨f1, f3, f4⟩
    have h6r : rr 6 = nI (nG r1) := by rw [f1 6 (by omega) (by omega)]; exact hG1
    try dsimp only
    rw [f_X10_ticks_L137, o10_0 h10, oR0 6 6 rfl (by omega), wsA_r, h6r, if_pos (le_p (Nat.le_refl _) (by omega))]
    exact ⟨rr, rfl, f1, f3, f4⟩
end
