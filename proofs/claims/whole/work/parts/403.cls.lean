/-! the relation between a state of the class and a row of the reference -/
def grR (W : WD) (i g : Nat) (r : Nat → Int32) : Prop := (∀ k, k < 5 → W.1 4 i g k = gO r g k) ∧ flR W i g r ∧ ∀ f, f < nF r g → W.2.1 1 i g 5 f = fO r g f 4
def nD (r : Nat → Int32) : Nat := vN (r 7)
def dfR (W : WD) (i : Nat) (r : Nat → Int32) : Prop := W.1 11 i 0 0 = r 7 ∧ ∀ f, f < nD r → W.2.1 11 i 0 1 f = r (42 + 3 * f) ∧ W.2.1 11 i 0 2 f = r (42 + 3 * f + 1) ∧ W.2.1 11 i 0 3 f = r (42 + 3 * f + 2) ∧ W.2.1 11 i 0 4 f = r (42 + 3 * f + 2) ∧ W.2.1 11 i 0 5 f = 0
/-- the ring of events -/
def lgR (W : WD) (i : Nat) (r : Nat → Int32) : Prop := W.1 0 i 0 0 = r 8 ∧ ∃ n, n < 20 ∧ W.1 0 i 0 1 = nI n ∧ ∀ k, k < nE r → (W.2.1 0 i 0 2 ((n + 20 - nE r + k) % 20), W.2.1 0 i 0 3 ((n + 20 - nE r + k) % 20), W.2.1 0 i 0 4 ((n + 20 - nE r + k) % 20)) = ev1 r k
def stR (W : WD) (i : Nat) (r : Nat → Int32) : Prop := (∀ k, k < 7 → W.1 7 i 0 k = r k) ∧ (∀ p, p < 16 → W.2.1 7 i 0 7 p = r (10 + p) ∧ W.2.1 7 i 0 8 p = r (26 + p)) ∧ dfR W i r ∧ (∀ g, g < nG r → grR W i g r) ∧ lgR W i r
theorem flR.fr {Q : Nat → Nat → Nat → Nat → Prop} {W V : WD} {i g : Nat} {r : Nat → Int32} (h : flR W i g r) (hf : frQ Q W V) (hq : ∀ k, k < 5 → ¬ Q 1 i g k) : flR V i g r := by
  refine ⟨by rw [hf.1 1 i g 0 (hq 0 (by omega))]; exact h.1, fun f hff => ?_⟩
  rw [hf.2.1 1 i g 1 (hq 1 (by omega)), hf.2.1 1 i g 2 (hq 2 (by omega)), hf.2.1 1 i g 3 (hq 3 (by omega)), hf.2.1 1 i g 4 (hq 4 (by omega))]
  exact h.2 f hff
theorem grR.fr {Q : Nat → Nat → Nat → Nat → Prop} {W V : WD} {i g : Nat} {r : Nat → Int32} (h : grR W i g r) (hf : frQ Q W V) (hq : ∀ c k, c = 1 ∨ c = 4 → ¬ Q c i g k) : grR V i g r := by
  refine ⟨fun k hk => by rw [hf.1 4 i g k (hq 4 k (by omega))]; exact h.1 k hk, h.2.1.fr hf (fun k _ => hq 1 k (by omega)), fun f hff => ?_⟩
  rw [hf.2.1 1 i g 5 (hq 1 5 (by omega))]
  exact h.2.2 f hff
theorem dfR.fr {Q : Nat → Nat → Nat → Nat → Prop} {W V : WD} {i : Nat} {r : Nat → Int32} (h : dfR W i r) (hf : frQ Q W V) (hq : ∀ k, ¬ Q 11 i 0 k) : dfR V i r := by
  refine ⟨by rw [hf.1 11 i 0 0 (hq 0)]; exact h.1, fun f hff => ?_⟩
  rw [hf.2.1 11 i 0 1 (hq 1), hf.2.1 11 i 0 2 (hq 2), hf.2.1 11 i 0 3 (hq 3), hf.2.1 11 i 0 4 (hq 4), hf.2.1 11 i 0 5 (hq 5)]
  exact h.2 f hff
theorem lgR.fr {Q : Nat → Nat → Nat → Nat → Prop} {W V : WD} {i : Nat} {r : Nat → Int32} (h : lgR W i r) (hf : frQ Q W V) (hq : ∀ k, ¬ Q 0 i 0 k) : lgR V i r := by
  obtain ⟨h1, n, h2, h3, h4⟩ := h
  refine ⟨by rw [hf.1 0 i 0 0 (hq 0)]; exact h1, n, h2, by rw [hf.1 0 i 0 1 (hq 1)]; exact h3, ?_⟩
  rw [hf.2.1 0 i 0 2 (hq 2), hf.2.1 0 i 0 3 (hq 3), hf.2.1 0 i 0 4 (hq 4)]
  exact h4
/-- cells of a state -/
def inS (c : Nat) : Prop := c = 0 ∨ c = 1 ∨ c = 4 ∨ c = 7 ∨ c = 11
theorem stR.fr {Q : Nat → Nat → Nat → Nat → Prop} {W V : WD} {i : Nat} {r : Nat → Int32} (h : stR W i r) (hf : frQ Q W V) (hq : ∀ c g k, inS c → ¬ Q c i g k) : stR V i r := by
  obtain ⟨h1, h2, h3, h4, h5⟩ := h
  refine ⟨fun k hk => by rw [hf.1 7 i 0 k (hq _ _ _ (by unfold inS; omega))]; exact h1 k hk, ?_, h3.fr hf (fun k => hq _ _ _ (by unfold inS; omega)), fun g hg => (h4 g hg).fr hf (fun c k hc => hq _ _ _ (by unfold inS; omega)), h5.fr hf (fun k => hq _ _ _ (by unfold inS; omega))⟩
  rw [hf.2.1 7 i 0 7 (hq _ _ _ (by unfold inS; omega)), hf.2.1 7 i 0 8 (hq _ _ _ (by unfold inS; omega))]
  exact h2
/-! rows of the reference that hold a state -/
def opB (r : Nat → Int32) (g : Nat) : Bool := decide (gO r g 4 = 0) && decide (gO r g 3 = -1)
def grK (r : Nat → Int32) (g T : Nat) : Prop := (gO r g 0 = nI (vN (gO r g 0)) ∧ vN (gO r g 0) ≤ T + 1000) ∧ (gO r g 1 = nI (vN (gO r g 1)) ∧ 1 ≤ vN (gO r g 1) ∧ vN (gO r g 1) ≤ 100) ∧ (gO r g 2 = nI (vN (gO r g 2)) ∧ vN (gO r g 2) ≤ 10000) ∧ (gO r g 4 = 0 ∨ (gO r g 4 = 1 ∧ gO r g 3 = -1)) ∧ (∀ f, f < nF r g → fO r g f 2 = nI (vN (fO r g f 2)) ∧ vN (fO r g f 2) ≤ 100000 ∧ vN (fO r g f 3) ≤ vN (fO r g f 2)) ∧ ((gO r g 3 = -1 ∧ ∃ f, f < nF r g ∧ 0 < vN (fO r g f 3)) ∨ (gO r g 3 = nI (vN (gO r g 3)) ∧ vN (gO r g 3) ≤ T ∧ ∀ f, f < nF r g → vN (fO r g f 3) = 0))
def dfK (r : Nat → Int32) : Prop := r 7 = nI (nD r) ∧ nD r ≤ 16 ∧ ∀ f, f < nD r → (r (42 + 3 * f) = nI (vN (r (42 + 3 * f))) ∧ vN (r (42 + 3 * f)) < 8) ∧ (r (42 + 3 * f + 1) = nI (vN (r (42 + 3 * f + 1))) ∧ vN (r (42 + 3 * f + 1)) < 8) ∧ (r (42 + 3 * f + 2) = nI (vN (r (42 + 3 * f + 2))) ∧ 1 ≤ vN (r (42 + 3 * f + 2)) ∧ vN (r (42 + 3 * f + 2)) ≤ 100000)
theorem dfK.cg {r r' : Nat → Int32} (h : dfK r) (h7 : r' 7 = r 7) (hd : ∀ q, 42 ≤ q → q < 90 → r' q = r q) : dfK r' := by
  have hn : nD r' = nD r := by unfold nD; rw [h7]
  obtain ⟨h1, h2, h3⟩ := h
  refine ⟨by rw [hn, h7]; exact h1, by rw [hn]; exact h2, fun f hf => ?_⟩
  rw [hn] at hf
  rw [hd (42 + 3 * f) (by omega) (by omega), hd (42 + 3 * f + 1) (by omega) (by omega), hd (42 + 3 * f + 2) (by omega) (by omega)]
  exact h3 f hf
def okR (r : Nat → Int32) (T : Nat) : Prop := okG r ∧ (r 0 = nI (vN (r 0)) ∧ vN (r 0) ≤ T) ∧ okE r ∧ (r 5 = -1 ∨ (r 5 = nI (vN (r 5)) ∧ vN (r 5) < nG r)) ∧ ((r 1 = nI (vN (r 1)) ∧ vN (r 1) ≤ 6) ∧ dfK r) ∧ ((r 2 = 0 ∨ r 2 = 1) ∧ (r 3 = 0 ∨ r 3 = 1)) ∧ (∀ p, p < 16 → vN (capR r p) ≤ 1000) ∧ ∀ g, g < nG r → grK r g T
theorem okR.tm {r : Nat → Int32} {T : Nat} (h : okR r T) (hT : T ≤ 900000) : tmK r := ⟨⟨h.2.1.1, by have := h.2.1.2; omega⟩, fun g hg => ⟨⟨((h.2.2.2.2.2.2.2 g hg).1).1, by have := (h.2.2.2.2.2.2.2 g hg).1.2; omega⟩, (h.2.2.2.2.2.2.2 g hg).2.2.1⟩⟩
theorem okR.ld {r : Nat → Int32} {T : Nat} (h : okR r T) : leadK r := by
  rcases h.2.2.2.1 with q | ⟨q1, q2⟩
  · exact Or.inl q
  · exact Or.inr ⟨q1, by have := h.1.1.2; omega⟩
theorem okR.cap {r : Nat → Int32} {T : Nat} (h : okR r T) : avS (capR r) := fun p hp => ⟨(h.1.2.2 p hp).1, by have := h.2.2.2.2.2.2.1 p hp; omega⟩
theorem nI_m1 {x : Int32} (h : x = nI (vN x)) (hx : vN x < 2147483648) : ¬ x = -1 := by rw [h]; exact nI_ne_m1 hx
theorem vN_lt (x : Int32) : vN x < 2147483648 := by
  unfold vN
  have h1 := Int32.toInt_lt x
  have h2 : (x.toNatClampNeg : Int) = max x.toInt 0 := by
    rw [Int32.toNatClampNeg]
    omega
  omega
theorem opB_st {r : Nat → Int32} {T g : Nat} (h : grK r g T) : opB r g = true ↔ (stO r g = 1 ∨ stO r g = 0) := by
  unfold opB stO
  obtain ⟨-, -, -, h4, -, h6⟩ := h
  rcases h4 with q | ⟨q, q2⟩
  · rw [q, if_neg (by decide)]
    rcases h6 with ⟨z, -⟩ | ⟨z, -⟩
    · rw [z, if_pos rfl]
      split <;> simp
    · rw [if_neg (nI_m1 z (vN_lt _))]
      simp [nI_m1 z (vN_lt _)]
  · rw [q, if_pos rfl]
    simp
section
variable {b : Nat} {W : WD} {i g : Nat} {r : Nat → Int32}
theorem c_sumOfRests (hv : vo 1 i g = true) (hf : flR W i g r) (hk : flK r g (nF r g)) : f_X1_sumOfRests (b + ad 1 i g) (wd b W) = some (rstO r g, wd b W) := by
  have h16 := hk.2.1
  unfold f_X1_sumOfRests
  rw [oO_1 hv]
  refine loopN (fun m j => f_X1_sumOfRests_L4 (b + ad 1 i g) (fun v5 N6 => some (v5, N6)) m (sumI (fun f => fO r g f 3) j) (nI j) (wd b W)) (nF r g) ?_ ?_ FU 0 (by omega) (by have := FUgt; omega)
  · intro m j hj
    try dsimp only
    rw [f_X1_sumOfRests_L4, o1_0 hv, hf.1, hk.1, if_neg (le_n hj (by omega)), o1_4 hv, oa1_4 hv (by omega), (hf.2 j hj).2.2.2, nI_1]
    rfl
  · intro m
    try dsimp only
    rw [f_X1_sumOfRests_L4, o1_0 hv, hf.1, hk.1, if_pos (le_p (Nat.le_refl _) (by omega))]
    rfl
theorem c_countUndone (hv : vo 1 i g = true) (hf : flR W i g r) (hk : flK r g (nF r g)) : f_X1_countUndone (b + ad 1 i g) (wd b W) = some (undO r g, wd b W) := by
  have h16 := hk.2.1
  unfold f_X1_countUndone
  rw [oO_1 hv]
  refine loopN (fun m j => f_X1_countUndone_L4 (b + ad 1 i g) (fun v5 N6 => some (v5, N6)) m (sumI (fun f => if fO r g f 3 ≤ 0 then 0 else 1) j) (nI j) (wd b W)) (nF r g) ?_ ?_ FU 0 (by omega) (by have := FUgt; omega)
  · intro m j hj
    try dsimp only
    rw [f_X1_countUndone_L4, o1_0 hv, hf.1, hk.1, if_neg (le_n hj (by omega)), o1_4 hv, oa1_4 hv (by omega), (hf.2 j hj).2.2.2, nI_1]
    rw [show sumI (fun f => if fO r g f 3 ≤ 0 then (0 : Int32) else 1) (j + 1) = sumI (fun f => if fO r g f 3 ≤ 0 then (0 : Int32) else 1) j + (if fO r g j 3 ≤ 0 then 0 else 1) from rfl]
    split
    · rw [Int32.add_zero]
    · rfl
  · intro m
    try dsimp only
    rw [f_X1_countUndone_L4, o1_0 hv, hf.1, hk.1, if_pos (le_p (Nat.le_refl _) (by omega))]
    rfl
theorem lev_L {s : Int32} {N : AH} : f_X1_levelReached_L47 s (4 : Int32) (fun v12 N13 => some (v12, N13)) FU (0 : Int32) (0 : Int32) N = some (if s < 100000 then (if s < 10000 then (if s < 1000 then (if s < 100 then 0 else 1) else 2) else 3) else 4, N) := by
  obtain ⟨m, hm⟩ : ∃ m, FU = m + 5 := ⟨4091, rfl⟩
  have x0 : xS 4 thr (0 : Int32) = some 100 := rfl
  have x1 : xS 4 thr (0 + 1 : Int32) = some 1000 := rfl
  have x2 : xS 4 thr (0 + 1 + 1 : Int32) = some 10000 := rfl
  have x3 : xS 4 thr (0 + 1 + 1 + 1 : Int32) = some 100000 := rfl
  have tr : ∀ {x y z : Int32}, x < y → y < z → x < z := fun h1 h2 => Int32.lt_trans h1 h2
  rw [hm, f_X1_levelReached_L47, if_neg (by decide), ob_i x0]
  by_cases h1 : s < 100
  · have h2 : s < 1000 := tr h1 (by decide)
    have h3 : s < 10000 := tr h2 (by decide)
    have h4 : s < 100000 := tr h3 (by decide)
    rw [if_pos h1, f_X1_levelReached_L47, if_neg (by decide), ob_i x1, if_pos h2, f_X1_levelReached_L47, if_neg (by decide), ob_i x2, if_pos h3, f_X1_levelReached_L47, if_neg (by decide), ob_i x3, if_pos h4, f_X1_levelReached_L47, if_pos (by decide), if_pos h4, if_pos h3, if_pos h2, if_pos h1]
  · rw [if_neg h1, f_X1_levelReached_L47, if_neg (by decide), ob_i x1]
    by_cases h2 : s < 1000
    · have h3 : s < 10000 := tr h2 (by decide)
      have h4 : s < 100000 := tr h3 (by decide)
      rw [if_pos h2, f_X1_levelReached_L47, if_neg (by decide), ob_i x2, if_pos h3, f_X1_levelReached_L47, if_neg (by decide), ob_i x3, if_pos h4, f_X1_levelReached_L47, if_pos (by decide), if_pos h4, if_pos h3, if_pos h2, if_neg h1]
      rfl
    · rw [if_neg h2, f_X1_levelReached_L47, if_neg (by decide), ob_i x2]
      by_cases h3 : s < 10000
      · have h4 : s < 100000 := tr h3 (by decide)
        rw [if_pos h3, f_X1_levelReached_L47, if_neg (by decide), ob_i x3, if_pos h4, f_X1_levelReached_L47, if_pos (by decide), if_pos h4, if_pos h3, if_neg h2]
        rfl
      · rw [if_neg h3, f_X1_levelReached_L47, if_neg (by decide), ob_i x3]
        by_cases h4 : s < 100000
        · rw [if_pos h4, f_X1_levelReached_L47, if_pos (by decide), if_pos h4, if_neg h3]
          rfl
        · rw [if_neg h4, f_X1_levelReached_L47, if_pos (by decide), if_neg h4]
          rfl
theorem c_level (hv : vo 1 i g = true) (hf : flR W i g r) (hk : flK r g (nF r g)) : f_X1_levelReached (b + ad 1 i g) (wd b W) = some (levO r g, wd b W) := by
  have h16 := hk.2.1
  unfold f_X1_levelReached
  rw [oO_1 hv]
  refine loopN (fun m j => f_X1_levelReached_L4 (b + ad 1 i g) (fun v7 N8 => f_X1_levelReached_L47 v7 (4 : Int32) (fun v12 N13 => some (v12, N13)) FU (0 : Int32) (0 : Int32) N8) m (sumI (fun f => fO r g f 2 - fO r g f 3) j) (nI j) (wd b W)) (nF r g) ?_ ?_ FU 0 (by omega) (by have := FUgt; omega)
  · intro m j hj
    try dsimp only
    rw [f_X1_levelReached_L4, o1_0 hv, hf.1, hk.1, if_neg (le_n hj (by omega)), o1_3 hv, oa1_3 hv (by omega), o1_4 hv, oa1_4 hv (by omega), (hf.2 j hj).2.2.2, (hf.2 j hj).2.2.1, nI_1]
    rfl
  · intro m
    try dsimp only
    rw [f_X1_levelReached_L4, o1_0 hv, hf.1, hk.1, if_pos (le_p (Nat.le_refl _) (by omega)), lev_L]
    rfl
/-- the state at a time -/
def stT (r : Nat → Int32) (g : Nat) (τ : Int32) : Int32 := if gO r g 4 = 1 then 3 else if gO r g 3 = -1 then (if gO r g 0 ≤ τ then 1 else 0) else 2
theorem c_stateAt (hv : vo 4 i g = true) (hg : ∀ k, k < 5 → W.1 4 i g k = gO r g k) (h4 : gO r g 4 = 0 ∨ gO r g 4 = 1) {τ : Int32} : f_X4_stateAt (b + ad 4 i g) τ (wd b W) = some (stT r g τ, wd b W) := by
  unfold f_X4_stateAt stT
  rw [oO_4 hv, o4_4 hv, hg 4 (by omega)]
  rcases h4 with q | q
  · rw [q, if_pos rfl, if_neg (by decide), o4_3 hv, hg 3 (by omega)]
    by_cases h3 : gO r g 3 = -1
    · rw [if_pos h3, if_pos h3, o4_0 hv, hg 0 (by omega)]
      split <;> rfl
    · rw [if_neg h3, if_neg h3]
  · rw [q, if_neg (by decide), if_pos rfl]
theorem c_isOpen (hv : vo 4 i g = true) (hg : ∀ k, k < 5 → W.1 4 i g k = gO r g k) : f_X4_isOpen (b + ad 4 i g) (wd b W) = some (bI (opB r g), wd b W) := by
  unfold f_X4_isOpen opB
  rw [oO_4 hv, o4_4 hv, hg 4 (by omega)]
  by_cases q : gO r g 4 = 0
  · rw [q, if_neg (by decide), o4_3 hv, hg 3 (by omega)]
    by_cases h3 : gO r g 3 = -1
    · rw [if_neg (fun z => z h3), h3]
      rfl
    · rw [if_pos h3]
      simp [h3, bI]
  · rw [if_pos q]
    simp [q, bI]
theorem c_deadlineEnd (hv : vo 4 i g = true) (hg : ∀ k, k < 5 → W.1 4 i g k = gO r g k) : f_X4_deadlineEnd (b + ad 4 i g) (wd b W) = some (gO r g 0 + gO r g 2, wd b W) := by
  unfold f_X4_deadlineEnd
  rw [oO_4 hv, o4_0 hv, o4_2 hv, hg 0 (by omega), hg 2 (by omega)]
end
