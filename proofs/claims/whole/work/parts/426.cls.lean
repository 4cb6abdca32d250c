/-! best orders -/
def opl (r : Nat → Int32) : Nat → Nat × (Nat → Nat)
  | 0 => (0, fun _ => 0)
  | g + 1 => if opB r g = true then ((opl r g).1 + 1, fun x => if x = (opl r g).1 then g else (opl r g).2 x) else opl r g
theorem opl_1 (r : Nat → Int32) : ∀ n, (opl r n).1 = opN r n
  | 0 => rfl
  | n + 1 => by
    have ih := opl_1 r n
    have e : opN r (n + 1) = opN r n + (if opB r n = true then 1 else 0) := rfl
    rw [opl, e]
    by_cases h : opB r n = true
    · rw [if_pos h, if_pos h, ih]
    · rw [if_neg h, if_neg h, ih]
      rfl
theorem opl_lt (r : Nat → Int32) : ∀ n x, x < (opl r n).1 → (opl r n).2 x < n ∧ opB r ((opl r n).2 x) = true
  | 0, x, h => absurd h (Nat.not_lt_zero x)
  | n + 1, x, h => by
    have ih := opl_lt r n
    rw [opl] at h ⊢
    by_cases q : opB r n = true
    · rw [if_pos q] at h ⊢
      simp only at h ⊢
      by_cases z : x = (opl r n).1
      · rw [if_pos z]
        exact ⟨by omega, q⟩
      · rw [if_neg z]
        have := ih x (by omega)
        exact ⟨by omega, this.2⟩
    · rw [if_neg q] at h ⊢
      have := ih x h
      exact ⟨by omega, this.2⟩
theorem opl_up (r : Nat → Int32) : ∀ n x y, x < y → y < (opl r n).1 → (opl r n).2 x < (opl r n).2 y
  | 0, x, y, _, h => absurd h (Nat.not_lt_zero y)
  | n + 1, x, y, hxy, h => by
    have ih := opl_up r n
    rw [opl] at h ⊢
    by_cases q : opB r n = true
    · rw [if_pos q] at h ⊢
      simp only at h ⊢
      rw [if_neg (show ¬ x = (opl r n).1 by omega)]
      by_cases z : y = (opl r n).1
      · rw [if_pos z]
        exact (opl_lt r n x (by omega)).1
      · rw [if_neg z]
        exact ih x y hxy (by omega)
    · rw [if_neg q] at h ⊢
      exact ih x y hxy h
theorem opl_mem (r : Nat → Int32) : ∀ n g, g < n → opB r g = true → ∃ x, x < (opl r n).1 ∧ (opl r n).2 x = g
  | 0, g, h, _ => absurd h (Nat.not_lt_zero g)
  | n + 1, g, h, ho => by
    have ih := opl_mem r n
    rw [opl]
    by_cases q : opB r n = true
    · rw [if_pos q]
      simp only
      by_cases z : g = n
      · exact ⟨(opl r n).1, by omega, by rw [if_pos rfl, z]⟩
      · obtain ⟨x, x1, x2⟩ := ih g (by omega) ho
        exact ⟨x, by omega, by rw [if_neg (by omega)]; exact x2⟩
    · rw [if_neg q]
      have : g ≠ n := fun z => q (by rw [← z]; exact ho)
      exact ih g (by omega) ho
theorem opl_keep (r : Nat → Int32) {g : Nat} : ∀ n, g ≤ n → (opl r g).1 ≤ (opl r n).1 ∧ ∀ x, x < (opl r g).1 → (opl r n).2 x = (opl r g).2 x
  | 0, h => by rw [show g = 0 by omega]; exact ⟨Nat.le_refl _, fun _ _ => rfl⟩
  | n + 1, h => by
    rcases Nat.lt_or_ge n g with z | z
    · rw [show g = n + 1 by omega]
      exact ⟨Nat.le_refl _, fun _ _ => rfl⟩
    · obtain ⟨i1, i2⟩ := opl_keep r n z
      rw [opl]
      by_cases q : opB r n = true
      · rw [if_pos q]
        simp only
        exact ⟨by omega, fun x hx => by rw [if_neg (by omega)]; exact i2 x hx⟩
      · rw [if_neg q]
        exact ⟨i1, i2⟩
theorem opl_cg {r r' : Nat → Int32} : ∀ n, (∀ g, g < n → opB r' g = opB r g) → opl r' n = opl r n
  | 0, _ => rfl
  | n + 1, h => by rw [opl, opl, opl_cg n (fun g hg => h g (by omega)), h n (by omega)]
theorem opl_le {r : Nat → Int32} {n : Nat} : ∀ x y, x < (opl r n).1 → y < (opl r n).1 → ((opl r n).2 x ≤ (opl r n).2 y ↔ x ≤ y) := by
  intro x y hx hy
  rcases Nat.lt_trichotomy x y with q | q | q
  · have := opl_up r n x y q hy
    exact ⟨fun _ => by omega, fun _ => by omega⟩
  · rw [q]
    exact ⟨fun _ => Nat.le_refl _, fun _ => Nat.le_refl _⟩
  · have := opl_up r n y x q hx
    exact ⟨fun _ => by omega, fun _ => by omega⟩
def bsF (τ : Nat → Int32) : Nat → Int32 × Nat
  | 0 => (-1, 0)
  | j + 1 => if ¬ τ j = -1 ∧ ((bsF τ j).1 = -1 ∨ τ j < (bsF τ j).1) then (τ j, j) else bsF τ j
theorem bsF_cg {τ τ' : Nat → Int32} : ∀ m, (∀ j, j < m → τ j = τ' j) → bsF τ m = bsF τ' m
  | 0, _ => rfl
  | m + 1, h => by rw [bsF, bsF, bsF_cg m (fun j hj => h j (by omega)), h m (by omega)]
theorem bsF_none {τ : Nat → Int32} : ∀ m, (∀ j, j < m → τ j = -1) → bsF τ m = (-1, 0)
  | 0, _ => rfl
  | m + 1, h => by rw [bsF, if_neg (fun q => q.1 (h m (by omega))), bsF_none m (fun j hj => h j (by omega))]
theorem bsF_lt {τ : Nat → Int32} : ∀ m, 1 ≤ m → (bsF τ m).2 < m
  | 0, h => absurd h (by omega)
  | m + 1, _ => by
    rw [bsF]
    split
    · exact Nat.lt_succ_self m
    · rcases Nat.eq_zero_or_pos m with q | q
      · subst q
        exact Nat.lt_succ_self 0
      · exact Nat.lt_succ_of_lt (bsF_lt m q)
/-- the order j of the open groups -/
def oJ (r : Nat → Int32) (j x : Nat) : Nat := (opl r (nG r)).2 (pS (opN r (nG r)) j x)
def BO (r : Nat → Int32) (v : Int32) (bj : Nat) : Prop := ∃ τ : Nat → Int32, (∀ j, j < fct (opN r (nG r)) → ∃ ρ n, (∀ q, q < 1182 → ρ 0 q = r q) ∧ chn (some (oJ r j, opN r (nG r))) ρ n ∧ totP (τ j) ρ n) ∧ (v, bj) = bsF τ (fct (opN r (nG r)))
theorem opB_cg {r r' : Nat → Int32} (hq : ∀ q, q < 1182 → r' q = r q) {g : Nat} (hg : g < 12) : opB r' g = opB r g := by
  have e3 : gO r' g 3 = gO r g 3 := hq _ (by omega)
  have e4 : gO r' g 4 = gO r g 4 := hq _ (by omega)
  unfold opB
  rw [e3, e4]
theorem nG_q {r r' : Nat → Int32} (hq : ∀ q, q < 1182 → r' q = r q) : nG r' = nG r := nG_cg (hq 6 (by omega))
theorem opN_cg {r r' : Nat → Int32} (hq : ∀ q, q < 1182 → r' q = r q) (h12 : nG r ≤ 12) : opN r' (nG r') = opN r (nG r) := by
  rw [nG_q hq]
  exact sumN_cg (fun g hg => by rw [opB_cg hq (by omega)])
theorem oJ_cg {r r' : Nat → Int32} (hq : ∀ q, q < 1182 → r' q = r q) (h12 : nG r ≤ 12) (j : Nat) : oJ r' j = oJ r j := by
  funext x
  unfold oJ
  rw [opN_cg hq h12, nG_q hq, opl_cg (nG r) (fun g hg => opB_cg hq (by omega))]
theorem BO_cg {r r' : Nat → Int32} {v : Int32} {bj : Nat} (hq : ∀ q, q < 1182 → r' q = r q) (h12 : nG r ≤ 12) (h : BO r v bj) : BO r' v bj := by
  obtain ⟨τ, h1, h2⟩ := h
  refine ⟨τ, ?_, ?_⟩
  · rw [opN_cg hq h12]
    intro j hj
    rw [oJ_cg hq h12]
    obtain ⟨ρ, n, a1, a2, a3⟩ := h1 j hj
    exact ⟨ρ, n, fun q hq2 => by rw [a1 q hq2, hq q hq2], a2, a3⟩
  · rw [opN_cg hq h12]
    exact h2
theorem oJ_fix {r : Nat → Int32} {j : Nat} (h1 : 1 ≤ opN r (nG r)) (h4 : opN r (nG r) ≤ 4) (hj : j < fct (opN r (nG r))) : ∃ P, fixK r (oJ r j) P (opN r (nG r)) := by
  obtain ⟨p1, p2, p3⟩ := pS_p h1 h4 j hj
  have e1 := opl_1 r (nG r)
  have inj : ∀ x y, x < opN r (nG r) → y < opN r (nG r) → oJ r j x = oJ r j y → x = y := by
    intro x y hx hy he
    refine p2 x hx y hy ?_
    have hle := opl_le (r := r) (n := nG r) (pS (opN r (nG r)) j x) (pS (opN r (nG r)) j y) (by rw [e1]; exact p1 x hx) (by rw [e1]; exact p1 y hy)
    have hge := opl_le (r := r) (n := nG r) (pS (opN r (nG r)) j y) (pS (opN r (nG r)) j x) (by rw [e1]; exact p1 y hy) (by rw [e1]; exact p1 x hx)
    unfold oJ at he
    rw [he] at hle hge
    have := hle.mp (Nat.le_refl _)
    have := hge.mp (Nat.le_refl _)
    omega
  refine ⟨fun g => @Classical.epsilon Nat ⟨0⟩ (fun x => x < opN r (nG r) ∧ oJ r j x = g), h4, fun k hk => ⟨?_, ?_⟩, fun g hg ho => ?_⟩
  · exact (opl_lt r (nG r) _ (by rw [e1]; exact p1 k hk)).1
  · have := Classical.epsilon_spec (p := fun x => x < opN r (nG r) ∧ oJ r j x = oJ r j k) ⟨k, hk, rfl⟩
    exact inj _ k this.1 hk this.2
  · obtain ⟨x, x1, x2⟩ := opl_mem r (nG r) g hg ho
    obtain ⟨k, k1, k2⟩ := p3 x (by rw [← e1]; exact x1)
    exact ⟨k, k1, by unfold oJ; rw [k2]; exact x2⟩
theorem oJ_lt {r : Nat → Int32} {j : Nat} (h1 : 1 ≤ opN r (nG r)) (h4 : opN r (nG r) ≤ 4) (h12 : nG r ≤ 12) (hj : j < fct (opN r (nG r))) : ∀ x, x < opN r (nG r) → oJ r j x < 12 := by
  obtain ⟨P, p1, p2, p3⟩ := oJ_fix h1 h4 hj
  intro x hx
  have := (p2 x hx).1
  omega
theorem oJ_nx {r : Nat → Int32} {j : Nat} (h1 : 1 ≤ opN r (nG r)) (h4 : opN r (nG r) ≤ 4) (hj : j < fct (opN r (nG r))) : (nxN (oJ r j) (opN r (nG r))).1 = decide (j + 1 < fct (opN r (nG r))) ∧ (j + 1 < fct (opN r (nG r)) → ∀ x, x < opN r (nG r) → (nxN (oJ r j) (opN r (nG r))).2 x = oJ r (j + 1) x) := by
  have e1 := opl_1 r (nG r)
  obtain ⟨q1, q2⟩ := nx_rel (a := (opl r (nG r)).2) (σ := pS (opN r (nG r)) j) (K := opN r (nG r)) h1 (fun x y hx hy => opl_le x y (by rw [e1]; exact hx) (by rw [e1]; exact hy)) (pS_p h1 h4 j hj).1
  obtain ⟨w1, w2⟩ := pS_nx h1 h4 j hj
  have e : oJ r j = fun x => (opl r (nG r)).2 (pS (opN r (nG r)) j x) := rfl
  rw [e]
  refine ⟨q1.trans w1, fun hj2 x hx => ?_⟩
  rw [q2 x, w2 hj2 x hx]
  rfl
def fbF (W W' : WD) : Prop := frM [7, 8, 10] [0, 4, 5, 6, 9, 13, 14, 18] [11, 12] W W'
section
variable {b : Nat} {W : WD} {T : Nat} {r : Nat → Int32}
theorem m_fbList (hr : W.2.1 10 0 0 0 = r) (ho : okR r T) (h4 : opN r (nG r) ≤ 4) (h0 : W.1 10 0 0 10 = nI 0) {k : AH → Option (Int32 × AH)} : ∃ V, f_X10_findsBestOrder_L7 (b + ad 10 0 0) k FU (0 : Int32) (wd b W) = k (wd b V) ∧ frM [10] [9] [] W V ∧ V.1 10 0 0 10 = nI (opN r (nG r)) ∧ ∀ x, x < opN r (nG r) → V.2.1 10 0 0 9 x = nI ((opl r (nG r)).2 x) := by
  have h12 := ho.1.1.2
  have e1 := opl_1 r
  refine loopE (fun m g (V : WD) => f_X10_findsBestOrder_L7 (b + ad 10 0 0) k m (nI g) (wd b V)) (nG r) (fun g V => frM [10] [9] [] W V ∧ V.1 10 0 0 10 = nI (opl r g).1 ∧ ∀ x, x < (opl r g).1 → V.2.1 10 0 0 9 x = nI ((opl r g).2 x)) (fun y => ∃ V, y = k (wd b V) ∧ frM [10] [9] [] W V ∧ V.1 10 0 0 10 = nI (opN r (nG r)) ∧ ∀ x, x < opN r (nG r) → V.2.1 10 0 0 9 x = nI ((opl r (nG r)).2 x)) ?_ ?_ FU 0 W (by omega) (by have := FUgt; omega) ⟨frM.rf, h0, fun x hx => absurd hx (Nat.not_lt_zero x)⟩
  · intro m g V hg ⟨k1, k2, k3⟩
    have hrV : V.2.1 10 0 0 0 = r := by rw [k1.ma 0 (by decide), hr]
    have hst := st_lt2 (ho.2.2.2.2.2.2.2 g hg)
    try dsimp only
    rw [f_X10_findsBestOrder_L7, o10_0 h10, oR0 6 6 rfl (by omega), hrV, ho.1.1.1, if_neg (le_n hg (by omega)), ob2_i (m_stateOf (by omega)), hrV, nI_1]
    cases hop : opB r g with
    | false =>
      rw [if_pos (hst.mpr hop)]
      exact ⟨V, ⟨k1, by rw [opl, if_neg (by rw [hop]; decide)]; exact k2, by rw [opl, if_neg (by rw [hop]; decide)]; exact k3⟩, rfl⟩
    | true =>
      have hl : (opl r g).1 < 4 := by
        have h5 := (opl_keep r (g := g + 1) (nG r) hg).1
        rw [e1 (nG r), opl, if_pos hop] at h5
        simp only at h5
        omega
      rw [if_neg (fun z => by rw [hst.mp z] at hop; cases hop), o10_9 h10, o10_10 h10, k2, ot10_9 h10 hl, o10_10 h10, wsA_1, k2, p10_10 h10, nI_1]
      refine ⟨_, ⟨k1.tr ((frM.A (by decide)).tr (frM.I (by decide))), ?_, ?_⟩, rfl⟩
      · rw [wsI_r, opl, if_pos hop]
      · intro x hx
        rw [opl, if_pos hop] at hx ⊢
        simp only at hx ⊢
        rw [wsI_A, wsA_r]
        by_cases z : x = (opl r g).1
        · rw [if_pos z, z, pk_us]
        · rw [if_neg z, pk_un z]
          exact k3 x (by omega)
  · intro m V ⟨k1, k2, k3⟩
    have hrV : V.2.1 10 0 0 0 = r := by rw [k1.ma 0 (by decide), hr]
    try dsimp only
    rw [f_X10_findsBestOrder_L7, o10_0 h10, oR0 6 6 rfl (by omega), hrV, ho.1.1.1, if_pos (le_p (Nat.le_refl _) (by omega))]
    exact ⟨V, rfl, k1, by rw [k2, e1], by rw [← e1]; exact k3⟩
theorem m_fbCopy {K : Nat} (hK : K ≤ 4) (h0 : W.1 10 0 0 10 = nI K) {fx : Nat → Nat} (h9 : ∀ x, x < K → W.2.1 10 0 0 9 x = nI (fx x)) {v : Int32} {k : AH → Option (Int32 × AH)} : ∃ A, f_X10_findsBestOrder_L135 (b + ad 10 0 0) v k FU (0 : Int32) (wd b W) = k (wd b (wsA W 10 0 0 18 A)) ∧ ∀ x, x < K → A x = nI (fx x) := by
  have key := loopE (fun m j (A : Nat → Int32) => f_X10_findsBestOrder_L135 (b + ad 10 0 0) v k m (nI j) (wd b (wsA W 10 0 0 18 A))) K (fun j A => ∀ x, x < j → A x = nI (fx x)) (fun y => ∃ A, y = k (wd b (wsA W 10 0 0 18 A)) ∧ ∀ x, x < K → A x = nI (fx x)) ?_ ?_ FU 0 (W.2.1 10 0 0 18) (by omega) (by have := FUgt; omega) (fun x hx => absurd hx (Nat.not_lt_zero x))
  · try dsimp only at key
    rw [wsA_s] at key
    exact key
  · intro m j A hj hI
    try dsimp only
    rw [f_X10_findsBestOrder_L135, o10_10 h10, wsA_1, h0, if_neg (le_n hj (by omega)), o10_18 h10, o10_9 h10, oa10_9 h10 (by omega), wsA_k _ (by decide), h9 j hj, ot10_18 h10 (by omega), wsA_r, wsA_2, nI_1]
    refine ⟨_, fun x hx => ?_, rfl⟩
    by_cases z : x = j
    · rw [z, pk_us]
    · rw [pk_un z]
      exact hI x (by omega)
  · intro m A hI
    try dsimp only
    rw [f_X10_findsBestOrder_L135, o10_10 h10, wsA_1, h0, if_pos (le_p (Nat.le_refl _) (by omega))]
    exact ⟨A, rfl, hI⟩
theorem m_fbCopy0 {K : Nat} (hK : K ≤ 4) (h0 : W.1 10 0 0 10 = nI K) {fx : Nat → Nat} (h9 : ∀ x, x < K → W.2.1 10 0 0 9 x = nI (fx x)) {v1 v2 : Int32} {k : AH → Option (Int32 × AH)} : ∃ A, f_X10_findsBestOrder_L64 (b + ad 10 0 0) v1 v2 k FU (0 : Int32) (wd b W) = k (wd b (wsA W 10 0 0 18 A)) ∧ ∀ x, x < K → A x = nI (fx x) := by
  have key := loopE (fun m j (A : Nat → Int32) => f_X10_findsBestOrder_L64 (b + ad 10 0 0) v1 v2 k m (nI j) (wd b (wsA W 10 0 0 18 A))) K (fun j A => ∀ x, x < j → A x = nI (fx x)) (fun y => ∃ A, y = k (wd b (wsA W 10 0 0 18 A)) ∧ ∀ x, x < K → A x = nI (fx x)) ?_ ?_ FU 0 (W.2.1 10 0 0 18) (by omega) (by have := FUgt; omega) (fun x hx => absurd hx (Nat.not_lt_zero x))
  · try dsimp only at key
    rw [wsA_s] at key
    exact key
  · intro m j A hj hI
    try dsimp only
    rw [f_X10_findsBestOrder_L64, o10_10 h10, wsA_1, h0, if_neg (le_n hj (by omega)), o10_18 h10, o10_9 h10, oa10_9 h10 (by omega), wsA_k _ (by decide), h9 j hj, ot10_18 h10 (by omega), wsA_r, wsA_2, nI_1]
    refine ⟨_, fun x hx => ?_, rfl⟩
    by_cases z : x = j
    · rw [z, pk_us]
    · rw [pk_un z]
      exact hI x (by omega)
  · intro m A hI
    try dsimp only
    rw [f_X10_findsBestOrder_L64, o10_10 h10, wsA_1, h0, if_pos (le_p (Nat.le_refl _) (by omega))]
    exact ⟨A, rfl, hI⟩
theorem m_findsBest (hr : W.2.1 10 0 0 0 = r) (ho : okR r T) (hT : T + 300 ≤ 900000) (h1 : 1 ≤ opN r (nG r)) (h4 : opN r (nG r) ≤ 4) : ∃ v bj V, f_X10_findsBestOrder (b + ad 10 0 0) (wd b W) = some (v, wd b V) ∧ fbF W V ∧ V.1 10 0 0 8 = 0 ∧ (∀ q, q < 8274 → V.2.1 10 0 0 0 q = r q) ∧ BO r v bj ∧ ∀ x, x < opN r (nG r) → V.2.1 10 0 0 18 x = nI (oJ r bj x) := by
  have h12 := ho.1.1.2
  obtain ⟨c1, c2⟩ := fct_le h1 h4
  unfold f_X10_findsBestOrder
  rw [oO_10 h10, p10_10 h10]
  obtain ⟨V1, e1, e2, e3, e4⟩ := m_fbList (b := b) (W := wsI W 10 0 0 10 0) (r := r) hr ho h4 (by rw [wsI_r]; rfl) (k := fun N13 => ob (pZ N13 (b + ad 10 0 0) 10 8 (1 : Int32)) (fun N14 => f_X10_findsBestOrder_L64 (b + ad 10 0 0) (-1 : Int32) (1 : Int32) (fun N21 => f_X10_findsBestOrder_L90 (b + ad 10 0 0) (fun v46 N47 => ob (pZ N47 (b + ad 10 0 0) 10 8 (0 : Int32)) (fun N48 => some (v46, N48))) FU (-1 : Int32) (1 : Int32) N21) FU (0 : Int32) N14))
  have f1 : fbF W V1 := (frM.I (by decide)).tr (e2.mono (by decide) (by decide) (by decide))
  rw [e1]
  try dsimp only
  rw [p10_8 h10 (Or.inr rfl)]
  have e4' : ∀ x, x < opN r (nG r) → V1.2.1 10 0 0 9 x = nI (oJ r 0 x) := fun x hx => by
    rw [e4 x hx]
    unfold oJ
    rw [pS_0 h1 h4 x hx]
  obtain ⟨A0, a1, a2⟩ := m_fbCopy0 (b := b) (W := wsI V1 10 0 0 8 1) (K := opN r (nG r)) h4 (by rw [wsI_k _ (by decide)]; exact e3) (fx := oJ r 0) e4' (v1 := -1) (v2 := 1) (k := fun N21 => f_X10_findsBestOrder_L90 (b + ad 10 0 0) (fun v46 N47 => ob (pZ N47 (b + ad 10 0 0) 10 8 (0 : Int32)) (fun N48 => some (v46, N48))) FU (-1 : Int32) (1 : Int32) N21)
  rw [a1]
  try dsimp only
  generalize hV2 : wsA (wsI V1 10 0 0 8 1) 10 0 0 18 A0 = V2
  have f2 : fbF W V2 := by rw [← hV2]; exact f1.tr ((frM.I (by decide)).tr (frM.A (by decide)))
  have r2 : V2.2.1 10 0 0 0 = r := by rw [← hV2, wsA_k _ (by decide), wsI_A, e2.ma 0 (by decide)]; exact hr
  have key := loopE (fun m j (s : WD × (Nat → Int32)) => f_X10_findsBestOrder_L90 (b + ad 10 0 0) (fun v46 N47 => ob (pZ N47 (b + ad 10 0 0) 10 8 (0 : Int32)) (fun N48 => some (v46, N48))) m (bsF s.2 j).1 (bI (decide (j < fct (opN r (nG r))))) (wd b s.1)) (fct (opN r (nG r))) (fun j s => fbF W s.1 ∧ s.1.1 10 0 0 8 = 1 ∧ s.1.1 10 0 0 10 = nI (opN r (nG r)) ∧ (j < fct (opN r (nG r)) → ∀ x, x < opN r (nG r) → s.1.2.1 10 0 0 9 x = nI (oJ r j x)) ∧ (∀ x, x < opN r (nG r) → s.1.2.1 10 0 0 18 x = nI (oJ r (bsF s.2 j).2 x)) ∧ (∀ q, q < 8274 → s.1.2.1 10 0 0 0 q = r q) ∧ ∀ q, q < j → ∃ ρ n, (∀ z, z < 1182 → ρ 0 z = r z) ∧ chn (some (oJ r q, opN r (nG r))) ρ n ∧ totP (s.2 q) ρ n) (fun y => ∃ v bj V, y = some (v, wd b V) ∧ fbF W V ∧ V.1 10 0 0 8 = 0 ∧ (∀ q, q < 8274 → V.2.1 10 0 0 0 q = r q) ∧ BO r v bj ∧ ∀ x, x < opN r (nG r) → V.2.1 10 0 0 18 x = nI (oJ r bj x)) ?_ ?_ FU 0 (V2, fun _ => 0) (by omega) (by have := FUgt; omega) ?_
  · have e : decide (0 < fct (opN r (nG r))) = true := by simp; omega
    try dsimp only at key
    rw [e] at key
    exact key
  · rintro m j ⟨V, τ⟩ hj ⟨k1, k2, k3, k4, k5, k6, k7⟩
    simp only at k1 k2 k3 k4 k5 k6 k7
    have k4' := k4 hj
    generalize hrow : V.2.1 10 0 0 0 = row at *
    have ec := m_copies (b := b) (W := V) (f := 0) (t := 8274) (by omega) (by omega) (by omega)
    rw [hrow] at ec
    have htl : ∀ q, q < 1182 → trl row q = r q := fun q hq => by rw [trl_lo (by omega)]; exact k6 q (by omega)
    obtain ⟨P, hP⟩ := oJ_fix h1 h4 hj
    have hok : okR (trl row) T := okR_cg ho htl
    have eG : nG (trl row) = nG r := nG_q htl
    have hv : mdV (some (oJ r j, opN r (nG r))) (trl row) := ⟨P, hP.1, fun k hk => by rw [eG]; exact hP.2.1 k hk, fun g hg hop => by
      rw [eG] at hg
      rw [opB_cg htl (by omega)] at hop
      exact hP.2.2 g hg hop⟩
    obtain ⟨v, V3, ρ, n, t1, t2, t3, t4, t5, t6⟩ := m_totalOf (b := b) (W := wsA V 10 0 0 0 (trl row)) (md := some (oJ r j, opN r (nG r))) (wsA_r _ _ _ _ _ _) hok hT ⟨k2, k3, fun x hx => by rw [wsA_k _ (by decide)]; exact k4' x hx⟩ hv
    have hb : va_cpy (V3.2.1 10 0 0 0) (V3.2.1 10 0 0 0) 8274 0 1182 = trl row := trl_back (fun q hq => by rw [t5, chn_hi t4 n (Nat.le_refl _) q hq, t3])
    have ec2 := m_copies (b := b) (W := V3) (f := 8274) (t := 0) (by omega) (by omega) (by omega)
    rw [hb] at ec2
    have t1' : f_X10_totalOf (b + ad 10 0 0) (wd b (wsA V 10 0 0 0 (va_cpy row row 0 8274 1182))) = some (v, wd b V3) := t1
    generalize hV4 : wsA V3 10 0 0 0 (trl row) = V4
    rw [hV4] at ec2
    have f4 : fbF V V4 := by
      rw [← hV4]
      exact ((frM.A (by decide)).tr (t2.mono (by decide) (by decide) (by decide))).tr (frM.A (by decide))
    have g8 : V4.1 10 0 0 8 = 1 := by rw [← hV4, wsA_1, t2.mi 8 (by decide)]; exact k2
    have g10 : V4.1 10 0 0 10 = nI (opN r (nG r)) := by rw [← hV4, wsA_1, t2.mi 10 (by decide)]; exact k3
    have g9 : ∀ x, x < opN r (nG r) → V4.2.1 10 0 0 9 x = nI (oJ r j x) := fun x hx => by
      rw [← hV4, wsA_k _ (by decide), t2.ma 9 (by decide), wsA_k _ (by decide)]
      exact k4' x hx
    have g18 : V4.2.1 10 0 0 18 = V.2.1 10 0 0 18 := by rw [← hV4, wsA_k _ (by decide), t2.ma 18 (by decide), wsA_k _ (by decide)]
    have g0 : ∀ q, q < 8274 → V4.2.1 10 0 0 0 q = r q := fun q hq => by rw [← hV4, wsA_r, trl_lo hq]; exact k6 q hq
    obtain ⟨n1, n2⟩ := oJ_nx h1 h4 hj
    have hτ : ∀ q, q < j → (fun q => if q = j then v else τ q) q = τ q := fun q hq => if_neg (by omega)
    have hbs : bsF (fun q => if q = j then v else τ q) j = bsF τ j := bsF_cg j hτ
    -- the end of a round
    have fin : ∀ (V5 : WD) (w : Int32) (bj : Nat), fbF V4 V5 → V5.1 10 0 0 8 = 1 → V5.1 10 0 0 10 = nI (opN r (nG r)) → (∀ x, x < opN r (nG r) → V5.2.1 10 0 0 9 x = nI (oJ r j x)) → (∀ x, x < opN r (nG r) → V5.2.1 10 0 0 18 x = nI (oJ r bj x)) → V5.2.1 10 0 0 0 = V4.2.1 10 0 0 0 → (w, bj) = bsF (fun q => if q = j then v else τ q) (j + 1) → ∃ s' : WD × (Nat → Int32), (fbF W s'.1 ∧ s'.1.1 10 0 0 8 = 1 ∧ s'.1.1 10 0 0 10 = nI (opN r (nG r)) ∧ (j + 1 < fct (opN r (nG r)) → ∀ x, x < opN r (nG r) → s'.1.2.1 10 0 0 9 x = nI (oJ r (j + 1) x)) ∧ (∀ x, x < opN r (nG r) → s'.1.2.1 10 0 0 18 x = nI (oJ r (bsF s'.2 (j + 1)).2 x)) ∧ (∀ q, q < 8274 → s'.1.2.1 10 0 0 0 q = r q) ∧ ∀ q, q < j + 1 → ∃ ρ n, (∀ z, z < 1182 → ρ 0 z = r z) ∧ chn (some (oJ r q, opN r (nG r))) ρ n ∧ totP (s'.2 q) ρ n) ∧ (ob2 (f_X10_next (b + ad 10 0 0) (wd b V5)) fun x29 N28 => f_X10_findsBestOrder_L90 (b + ad 10 0 0) (fun v46 N47 => ob (pZ N47 (b + ad 10 0 0) 10 8 (0 : Int32)) (fun N48 => some (v46, N48))) m w x29 N28) = f_X10_findsBestOrder_L90 (b + ad 10 0 0) (fun v46 N47 => ob (pZ N47 (b + ad 10 0 0) 10 8 (0 : Int32)) (fun N48 => some (v46, N48))) m (bsF s'.2 (j + 1)).1 (bI (decide (j + 1 < fct (opN r (nG r))))) (wd b s'.1) := by
      intro V5 w bj q1 q2 q3 q4 q5 q6 q7
      obtain ⟨A, x1, x2⟩ := m_next (b := b) (W := V5) (fx := oJ r j) h1 h4 (oJ_lt h1 h4 h12 hj) q3 q4
      rw [ob2_i x1, n1]
      refine ⟨(wsA V5 10 0 0 9 A, fun q => if q = j then v else τ q), ⟨(k1.tr (f4.tr q1)).tr (frM.A (by decide)), q2, q3, fun hj2 x hx => ?_, fun x hx => ?_, fun q hq => ?_, fun q hq => ?_⟩, ?_⟩
      · simp only
        rw [wsA_r, x2 x hx, n2 hj2 x hx]
      · simp only
        rw [wsA_k _ (by decide), q5 x hx, ← q7]
      · simp only
        rw [wsA_k _ (by decide), q6]
        exact g0 q hq
      · simp only
        by_cases z : q = j
        · rw [if_pos z, z]
          exact ⟨ρ, n, fun z hz => by rw [t3]; exact htl z hz, t4, t6⟩
        · rw [if_neg z]
          exact k7 q (by omega)
      · simp only
        rw [← q7]
    have step : bsF (fun q => if q = j then v else τ q) (j + 1) = if ¬ v = -1 ∧ ((bsF τ j).1 = -1 ∨ v < (bsF τ j).1) then (v, j) else bsF τ j := by
      rw [bsF, hbs, if_pos (rfl : j = j)]
    have better : (¬ v = -1 ∧ ((bsF τ j).1 = -1 ∨ v < (bsF τ j).1)) → ∃ s' : WD × (Nat → Int32), (fbF W s'.1 ∧ s'.1.1 10 0 0 8 = 1 ∧ s'.1.1 10 0 0 10 = nI (opN r (nG r)) ∧ (j + 1 < fct (opN r (nG r)) → ∀ x, x < opN r (nG r) → s'.1.2.1 10 0 0 9 x = nI (oJ r (j + 1) x)) ∧ (∀ x, x < opN r (nG r) → s'.1.2.1 10 0 0 18 x = nI (oJ r (bsF s'.2 (j + 1)).2 x)) ∧ (∀ q, q < 8274 → s'.1.2.1 10 0 0 0 q = r q) ∧ ∀ q, q < j + 1 → ∃ ρ n, (∀ z, z < 1182 → ρ 0 z = r z) ∧ chn (some (oJ r q, opN r (nG r))) ρ n ∧ totP (s'.2 q) ρ n) ∧ f_X10_findsBestOrder_L135 (b + ad 10 0 0) v (fun N37 => ob2 (f_X10_next (b + ad 10 0 0) N37) (fun x39 N38 => f_X10_findsBestOrder_L90 (b + ad 10 0 0) (fun v46 N47 => ob (pZ N47 (b + ad 10 0 0) 10 8 (0 : Int32)) (fun N48 => some (v46, N48))) m v x39 N38)) FU (0 : Int32) (wd b V4) = f_X10_findsBestOrder_L90 (b + ad 10 0 0) (fun v46 N47 => ob (pZ N47 (b + ad 10 0 0) 10 8 (0 : Int32)) (fun N48 => some (v46, N48))) m (bsF s'.2 (j + 1)).1 (bI (decide (j + 1 < fct (opN r (nG r))))) (wd b s'.1) := by
      intro hbt
      obtain ⟨A, x1, x2⟩ := m_fbCopy (b := b) (W := V4) (K := opN r (nG r)) h4 g10 (fx := oJ r j) g9 (v := v) (k := fun N37 => ob2 (f_X10_next (b + ad 10 0 0) N37) (fun x39 N38 => f_X10_findsBestOrder_L90 (b + ad 10 0 0) (fun v46 N47 => ob (pZ N47 (b + ad 10 0 0) 10 8 (0 : Int32)) (fun N48 => some (v46, N48))) m v x39 N38))
      rw [x1]
      exact fin (wsA V4 10 0 0 18 A) v j (frM.A (by decide)) g8 g10 (fun x hx => by rw [wsA_k _ (by decide)]; exact g9 x hx) (fun x hx => by rw [wsA_r]; exact x2 x hx) (by rw [wsA_k _ (by decide)]) (by rw [step, if_pos hbt])
    have worse : ¬ (¬ v = -1 ∧ ((bsF τ j).1 = -1 ∨ v < (bsF τ j).1)) → _ := fun hbt => fin V4 (bsF τ j).1 (bsF τ j).2 frM.rf g8 g10 g9 (fun x hx => by rw [g18]; exact k5 x hx) rfl (by rw [step, if_neg hbt])
    try dsimp only
    have e0 : (0 : Int32) = nI 0 := rfl
    have e8 : (8274 : Int32) = nI 8274 := rfl
    rw [f_X10_findsBestOrder_L90, show decide (j < fct (opN r (nG r))) = true by simp [hj], if_neg (show ¬ bI true = 0 by decide), e8, e0, ob2_i ec, ob2_i t1', ob2_i ec2]
    by_cases q1 : v = -1
    · rw [if_pos q1]
      exact worse (fun z => z.1 q1)
    · rw [if_neg q1]
      by_cases q2 : (bsF τ j).1 = -1
      · rw [if_pos q2]
        exact better ⟨q1, Or.inl q2⟩
      · rw [if_neg q2]
        by_cases q3 : (bsF τ j).1 ≤ v
        · rw [if_pos q3]
          exact worse (fun z => z.2.elim q2 (fun w => absurd q3 (Int32.not_le.mpr w)))
        · rw [if_neg q3]
          exact better ⟨q1, Or.inr (Int32.not_le.mp q3)⟩
  · rintro m ⟨V, τ⟩ ⟨k1, k2, k3, k4, k5, k6, k7⟩
    simp only at k1 k2 k3 k4 k5 k6 k7
    try dsimp only
    rw [f_X10_findsBestOrder_L90, show decide (fct (opN r (nG r)) < fct (opN r (nG r))) = false by simp, if_pos (show bI false = 0 by decide), p10_8 h10 (Or.inl rfl)]
    exact ⟨_, _, _, rfl, k1.tr (frM.I (by decide)), by rw [wsI_r], k6, ⟨τ, k7, rfl⟩, k5⟩
  · refine ⟨f2, by rw [← hV2, wsA_1, wsI_r], by rw [← hV2, wsA_1, wsI_k _ (by decide)]; exact e3, fun _ x hx => by simp only; rw [← hV2, wsA_k _ (by decide), wsI_A]; exact e4' x hx, fun x hx => by simp only; rw [← hV2, wsA_r]; exact a2 x hx, fun q _ => by simp only; rw [r2], fun q hq => absurd hq (Nat.not_lt_zero q)⟩
end
