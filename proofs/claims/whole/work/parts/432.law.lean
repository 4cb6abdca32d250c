/-! best policy, best order -/
def TP (r : Nat → Int32) (p : Nat) (v : Int32) : Prop := ∃ ρ n, (∀ q, q < 1182 → ρ 0 q = upd r 1 (nI p) q) ∧ chn none ρ n ∧ totP v ρ n
def bpF (τ : Nat → Int32) : Nat → Int32 × Int32
  | 0 => (-1, -1)
  | p + 1 => if ¬ τ p = -1 ∧ ((bpF τ p).2 = -1 ∨ τ p < (bpF τ p).2) then (nI p, τ p) else bpF τ p
theorem bpF_cg {τ τ' : Nat → Int32} : ∀ m, (∀ j, j < m → τ j = τ' j) → bpF τ m = bpF τ' m
  | 0, _ => rfl
  | m + 1, h => by rw [bpF, bpF, bpF_cg m (fun j hj => h j (by omega)), h m (by omega)]
theorem bpF_1 {τ : Nat → Int32} : ∀ p, p ≤ 6 → ((bpF τ p).1 = -1 ↔ (bpF τ p).2 = -1)
  | 0, _ => ⟨fun _ => rfl, fun _ => rfl⟩
  | p + 1, h => by
    rw [bpF]
    split
    · rename_i q
      exact ⟨fun z => absurd z (nI_ne_m1 (by omega)), fun z => absurd z q.1⟩
    · exact bpF_1 p (by omega)
theorem TP_cg {r r' : Nat → Int32} {p : Nat} {v : Int32} (hq : ∀ q, q < 1182 → r' q = r q) (h : TP r p v) : TP r' p v := by
  obtain ⟨ρ, n, h1, h2⟩ := h
  refine ⟨ρ, n, fun q hq2 => ?_, h2⟩
  rw [h1 q hq2]
  by_cases z : q = 1
  · rw [z, pk_us, pk_us]
  · rw [pk_un z, pk_un z, hq q hq2]
section
variable {b : Nat} {W : WD} {T : Nat}
theorem m_bestPolicy (h : inv T W) (hT : T + 300 ≤ 900000) : ∃ τ V, f_X10_bestPolicy (b + ad 10 0 0) (wd b W) = some ((bpF τ 6).1, wd b V) ∧ rqF W V ∧ ∀ p, p < 6 → TP (W.2.1 10 0 0 0) p (τ p) := by
  generalize hr : W.2.1 10 0 0 0 = r
  unfold f_X10_bestPolicy
  rw [oO_10 h10]
  have key := loopE (fun m p (s : WD × (Nat → Int32)) => f_X10_bestPolicy_L6 (b + ad 10 0 0) (fun v9 N10 => some (v9, N10)) m (bpF s.2 p).1 (bpF s.2 p).2 (nI p) (wd b s.1)) 6 (fun p s => tkF W s.1 ∧ (∀ q, q < 8274 → s.1.2.1 10 0 0 0 q = r q) ∧ ∀ q, q < p → TP r q (s.2 q)) (fun y => ∃ τ V, y = some ((bpF τ 6).1, wd b V) ∧ rqF W V ∧ ∀ p, p < 6 → TP r p (τ p)) ?_ ?_ FU 0 (W, fun _ => 0) (by omega) (by have := FUgt; omega) ⟨frM.rf, fun q _ => by simp only; rw [hr], fun q hq => absurd hq (Nat.not_lt_zero q)⟩
  · exact key
  · rintro m p ⟨V, τ⟩ hp ⟨k1, k2, k3⟩
    simp only at k1 k2 k3
    have hq : ∀ q, q < 1182 → V.2.1 10 0 0 0 q = r q := fun q hq => k2 q (by omega)
    have hok : okR (V.2.1 10 0 0 0) T := by
      have := h.1.1
      rw [hr] at this
      exact okR_cg this hq
    obtain ⟨v, V2, ρ, n, t0, tF, tr, t1, t2, t3⟩ := m_totalBy (b := b) (W := V) (p := p) rfl hok hT (by rw [k1.mi 8 (by decide)]; exact h.2.2.2.2.1) (by omega)
    have htp : TP r p v := TP_cg (fun q hq2 => (hq q hq2).symm) ⟨ρ, n, t1, t2, t3⟩
    have hbs : bpF (fun q => if q = p then v else τ q) p = bpF τ p := bpF_cg p (fun q hq => if_neg (by omega))
    have step : bpF (fun q => if q = p then v else τ q) (p + 1) = if ¬ v = -1 ∧ ((bpF τ p).2 = -1 ∨ v < (bpF τ p).2) then (nI p, v) else bpF τ p := by
      rw [bpF, hbs, if_pos (rfl : p = p)]
    have h1 := bpF_1 (τ := τ) p (by omega)
    have fin : ∀ x : Int32 × Int32, x = bpF (fun q => if q = p then v else τ q) (p + 1) → ∃ s' : WD × (Nat → Int32), (tkF W s'.1 ∧ (∀ q, q < 8274 → s'.1.2.1 10 0 0 0 q = r q) ∧ ∀ q, q < p + 1 → TP r q (s'.2 q)) ∧ f_X10_bestPolicy_L6 (b + ad 10 0 0) (fun v9 N10 => some (v9, N10)) m x.1 x.2 (nI p + 1) (wd b V2) = f_X10_bestPolicy_L6 (b + ad 10 0 0) (fun v9 N10 => some (v9, N10)) m (bpF s'.2 (p + 1)).1 (bpF s'.2 (p + 1)).2 (nI (p + 1)) (wd b s'.1) := by
      intro x hx
      refine ⟨(V2, fun q => if q = p then v else τ q), ⟨frM.tr k1 tF, fun q hq2 => by simp only; rw [tr, trl_lo hq2]; exact k2 q hq2, fun q hq2 => ?_⟩, by simp only; rw [hx, nI_1]⟩
      simp only
      by_cases z : q = p
      · rw [if_pos z, z]; exact htp
      · rw [if_neg z]; exact k3 q (by omega)
    have j40 : ¬ (¬ v = -1 ∧ ((bpF τ p).2 = -1 ∨ v < (bpF τ p).2)) → ∃ s' : WD × (Nat → Int32), (tkF W s'.1 ∧ (∀ q, q < 8274 → s'.1.2.1 10 0 0 0 q = r q) ∧ ∀ q, q < p + 1 → TP r q (s'.2 q)) ∧ f_X10_bestPolicy_J40 (f_X10_bestPolicy_L6 (b + ad 10 0 0) (fun v9 N10 => some (v9, N10)) m) (b + ad 10 0 0) (bpF τ p).1 (bpF τ p).2 (nI p) v (wd b V2) = f_X10_bestPolicy_L6 (b + ad 10 0 0) (fun v9 N10 => some (v9, N10)) m (bpF s'.2 (p + 1)).1 (bpF s'.2 (p + 1)).2 (nI (p + 1)) (wd b s'.1) := by
      intro hn
      unfold f_X10_bestPolicy_J40 f_X10_bestPolicy_J41 f_X10_bestPolicy_J53
      rw [if_pos rfl, if_pos rfl]
      exact fin (bpF τ p) (by rw [step, if_neg hn])
    have j36 : (¬ v = -1 ∧ ((bpF τ p).2 = -1 ∨ v < (bpF τ p).2)) → ∃ s' : WD × (Nat → Int32), (tkF W s'.1 ∧ (∀ q, q < 8274 → s'.1.2.1 10 0 0 0 q = r q) ∧ ∀ q, q < p + 1 → TP r q (s'.2 q)) ∧ f_X10_bestPolicy_J36 (f_X10_bestPolicy_L6 (b + ad 10 0 0) (fun v9 N10 => some (v9, N10)) m) (b + ad 10 0 0) (bpF τ p).1 (bpF τ p).2 (nI p) v (wd b V2) = f_X10_bestPolicy_L6 (b + ad 10 0 0) (fun v9 N10 => some (v9, N10)) m (bpF s'.2 (p + 1)).1 (bpF s'.2 (p + 1)).2 (nI (p + 1)) (wd b s'.1) := by
      intro hn
      unfold f_X10_bestPolicy_J36 f_X10_bestPolicy_J41 f_X10_bestPolicy_J53
      rw [if_neg (by decide), if_neg (by decide)]
      exact fin (nI p, v) (by rw [step, if_pos hn])
    try dsimp only
    rw [f_X10_bestPolicy_L6, if_neg (show ¬ (6 : Int32) ≤ nI p from le_n (a := 6) hp (by omega)), ob2_i t0]
    by_cases q1 : v = -1
    · rw [if_pos q1]
      exact j40 (fun z => z.1 q1)
    · rw [if_neg q1]
      by_cases q2 : (bpF τ p).1 = -1
      · rw [if_pos q2]
        exact j36 ⟨q1, Or.inl (h1.mp q2)⟩
      · rw [if_neg q2]
        by_cases q3 : (bpF τ p).2 ≤ v
        · rw [if_pos q3]
          exact j40 (fun z => z.2.elim (fun w => q2 (h1.mpr w)) (fun w => absurd q3 (Int32.not_le.mpr w)))
        · rw [if_neg q3]
          exact j36 ⟨q1, Or.inr (Int32.not_le.mp q3)⟩
  · rintro m ⟨V, τ⟩ ⟨k1, k2, k3⟩
    simp only at k1 k2 k3
    try dsimp only
    rw [f_X10_bestPolicy_L6, if_pos (by decide)]
    exact ⟨τ, V, rfl, rqF_M k1 (by decide) (by decide) (k1.mi 8 (by decide)) (by decide) (fun q hq => by rw [hr]; exact k2 q hq), k3⟩
theorem c_bestPolicy (h : inv T W) (hT : T + 300 ≤ 900000) {τ : Nat → Int32} (hτ : ∀ p, p < 6 → TP (W.2.1 10 0 0 0) p (τ p)) : ∃ V, f_X9_bestPolicy (b + ad 9 0 0) (wd b W) = some ((bpF τ 6).1, wd b V) ∧ frQ fnQ W V := by
  unfold f_X9_bestPolicy
  rw [oO_9 h9]
  refine loopE (fun m p (V : WD) => f_X9_bestPolicy_L6 (b + ad 9 0 0) (fun v9 N10 => some (v9, N10)) m (bpF τ p).1 (bpF τ p).2 (nI p) (wd b V)) 6 (fun p V => frQ fnQ W V) (fun y => ∃ V, y = some ((bpF τ 6).1, wd b V) ∧ frQ fnQ W V) ?_ ?_ FU 0 W (by omega) (by have := FUgt; omega) frQ.rf
  · intro m p V hp k1
    have hV := inv_c h (k1.mono (fun c i g k q => fn_qs q))
    have er := er_c (k1.mono (fun c i g k q => fn_qs q))
    obtain ⟨ρ, n, t1, t2, t3⟩ := hτ p hp
    obtain ⟨V2, e1, e2⟩ := c_totalOf (b := b) (W := V) (p := p) (r := W.2.1 10 0 0 0) (by have := hV.2.1; rw [er] at this; exact this) h.1.1 hT (by omega) t1 t2 t3
    have step : bpF τ (p + 1) = if ¬ τ p = -1 ∧ ((bpF τ p).2 = -1 ∨ τ p < (bpF τ p).2) then (nI p, τ p) else bpF τ p := rfl
    try dsimp only
    rw [f_X9_bestPolicy_L6, if_neg (show ¬ (6 : Int32) ≤ nI p from le_n (a := 6) hp (by omega)), o9_5 h9, o9_1 h9, ob2_i e1, ob2_i c_isLess, nI_1, step]
    by_cases q : ¬ τ p = -1 ∧ ((bpF τ p).2 = -1 ∨ τ p < (bpF τ p).2)
    · rw [show decide (¬ τ p = -1 ∧ ((bpF τ p).2 = -1 ∨ τ p < (bpF τ p).2)) = true by rw [decide_eq_true_eq]; exact q, if_neg (show ¬ bI true = 0 by decide), if_pos q]
      exact ⟨V2, k1.tr e2, rfl⟩
    · rw [show decide (¬ τ p = -1 ∧ ((bpF τ p).2 = -1 ∨ τ p < (bpF τ p).2)) = false by rw [decide_eq_false_iff_not]; exact q, if_pos (show bI false = 0 by decide), if_neg q]
      exact ⟨V2, k1.tr e2, rfl⟩
  · intro m V k1
    try dsimp only
    rw [f_X9_bestPolicy_L6, if_pos (by decide)]
    exact ⟨V, rfl, k1⟩
theorem q_bestPolicy (h : inv T W) (hT : T + 300 ≤ 900000) : both T T b W (f_X9_bestPolicy (b + ad 9 0 0)) (f_X10_bestPolicy (b + ad 10 0 0)) := by
  obtain ⟨τ0, -, -, -, s1⟩ := m_bestPolicy (b := b) h hT
  obtain ⟨V, e1, e2⟩ := c_bestPolicy (b := b) h hT s1
  have e2' : frQ qsQ W V := e2.mono (fun c i g k q => fn_qs q)
  have hV := inv_c h e2'
  have er := er_c e2'
  obtain ⟨τ1, V2, t0, tF, t1⟩ := m_bestPolicy (b := b) hV hT
  rw [er] at t1
  have hτ : bpF τ1 6 = bpF τ0 6 := bpF_cg 6 (fun p hp => by
    obtain ⟨ρ, n, a1, a2, a3⟩ := t1 p hp
    obtain ⟨ρ', n', b1, b2, b3⟩ := s1 p hp
    exact tot_eq h hT (p := p) (by omega) a1 a2 a3 b1 b2 b3)
  rw [hτ] at t0
  exact both_q h (v := (bpF τ0 6).1) (W1 := V) e1 e2' ⟨V2, t0, tF⟩
theorem c_canBe (h : inv T W) : f_X9_canBeOrdered (b + ad 9 0 0) (wd b W) = some (bI (decide (1 ≤ opN (W.2.1 10 0 0 0) (nG (W.2.1 10 0 0 0)) ∧ opN (W.2.1 10 0 0 0) (nG (W.2.1 10 0 0 0)) ≤ 4)), wd b W) := by
  have h12 := h.1.1.1.1.2
  have hle := opN_le (W.2.1 10 0 0 0) (nG (W.2.1 10 0 0 0))
  unfold f_X9_canBeOrdered
  rw [oO_9 h9, o9_1 h9, ob2_i (c_countOpen (b := b) (i := 0) (r := W.2.1 10 0 0 0) hz8 (by rw [h.2.1.1 6 (by omega)]; exact h.1.1.1.1.1) h12 (fun g hg => (h.2.1.2.2.2.1 g hg).1))]
  rcases Nat.lt_or_ge (opN (W.2.1 10 0 0 0) (nG (W.2.1 10 0 0 0))) 1 with q | q
  · rw [if_pos (show nI (opN (W.2.1 10 0 0 0) (nG (W.2.1 10 0 0 0))) < 1 from lt_p (b := 1) q (by omega))]
    simp [show ¬ 1 ≤ opN (W.2.1 10 0 0 0) (nG (W.2.1 10 0 0 0)) by omega, bI]
  · rw [if_neg (show ¬ nI (opN (W.2.1 10 0 0 0) (nG (W.2.1 10 0 0 0))) < 1 from lt_n (b := 1) q (by omega))]
    rcases Nat.lt_or_ge 4 (opN (W.2.1 10 0 0 0) (nG (W.2.1 10 0 0 0))) with z | z
    · rw [if_pos (show (4 : Int32) < nI (opN (W.2.1 10 0 0 0) (nG (W.2.1 10 0 0 0))) from lt_p (a := 4) z (by omega))]
      simp [show ¬ opN (W.2.1 10 0 0 0) (nG (W.2.1 10 0 0 0)) ≤ 4 by omega, bI]
    · rw [if_neg (show ¬ (4 : Int32) < nI (opN (W.2.1 10 0 0 0) (nG (W.2.1 10 0 0 0))) from lt_n (a := 4) z (by omega))]
      simp [q, z, bI]
/-- the class's best order is known behind findBestOrder -/
theorem q_find (h : inv T W) (hT : T + 300 ≤ 900000) (h1 : 1 ≤ opN (W.2.1 10 0 0 0) (nG (W.2.1 10 0 0 0))) (h4 : opN (W.2.1 10 0 0 0) (nG (W.2.1 10 0 0 0)) ≤ 4) : ∃ V bj, f_X3_findBestOrder (b + ad 3 0 0) (b + ad 7 0 0) (wd b W) = some ((), wd b V) ∧ inv T V ∧ V.2.1 10 0 0 0 = W.2.1 10 0 0 0 ∧ BO (W.2.1 10 0 0 0) (V.1 3 0 0 3) bj ∧ ∀ x, x < opN (W.2.1 10 0 0 0) (nG (W.2.1 10 0 0 0)) → V.2.1 3 0 0 4 x = nI (oJ (W.2.1 10 0 0 0) bj x) := by
  rcases h.2.2.2.2.2 with hc | ⟨c1, c2, c3, bj, c4, c5⟩
  · obtain ⟨v, bj, -, -, -, -, -, hbo, -⟩ := m_findsBest (b := b) (W := W) rfl h.1.1 hT h1 h4
    obtain ⟨V, e1, e2, e3, e4, e5⟩ := c_findBest (b := b) (W := W) h.2.1 h.1.1 hT h1 h4 hc hbo
    have e2' : frQ (fun c i g k => qsQ c i g k ∨ c = 3) W V := e2.mono (fun c i g k q => by
      rcases q with q | q
      · rcases q with q | q | q | q
        · exact Or.inr q.1
        · exact Or.inl (Or.inl (Or.inl q))
        · exact Or.inl (Or.inl (Or.inr (Or.inl q)))
        · exact Or.inl (Or.inl (Or.inr (Or.inr q)))
      · exact Or.inr q)
    have er : V.2.1 10 0 0 0 = W.2.1 10 0 0 0 := e2.2.1 10 0 0 0 (by unfold foQ inS; omega)
    exact ⟨V, bj, e1, inv_c2 h e2' (Or.inr ⟨e4, h1, h4, bj, by rw [e3]; exact hbo, e5⟩), er, by rw [e3]; exact hbo, e5⟩
  · refine ⟨W, bj, ?_, h, rfl, c4, c5⟩
    unfold f_X3_findBestOrder
    rw [oO_3 h3, o3_5 h3, c1, if_neg (by decide)]
theorem BO_uniq (h : inv T W) (hT : T + 300 ≤ 900000) (h1 : 1 ≤ opN (W.2.1 10 0 0 0) (nG (W.2.1 10 0 0 0))) (h4 : opN (W.2.1 10 0 0 0) (nG (W.2.1 10 0 0 0)) ≤ 4) {v v' : Int32} {bj bj' : Nat} (a : BO (W.2.1 10 0 0 0) v bj) (a' : BO (W.2.1 10 0 0 0) v' bj') : v = v' ∧ ∀ x, x < opN (W.2.1 10 0 0 0) (nG (W.2.1 10 0 0 0)) → nI (oJ (W.2.1 10 0 0 0) bj x) = nI (oJ (W.2.1 10 0 0 0) bj' x) := by
  have hs : stR (wsI W 3 0 0 5 0) 0 (W.2.1 10 0 0 0) := h.2.1.fr (frQ.I (Q := fun c _ _ _ => c = 3) rfl) (fun c g k hc => by unfold inS at hc; omega)
  obtain ⟨V, e1, -, e3, -, e5⟩ := c_findBest (b := 0) (W := wsI W 3 0 0 5 0) hs h.1.1 hT h1 h4 (by rw [wsI_r]) a
  obtain ⟨V', f1, -, f3, -, f5⟩ := c_findBest (b := 0) (W := wsI W 3 0 0 5 0) hs h.1.1 hT h1 h4 (by rw [wsI_r]) a'
  rw [e1] at f1
  have hw : wd 0 V = wd 0 V' := (Prod.mk.inj (Option.some.inj f1)).2
  refine ⟨?_, fun x hx => ?_⟩
  · have r1 := r3_3 (b := 0) (W := V) h3
    have r2 := r3_3 (b := 0) (W := V') h3
    rw [hw, r2] at r1
    rw [← e3, ← f3]
    exact (Option.some.inj r1).symm
  · have r1 := a3_4 (b := 0) (W := V) h3 (x := x) (by omega)
    have r2 := a3_4 (b := 0) (W := V') h3 (x := x) (by omega)
    rw [hw, r2] at r1
    rw [← e5 x hx, ← f5 x hx]
    exact (Option.some.inj r1).symm
theorem rqF_fb {V V2 : WD} {r : Nat → Int32} (hr : V.2.1 10 0 0 0 = r) (h0 : V.1 10 0 0 8 = 0) (f2 : fbF V V2) (f3 : V2.1 10 0 0 8 = 0) (f4 : ∀ q, q < 8274 → V2.2.1 10 0 0 0 q = r q) : rqF V V2 := rqF_M f2 (by decide) (by decide) (by rw [f3, h0]) (by decide) (fun q hq => by rw [hr]; exact f4 q hq)
theorem q_bestOrder (h : inv T W) (hT : T + 300 ≤ 900000) : both T T b W (f_X9_bestOrder (b + ad 9 0 0)) (f_X10_bestOrder (b + ad 10 0 0)) := by
  have h12 := h.1.1.1.1.2
  have hle := opN_le (W.2.1 10 0 0 0) (nG (W.2.1 10 0 0 0))
  have ec := c_canBe (b := b) h
  have ein : ∀ V : WD, f_X10_in (nI (opN (W.2.1 10 0 0 0) (nG (W.2.1 10 0 0 0)))).toInt64 (1 : Int64) (4 : Int64) (wd b V) = some (bI (decide (1 ≤ opN (W.2.1 10 0 0 0) (nG (W.2.1 10 0 0 0)) ∧ opN (W.2.1 10 0 0 0) (nG (W.2.1 10 0 0 0)) ≤ 4)), wd b V) := by
    intro V
    have e := m_in32 (b := b) (W := V) (x := nI (opN (W.2.1 10 0 0 0) (nG (W.2.1 10 0 0 0)))) (lo := 1) (hi := 4)
    have e1 : (1 : Int32).toInt64 = (1 : Int64) := rfl
    have e4 : (4 : Int32).toInt64 = (4 : Int64) := rfl
    rw [e1, e4] at e
    rw [e]
    rcases Nat.lt_or_ge (opN (W.2.1 10 0 0 0) (nG (W.2.1 10 0 0 0))) 1 with q | q
    · rw [if_pos (show nI (opN (W.2.1 10 0 0 0) (nG (W.2.1 10 0 0 0))) < 1 from lt_p (b := 1) q (by omega))]
      simp [show ¬ 1 ≤ opN (W.2.1 10 0 0 0) (nG (W.2.1 10 0 0 0)) by omega, bI]
    · rw [if_neg (show ¬ nI (opN (W.2.1 10 0 0 0) (nG (W.2.1 10 0 0 0))) < 1 from lt_n (b := 1) q (by omega))]
      rcases Nat.lt_or_ge 4 (opN (W.2.1 10 0 0 0) (nG (W.2.1 10 0 0 0))) with z | z
      · rw [if_pos (show (4 : Int32) < nI (opN (W.2.1 10 0 0 0) (nG (W.2.1 10 0 0 0))) from lt_p (a := 4) z (by omega))]
        simp [show ¬ opN (W.2.1 10 0 0 0) (nG (W.2.1 10 0 0 0)) ≤ 4 by omega, bI]
      · rw [if_neg (show ¬ (4 : Int32) < nI (opN (W.2.1 10 0 0 0) (nG (W.2.1 10 0 0 0))) from lt_n (a := 4) z (by omega))]
        simp [q, z, bI]
  by_cases hk : 1 ≤ opN (W.2.1 10 0 0 0) (nG (W.2.1 10 0 0 0)) ∧ opN (W.2.1 10 0 0 0) (nG (W.2.1 10 0 0 0)) ≤ 4
  · have hd : decide (1 ≤ opN (W.2.1 10 0 0 0) (nG (W.2.1 10 0 0 0)) ∧ opN (W.2.1 10 0 0 0) (nG (W.2.1 10 0 0 0)) ≤ 4) = true := by rw [decide_eq_true_eq]; exact hk
    rw [hd] at ec ein
    obtain ⟨V, bj, e1, e2, e3, e4, e5⟩ := q_find (b := b) h hT hk.1 hk.2
    have hn : opN (V.2.1 10 0 0 0) (nG (V.2.1 10 0 0 0)) = opN (W.2.1 10 0 0 0) (nG (W.2.1 10 0 0 0)) := by rw [e3]
    obtain ⟨v, bj', V2, f1, f2, f3, f4, f5, f6⟩ := m_findsBest (b := b) (W := V) rfl e2.1.1 hT (by rw [hn]; exact hk.1) (by rw [hn]; exact hk.2)
    rw [e3] at f5
    have hu := (BO_uniq h hT hk.1 hk.2 e4 f5).1
    rw [← hu] at f1
    refine ⟨V.1 3 0 0 3, V, V2, ?_, ?_, inv_m e2 (rqF_fb rfl e2.2.2.2.2.1 f2 f3 f4)⟩
    · unfold f_X9_bestOrder
      rw [oO_9 h9, ob2_i ec, if_pos (by decide), o9_5 h9, o9_1 h9, ob2_i e1, o9_5 h9, o3_3 h3]
    · unfold f_X10_bestOrder
      rw [oO_10 h10, ob2_i (m_left (b := b) e3 h.1.1), ob2_i (ein V), if_neg (by decide), ob2_i f1]
  · have hd : decide (1 ≤ opN (W.2.1 10 0 0 0) (nG (W.2.1 10 0 0 0)) ∧ opN (W.2.1 10 0 0 0) (nG (W.2.1 10 0 0 0)) ≤ 4) = false := by rw [decide_eq_false_iff_not]; exact hk
    rw [hd] at ec ein
    refine both_0 h (v := -4) ?_ ?_
    · unfold f_X9_bestOrder
      rw [oO_9 h9, ob2_i ec, if_neg (by decide)]
    · unfold f_X10_bestOrder
      rw [oO_10 h10, ob2_i (m_left (b := b) rfl h.1.1), ob2_i (ein W), if_pos (by decide)]
theorem q_bestOrderAt {v : Int32} (h : inv T W) (hT : T + 300 ≤ 900000) : both T T b W (f_X9_bestOrderAt (b + ad 9 0 0) v) (f_X10_bestOrderAt (b + ad 10 0 0) v) := by
  have h12 := h.1.1.1.1.2
  have hle := opN_le (W.2.1 10 0 0 0) (nG (W.2.1 10 0 0 0))
  have ec := c_canBe (b := b) h
  have eo := c_countOpen (b := b) (W := W) (i := 0) (r := W.2.1 10 0 0 0) hz8 (by rw [h.2.1.1 6 (by omega)]; exact h.1.1.1.1.1) h12 (fun g hg => (h.2.1.2.2.2.1 g hg).1)
  have ei : f_X9_isOneOf v (nI (opN (W.2.1 10 0 0 0) (nG (W.2.1 10 0 0 0)))) (wd b W) = some (bI (inR v (opN (W.2.1 10 0 0 0) (nG (W.2.1 10 0 0 0)))), wd b W) := c_oneN
  have em : ∀ V : WD, f_X10_in v.toInt64 (0 : Int64) (nI (opN (W.2.1 10 0 0 0) (nG (W.2.1 10 0 0 0))) - 1).toInt64 (wd b V) = some (bI (inR v (opN (W.2.1 10 0 0 0) (nG (W.2.1 10 0 0 0)))), wd b V) := fun V => m_inN (by omega)
  have el : ∀ V : WD, V.2.1 10 0 0 0 = W.2.1 10 0 0 0 → f_X10_left (b + ad 10 0 0) (wd b V) = some (nI (opN (W.2.1 10 0 0 0) (nG (W.2.1 10 0 0 0))), wd b V) := fun V hV => m_left (b := b) hV h.1.1
  cases hb : inR v (opN (W.2.1 10 0 0 0) (nG (W.2.1 10 0 0 0))) with
  | false =>
    have em := em W
    rw [hb] at ei em
    refine both_0 h (v := -2) ?_ ?_
    · unfold f_X9_bestOrderAt
      rw [oO_9 h9, o9_1 h9, ob2_i eo, ob2_i ei, if_neg (by decide)]
    · unfold f_X10_bestOrderAt
      rw [oO_10 h10, ob2_i (el W rfl), ob2_i em, if_neg (by decide)]
  | true =>
    rw [hb] at ei em
    obtain ⟨x, x1, rfl⟩ := inR_ex (by omega) hb
    rcases Nat.lt_or_ge 4 (opN (W.2.1 10 0 0 0) (nG (W.2.1 10 0 0 0))) with hk | hk
    · have hd : decide (1 ≤ opN (W.2.1 10 0 0 0) (nG (W.2.1 10 0 0 0)) ∧ opN (W.2.1 10 0 0 0) (nG (W.2.1 10 0 0 0)) ≤ 4) = false := by rw [decide_eq_false_iff_not]; omega
      rw [hd] at ec
      refine both_0 h (v := -4) ?_ ?_
      · unfold f_X9_bestOrderAt
        rw [oO_9 h9, o9_1 h9, ob2_i eo, ob2_i ei, if_pos (by decide), ob2_i ec, if_neg (by decide)]
      · unfold f_X10_bestOrderAt
        rw [oO_10 h10, ob2_i (el W rfl), ob2_i (em W), if_pos (by decide), ob2_i (el W rfl), if_neg (show ¬ nI (opN (W.2.1 10 0 0 0) (nG (W.2.1 10 0 0 0))) ≤ 4 from le_n (b := 4) hk (by omega))]
    · have h1 : 1 ≤ opN (W.2.1 10 0 0 0) (nG (W.2.1 10 0 0 0)) := by omega
      have hd : decide (1 ≤ opN (W.2.1 10 0 0 0) (nG (W.2.1 10 0 0 0)) ∧ opN (W.2.1 10 0 0 0) (nG (W.2.1 10 0 0 0)) ≤ 4) = true := by rw [decide_eq_true_eq]; exact ⟨h1, hk⟩
      rw [hd] at ec
      obtain ⟨V, bj, e1, e2, e3, e4, e5⟩ := q_find (b := b) h hT h1 hk
      have hn : opN (V.2.1 10 0 0 0) (nG (V.2.1 10 0 0 0)) = opN (W.2.1 10 0 0 0) (nG (W.2.1 10 0 0 0)) := by rw [e3]
      obtain ⟨v, bj', V2, f1, f2, f3, f4, f5, f6⟩ := m_findsBest (b := b) (W := V) rfl e2.1.1 hT (by rw [hn]; exact h1) (by rw [hn]; exact hk)
      rw [e3] at f5 f6
      have hu := (BO_uniq h hT h1 hk e4 f5).2 x x1
      have e4' : f_X9_isOneOf (nI x) (4 : Int32) (wd b V) = some (bI (inR (nI x) 4), wd b V) := c_oneN (n := 4)
      rw [inR_nI (by omega) (by omega)] at e4'
      refine ⟨nI (oJ (W.2.1 10 0 0 0) bj x), V, V2, ?_, ?_, inv_m e2 (rqF_fb rfl e2.2.2.2.2.1 f2 f3 f4)⟩
      · unfold f_X9_bestOrderAt
        rw [oO_9 h9, o9_1 h9, ob2_i eo, ob2_i ei, if_pos (by decide), ob2_i ec, if_pos (by decide), o9_5 h9, o9_1 h9, ob2_i e1, ob2_i e4', if_neg (by decide), o9_5 h9, o3_4 h3, oa3_4 h3 (by omega), e5 x x1]
      · unfold f_X10_bestOrderAt
        rw [oO_10 h10, ob2_i (el V e3), ob2_i (em V), if_pos (by decide), ob2_i (el V e3), if_pos (show nI (opN (W.2.1 10 0 0 0) (nG (W.2.1 10 0 0 0))) ≤ 4 from le_p (b := 4) hk (by omega)), ob2_i f1, o10_18 h10, oa10_18 h10 (by omega), f6 x x1, hu]
end
