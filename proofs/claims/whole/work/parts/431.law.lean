theorem inv_c2 {T : Nat} {W V : WD} (h : inv T W) (hf : frQ (fun c i g k => qsQ c i g k ∨ c = 3) W V) (hc : cacR V (W.2.1 10 0 0 0)) : inv T V := by
  obtain ⟨h1, h2, ⟨s, h3, h4, h5⟩, ⟨ℓ, t1, t2, t3, t4⟩, h7, h8⟩ := h
  have nq : ∀ c i g k, c = 10 ∨ c = 5 ∨ (c = 2 ∧ k ≠ 1) ∨ (inS c ∧ i ≠ 7) → ¬ (qsQ c i g k ∨ c = 3) := by
    intro c i g k hc
    unfold qsQ fnQ inS
    unfold inS at hc
    omega
  have er : V.2.1 10 0 0 0 = W.2.1 10 0 0 0 := hf.2.1 10 0 0 0 (nq _ _ _ _ (by omega))
  unfold inv
  rw [er]
  refine ⟨h1, h2.fr hf (fun c g k hc => nq _ _ _ _ (Or.inr (Or.inr (Or.inr ⟨hc, by omega⟩)))), ⟨s, h3, by rw [hf.1 10 0 0 1 (nq _ _ _ _ (by omega))]; exact h4, h5.fr hf (fun k => nq _ _ _ _ (by omega)) (fun c i g k hc i1 i2 => nq _ _ _ _ (Or.inr (Or.inr (Or.inr ⟨hc, by omega⟩))))⟩, ⟨ℓ, t1, by rw [hf.1 10 0 0 3 (nq _ _ _ _ (by omega))]; exact t2, by rw [hf.1 2 0 0 0 (nq _ _ _ _ (by omega))]; exact t3, ?_⟩, by rw [hf.1 10 0 0 8 (nq _ _ _ _ (by omega))]; exact h7, hc⟩
  rw [hf.2.1 10 0 0 2 (nq _ _ _ _ (by omega)), hf.2.1 2 0 0 2 (nq _ _ _ _ (by omega))]
  exact t4
theorem fn_qs {c i g k : Nat} (h : fnQ c i g k) : qsQ c i g k := Or.inl h
theorem gvS_sp0 {r : Nat → Int32} {dl : Bool} {O : Nat → Nat} {g : Nat} : ∀ k, (∀ x, x < k → O x ≠ g) → (gvS r dl O k).2.2 g = -1
  | 0, _ => rfl
  | k + 1, h => by
    rw [gvS]
    simp only
    rw [if_neg (fun q => h k (by omega) q.symm)]
    exact gvS_sp0 k (fun x hx => h x (by omega))
section
variable {b : Nat} {W : WD} {T : Nat}
theorem er_c {V : WD} (hf : frQ qsQ W V) : V.2.1 10 0 0 0 = W.2.1 10 0 0 0 := hf.2.1 10 0 0 0 (by unfold qsQ fnQ inS; omega)
/-- isFlow on both sides -/
theorem c_isFlow (h : inv T W) {v w : Int32} : ∃ c : Bool, f_X9_isFlow (b + ad 9 0 0) v w (wd b W) = some (bI c, wd b W) ∧ (c = true → ∃ g f, v = nI g ∧ w = nI f ∧ g < nG (W.2.1 10 0 0 0) ∧ f < nF (W.2.1 10 0 0 0) g) ∧ ∀ V : WD, (∀ q, q < 1182 → V.2.1 10 0 0 0 q = W.2.1 10 0 0 0 q) → f_X10_isFlow (b + ad 10 0 0) v w (wd b V) = some (bI c, wd b V) := by
  have h12 := h.1.1.1.1.2
  have eg := c_isGroup (b := b) h (v := v)
  have em : ∀ V : WD, (∀ q, q < 1182 → V.2.1 10 0 0 0 q = W.2.1 10 0 0 0 q) → f_X10_isGroup (b + ad 10 0 0) v (wd b V) = some (bI (inR v (nG (W.2.1 10 0 0 0))), wd b V) := fun V hV => by
    have := m_isGroup (b := b) (T := T) (okS_cg h.1 hV) (v := v)
    rw [nG_q hV] at this
    exact this
  cases hb : inR v (nG (W.2.1 10 0 0 0)) with
  | false =>
    rw [hb] at eg
    refine ⟨false, ?_, fun q => (by cases q), fun V hV => ?_⟩
    · unfold f_X9_isFlow
      rw [oO_9 h9, ob2_i eg, if_pos (by decide)]
      rfl
    · have em2 := em V hV
      rw [hb] at em2
      unfold f_X10_isFlow
      rw [oO_10 h10, ob2_i em2, if_pos (by decide)]
      rfl
  | true =>
    rw [hb] at eg
    obtain ⟨g, g1, rfl⟩ := inR_ex (by omega) hb
    have hk := h.1.1.1.2.1 g g1
    have h16 := hk.2.1
    refine ⟨inR w (nF (W.2.1 10 0 0 0) g), ?_, fun q => ?_, fun V hV => ?_⟩
    · unfold f_X9_isFlow
      rw [oO_9 h9, ob2_i eg, if_neg (by decide), o9_1 h9, o7_10 h70, oa7_10 h70 (by omega), o4_5 (vo4 hz8 (by omega)), o1_0 (vo1 hz8 (by omega)), (h.2.1.2.2.2.1 g g1).2.1.1, hk.1, ob2_i c_oneN]
      cases inR w (nF (W.2.1 10 0 0 0) g) <;> rfl
    · obtain ⟨f, f1, f2⟩ := inR_ex (by omega) q
      exact ⟨g, f, rfl, f2, g1, f1⟩
    · have em2 := em V hV
      rw [hb] at em2
      have e5 : gO (V.2.1 10 0 0 0) g 5 = nI (nF (W.2.1 10 0 0 0) g) := by
        have : gO (V.2.1 10 0 0 0) g 5 = gO (W.2.1 10 0 0 0) g 5 := hV _ (by omega)
        rw [this, hk.1]
      unfold f_X10_isFlow
      rw [oO_10 h10, ob2_i em2, if_neg (by decide), ob2_i (m_ofk 5 5 rfl (by omega)), e5, ob2_i (m_inN (by omega))]
      cases inR w (nF (W.2.1 10 0 0 0) g) <;> rfl
theorem q_flowPart {v w u : Int32} (h : inv T W) : both T T b W (f_X9_flowPart (b + ad 9 0 0) v w u) (f_X10_flowPart (b + ad 10 0 0) v w u) := by
  have h12 := h.1.1.1.1.2
  obtain ⟨c, e1, e2, e3⟩ := c_isFlow (b := b) h (v := v) (w := w)
  have e3 := e3 W (fun _ _ => rfl)
  cases c with
  | false =>
    refine both_0 h (v := -2) ?_ ?_
    · unfold f_X9_flowPart
      rw [oO_9 h9, ob2_i e1, if_neg (by decide)]
    · unfold f_X10_flowPart
      rw [oO_10 h10, ob2_i e3, if_neg (by decide)]
  | true =>
    obtain ⟨g, f, rfl, rfl, g1, f1⟩ := e2 rfl
    have hk := h.1.1.1.2.1 g g1
    have h16 := hk.2.1
    obtain ⟨a1, ⟨a2, a3⟩, a4⟩ := h.2.1.2.2.2.1 g g1
    have hv1 := vo1 (i := 0) (g := g) hz8 (by omega)
    have hv4 := vo4 (i := 0) (g := g) hz8 (by omega)
    have ei : f_X10_in u.toInt64 (0 : Int64) (4 : Int64) (wd b W) = some (bI (inR u 5), wd b W) := m_inN (n := 5) (by omega)
    have go : ∀ k : Nat, k < 5 → u = nI k → both T T b W (f_X9_flowPart (b + ad 9 0 0) (nI g) (nI f) u) (f_X10_flowPart (b + ad 10 0 0) (nI g) (nI f) u) := by
      intro k hk5 hu
      rw [hu, inR_nI (by omega) hk5] at ei
      refine both_0 h (v := fO (W.2.1 10 0 0 0) g f k) ?_ ?_
      · unfold f_X9_flowPart
        rw [oO_9 h9, ob2_i e1, if_pos (by decide), o9_1 h9, o7_10 h70, oa7_10 h70 (by omega), o4_5 hv4, hu]
        have : k = 0 ∨ k = 1 ∨ k = 2 ∨ k = 3 ∨ k = 4 := by omega
        rcases this with rfl | rfl | rfl | rfl | rfl
        · rw [if_pos (by decide), o1_1 hv1, oa1_1 hv1 (by omega), (a3 f f1).1]
        · rw [if_neg (by decide), if_pos (by decide), o1_2 hv1, oa1_2 hv1 (by omega), (a3 f f1).2.1]
        · rw [if_neg (by decide), if_neg (by decide), if_pos (by decide), o1_3 hv1, oa1_3 hv1 (by omega), (a3 f f1).2.2.1]
        · rw [if_neg (by decide), if_neg (by decide), if_neg (by decide), if_pos (by decide), o1_4 hv1, oa1_4 hv1 (by omega), (a3 f f1).2.2.2]
        · rw [if_neg (by decide), if_neg (by decide), if_neg (by decide), if_neg (by decide), if_pos (by decide), o1_5 hv1, oa1_5 hv1 (by omega), a4 f f1]
      · unfold f_X10_flowPart
        rw [oO_10 h10, ob2_i e3, if_pos (by decide), hu, ob2_i ei, if_neg (by decide), ob2_i (m_flowOf (by omega))]
    cases hb : inR u 5 with
    | true =>
      obtain ⟨k, k1, k2⟩ := inR_ex (by omega) hb
      exact go k k1 k2
    | false =>
      have hne : ∀ k, k < 5 → ¬ u = nI k := fun k hk5 q => by rw [q, inR_nI (by omega) hk5] at hb; cases hb
      rw [hb] at ei
      refine both_0 h (v := -3) ?_ ?_
      · unfold f_X9_flowPart
        rw [oO_9 h9, ob2_i e1, if_pos (by decide), o9_1 h9, o7_10 h70, oa7_10 h70 (by omega), o4_5 hv4, if_neg (show ¬ u = 0 from hne 0 (by omega)), if_neg (show ¬ u = 1 from hne 1 (by omega)), if_neg (show ¬ u = 2 from hne 2 (by omega)), if_neg (show ¬ u = 3 from hne 3 (by omega)), if_neg (show ¬ u = 4 from hne 4 (by omega))]
      · unfold f_X10_flowPart
        rw [oO_10 h10, ob2_i e3, if_pos (by decide), ob2_i ei, if_pos (by decide)]
theorem m_place {M : Nat} {O : Nat → Nat} (hM : M ≤ 12) (h7 : W.1 10 0 0 7 = nI M) (h6 : ∀ x, x < M → W.2.1 10 0 0 6 x = nI (O x)) {v : Int32} : ∃ c, f_X10_place_L19 (b + ad 10 0 0) v (fun v10 N11 => some (v10, N11)) FU (-1 : Int32) (0 : Int32) (wd b W) = some (c, wd b W) ∧ ((c = -1 ∧ ∀ x, x < M → ¬ nI (O x) = v) ∨ ∃ x, x < M ∧ c = nI x ∧ nI (O x) = v) := by
  refine loopE (fun m j (c : Int32) => f_X10_place_L19 (b + ad 10 0 0) v (fun v10 N11 => some (v10, N11)) m c (nI j) (wd b W)) M (fun j c => (c = -1 ∧ ∀ x, x < j → ¬ nI (O x) = v) ∨ ∃ x, x < j ∧ c = nI x ∧ nI (O x) = v) (fun y => ∃ c, y = some (c, wd b W) ∧ ((c = -1 ∧ ∀ x, x < M → ¬ nI (O x) = v) ∨ ∃ x, x < M ∧ c = nI x ∧ nI (O x) = v)) ?_ ?_ FU 0 (-1) (by omega) (by have := FUgt; omega) (Or.inl ⟨rfl, fun x hx => absurd hx (Nat.not_lt_zero x)⟩)
  · intro m j c hj hI
    try dsimp only
    rw [f_X10_place_L19, o10_7 h10, h7, if_neg (le_n hj (by omega)), o10_6 h10, oa10_6 h10 (by omega), h6 j hj, nI_1]
    by_cases q : nI (O j) = v
    · rw [if_neg (fun z => z q)]
      exact ⟨nI j, Or.inr ⟨j, by omega, rfl, q⟩, rfl⟩
    · rw [if_pos q]
      refine ⟨c, ?_, rfl⟩
      rcases hI with ⟨a1, a2⟩ | ⟨x, x1, x2, x3⟩
      · refine Or.inl ⟨a1, fun x hx => ?_⟩
        rcases Nat.lt_or_ge x j with z | z
        · exact a2 x z
        · rw [show x = j by omega]; exact q
      · exact Or.inr ⟨x, by omega, x2, x3⟩
  · intro m c hI
    try dsimp only
    rw [f_X10_place_L19, o10_7 h10, h7, if_pos (le_p (Nat.le_refl _) (by omega))]
    exact ⟨c, rfl, hI⟩
theorem mdK_n (h : inv T W) : mdK W true (ordOf none (W.2.1 10 0 0 0)).1 (ordOf none (W.2.1 10 0 0 0)).2 := mdW_K (md := none) h.2.2.2.2.1 trivial
theorem q_place {v : Int32} (h : inv T W) (hT : T ≤ 900000) : both T T b W (f_X9_place (b + ad 9 0 0) v) (f_X10_place (b + ad 10 0 0) v) := by
  have h12 := h.1.1.1.1.2
  have eg := c_isGroup (b := b) h (v := v)
  cases hb : inR v (nG (W.2.1 10 0 0 0)) with
  | false =>
    have em := m_isGroup (b := b) (T := T) h.1 (v := v)
    rw [hb] at eg em
    refine both_0 h (v := -2) ?_ ?_
    · unfold f_X9_place
      rw [oO_9 h9, ob2_i eg, if_neg (by decide)]
    · unfold f_X10_place
      rw [oO_10 h10, ob2_i em, if_neg (by decide)]
  | true =>
    rw [hb] at eg
    obtain ⟨g, g1, rfl⟩ := inR_ex (by omega) hb
    have hC := ordOf_C (md := none) h.1.1 trivial
    obtain ⟨V, e1, e2, e3, e4, -⟩ := c_putInOrder (b := b) (W := W) (t := 0) (i := 0) (F := W.2.1 8 0 0 4) h80 hz8 h.2.1 h.1.1 rfl
    rw [ord_eq h.1.1 hT h.1.2] at e3 e4
    have e2' : frQ qsQ W V := e2.mono (fun c i g k q => Or.inr (Or.inl ⟨q.1, q.2.1⟩))
    have hV := inv_c h e2'
    have er := er_c e2'
    have o0 : V.1 8 0 0 0 = nI (ordOf none (W.2.1 10 0 0 0)).1 := e3
    have o1 : ∀ x, x < (ordOf none (W.2.1 10 0 0 0)).1 → V.2.1 8 0 0 1 x = nI ((ordOf none (W.2.1 10 0 0 0)).2 x) := e4
    obtain ⟨c, c1, c2⟩ := c_placeOf (b := b) (W := V) h80 hC.1.1 o0 o1 (v := nI g)
    refine both_q h (v := c) (W1 := V) ?_ e2' ?_
    · unfold f_X9_place
      rw [oO_9 h9, ob2_i eg, if_pos (by decide), o9_3 h9, o9_1 h9, ob2_i e1, o9_3 h9, ob2_i c1]
    · have em2 := m_isGroup (b := b) (T := T) hV.1 (v := nI g)
      rw [er, hb] at em2
      obtain ⟨V2, f1, f2, f3, f4⟩ := m_orders (b := b) (W := V) hV.1.1.1 (mdK_n hV)
      rw [er] at f3 f4
      obtain ⟨c', p1, p2⟩ := m_place (b := b) (W := V2) hC.1.1 f3 f4 (v := nI g)
      have hcc : c' = c := by
        rcases p2 with ⟨q1, q2⟩ | ⟨x, x1, x2, x3⟩
        · rcases c2 with ⟨w1, -⟩ | ⟨y, y1, y2, y3, -⟩
          · rw [q1, w1]
          · exact absurd y3 (q2 y y1)
        · rcases c2 with ⟨-, w2⟩ | ⟨y, y1, y2, y3, -⟩
          · exact absurd x3 (w2 x x1)
          · have hx := (hC.1.2 x x1).1
            have hy := (hC.1.2 y y1).1
            have := hC.2.1 x y x1 y1 ((nI_eq (by omega) (by omega)).mp (x3.trans y3.symm))
            rw [x2, y2, this]
      rw [hcc] at p1
      refine ⟨V2, ?_, rqF_M f2 (by decide) (by decide) (f2.mi 8 (by decide)) (by decide) (fun q _ => by rw [f2.ma 0 (by decide)])⟩
      unfold f_X10_place
      rw [oO_10 h10, ob2_i em2, if_pos (by decide), ob2_i f1, p1]
/-- the plan on both sides -/
theorem q_plan (h : inv T W) (hT : T ≤ 900000) : ∃ V, f_X3_planTick (b + ad 3 0 0) (b + ad 7 0 0) (wd b W) = some ((), wd b V) ∧ frQ qsQ W V ∧ V.1 8 1 0 0 = nI (ordOf none (W.2.1 10 0 0 0)).1 ∧ (∀ x, x < (ordOf none (W.2.1 10 0 0 0)).1 → V.2.1 8 1 0 1 x = nI ((ordOf none (W.2.1 10 0 0 0)).2 x)) ∧ (∀ p, p < 16 → V.2.1 8 1 0 3 p = finA (W.2.1 10 0 0 0) true (ordOf none (W.2.1 10 0 0 0)).1 (ordOf none (W.2.1 10 0 0 0)).2 p) ∧ (∀ g f, g < nG (W.2.1 10 0 0 0) → f < nF (W.2.1 10 0 0 0) g → V.2.1 1 7 g 5 f = finR (W.2.1 10 0 0 0) true (ordOf none (W.2.1 10 0 0 0)).1 (ordOf none (W.2.1 10 0 0 0)).2 g f) ∧ (∀ x, x < (ordOf none (W.2.1 10 0 0 0)).1 → V.2.1 8 1 0 2 ((ordOf none (W.2.1 10 0 0 0)).2 x) = (gvS (W.2.1 10 0 0 0) true (ordOf none (W.2.1 10 0 0 0)).2 (ordOf none (W.2.1 10 0 0 0)).1).2.2 ((ordOf none (W.2.1 10 0 0 0)).2 x)) ∧ ∃ V2, f_X10_worksOut (b + ad 10 0 0) (wd b V) = some ((), wd b V2) ∧ rqF V V2 ∧ (∀ p, p < 16 → V2.2.1 10 0 0 4 p = finA (W.2.1 10 0 0 0) true (ordOf none (W.2.1 10 0 0 0)).1 (ordOf none (W.2.1 10 0 0 0)).2 p) ∧ (∀ g f, g < 12 → f < 16 → V2.2.1 10 0 0 14 (16 * g + f) = finR (W.2.1 10 0 0 0) true (ordOf none (W.2.1 10 0 0 0)).1 (ordOf none (W.2.1 10 0 0 0)).2 g f) ∧ ∀ g, g < 12 → V2.2.1 10 0 0 13 g = (gvS (W.2.1 10 0 0 0) true (ordOf none (W.2.1 10 0 0 0)).2 (ordOf none (W.2.1 10 0 0 0)).1).2.2 g := by
  obtain ⟨V, e1, e2, e3, e4, e5, e6, e7⟩ := c_planTick (b := b) (W := W) h.2.1 h.1.1 hT h.1.2
  have e2' : frQ qsQ W V := e2.mono (fun c i g k q => fn_qs q)
  have hV := inv_c h e2'
  have er := er_c e2'
  obtain ⟨V2, f1, f2, -, -, f5, f6, f7⟩ := m_worksOut (b := b) (W := V) rfl hV.1.1.1 (hV.1.1.tm hT) (mdK_n hV)
  rw [er] at f5 f6 f7
  exact ⟨V, e1, e2', e3, e4, e5, e6, e7, V2, f1, rqF_M f2 (by decide) (by decide) (f2.mi 8 (by decide)) (by decide) (fun q _ => by rw [f2.ma 0 (by decide)]), f5, f6, f7⟩
theorem q_nextSpan {v : Int32} (h : inv T W) (hT : T ≤ 900000) : both T T b W (f_X9_nextSpan (b + ad 9 0 0) v) (f_X10_nextSpan (b + ad 10 0 0) v) := by
  have h12 := h.1.1.1.1.2
  have eg := c_isGroup (b := b) h (v := v)
  cases hb : inR v (nG (W.2.1 10 0 0 0)) with
  | false =>
    have em := m_isGroup (b := b) (T := T) h.1 (v := v)
    rw [hb] at eg em
    refine both_0 h (v := -2) ?_ ?_
    · unfold f_X9_nextSpan
      rw [oO_9 h9, ob2_i eg, if_neg (by decide)]
    · unfold f_X10_nextSpan
      rw [oO_10 h10, ob2_i em, if_neg (by decide)]
  | true =>
    rw [hb] at eg
    obtain ⟨g, g1, rfl⟩ := inR_ex (by omega) hb
    have hC := ordOf_C (md := none) h.1.1 trivial
    obtain ⟨V, e1, e2, e3, e4, e5, e6, e7, V2, f1, f2, f5, f6, f7⟩ := q_plan (b := b) h hT
    have hV := inv_c h e2
    have er := er_c e2
    obtain ⟨c, c1, c2⟩ := c_placeOf (b := b) (W := V) h8 hC.1.1 e3 e4 (v := nI g)
    refine both_q h (v := (gvS (W.2.1 10 0 0 0) true (ordOf none (W.2.1 10 0 0 0)).2 (ordOf none (W.2.1 10 0 0 0)).1).2.2 g) (W1 := V) ?_ e2 ⟨V2, ?_, f2⟩
    · unfold f_X9_nextSpan
      rw [oO_9 h9, ob2_i eg, if_pos (by decide), o9_5 h9, o9_1 h9, ob2_i e1, o9_5 h9, o3_1 h3, ob2_i c1]
      rcases c2 with ⟨w1, w2⟩ | ⟨x, x1, x2, x3, -⟩
      · rw [w1, if_neg (fun q => q rfl), gvS_sp0 _ (fun x hx q => w2 x hx (by rw [q]))]
      · have hx := (hC.1.2 x x1).1
        have hg : (ordOf none (W.2.1 10 0 0 0)).2 x = g := (nI_eq (by omega) (by omega)).mp x3
        have hM := hC.1.1
        rw [x2, if_pos (nI_ne_m1 (by omega)), o9_5 h9, o3_1 h3, o8_2 h8, oa8_2 h8 (by omega), ← hg, e7 x x1]
    · have em2 := m_isGroup (b := b) (T := T) hV.1 (v := nI g)
      rw [er, hb] at em2
      unfold f_X10_nextSpan
      rw [oO_10 h10, ob2_i em2, if_pos (by decide), ob2_i f1, o10_13 h10, oa10_13 h10 (by omega), f7 g (by omega)]
theorem q_nextRate {v w : Int32} (h : inv T W) (hT : T ≤ 900000) : both T T b W (f_X9_nextRate (b + ad 9 0 0) v w) (f_X10_nextRate (b + ad 10 0 0) v w) := by
  have h12 := h.1.1.1.1.2
  obtain ⟨c, e1, e2, e3⟩ := c_isFlow (b := b) h (v := v) (w := w)
  cases c with
  | false =>
    refine both_0 h (v := -2) ?_ ?_
    · unfold f_X9_nextRate
      rw [oO_9 h9, ob2_i e1, if_neg (by decide)]
    · unfold f_X10_nextRate
      rw [oO_10 h10, ob2_i (e3 W (fun _ _ => rfl)), if_neg (by decide)]
  | true =>
    obtain ⟨g, f, rfl, rfl, g1, f1⟩ := e2 rfl
    have h16 := (h.1.1.1.2.1 g g1).2.1
    have h77 : vo 7 7 0 = true := rfl
    obtain ⟨V, p1, p2, p3, p4, p5, p6, p7, V2, q1, q2, q5, q6, q7⟩ := q_plan (b := b) h hT
    have er := er_c p2
    refine both_q h (v := finR (W.2.1 10 0 0 0) true (ordOf none (W.2.1 10 0 0 0)).1 (ordOf none (W.2.1 10 0 0 0)).2 g f) (W1 := V) ?_ p2 ⟨V2, ?_, q2⟩
    · unfold f_X9_nextRate
      rw [oO_9 h9, ob2_i e1, if_pos (by decide), o9_5 h9, o9_1 h9, ob2_i p1, o9_5 h9, o3_0 h3, o7_10 h77, oa7_10 h77 (by omega), o4_5 (vo4 hx7 (by omega)), o1_5 (vo1 hx7 (by omega)), oa1_5 (vo1 hx7 (by omega)) (by omega), p6 g f g1 f1]
    · unfold f_X10_nextRate
      rw [oO_10 h10, ob2_i (e3 V (fun q _ => by rw [er])), if_pos (by decide), ob2_i q1, o10_14 h10, li 16, pk_mul, nI_add, oa10_14 h10 (by omega), q6 g f (by omega) (by omega)]
theorem q_spare {v : Int32} (h : inv T W) (hT : T ≤ 900000) : both T T b W (f_X9_spare (b + ad 9 0 0) v) (f_X10_spare (b + ad 10 0 0) v) := by
  have eg : f_X9_isOneOf v (16 : Int32) (wd b W) = some (bI (inR v 16), wd b W) := c_oneN (n := 16)
  have em : ∀ V : WD, f_X10_in v.toInt64 (0 : Int64) (15 : Int64) (wd b V) = some (bI (inR v 16), wd b V) := fun V => m_inN (n := 16) (by omega)
  cases hb : inR v 16 with
  | false =>
    rw [hb] at eg
    have em := em W
    rw [hb] at em
    refine both_0 h (v := -2) ?_ ?_
    · unfold f_X9_spare
      rw [oO_9 h9, ob2_i eg, if_neg (by decide)]
    · unfold f_X10_spare
      rw [oO_10 h10, ob2_i em, if_neg (by decide)]
  | true =>
    rw [hb] at eg
    obtain ⟨p, pl, rfl⟩ := inR_ex (by omega) hb
    obtain ⟨V, p1, p2, p3, p4, p5, p6, p7, V2, q1, q2, q5, q6, q7⟩ := q_plan (b := b) h hT
    refine both_q h (v := finA (W.2.1 10 0 0 0) true (ordOf none (W.2.1 10 0 0 0)).1 (ordOf none (W.2.1 10 0 0 0)).2 p) (W1 := V) ?_ p2 ⟨V2, ?_, q2⟩
    · unfold f_X9_spare
      rw [oO_9 h9, ob2_i eg, if_pos (by decide), o9_5 h9, o9_1 h9, ob2_i p1, o9_5 h9, o3_1 h3, o8_3 h8, oa8_3 h8 pl, p5 p pl]
    · have em := em V
      rw [hb] at em
      unfold f_X10_spare
      rw [oO_10 h10, ob2_i em, if_pos (by decide), ob2_i q1, o10_4 h10, oa10_4 h10 pl, q5 p pl]
theorem q_moved {v : Int32} (h : inv T W) : both T T b W (f_X9_moved (b + ad 9 0 0) v) (f_X10_moved (b + ad 10 0 0) v) := by
  have eg : f_X9_isOneOf v (16 : Int32) (wd b W) = some (bI (inR v 16), wd b W) := c_oneN (n := 16)
  have em : f_X10_in v.toInt64 (0 : Int64) (15 : Int64) (wd b W) = some (bI (inR v 16), wd b W) := m_inN (n := 16) (by omega)
  cases hb : inR v 16 with
  | false =>
    rw [hb] at eg em
    refine both_0 h (v := -2) ?_ ?_
    · unfold f_X9_moved
      rw [oO_9 h9, ob2_i eg, if_pos (by decide)]
    · unfold f_X10_moved
      rw [oO_10 h10, ob2_i em, if_pos (by decide)]
  | true =>
    rw [hb] at eg em
    obtain ⟨p, pl, rfl⟩ := inR_ex (by omega) hb
    refine both_0 h (v := W.2.1 10 0 0 0 (26 + p)) ?_ ?_
    · unfold f_X9_moved
      rw [oO_9 h9, ob2_i eg, if_neg (by decide), o9_1 h9, o7_8 h70, oa7_8 h70 pl, (h.2.1.2.1 p pl).2]
    · unfold f_X10_moved
      rw [oO_10 h10, ob2_i em, if_neg (by decide), o10_0 h10, li 26, nI_add, oa10_0 h10 (by omega)]
theorem q_bound (h : inv T W) : both T T b W (f_X9_bound (b + ad 9 0 0)) (f_X10_bound (b + ad 10 0 0)) := by
  obtain ⟨V, e1, e2⟩ := c_boundOf (b := b) (W := W) (u := 0) (i := 0) h60 hz8 h.2.1.a h.1.1
  have e2' : frQ qsQ W V := e2.mono (fun c i g k q => Or.inr (Or.inr (Or.inl ⟨q.1, q.2.1⟩)))
  have er := er_c e2'
  refine both_q h (v := bndS (W.2.1 10 0 0 0)) (W1 := V) ?_ e2' ⟨V, ?_, rqF.rf⟩
  · unfold f_X9_bound
    rw [oO_9 h9, o9_4 h9, o9_1 h9, ob2_i e1]
  · exact m_bound (b := b) er h.1.1
/-! looking far ahead -/
theorem tot_eq (h : inv T W) (hT : T + 300 ≤ 900000) {p : Nat} (hp : p ≤ 5) {ρ ρ' : Nat → Nat → Int32} {n n' : Nat} {v v' : Int32} (a1 : ∀ q, q < 1182 → ρ 0 q = upd (W.2.1 10 0 0 0) 1 (nI p) q) (a2 : chn none ρ n) (a3 : totP v ρ n) (b1 : ∀ q, q < 1182 → ρ' 0 q = upd (W.2.1 10 0 0 0) 1 (nI p) q) (b2 : chn none ρ' n') (b3 : totP v' ρ' n') : v = v' := by
  obtain ⟨V, e1, -⟩ := c_totalOf (b := 0) (W := W) h.2.1 h.1.1 hT hp a1 a2 a3
  obtain ⟨V', e2, -⟩ := c_totalOf (b := 0) (W := W) h.2.1 h.1.1 hT hp b1 b2 b3
  rw [e1] at e2
  exact (Prod.mk.inj (Option.some.inj e2)).1
theorem trl_q {r : Nat → Int32} {V V2 : WD} (hr : V.2.1 10 0 0 0 = r) (h2 : V2.2.1 10 0 0 0 = trl r) : ∀ q, q < 8274 → V2.2.1 10 0 0 0 q = V.2.1 10 0 0 0 q := fun q hq => by rw [h2, hr, trl_lo hq]
theorem q_total {v : Int32} (h : inv T W) (hT : T + 300 ≤ 900000) : both T T b W (f_X9_total (b + ad 9 0 0) v) (f_X10_total (b + ad 10 0 0) v) := by
  have eg : f_X9_isOneOf v (6 : Int32) (wd b W) = some (bI (inR v 6), wd b W) := c_oneN (n := 6)
  have em : ∀ V : WD, f_X10_in v.toInt64 (0 : Int64) (5 : Int64) (wd b V) = some (bI (inR v 6), wd b V) := fun V => m_inN (n := 6) (by omega)
  cases hb : inR v 6 with
  | false =>
    have em := em W
    rw [hb] at eg em
    refine both_0 h (v := -3) ?_ ?_
    · unfold f_X9_total
      rw [oO_9 h9, ob2_i eg, if_pos (by decide)]
    · unfold f_X10_total
      rw [oO_10 h10, ob2_i em, if_pos (by decide)]
  | true =>
    rw [hb] at eg
    obtain ⟨p, pl, rfl⟩ := inR_ex (by omega) hb
    obtain ⟨v0, -, ρ0, n0, -, -, -, s1, s2, s3⟩ := m_totalBy (b := b) (W := W) (p := p) rfl h.1.1 hT h.2.2.2.2.1 (by omega)
    obtain ⟨V, e1, e2⟩ := c_totalOf (b := b) (W := W) h.2.1 h.1.1 hT (by omega) s1 s2 s3
    have e2' : frQ qsQ W V := e2.mono (fun c i g k q => fn_qs q)
    have hV := inv_c h e2'
    have er := er_c e2'
    obtain ⟨v1, V2, ρ1, n1, t0, tF, tr, t1, t2, t3⟩ := m_totalBy (b := b) (W := V) (p := p) rfl hV.1.1 hT hV.2.2.2.2.1 (by omega)
    rw [er] at t1
    have hv := tot_eq h hT (p := p) (by omega) s1 s2 s3 t1 t2 t3
    rw [← hv] at t0
    refine both_q h (v := v0) (W1 := V) ?_ e2' ⟨V2, ?_, rqF_M tF (by decide) (by decide) (tF.mi 8 (by decide)) (by decide) (trl_q rfl tr)⟩
    · unfold f_X9_total
      rw [oO_9 h9, ob2_i eg, if_neg (by decide), o9_5 h9, o9_1 h9, ob2_i e1]
    · have em := em V
      rw [hb] at em
      unfold f_X10_total
      rw [oO_10 h10, ob2_i em, if_neg (by decide), ob2_i t0]
theorem m_outlook {g : Nat} (h : inv T W) (hT : T + 1000 ≤ 900000) (hg : g < nG (W.2.1 10 0 0 0)) : ∃ V ρ n, f_X10_outlook (b + ad 10 0 0) (nI g) (wd b W) = some (gO (ρ n) g 3, wd b V) ∧ rqF W V ∧ (∀ q, q < 1182 → ρ 0 q = W.2.1 10 0 0 0 q) ∧ chn none ρ n ∧ outP g ρ n := by
  have h12 := h.1.1.1.1.2
  have em := m_isGroup (b := b) (T := T) h.1 (v := nI g)
  rw [inR_nI (by omega) hg] at em
  generalize hr : W.2.1 10 0 0 0 = r at *
  have ec := m_copies (b := b) (W := W) (f := 0) (t := 8274) (by omega) (by omega) (by omega)
  rw [hr] at ec
  have htl : ∀ q, q < 1182 → trl r q = r q := fun q hq => trl_lo (by omega)
  have h8 : W.1 10 0 0 8 = 0 := h.2.2.2.2.1
  have hok : okR r T := by have := h.1.1; rw [hr] at this; exact this
  obtain ⟨V, ρ, n, e1, e2, e3, e4, e5, e6⟩ := m_outL (b := b) (W := wsA W 10 0 0 0 (trl r)) (g := g) (wsA_r _ _ _ _ _ _) (okR_cg hok htl) hT (show (wsA W 10 0 0 0 (trl r)).1 10 0 0 8 = 0 from h8) (by rw [nG_q htl]; exact hg) (k := fun N10 => f_X10_outlook_J47 (b + ad 10 0 0) (nI g) N10)
  have hb : va_cpy (V.2.1 10 0 0 0) (V.2.1 10 0 0 0) 8274 0 1182 = trl r := trl_back (fun q hq => by rw [e5, chn_hi e4 n (Nat.le_refl _) q hq, e3])
  have ec2 := m_copies (b := b) (W := V) (f := 8274) (t := 0) (by omega) (by omega) (by omega)
  rw [hb] at ec2
  have e0 : (0 : Int32) = nI 0 := rfl
  have e8 : (8274 : Int32) = nI 8274 := rfl
  refine ⟨wsA V 10 0 0 0 (trl r), ρ, n, ?_, ?_, fun q hq => by rw [e3]; exact htl q hq, e4, e6⟩
  · have e1' : f_X10_outlook_L21 (b + ad 10 0 0) (nI g) (fun N10 => f_X10_outlook_J47 (b + ad 10 0 0) (nI g) N10) FU (nI 0) (wd b (wsA W 10 0 0 0 (va_cpy r r 0 8274 1182))) = f_X10_outlook_J47 (b + ad 10 0 0) (nI g) (wd b V) := e1
    unfold f_X10_outlook
    rw [oO_10 h10, ob2_i em, if_pos (by decide), e8, e0, ob2_i ec, e1']
    unfold f_X10_outlook_J47
    rw [ob2_i (m_ofk 3 3 rfl (by omega)), e5, e8, e0, ob2_i ec2]
  · have hfr : tkF W (wsA V 10 0 0 0 (trl r)) := (frM.A (by decide)).tr (frM.tr e2 (frM.A (by decide)))
    exact rqF_M hfr (by decide) (by decide) (hfr.mi 8 (by decide)) (by decide) (fun q hq => by rw [wsA_r, hr, trl_lo hq])
theorem q_outlook {v : Int32} (h : inv T W) (hT : T + 1000 ≤ 900000) : both T T b W (f_X9_outlook (b + ad 9 0 0) v) (f_X10_outlook (b + ad 10 0 0) v) := by
  have h12 := h.1.1.1.1.2
  have eg := c_isGroup (b := b) h (v := v)
  cases hb : inR v (nG (W.2.1 10 0 0 0)) with
  | false =>
    have em := m_isGroup (b := b) (T := T) h.1 (v := v)
    rw [hb] at eg em
    refine both_0 h (v := -2) ?_ ?_
    · unfold f_X9_outlook
      rw [oO_9 h9, ob2_i eg, if_pos (by decide)]
    · unfold f_X10_outlook
      rw [oO_10 h10, ob2_i em, if_neg (by decide)]
  | true =>
    rw [hb] at eg
    obtain ⟨g, g1, rfl⟩ := inR_ex (by omega) hb
    obtain ⟨-, ρ0, n0, -, -, s1, s2, s3⟩ := m_outlook (b := b) h hT g1
    obtain ⟨V, e1, e2⟩ := c_endOf (b := b) (W := W) h.2.1 h.1.1 hT h.1.2 g1 s1 s2 s3
    have e2' : frQ qsQ W V := e2.mono (fun c i g k q => fn_qs q)
    have hV := inv_c h e2'
    have er := er_c e2'
    obtain ⟨V2, ρ1, n1, t0, tF, t1, t2, t3⟩ := m_outlook (b := b) hV hT (by rw [er]; exact g1)
    rw [er] at t1
    obtain ⟨V', e3, -⟩ := c_endOf (b := b) (W := W) h.2.1 h.1.1 hT h.1.2 g1 t1 t2 t3
    rw [e1] at e3
    have hv := (Prod.mk.inj (Option.some.inj e3)).1
    rw [← hv] at t0
    refine both_q h (v := gO (ρ0 n0) g 3) (W1 := V) ?_ e2' ⟨V2, t0, tF⟩
    unfold f_X9_outlook
    rw [oO_9 h9, ob2_i eg, if_neg (by decide), o9_5 h9, o9_1 h9, ob2_i e1]
end
