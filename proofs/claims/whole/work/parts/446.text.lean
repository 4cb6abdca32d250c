/-! textFault, read -/
theorem fd_qs {c i g k : Nat} (h : fdQ c i g k) : qsQ c i g k := by
  rcases h with h | h
  · exact Or.inr (Or.inr (Or.inr (Or.inr h)))
  · exact Or.inr (Or.inr (Or.inr (Or.inl h)))
theorem drL_lo : ∀ (l : List (Nat × Nat × Nat)) (n : Nat) (r r' : Nat → Int32), (∀ q, q < 1182 → r' q = r q) → ∀ q, q < 1182 → drL r' n l q = drL r n l q
  | [], _, _, _, h => h
  | _ :: l, n, _, _, h => drL_lo l (n + 1) _ _ (drw_lo h)
theorem drL_hi : ∀ (l : List (Nat × Nat × Nat)) (n : Nat) (r : Nat → Int32), n + l.length ≤ 16 → ∀ q, (q ≠ 7 ∧ q < 42) ∨ 1182 ≤ q → drL r n l q = r q
  | [], _, _, _, _, _ => rfl
  | x :: l, n, r, h, q, hq => by
    simp only [List.length_cons] at h
    rw [drL, drL_hi l (n + 1) _ (by omega) q hq, drw_o (by omega) (by omega)]
theorem gL_at {t : Nat → Int32} {ℓ : Nat} (h : tK t ℓ) {d : Nat} : ∀ m k p, p ≤ ℓ → (gL t ℓ d m k p).2.1 ≤ ℓ
  | 0, _, _, hp => hp
  | m + 1, k, p, hp => by
    rcases gL_cases (t := t) (ℓ := ℓ) d m k p with ⟨q, a1, e⟩ | ⟨x, q, a1, a2, e⟩ | ⟨x, q, q2, a1, a2, a3, e⟩ | ⟨x, q, q2, a1, a2, a3, e⟩
    · rw [e]; exact (gG_ok h hp a1).1
    · rw [e]; exact skp_le h (gG_ok h hp a1).1
    · rw [e]; exact (gS_ok h (skp_le h (gG_ok h hp a1).1) a3).1
    · rw [e]; exact gL_at h m (k + 1) q2 (gS_ok h (skp_le h (gG_ok h hp a1).1) a3).1
section
variable {b : Nat} {W : WD} {T : Nat}
theorem txt_of (h : inv T W) : ∃ ℓ, tx2 W (W.2.1 2 0 0 2) ℓ ∧ txM W (W.2.1 2 0 0 2) ℓ := by
  obtain ⟨ℓ, t1, t2, t3, t4⟩ := h.2.2.2.1
  have hk : tK (W.2.1 2 0 0 2) ℓ := ⟨t1, fun p hp => by
    obtain ⟨-, c, c1, c2⟩ := t4 p hp
    rw [c2, vN_nI (by omega)]
    exact ⟨rfl, c1⟩⟩
  exact ⟨ℓ, ⟨hk, t3, fun p hp => rfl⟩, ⟨hk, t2, fun p hp => (t4 p hp).1⟩⟩
theorem m_readsAll {t : Nat → Int32} {ℓ d : Nat} {adf : Bool} {r : Nat → Int32} (h : txM W t ℓ) (hd : d ≤ 16) (hr : W.2.1 10 0 0 0 = r) (h7 : r 7 = nI d) (hok : adf = true → (gL t ℓ d 17 0 0).1 = true) : ∃ V, f_X10_readsAll (b + ad 10 0 0) (bI adf) (wd b W) = some (bI (gL t ℓ d 17 0 0).1, wd b V) ∧ frM [15, 16, 17] [0] [] W V ∧ V.1 10 0 0 15 = nI (gL t ℓ d 17 0 0).2.1 ∧ (adf = false → V.2.1 10 0 0 0 = r) ∧ (adf = true → V.2.1 10 0 0 0 = drL r d (gL t ℓ d 17 0 0).2.2) := by
  have f0 : frM [15, 16, 17] [0] [] W (wsI (wsI (wsI W 10 0 0 17 (bI adf)) 10 0 0 15 0) 10 0 0 16 0) := ((frM.I (by decide)).tr (frM.I (by decide))).tr (frM.I (by decide))
  obtain ⟨V, e1, e2, e3, e4, e5⟩ := m_raL (b := b) (t := t) (ℓ := ℓ) (d := d) (adf := adf) (K := fun v24 N25 => rZ v24 N25) 17 0 0 FU (wsI (wsI (wsI W 10 0 0 17 (bI adf)) 10 0 0 15 0) 10 0 0 16 0) r ⟨h.1, by rw [f0.mi 3 (by decide)]; exact h.2.1, by rw [f0.ma 2 (by decide)]; exact h.2.2⟩ (by rw [wsI_k _ (by decide), wsI_r]; rfl) (by omega) (by omega) (by omega) (by have := FUgt; omega) (by rw [wsI_A, wsI_A, wsI_A]; exact hr) (by rw [wsI_r]; rfl) (by rw [wsI_k _ (by decide), wsI_k _ (by decide), wsI_r]) (by rw [h7]; cases adf <;> rfl) hok
  refine ⟨V, ?_, f0.tr (e2.mono (by decide) (by decide) (by decide)), e3, e4, e5⟩
  unfold f_X10_readsAll
  rw [oO_10 h10, p10_17 h10 (by cases adf; exact Or.inl rfl; exact Or.inr rfl), p10_15 h10, p10_16 h10]
  refine e1.trans ?_
  exact rZ_bI
theorem q_textFault (h : inv T W) : both T (T + 500) b W (f_X9_textFault (b + ad 9 0 0)) (f_X10_textFault (b + ad 10 0 0)) := by
  obtain ⟨ℓ, x2, xM⟩ := txt_of h
  generalize W.2.1 2 0 0 2 = t at *
  obtain ⟨d1, d2, -⟩ := h.1.1.2.2.2.2.1.2
  have hs := h.2.1
  have h11 : vo 11 0 0 = true := rfl
  generalize hr : W.2.1 10 0 0 0 = r at *
  obtain ⟨V, e1, e2, -⟩ := c_findFault (b := b) x2 (d := nD r) d2
  have xV : txM V t ℓ := ⟨xM.1, by rw [e2.1 10 0 0 3 (by unfold fdQ; omega)]; exact xM.2.1, by rw [e2.2.1 10 0 0 2 (by unfold fdQ; omega)]; exact xM.2.2⟩
  have rV : V.2.1 10 0 0 0 = r := by rw [e2.2.1 10 0 0 0 (by unfold fdQ; omega)]; exact hr
  obtain ⟨V2, m1, m2, m3, m4, -⟩ := m_readsAll (b := b) (W := V) (adf := false) xV d2 rV d1 (fun w => by cases w)
  have m1' : f_X10_readsAll (b + ad 10 0 0) (0 : Int32) (wd b V) = some (bI (gL t ℓ (nD r) 17 0 0).1, wd b V2) := m1
  refine both_mono (both_q h (v := if (gL t ℓ (nD r) 17 0 0).1 = true then -1 else nI (gL t ℓ (nD r) 17 0 0).2.1) (W1 := V) ?_ (e2.mono (fun c i g k q => fd_qs q)) ⟨V2, ?_, rqF_M m2 (by decide) (by decide) (m2.mi 8 (by decide)) (by decide) (fun q _ => by rw [m4 rfl, rV])⟩)
  · unfold f_X9_textFault
    rw [oO_9 h9, o9_0 h9, o9_1 h9, o7_9 h70, o11_0 h11, hs.2.2.1.1, d1, li 16, pk_sub d2, ob2_i e1]
  · unfold f_X10_textFault
    rw [oO_10 h10, ob2_i m1']
    cases hb : (gL t ℓ (nD r) 17 0 0).1 with
    | true => rw [if_neg (by decide), if_pos rfl]
    | false => rw [if_pos (by decide), o10_15 h10, m3, if_neg (by decide)]
theorem c_apAll : ∀ (l : List (Nat × Nat × Nat)) (i n : Nat) (U : WD) (r : Nat → Int32), (∀ x, x ∈ l → fK x) → okR r T → stR U 0 r → nD r + l.length ≤ 16 → U.1 12 0 0 0 = nI (i + l.length) → i + l.length ≤ 16 → (∀ j x, l[j]? = some x → U.2.1 12 0 0 1 (i + j) = nI x.1 ∧ U.2.1 12 0 0 2 (i + j) = nI x.2.1 ∧ U.2.1 12 0 0 3 (i + j) = nI x.2.2) → l.length < n → ∃ V, f_X1_appendAll_L2 (b + ad 11 0 0) (b + ad 12 0 0) (fun N10 => some ((), N10)) n (nI i) (wd b U) = some ((), wd b V) ∧ frQ (atQ 11 0 0) U V ∧ okR (drL r (nD r) l) T ∧ stR V 0 (drL r (nD r) l) ∧ nD (drL r (nD r) l) = nD r + l.length
  | [], i, n, U, r, _, ho, hs, _, h0, hi, _, hn => by
    obtain ⟨n, rfl⟩ : ∃ q, n = q + 1 := ⟨n - 1, by simp only [List.length_nil] at hn; omega⟩
    simp only [List.length_nil, Nat.add_zero] at h0 hi
    rw [f_X1_appendAll_L2, o12_0 h12v, h0, if_pos (le_p (Nat.le_refl _) (by omega))]
    exact ⟨U, rfl, frQ.rf, ho, hs, rfl⟩
  | x :: l, i, n, U, r, hx, ho, hs, hd, h0, hi, hf, hn => by
    obtain ⟨n, rfl⟩ : ∃ q, n = q + 1 := ⟨n - 1, by omega⟩
    simp only [List.length_cons] at h0 hi hd hn
    obtain ⟨k1, k2, k3, k4⟩ := hx x List.mem_cons_self
    obtain ⟨a1, a2, a3⟩ := hf 0 x rfl
    rw [Nat.add_zero] at a1 a2 a3
    obtain ⟨V1, e1, e2, -, e4⟩ := st_drw (b := b) (W := U) ho hs (by omega) (x := x.1) (y := x.2.1) (z := x.2.2)
    have ho1 := ok_drw ho (by omega) k1 k2 k3 k4
    have hD := drw_nD (r := r) (n := nD r) (x := nI x.1) (y := nI x.2.1) (z := nI x.2.2) (by omega)
    obtain ⟨V, z1, z2, z3, z4, z5⟩ := c_apAll l (i + 1) n V1 _ (fun y hy => hx y (List.mem_cons_of_mem _ hy)) ho1 e4 (by rw [hD]; omega) (by rw [e2.1 12 0 0 0 (by unfold atQ; omega), h0, show i + (l.length + 1) = i + 1 + l.length by omega]) (by omega) (fun j y hy => by
      have w := hf (j + 1) y hy
      rw [show i + (j + 1) = i + 1 + j by omega] at w
      rw [e2.2.1 12 0 0 1 (by unfold atQ; omega), e2.2.1 12 0 0 2 (by unfold atQ; omega), e2.2.1 12 0 0 3 (by unfold atQ; omega)]
      exact w) (by omega)
    rw [hD] at z3 z4 z5
    rw [f_X1_appendAll_L2, o12_0 h12v, h0, if_neg (le_n (by omega) (by omega)), o12_1 h12v, oa12_1 h12v (by omega), a1, o12_2 h12v, oa12_2 h12v (by omega), a2, o12_3 h12v, oa12_3 h12v (by omega), a3, ob2_i e1, nI_1]
    refine ⟨V, z1, e2.tr z2, z3, z4, ?_⟩
    show nD (drL (drw r (nD r) (nI x.1) (nI x.2.1) (nI x.2.2)) (nD r + 1) l) = nD r + (l.length + 1)
    rw [z5]
    omega
theorem q_read (h : inv T W) : both T (T + 500) b W (f_X9_read (b + ad 9 0 0)) (f_X10_read (b + ad 10 0 0)) := by
  obtain ⟨ℓ, x2, xM⟩ := txt_of h
  generalize W.2.1 2 0 0 2 = t at *
  obtain ⟨d1, d2, -⟩ := h.1.1.2.2.2.2.1.2
  have hs := h.2.1
  have h11 : vo 11 0 0 = true := rfl
  generalize hr : W.2.1 10 0 0 0 = r at *
  obtain ⟨V1, e1, e2, e3⟩ := c_findFault (b := b) x2 (d := nD r) d2
  have hl := gL_ok x2.1 (d := nD r) 17 0 0 (Nat.zero_le _)
  have e2' : frQ qsQ W V1 := e2.mono (fun c i g k q => fd_qs q)
  have hV1 := inv_c h e2'
  have xV : ∀ V : WD, frQ (fun c _ _ _ => c ≠ 10) W V → txM V t ℓ := fun V hf => ⟨xM.1, by rw [hf.1 10 0 0 3 (by omega)]; exact xM.2.1, by rw [hf.2.1 10 0 0 2 (by omega)]; exact xM.2.2⟩
  have rV1 : V1.2.1 10 0 0 0 = r := by rw [e2.2.1 10 0 0 0 (by unfold fdQ; omega)]; exact hr
  have n1 : frQ (fun c _ _ _ => c ≠ 10) W V1 := e2.mono (fun c i g k q => by unfold fdQ at q; omega)
  generalize hg : gL t ℓ (nD r) 17 0 0 = G at *
  obtain ⟨ok, at', l⟩ := G
  dsimp only at e1 e3 hl
  cases ok with
  | false =>
    obtain ⟨V2, m1, m2, m3, m4, -⟩ := m_readsAll (b := b) (W := V1) (adf := false) (xV V1 n1) d2 rV1 d1 (fun w => by cases w)
    rw [hg] at m1 m3
    have m1' : f_X10_readsAll (b + ad 10 0 0) (0 : Int32) (wd b V1) = some (0, wd b V2) := m1
    rw [if_neg (by decide)] at e1
    refine both_mono (both_q h (v := -4) (W1 := V1) ?_ e2' ⟨V2, ?_, rqF_M m2 (by decide) (by decide) (m2.mi 8 (by decide)) (by decide) (fun q _ => by rw [m4 rfl, rV1])⟩)
    · have hne : ¬ nI at' = -1 := by
        have hb := gL_at x2.1 (d := nD r) 17 0 0 (Nat.zero_le _)
        rw [hg] at hb
        dsimp only at hb
        have := x2.1.1
        exact nI_ne_m1 (by omega)
      unfold f_X9_read
      rw [oO_9 h9, o9_0 h9, o9_1 h9, o7_9 h70, o11_0 h11, hs.2.2.1.1, d1, li 16, pk_sub d2, ob2_i e1, if_neg hne]
    · unfold f_X10_read
      rw [oO_10 h10, ob2_i m1', if_neg (by decide)]
  | true =>
    rw [if_pos rfl] at e1
    obtain ⟨f1, f2⟩ := e3 rfl
    have hlen := hl.2 (by omega)
    obtain ⟨s, V2, s6, c1, c2, c3, c4, c5, c6, c7⟩ := q_save (b := b) hV1
    rw [rV1] at c4 c6 c7
    have hok : okR r T := by have := h.1.1; rw [hr] at this; exact this
    have h61 : ¬ r 1 = 6 := by have := h.1.2; rw [hr] at this; exact this
    obtain ⟨V3, a1, a2, a3, a4, a5⟩ := c_apAll (b := b) (T := T) l 0 FU V2 r hl.1 hok c6 (by omega) (by rw [c2.1 12 0 0 0 (by unfold svQ inS; omega), f1, Nat.zero_add]) (by omega) (fun j x hx => by
      rw [c2.2.1 12 0 0 1 (by unfold svQ inS; omega), c2.2.1 12 0 0 2 (by unfold svQ inS; omega), c2.2.1 12 0 0 3 (by unfold svQ inS; omega), Nat.zero_add]
      exact f2 j x hx) (by have := FUgt; omega)
    have g2 : frQ (fun c i _ _ => inS c ∧ i = 0) V2 V3 := a2.mono (fun c i g k q => ⟨by unfold inS; have := q.1; omega, q.2.1⟩)
    have n3 : frQ (fun c _ _ _ => c ≠ 10) W V3 := (n1.tr (c2.mono (fun c i g k q => by unfold svQ inS at q; omega))).tr (a2.mono (fun c i g k q => by have := q.1; omega))
    have rV3 : V3.2.1 10 0 0 0 = r := by rw [n3.2.1 10 0 0 0 (by omega)]; exact hr
    have sV3 : V3.1 10 0 0 1 = nI s := by rw [a2.1 10 0 0 1 (by unfold atQ; omega)]; exact c5
    obtain ⟨V4, m1, m2, m3, m4, -⟩ := m_readsAll (b := b) (W := V3) (adf := false) (xV V3 n3) d2 rV3 d1 (fun w => by cases w)
    rw [hg] at m1
    have m1' : f_X10_readsAll (b + ad 10 0 0) (0 : Int32) (wd b V3) = some (1, wd b V4) := m1
    have m4 := m4 rfl
    obtain ⟨r', s', p1, p2⟩ := m_saves (b := b) (W := V4) m4 (by rw [m2.mi 1 (by decide)]; exact sV3) s6
    generalize hW5 : wsI (wsA V4 10 0 0 0 r') 10 0 0 1 (nI s') = W5 at *
    have fr5 : frM [1, 15, 16, 17] [0] [] V3 W5 := by
      rw [← hW5]
      exact ((m2.mono (by decide) (by decide) (by decide)).tr (frM.A (by decide))).tr (frM.I (by decide))
    have x5 : txM W5 t ℓ := ⟨xM.1, by rw [fr5.mi 3 (by decide)]; exact (xV V3 n3).2.1, by rw [fr5.ma 2 (by decide)]; exact (xV V3 n3).2.2⟩
    obtain ⟨V6, y1, y2, -, -, y5⟩ := m_readsAll (b := b) (W := W5) (adf := true) (r := r') x5 d2 (by rw [← hW5, wsI_A, wsA_r]) (by rw [p2.2.1 7 (by omega)]; exact d1) (fun _ => by rw [hg])
    rw [hg] at y1 y5
    have y1' : f_X10_readsAll (b + ad 10 0 0) (1 : Int32) (wd b W5) = some (1, wd b V6) := y1
    have y5 : V6.2.1 10 0 0 0 = drL r' (nD r) l := y5 rfl
    have fr6 : frM [1, 15, 16, 17] [0] [] V3 V6 := fr5.tr (y2.mono (by decide) (by decide) (by decide))
    have lo := drL_lo l (nD r) r r' p2.2.1
    have h7 : drL r (nD r) l 7 = nI (nD r + l.length) := by rw [a3.2.2.2.2.1.2.1, a5]
    refine ⟨nI (nD r + l.length), V3, V6, ?_, ?_, inv_mut (r' := r') (s' := s') hV1 (by omega) (sv_mu c2 g2) ?_ (sav6 p2) ((c7 r' s' p2).fr g2 (fun k => by unfold inS; omega) (fun c i g k hc i1 i2 => by omega)) (frM_Q fr6) ?_ ⟨fr6.mi 3 (by decide), fr6.mi 8 (by decide), fr6.ma 2 (by decide)⟩ ?_ ?_ ?_⟩
    · have a1 : f_X1_appendAll_L2 (b + ad 11 0 0) (b + ad 12 0 0) (fun N10 => some ((), N10)) FU (0 : Int32) (wd b V2) = some ((), wd b V3) := a1
      unfold f_X9_read f_X1_appendAll
      rw [oO_9 h9, o9_0 h9, o9_1 h9, o7_9 h70, o11_0 h11, hs.2.2.1.1, d1, li 16, pk_sub d2, ob2_i e1, if_pos rfl, ob2_i c1, o9_1 h9, o7_9 h70, o9_0 h9, o2_3 h20, oO_11 h11, ob2_i a1, o9_1 h9, o7_9 h70, o11_0 h11, a4.2.2.1.1, h7]
    · unfold f_X10_read
      rw [oO_10 h10, ob2_i m1', if_pos (by decide), ob2_i p1, ob2_i y1', o10_0 h10, oR0 7 7 rfl (by omega), y5, lo 7 (by omega), h7]
    · rw [a2.1 3 0 0 5 (by unfold atQ; omega)]; exact c3
    · rw [y2.mi 1 (by decide), ← hW5, wsI_r]
    · intro q q1 q2
      rw [y5, drL_hi l (nD r) r' (by omega) q (Or.inr q1)]
    · rw [y5]
      refine okS_mono (okS_cg ⟨a3, ?_⟩ lo) (by omega)
      rw [drL_hi l (nD r) r (by omega) 1 (Or.inl (by omega))]
      exact h61
    · rw [y5]
      exact stR_ok a3 a4 lo
end
