/-! undo, pass, the text's bytes -/
theorem hI_wd {b : Nat} {V V' : WD} (hw : wd b V = wd b V') {a c k : Nat} {x y : Int32} (h1 : hI (wd b V) a c k = some x) (h2 : hI (wd b V') a c k = some y) : x = y := by
  rw [hw, h2] at h1
  exact (Option.some.inj h1).symm
theorem stR_wd {b : Nat} {V V' : WD} {i : Nat} {r : Nat → Int32} (hw : wd b V = wd b V') (hi : i < 8) (h12 : nG r ≤ 12) (h : stR V' i r) : stR V i r := by
  have hA : ∀ {c g k n : Nat}, isA c i g k n → V.2.1 c i g k = V'.2.1 c i g k := by
    intro c g k n ha
    have e1 := gA_q (b := b) (W := V) ha
    have e2 := gA_q (b := b) (W := V') ha
    rw [hw, e2] at e1
    exact (Sum.inl.inj (Prod.mk.inj (Prod.mk.inj (Sum.inr.inj (Option.some.inj e1))).2).2).symm
  have hv7 := vo7 hi
  have hv0 := vo0 hi
  have hv11 := vo11 hi
  have e7 : ∀ k, k < 7 → V.1 7 i 0 k = V'.1 7 i 0 k := by
    intro k hk
    have : k = 0 ∨ k = 1 ∨ k = 2 ∨ k = 3 ∨ k = 4 ∨ k = 5 ∨ k = 6 := by omega
    rcases this with rfl | rfl | rfl | rfl | rfl | rfl | rfl
    · exact hI_wd hw (r7_0 hv7) (r7_0 hv7)
    · exact hI_wd hw (r7_1 hv7) (r7_1 hv7)
    · exact hI_wd hw (r7_2 hv7) (r7_2 hv7)
    · exact hI_wd hw (r7_3 hv7) (r7_3 hv7)
    · exact hI_wd hw (r7_4 hv7) (r7_4 hv7)
    · exact hI_wd hw (r7_5 hv7) (r7_5 hv7)
    · exact hI_wd hw (r7_6 hv7) (r7_6 hv7)
  have e4 : ∀ g, g < 12 → ∀ k, k < 5 → V.1 4 i g k = V'.1 4 i g k := by
    intro g hg k hk
    have hv4 := vo4 hi hg
    have : k = 0 ∨ k = 1 ∨ k = 2 ∨ k = 3 ∨ k = 4 := by omega
    rcases this with rfl | rfl | rfl | rfl | rfl
    · exact hI_wd hw (r4_0 hv4) (r4_0 hv4)
    · exact hI_wd hw (r4_1 hv4) (r4_1 hv4)
    · exact hI_wd hw (r4_2 hv4) (r4_2 hv4)
    · exact hI_wd hw (r4_3 hv4) (r4_3 hv4)
    · exact hI_wd hw (r4_4 hv4) (r4_4 hv4)
  obtain ⟨a1, a2, a3, a4, l1, n, l2, l3, l4⟩ := h
  refine ⟨fun k hk => by rw [e7 k hk]; exact a1 k hk, fun p hp => by rw [hA (isA_7_7 hi), hA (isA_7_8 hi)]; exact a2 p hp, ⟨by rw [hI_wd hw (r11_0 hv11) (r11_0 hv11)]; exact a3.1, fun f hf => by rw [hA (isA_11_1 hi), hA (isA_11_2 hi), hA (isA_11_3 hi), hA (isA_11_4 hi), hA (isA_11_5 hi)]; exact a3.2 f hf⟩, fun g hg => ?_, by rw [hI_wd hw (r0_0 hv0) (r0_0 hv0)]; exact l1, n, l2, by rw [hI_wd hw (r0_1 hv0) (r0_1 hv0)]; exact l3, fun k hk => by rw [hA (isA_0_2 hi), hA (isA_0_3 hi), hA (isA_0_4 hi)]; exact l4 k hk⟩
  have hg12 : g < 12 := by omega
  have hv1 := vo1 hi hg12
  obtain ⟨b1, ⟨b2, b3⟩, b4⟩ := a4 g hg
  refine ⟨fun k hk => by rw [e4 g hg12 k hk]; exact b1 k hk, ⟨by rw [hI_wd hw (r1_0 hv1) (r1_0 hv1)]; exact b2, fun f hf => by rw [hA (isA_1_1 hi hg12), hA (isA_1_2 hi hg12), hA (isA_1_3 hi hg12), hA (isA_1_4 hi hg12)]; exact b3 f hf⟩, fun f hf => by rw [hA (isA_1_5 hi hg12)]; exact b4 f hf⟩
section
variable {b : Nat} {W : WD} {T : Nat}
theorem q_undo (h : inv T W) : both T (T + 500) b W (f_X9_undo (b + ad 9 0 0)) (f_X10_undo (b + ad 10 0 0)) := by
  obtain ⟨s, s6, hs, c1, x, c2, c3, c4⟩ := h.2.2.1
  rcases Nat.eq_zero_or_pos s with hz | hp
  · subst hz
    refine both_mono (both_0 h (v := -4) ?_ ?_)
    · unfold f_X9_undo
      rw [oO_9 h9, o9_2 h9, o5_0 h5, c1, if_neg (fun q => q rfl)]
    · rcases m_undo (b := b) (W := W) rfl hs s6 with ⟨-, e⟩ | ⟨q, -⟩
      · exact e
      · omega
  · have hx6 := Nat.mod_lt (x + 5) (show 0 < 6 by omega)
    obtain ⟨st, ok⟩ := c4 s hp (Nat.le_refl _)
    rw [Nat.sub_self, Nat.sub_zero, Nat.add_comm 1] at st
    generalize hr : W.2.1 10 0 0 0 = r at *
    generalize hW1 : wsI (wsI W 5 0 0 1 (nI ((x + 5) % 6))) 5 0 0 0 (nI (s - 1)) = W1
    have f1 : frQ (fun c _ _ _ => c = 5) W W1 := by rw [← hW1]; exact (frQ.I rfl).tr (frQ.I rfl)
    obtain ⟨V, e1, e2, e3⟩ := c_stCopy (b := b) (W := W1) (i := 0) (j := (x + 5) % 6 + 1) (by omega) (by omega) (by omega) (st.fr f1 (fun c g k hc => by unfold inS at hc; omega)) ok.1
    have f3 : frQ (fun c _ _ k => c = 3 ∧ k = 5) V (wsI V 3 0 0 5 0) := frQ.I ⟨rfl, rfl⟩
    have ef : f_X3_forget (b + ad 3 0 0) (wd b V) = some ((), wd b (wsI V 3 0 0 5 0)) := by
      unfold f_X3_forget
      rw [oO_3 h3, p3_5 h3 (Or.inl rfl)]
    have v50 : (wsI V 3 0 0 5 0).1 5 0 0 0 = nI (s - 1) := by rw [wsI_n _ (by omega), e2.1 5 0 0 0 (by unfold cpQ inS; omega), ← hW1, wsI_r]
    have v51 : (wsI V 3 0 0 5 0).1 5 0 0 1 = nI ((x + 5) % 6) := by rw [wsI_n _ (by omega), e2.1 5 0 0 1 (by unfold cpQ inS; omega), ← hW1, wsI_k _ (by decide), wsI_r]
    have er2 : (wsI V 3 0 0 5 0).2.1 10 0 0 0 = r := by rw [wsI_A, e2.2.1 10 0 0 0 (by unfold cpQ inS; omega), f1.2.1 10 0 0 0 (by omega)]; exact hr
    have es2 : (wsI V 3 0 0 5 0).1 10 0 0 1 = nI s := by rw [wsI_n _ (by omega), e2.1 10 0 0 1 (by unfold cpQ inS; omega), f1.1 10 0 0 1 (by omega)]; exact hs
    have lo : ∀ q, q < 1182 → va_cpy r r (1182 * s) 0 1182 q = prt r s q := fun q hq => by
      rw [pk_cpy_in (by omega) (by omega)]
      rfl
    have hne : ¬ nI s = 0 := ne_p (b := 0) (by omega) (by omega) (by omega)
    have eu : f_X10_undo (b + ad 10 0 0) (wd b (wsI V 3 0 0 5 0)) = some (nI (s - 1), wd b (wsI (wsA (wsI V 3 0 0 5 0) 10 0 0 0 (va_cpy r r (1182 * s) 0 1182)) 10 0 0 1 (nI (s - 1)))) := by
      rcases m_undo (b := b) (W := wsI V 3 0 0 5 0) er2 es2 s6 with ⟨q, -⟩ | ⟨-, e⟩
      · omega
      · exact e
    refine ⟨nI (s - 1), wsI V 3 0 0 5 0, _, ?_, eu, inv_mut (r' := r) (s' := s - 1) h (by omega) ?_ (by rw [wsI_r]) (by omega) ?_ ((frQ.A rfl).tr (frQ.I rfl)) ?_ ⟨?_, ?_, ?_⟩ ?_ ?_ ?_⟩
    · unfold f_X9_undo f_X5_bringBack
      rw [oO_9 h9, o9_2 h9, o5_0 h5, c1, if_pos hne, o9_2 h9, o9_1 h9, oO_5 h5, o5_0 h5, c1, if_pos hne, o5_1 h5, c3, li 6, nI_add, show nI (x + 6) - (1 : Int32) = nI (x + 5) from sub1s (x + 5), ob_i (dM_nI (by omega) (by omega) (by omega)), p5_1 h5, o5_0 h5, wsI_k _ (by decide), c1, show nI s - (1 : Int32) = nI (s - 1) from pk_sub (b := 1) hp, p5_0 h5, hW1, o5_2 h5, o5_1 h5, ← hW1, wsI_k _ (by decide), wsI_r, hW1, oa5_2 h5 hx6, ob2_i e1, ob2_i rfl, o9_5 h9, ob2_i ef, o9_2 h9, o5_0 h5, v50]
    · refine ((f1.mono (fun c i g k q => Or.inl (Or.inl q))).tr (e2.mono (fun c i g k q => Or.inr (Or.inl ⟨q.2, q.1⟩)))).tr (f3.mono (fun c i g k q => Or.inl (Or.inr (Or.inl q))))
    · refine ⟨v50, (x + 5) % 6, hx6, v51, fun j j1 j2 => ?_⟩
      have hidx : ((x + 5) % 6 + 5 - (s - 1 - j)) % 6 = (x + 5 - (s - j)) % 6 := by omega
      obtain ⟨a1, a2⟩ := c4 j j1 (by omega)
      rw [hidx]
      exact ⟨((a1.fr f1 (fun c g k hc => by unfold inS at hc; omega)).fr e2 (fun c g k hc => by unfold cpQ; omega)).fr f3 (fun c g k hc => by unfold inS at hc; omega), a2⟩
    · rw [wsI_r]
    · rw [wsI_k _ (by decide), wsA_1]
    · rw [wsI_k _ (by decide), wsA_1]
    · rw [wsI_A, wsA_k _ (by decide)]
    · intro q q1 q2
      rw [wsI_A, wsA_r, pk_cpy_out (by omega)]
    · rw [wsI_A, wsA_r]
      exact okS_mono (okS_cg ok lo) (by omega)
    · rw [wsI_A, wsA_r]
      exact stR_ok ok.1 (e3.fr f3 (fun c g k hc => by unfold inS at hc; omega)) lo
theorem c_countG {r : Nat → Int32} (hs : stR W 0 r) (ho : okR r T) {s : Int32} : f_X7_countGroups (b + ad 7 0 0) s (wd b W) = some (nI (stN r s (nG r)), wd b W) := by
  have h12 := ho.1.1.2
  unfold f_X7_countGroups
  rw [oO_7 h70]
  refine loopN (fun m j => f_X7_countGroups_L4 (b + ad 7 0 0) s (fun v9 N10 => some (v9, N10)) m (nI (stN r s j)) (nI j) (wd b W)) (nG r) ?_ ?_ FU 0 (by omega) (by have := FUgt; omega)
  · intro m j hj
    have e1 : stN r s (j + 1) = stN r s j + (if stO r j = s then 1 else 0) := rfl
    have hgk := ho.2.2.2.2.2.2.2 j hj
    have est : f_X4_stateAt (b + ad 4 0 j) (r 0) (wd b W) = some (stO r j, wd b W) := c_stateAt (b := b) (vo4 hz8 (by omega)) (hs.2.2.2.1 j hj).1 (hgk.2.2.2.1.imp id And.left)
    try dsimp only
    rw [f_X7_countGroups_L4, o7_6 h70, hs.1 6 (by omega), ho.1.1.1, if_neg (le_n hj (by omega)), o7_10 h70, oa7_10 h70 (by omega), o7_0 h70, hs.1 0 (by omega), ob2_i est, e1]
    by_cases q : stO r j = s
    · rw [if_neg (fun z => z q), if_pos q, nI_1, nI_1]
    · rw [if_pos q, if_neg q, nI_1]
      rfl
  · intro m
    try dsimp only
    rw [f_X7_countGroups_L4, o7_6 h70, hs.1 6 (by omega), ho.1.1.1, if_pos (le_p (Nat.le_refl _) (by omega))]
theorem c_pass {n : Nat} {ρ : Nat → Nat → Int32} (h : inv T W) (hn : 1 ≤ n) (hn2 : n ≤ 500) (hT : T + 500 ≤ 900000) (h0 : ∀ q, q < 1182 → ρ 0 q = W.2.1 10 0 0 0 q) (hc : chn none ρ n) : ∃ s V, s ≤ 6 ∧ f_X9_pass (b + ad 9 0 0) (nI n) (wd b W) = some (nI (stN (ρ n) 1 (nG (ρ n))), wd b V) ∧ frQ muQ W V ∧ V.1 3 0 0 5 = 0 ∧ V.1 10 0 0 1 = nI s ∧ stR V 0 (ρ n) ∧ ∀ r' s', savP (W.2.1 10 0 0 0) s r' s' → hisR V r' s' T := by
  obtain ⟨s, V, s6, e1, e2, e3, e4, e5, e6, e7⟩ := q_save (b := b) h
  have k0 : okR (ρ 0) T := okR_cg h.1.1 h0
  have k6 : ¬ ρ 0 1 = 6 := by rw [h0 1 (by omega)]; exact h.1.2
  have hpol : ∀ q, q ≤ n → ρ q 1 = ρ 0 1 := by
    intro q
    induction q with
    | zero => exact fun _ => rfl
    | succ q ih => exact fun hq => by rw [(hc q (by omega)).2.1.1]; exact ih (by omega)
  have st0 : stR V 0 (ρ 0) := stR_ok h.1.1 e6 h0
  have key := loopE (fun m j (U : WD) => f_X9_pass_L21 (b + ad 9 0 0) (nI n) (fun N9 => ob (hR N9 (b + ad 9 0 0) 9 1) (fun x10 => ob2 (f_X7_countGroups x10 (1 : Int32) N9) (fun x12 N11 => some (x12, N11)))) m (nI j) (wd b U)) n (fun j U => frQ (tkQ 0 0) V U ∧ stR U 0 (ρ j)) (fun y => ∃ U, y = some (nI (stN (ρ n) 1 (nG (ρ n))), wd b U) ∧ frQ (tkQ 0 0) V U ∧ stR U 0 (ρ n)) ?_ ?_ FU 0 V (by omega) (by have := FUgt; omega) ⟨frQ.rf, st0⟩
  · obtain ⟨U, u1, u2, u3⟩ := key
    refine ⟨s, U, s6, ?_, (e2.mono (fun c i g k q => Or.inl q)).tr (u2.mono (fun c i g k q => ?_)), by rw [u2.1 3 0 0 5 (by unfold tkQ inS; omega)]; exact e3, by rw [u2.1 10 0 0 1 (by unfold tkQ inS; omega)]; exact e5, u3, fun r' s' hp => (e7 r' s' hp).fr u2 (fun k => by unfold tkQ inS; omega) (fun c i g k hc i1 i2 => by unfold tkQ inS; omega)⟩
    · unfold f_X9_pass
      rw [oO_9 h9, if_neg (show ¬ nI n < 1 from lt_n (b := 1) hn (by omega)), if_pos (show nI n ≤ 500 from le_p (b := 500) hn2 (by omega)), ob2_i e1]
      exact u1
    · rcases q with q | q
      · exact Or.inr (Or.inr (Or.inr (Or.inl ⟨q.1, q.2.1⟩)))
      · exact Or.inr (Or.inl ⟨q.2.1, q.1⟩)
  · intro m j U hj hI
    obtain ⟨k1, k2⟩ := hI
    obtain ⟨a1, a2, a3⟩ := chn_ok k0 (md := none) trivial (by omega) hc j (by omega)
    obtain ⟨c, U', t1, t2, t3, -, -⟩ := c_tickS (b := b) (W := U) (t := 0) (i := 0) (md := none) (F := U.2.1 8 0 0 4) h80 hz8 k2 a1 (by omega) trivial rfl (by show ¬ ρ j 1 = 6; rw [hpol j (by omega)]; exact k6) (hc j hj)
    try dsimp only
    rw [f_X9_pass_L21, if_neg (le_n hj (by omega)), o9_3 h9, o9_1 h9, ob2_i t1, nI_1]
    exact ⟨U', ⟨k1.tr t2, t3⟩, rfl⟩
  · intro m U hI
    obtain ⟨a1, a2, a3⟩ := chn_ok k0 (md := none) trivial (by omega) hc n (Nat.le_refl _)
    try dsimp only
    rw [f_X9_pass_L21, if_pos (le_p (Nat.le_refl _) (by omega)), o9_1 h9, ob2_i (c_countG hI.2 a1)]
    exact ⟨U, rfl, hI.1, hI.2⟩
theorem m_pass {V : WD} {n s : Nat} {r : Nat → Int32} (hr : V.2.1 10 0 0 0 = r) (hs : V.1 10 0 0 1 = nI s) (s6 : s ≤ 6) (ho : okR r T) (hn : 1 ≤ n) (hn2 : n ≤ 500) (hT : T + 500 ≤ 900000) (hz : V.1 10 0 0 8 = 0) : ∃ ρ r' s' W3, f_X10_pass (b + ad 10 0 0) (nI n) (wd b V) = some (nI (stN (ρ n) 1 (nG (ρ n))), wd b W3) ∧ savP r s r' s' ∧ ρ 0 = r' ∧ chn none ρ n ∧ W3.2.1 10 0 0 0 = ρ n ∧ frQ (fun c _ _ _ => c = 10) V W3 ∧ W3.1 10 0 0 1 = nI s' ∧ W3.1 10 0 0 3 = V.1 10 0 0 3 ∧ W3.1 10 0 0 8 = V.1 10 0 0 8 ∧ W3.2.1 10 0 0 2 = V.2.1 10 0 0 2 := by
  obtain ⟨r', s', m1, m2⟩ := m_saves (b := b) (W := V) hr hs s6
  have ho' : okR r' T := okR_cg ho m2.2.1
  obtain ⟨W', ρ, p1, p2, p3, p4, p5⟩ := m_passL (b := b) (W := wsI (wsA V 10 0 0 0 r') 10 0 0 1 (nI s')) (n := n) (r := r') (T := T) (by rw [wsI_A, wsA_r]) ho' hn2 (by omega) (by show (wsI (wsA V 10 0 0 0 r') 10 0 0 1 (nI s')).1 10 0 0 8 = 0; rw [wsI_k _ (by decide), wsA_1]; exact hz) (k := fun N7 => ob2 (f_X10_many (b + ad 10 0 0) (1 : Int32) N7) (fun x9 N8 => some (x9, N8)))
  have ei : f_X10_in (nI n).toInt64 (1 : Int64) (500 : Int64) (wd b V) = some (1, wd b V) := by
    have e := m_in32 (b := b) (W := V) (x := nI n) (lo := 1) (hi := 500)
    rw [if_neg (show ¬ nI n < 1 from lt_n (b := 1) hn (by omega)), if_neg (show ¬ (500 : Int32) < nI n from lt_n (a := 500) hn2 (by omega))] at e
    exact e
  obtain ⟨a1, a2, a3⟩ := chn_ok (T := T) (by rw [p3]; exact ho') (md := none) trivial (by omega) p4 n (Nat.le_refl _)
  refine ⟨ρ, r', s', W', ?_, m2, p3, p4, p5, ((frQ.A rfl).tr (frQ.I rfl)).tr (frM_Q p2), ?_, ?_, ?_, ?_⟩
  · unfold f_X10_pass
    rw [oO_10 h10, ob2_i ei, if_pos (by decide), ob2_i m1]
    refine p1.trans ?_
    rw [ob2_i (m_many p5 a1.1.1.1 a1.1.1.2)]
  · rw [p2.mi 1 (by decide), wsI_r]
  · rw [p2.mi 3 (by decide), wsI_k _ (by decide), wsA_1]
  · rw [p2.mi 8 (by decide), wsI_k _ (by decide), wsA_1]
  · rw [p2.ma 2 (by decide), wsI_A, wsA_k _ (by decide)]
theorem q_pass {v : Int32} (h : inv T W) (hT : T + 500 ≤ 900000) : both T (T + 500) b W (f_X9_pass (b + ad 9 0 0) v) (f_X10_pass (b + ad 10 0 0) v) := by
  have mi : f_X10_in v.toInt64 (1 : Int64) (500 : Int64) (wd b W) = some (if v < 1 then 0 else if 500 < v then 0 else 1, wd b W) := m_in32 (lo := 1) (hi := 500)
  by_cases v1 : v < 1
  · rw [if_pos v1] at mi
    refine both_mono (both_0 h (v := -3) ?_ ?_)
    · unfold f_X9_pass
      rw [oO_9 h9, if_pos v1]
    · unfold f_X10_pass
      rw [oO_10 h10, ob2_i mi, if_neg (by decide)]
  by_cases v2 : v ≤ 500
  · have v0 : ¬ v < 0 := fun q => v1 (by
      rw [Int32.lt_iff_toInt_lt] at q ⊢
      have a0 : (0 : Int32).toInt = 0 := rfl
      have a1 : (1 : Int32).toInt = 1 := rfl
      omega)
    obtain ⟨n, n2, rfl⟩ := nI_of2 (M := 500) (n := 500) rfl v0 v2
    have n1 : 1 ≤ n := by
      rcases Nat.lt_or_ge n 1 with q | q
      · exact absurd (show nI n < 1 from lt_p (b := 1) q (by omega)) v1
      · exact q
    obtain ⟨s, s6, hs, -⟩ := h.2.2.1
    obtain ⟨ρ0, r0, s0, -, -, p2, p3, p4, -⟩ := m_pass (b := b) (V := W) rfl hs s6 h.1.1 n1 n2 hT h.2.2.2.2.1
    obtain ⟨s1, V, s61, c1, c2, c3, c4, c5, c6⟩ := c_pass (b := b) h n1 n2 hT (by rw [p3]; exact p2.2.1) p4
    have er : V.2.1 10 0 0 0 = W.2.1 10 0 0 0 := c2.2.1 10 0 0 0 (by unfold muQ svQ qsQ fnQ inS; omega)
    have e8 : V.1 10 0 0 8 = 0 := by rw [c2.1 10 0 0 8 (by unfold muQ svQ qsQ fnQ inS; omega)]; exact h.2.2.2.2.1
    obtain ⟨ρ, r', s', W3, q1, q2, q3, q4, q5, q6, q7, q8, q9, q10⟩ := m_pass (b := b) (V := V) er c4 s61 h.1.1 n1 n2 hT e8
    have h0 : ∀ q, q < 1182 → ρ 0 q = W.2.1 10 0 0 0 q := by rw [q3]; exact q2.2.1
    obtain ⟨s2, V', -, d1, -, -, -, d5, -⟩ := c_pass (b := b) h n1 n2 hT h0 q4
    rw [c1] at d1
    have hw : wd b V = wd b V' := (Prod.mk.inj (Option.some.inj d1)).2
    have hv := (Prod.mk.inj (Option.some.inj d1)).1
    obtain ⟨ok1, -, -⟩ := chn_ok (okR_cg h.1.1 h0) (md := none) trivial (by omega) q4 n (Nat.le_refl _)
    have hpol : ∀ q, q ≤ n → ρ q 1 = ρ 0 1 := by
      intro q
      induction q with
      | zero => exact fun _ => rfl
      | succ q ih => exact fun hq => by rw [(q4 q (by omega)).2.1.1]; exact ih (by omega)
    refine ⟨_, V, W3, c1, by rw [hv]; exact q1, inv_mut h (by omega) c2 c3 (sav6 q2) (c6 r' s' q2) q6 q7 ⟨q8, q9, q10⟩ ?_ ?_ ?_⟩
    · intro q a1 a2
      rw [q5, chn_hi q4 n (Nat.le_refl _) q a1, q3]
    · rw [q5]
      refine ⟨okR_mono ok1 (by omega), ?_⟩
      rw [hpol n (Nat.le_refl _), h0 1 (by omega)]
      exact h.1.2
    · rw [q5]
      exact stR_wd hw hz8 ok1.1.1.2 d5
  · rw [if_neg v1, if_pos (Int32.not_le.mp v2)] at mi
    refine both_mono (both_0 h (v := -3) ?_ ?_)
    · unfold f_X9_pass
      rw [oO_9 h9, if_neg v1, if_neg v2]
    · unfold f_X10_pass
      rw [oO_10 h10, ob2_i mi, if_neg (by decide)]
theorem inv_t {V : WD} (h : inv T W) (hf : frQ (fun c _ _ k => c = 2 ∨ (c = 10 ∧ (k = 2 ∨ k = 3))) W V) (ht : txtR V) : inv T V := by
  obtain ⟨h1, h2, ⟨s, h3, h4, h5⟩, -, h7, h8⟩ := h
  have er : V.2.1 10 0 0 0 = W.2.1 10 0 0 0 := hf.2.1 10 0 0 0 (by omega)
  unfold inv
  rw [er]
  refine ⟨h1, h2.fr hf (fun c g k hc => by unfold inS at hc; omega), ⟨s, h3, by rw [hf.1 10 0 0 1 (by omega)]; exact h4, h5.fr hf (fun k => by omega) (fun c i g k hc _ _ => by unfold inS at hc; omega)⟩, ht, by rw [hf.1 10 0 0 8 (by omega)]; exact h7, ?_⟩
  unfold cacR
  rw [hf.1 3 0 0 5 (by omega), hf.1 3 0 0 3 (by omega), hf.2.1 3 0 0 4 (by omega)]
  exact h8
theorem h20 : vo 2 0 0 = true := rfl
theorem q_clearText (h : inv T W) : both T (T + 500) b W (f_X9_clearText (b + ad 9 0 0)) (f_X10_clearText (b + ad 10 0 0)) := by
  obtain ⟨ℓ, t1, t2, t3, t4⟩ := h.2.2.2.1
  refine both_mono ⟨nI ℓ, wsI W 2 0 0 0 0, wsI (wsI W 2 0 0 0 0) 10 0 0 3 0, ?_, ?_, inv_t h ((frQ.I (Or.inl rfl)).tr (frQ.I (Or.inr ⟨rfl, Or.inr rfl⟩))) ⟨0, by omega, by rw [wsI_r]; rfl, by rw [wsI_n _ (by omega), wsI_r]; rfl, fun p hp => by omega⟩⟩
  · unfold f_X9_clearText
    rw [oO_9 h9, o9_0 h9, o2_0 h20, t3, o9_0 h9, p2_0 h20]
  · unfold f_X10_clearText
    rw [oO_10 h10, o10_3 h10, wsI_n _ (by omega), t2, p10_3 h10]
theorem q_type {v : Int32} (h : inv T W) : both T (T + 500) b W (f_X9_type (b + ad 9 0 0) v) (f_X10_type (b + ad 10 0 0) v) := by
  obtain ⟨ℓ, t1, t2, t3, t4⟩ := h.2.2.2.1
  have em : ∀ V : WD, f_X10_in v.toInt64 (0 : Int64) (255 : Int64) (wd b V) = some (bI (inR v 256), wd b V) := fun V => m_inN (n := 256) (by omega)
  cases hb : inR v 256 with
  | false =>
    refine both_mono (both_0 h (v := -3) ?_ ?_)
    · unfold f_X9_type
      rw [oO_9 h9]
      by_cases q : v < 0
      · rw [if_pos q]
      · rw [if_neg q, if_neg (fun z => ?_)]
        obtain ⟨c, c1, c2⟩ := nI_of q
        rw [c2] at hb z
        rcases Nat.lt_or_ge c 256 with y | y
        · rw [inR_nI (by omega) y] at hb; cases hb
        · exact absurd z (le_n (b := 255) (by omega) (by omega))
    · unfold f_X10_type
      rw [oO_10 h10, ob2_i (em _), hb, if_neg (by decide)]
  | true =>
    obtain ⟨c, cl, rfl⟩ := inR_ex (by omega) hb
    have e120 : ∀ N, f_X9_isOneOf (nI ℓ) (120 : Int32) N = some (bI (inR (nI ℓ) 120), N) := fun N => c_oneN (n := 120)
    rcases Nat.lt_or_ge ℓ 120 with hl | hl
    · have e1 := e120
      rw [inR_nI (by omega) hl] at e1
      generalize hV : wsI (wsA W 2 0 0 2 (upd (W.2.1 2 0 0 2) ℓ (nI c))) 2 0 0 0 (nI (ℓ + 1)) = V
      have v3 : V.1 10 0 0 3 = nI ℓ := by rw [← hV, wsI_n _ (by omega), wsA_1]; exact t2
      have v2 : V.2.1 10 0 0 2 = W.2.1 10 0 0 2 := by rw [← hV, wsI_A, wsA_n _ (by omega)]
      refine both_mono ⟨nI (ℓ + 1), V, wsI (wsA V 10 0 0 2 (upd (V.2.1 10 0 0 2) ℓ (nI c))) 10 0 0 3 (nI (ℓ + 1)), ?_, ?_, inv_t h ?_ ⟨ℓ + 1, by omega, by rw [wsI_r], ?_, ?_⟩⟩
      · unfold f_X9_type f_X2_append
        rw [oO_9 h9, if_neg (show ¬ nI c < 0 from lt_n (b := 0) (by omega) (by omega)), if_pos (show nI c ≤ 255 from le_p (b := 255) (by omega) (by omega)), o9_0 h9, oO_2 h20, o2_0 h20, t3, ob2_i (e1 _), if_pos (by decide), o2_2 h20, o2_0 h20, t3, ot2_2 h20 hl, o2_0 h20, wsA_1, t3, nI_1, p2_0 h20, hV, ob2_i rfl, if_neg (by decide), o9_0 h9, o2_0 h20, ← hV, wsI_r]
      · unfold f_X10_type
        rw [oO_10 h10, ob2_i (em _), hb, if_pos (by decide), o10_3 h10, v3, if_pos (show ¬ nI ℓ = 120 from ne_p (b := 120) (by omega) (by omega) (by omega)), o10_2 h10, o10_3 h10, v3, ot10_2 h10 hl, o10_3 h10, wsA_1, v3, nI_1, p10_3 h10, o10_3 h10, wsI_r]
      · refine (?_ : frQ _ W V).tr ((frQ.A (Or.inr ⟨rfl, Or.inl rfl⟩)).tr (frQ.I (Or.inr ⟨rfl, Or.inr rfl⟩)))
        rw [← hV]
        exact (frQ.A (Or.inl rfl)).tr (frQ.I (Or.inl rfl))
      · rw [wsI_n _ (by omega), wsA_1, ← hV, wsI_r]
      · intro p hp
        have a1 : (wsI (wsA V 10 0 0 2 (upd (V.2.1 10 0 0 2) ℓ (nI c))) 10 0 0 3 (nI (ℓ + 1))).2.1 2 0 0 2 = upd (W.2.1 2 0 0 2) ℓ (nI c) := by rw [wsI_A, wsA_n _ (by omega), ← hV, wsI_A, wsA_r]
        have a2 : (wsI (wsA V 10 0 0 2 (upd (V.2.1 10 0 0 2) ℓ (nI c))) 10 0 0 3 (nI (ℓ + 1))).2.1 10 0 0 2 = upd (W.2.1 10 0 0 2) ℓ (nI c) := by rw [wsI_A, wsA_r, v2]
        rw [a1, a2]
        by_cases q : p = ℓ
        · rw [q, pk_us, pk_us]
          exact ⟨rfl, c, cl, rfl⟩
        · rw [pk_un q, pk_un q]
          exact t4 p (by omega)
    · have hl' : ℓ = 120 := by omega
      subst hl'
      refine both_mono (both_0 h (v := -5) ?_ ?_)
      · unfold f_X9_type f_X2_append
        rw [oO_9 h9, if_neg (show ¬ nI c < 0 from lt_n (b := 0) (by omega) (by omega)), if_pos (show nI c ≤ 255 from le_p (b := 255) (by omega) (by omega)), o9_0 h9, oO_2 h20, o2_0 h20, t3, ob2_i (e120 _), show inR (nI 120) 120 = false by decide, if_neg (by decide), ob2_i rfl, if_pos rfl]
      · unfold f_X10_type
        rw [oO_10 h10, ob2_i (em _), hb, if_pos (by decide), o10_3 h10, t2, if_neg (fun q => q rfl)]
end
