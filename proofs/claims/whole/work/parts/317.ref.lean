section
variable {b : Nat} {W : WD}
theorem m_sharesJ {g f : Nat} (hg : g < 12) (hf : f < nF (W.2.1 10 0 0 0) g) (hk : flK (W.2.1 10 0 0 0) g (nF (W.2.1 10 0 0 0) g)) {w : Int32} {k : Int32 → AH → Option (Unit × AH)} : f_X10_shares_J101 k (b + ad 10 0 0) (nI g) (nI f) (fO (W.2.1 10 0 0 0) g f 0) (nI 8 + fO (W.2.1 10 0 0 0) g f 1) w (wd b W) = k (nI (f + 1)) (wd b (wsA (wsA W 10 0 0 14 (upd (W.2.1 10 0 0 14) (16 * g + f) (W.2.1 10 0 0 14 (16 * g + f) + w))) 10 0 0 4 (fun p => W.2.1 10 0 0 4 p - thr1 (W.2.1 10 0 0 0) g f p w))) := by
  obtain ⟨⟨s1, s2⟩, ⟨t1, t2⟩, -⟩ := hk.2.2 f hf
  have hn := hk.2.1
  unfold f_X10_shares_J101
  rw [s1, t1, nI_add, o10_14 h10, li 16, pk_mul, nI_add, oa10_14 h10 (by omega), ot10_14 h10 (by omega), o10_4 h10, oa10_4 h10 (by omega), wsA_k _ (by decide), ot10_4 h10 (by omega), wsA_k _ (by decide), o10_4 h10, oa10_4 h10 (by omega), wsA_r, ot10_4 h10 (by omega), wsA_r, wsA_2, nI_1, upd_sub2 (by omega)]
  rfl
/-- one group gets what is spare -/
theorem m_shares {g : Nat} {r : Nat → Int32} (hr : W.2.1 10 0 0 0 = r) (hg : g < 12) (hk : flK r g (nF r g)) : ∃ W', f_X10_shares (b + ad 10 0 0) (nI g) (wd b W) = some ((), wd b W') ∧ frM [] [4, 14] [] W W' ∧ W'.2.1 10 0 0 4 = shA r g (fun f => W.2.1 10 0 0 14 (16 * g + f)) (W.2.1 10 0 0 4) (nF r g) ∧ W'.2.1 10 0 0 14 = rtA (W.2.1 10 0 0 14) g (fun f => W.2.1 10 0 0 14 (16 * g + f) + moS r g (fun f => W.2.1 10 0 0 14 (16 * g + f)) (W.2.1 10 0 0 4) f) (nF r g) := by
  have hn := hk.2.1
  unfold f_X10_shares
  rw [oO_10 h10]
  refine loopE (fun m i (W1 : WD) => f_X10_shares_L2 (b + ad 10 0 0) (nI g) (fun N31 => some ((), N31)) m (nI i) (wd b W1)) (nF r g) (fun i W1 => frM [] [4, 14] [] W W1 ∧ W1.2.1 10 0 0 4 = shA r g (fun f => W.2.1 10 0 0 14 (16 * g + f)) (W.2.1 10 0 0 4) i ∧ W1.2.1 10 0 0 14 = rtA (W.2.1 10 0 0 14) g (fun f => W.2.1 10 0 0 14 (16 * g + f) + moS r g (fun f => W.2.1 10 0 0 14 (16 * g + f)) (W.2.1 10 0 0 4) f) i) (fun z => ∃ W', z = some ((), wd b W') ∧ frM [] [4, 14] [] W W' ∧ W'.2.1 10 0 0 4 = shA r g (fun f => W.2.1 10 0 0 14 (16 * g + f)) (W.2.1 10 0 0 4) (nF r g) ∧ W'.2.1 10 0 0 14 = rtA (W.2.1 10 0 0 14) g (fun f => W.2.1 10 0 0 14 (16 * g + f) + moS r g (fun f => W.2.1 10 0 0 14 (16 * g + f)) (W.2.1 10 0 0 4) f) (nF r g)) ?_ ?_ FU 0 W (by omega) (by have := FUgt; omega) ⟨frM.rf, rfl, by rw [rtA_0]⟩
  · intro m i W1 hi ⟨f1, f2, f3⟩
    have hr1 : W1.2.1 10 0 0 0 = r := by rw [f1.ma 0 (by decide), hr]
    obtain ⟨⟨s1, s2⟩, ⟨t1, t2⟩, -⟩ := hk.2.2 i hi
    have e14 : W1.2.1 10 0 0 14 (16 * g + i) = W.2.1 10 0 0 14 (16 * g + i) := by
      rw [f3]
      exact rtA_out (by omega) (by omega) (Or.inr (Nat.le_refl _))
    have fin : ∀ w, w = moS r g (fun f => W.2.1 10 0 0 14 (16 * g + f)) (W.2.1 10 0 0 4) i → ∃ s', (frM [] [4, 14] [] W s' ∧ s'.2.1 10 0 0 4 = shA r g (fun f => W.2.1 10 0 0 14 (16 * g + f)) (W.2.1 10 0 0 4) (i + 1) ∧ s'.2.1 10 0 0 14 = rtA (W.2.1 10 0 0 14) g (fun f => W.2.1 10 0 0 14 (16 * g + f) + moS r g (fun f => W.2.1 10 0 0 14 (16 * g + f)) (W.2.1 10 0 0 4) f) (i + 1)) ∧ f_X10_shares_J101 (f_X10_shares_L2 (b + ad 10 0 0) (nI g) (fun N31 => some ((), N31)) m) (b + ad 10 0 0) (nI g) (nI i) (fO r g i 0) (nI 8 + fO r g i 1) w (wd b W1) = f_X10_shares_L2 (b + ad 10 0 0) (nI g) (fun N31 => some ((), N31)) m (nI (i + 1)) (wd b s') := by
      intro w hw
      have e := m_sharesJ (b := b) (W := W1) (g := g) (f := i) hg (by rw [hr1]; exact hi) (by rw [hr1]; exact hk) (w := w) (k := f_X10_shares_L2 (b + ad 10 0 0) (nI g) (fun N31 => some ((), N31)) m)
      rw [hr1] at e
      rw [e]
      refine ⟨_, ⟨f1.tr ((frM.A (by decide)).tr (frM.A (by decide))), ?_, ?_⟩, rfl⟩
      · rw [wsA_r, f2, hw]
        rfl
      · rw [wsA_k _ (by decide), wsA_r, e14, f3, hw]
        exact rtA_s _ g (fun f => W.2.1 10 0 0 14 (16 * g + f) + moS r g (fun f => W.2.1 10 0 0 14 (16 * g + f)) (W.2.1 10 0 0 4) f) i
    have j75 : ∀ w, w = (if fO r g i 3 - W.2.1 10 0 0 14 (16 * g + i) ≤ W1.2.1 10 0 0 4 (vN (fO r g i 0)) then fO r g i 3 - W.2.1 10 0 0 14 (16 * g + i) else W1.2.1 10 0 0 4 (vN (fO r g i 0))) → ∃ s', (frM [] [4, 14] [] W s' ∧ s'.2.1 10 0 0 4 = shA r g (fun f => W.2.1 10 0 0 14 (16 * g + f)) (W.2.1 10 0 0 4) (i + 1) ∧ s'.2.1 10 0 0 14 = rtA (W.2.1 10 0 0 14) g (fun f => W.2.1 10 0 0 14 (16 * g + f) + moS r g (fun f => W.2.1 10 0 0 14 (16 * g + f)) (W.2.1 10 0 0 4) f) (i + 1)) ∧ f_X10_shares_J75 (f_X10_shares_L2 (b + ad 10 0 0) (nI g) (fun N31 => some ((), N31)) m) (b + ad 10 0 0) (nI g) (nI i) (fO r g i 0) (nI 8 + fO r g i 1) w (wd b W1) = f_X10_shares_L2 (b + ad 10 0 0) (nI g) (fun N31 => some ((), N31)) m (nI (i + 1)) (wd b s') := by
      intro w hw
      have et : ∀ f : Int32 → Option (Unit × AH), ob (aI (wd b W1) (b + aa 10 0 0 4) (nI 8 + fO r g i 1)) f = f (W1.2.1 10 0 0 4 (8 + vN (fO r g i 1))) := by
        intro f
        rw [t1, nI_add, oa10_4 h10 (by omega), ← t1]
      unfold f_X10_shares_J75
      rw [o10_4 h10, et]
      by_cases h : w ≤ W1.2.1 10 0 0 4 (8 + vN (fO r g i 1))
      · rw [if_pos h]
        refine fin w ?_
        unfold moS mnS
        rw [← f2, ← hw, if_pos h]
      · rw [if_neg h, o10_4 h10, et]
        refine fin _ ?_
        unfold moS mnS
        rw [← f2, ← hw, if_neg h]
    have es : ∀ f : Int32 → Option (Unit × AH), ob (aI (wd b W1) (b + aa 10 0 0 4) (fO r g i 0)) f = f (W1.2.1 10 0 0 4 (vN (fO r g i 0))) := by
      intro f
      rw [s1, oa10_4 h10 (by omega), ← s1]
    try dsimp only
    rw [f_X10_shares_L2, ob2_i (m_ofk 5 5 rfl (by omega)), hr1, hk.1, if_neg (le_n hi (by omega)), ob2_i (m_flowOfk 0 0 rfl (by omega)), ob2_i (m_flowOfk 1 1 rfl (by omega)), ob2_i (m_flowOfk 3 3 rfl (by omega)), hr1, o10_14 h10, li 16, pk_mul, nI_add, oa10_14 h10 (by omega), o10_4 h10, es, e14, li 8]
    by_cases h : fO r g i 3 - W.2.1 10 0 0 14 (16 * g + i) ≤ W1.2.1 10 0 0 4 (vN (fO r g i 0))
    · rw [if_pos h]
      exact j75 _ (by rw [if_pos h])
    · rw [if_neg h, o10_4 h10, es]
      exact j75 _ (by rw [if_neg h])
  · intro m W1 ⟨f1, f2, f3⟩
    try dsimp only
    rw [f_X10_shares_L2, ob2_i (m_ofk 5 5 rfl (by omega)), f1.ma 0 (by decide), hr, hk.1, if_pos (le_p (Nat.le_refl _) (by omega))]
    exact ⟨W1, rfl, f1, f2, f3⟩
/-- the fixed order -/
theorem m_ordersF {fx : Nat → Nat} {K : Nat} (hK : K ≤ 4) (h8 : ¬ W.1 10 0 0 8 = 0) (h1 : W.1 10 0 0 10 = nI K) (h9 : ∀ x, x < K → W.2.1 10 0 0 9 x = nI (fx x) ∧ fx x < 12) : ∃ W', f_X10_orders (b + ad 10 0 0) (wd b W) = some ((), wd b W') ∧ frM [7] [4, 5, 6] [11, 12] W W' ∧ W'.1 10 0 0 7 = nI (ofxS (W.2.1 10 0 0 0) fx K).1 ∧ ∀ x, x < (ofxS (W.2.1 10 0 0 0) fx K).1 → W'.2.1 10 0 0 6 x = nI ((ofxS (W.2.1 10 0 0 0) fx K).2 x) := by
  unfold f_X10_orders
  rw [oO_10 h10, o10_8 h10, if_neg h8]
  generalize hr : W.2.1 10 0 0 0 = r
  suffices h : ∃ W', f_X10_ordersFixed (b + ad 10 0 0) (wd b W) = some ((), wd b W') ∧ frM [7] [4, 5, 6] [11, 12] W W' ∧ W'.1 10 0 0 7 = nI (ofxS r fx K).1 ∧ ∀ x, x < (ofxS r fx K).1 → W'.2.1 10 0 0 6 x = nI ((ofxS r fx K).2 x) by
    obtain ⟨W', e, h2⟩ := h
    exact ⟨W', by rw [ob2_i e], h2⟩
  unfold f_X10_ordersFixed
  rw [oO_10 h10, p10_7 h10]
  refine loopE (fun m i (W1 : WD) => f_X10_ordersFixed_L7 (b + ad 10 0 0) (fun N16 => some ((), N16)) m (nI i) (wd b W1)) K (fun i W1 => frM [7] [4, 5, 6] [11, 12] W W1 ∧ W1.1 10 0 0 7 = nI (ofxS r fx i).1 ∧ (∀ x, x < (ofxS r fx i).1 → W1.2.1 10 0 0 6 x = nI ((ofxS r fx i).2 x))) (fun z => ∃ W', z = some ((), wd b W') ∧ frM [7] [4, 5, 6] [11, 12] W W' ∧ W'.1 10 0 0 7 = nI (ofxS r fx K).1 ∧ ∀ x, x < (ofxS r fx K).1 → W'.2.1 10 0 0 6 x = nI ((ofxS r fx K).2 x)) ?_ ?_ FU 0 (wsI W 10 0 0 7 0) (by omega) (by have := FUgt; omega) ⟨frM.I (by decide), by rw [wsI_r]; rfl, fun x hx => absurd hx (Nat.not_lt_zero x)⟩
  · intro m i W1 hi ⟨f1, f2, f3⟩
    have hr1 : W1.2.1 10 0 0 0 = r := by rw [f1.ma 0 (by decide), hr]
    obtain ⟨x1, x2⟩ := h9 i hi
    have hm := ofxS_m r fx i
    try dsimp only
    rw [f_X10_ordersFixed_L7, o10_10 h10, f1.mi 10 (by decide), h1, if_neg (le_n hi (by omega)), o10_9 h10, oa10_9 h10 (by omega), f1.ma 9 (by decide), x1, ob2_i (m_stateOf x2), hr1]
    by_cases hs : stO r (fx i) = 1
    · rw [if_neg (fun q => q hs), o10_6 h10, o10_7 h10, f2, o10_9 h10, oa10_9 h10 (by omega), f1.ma 9 (by decide), x1, ot10_6 h10 (by omega), o10_7 h10, p10_7 h10, wsA_1, f2, nI_1, nI_1]
      refine ⟨_, ⟨f1.tr ((frM.A (by decide)).tr (frM.I (by decide))), ?_, ?_⟩, rfl⟩
      · rw [wsI_r, ofxS, if_pos hs]
      · intro x hx
        rw [ofxS, if_pos hs] at hx ⊢
        simp only at hx ⊢
        rw [wsI_A, wsA_r]
        by_cases hxm : x = (ofxS r fx i).1
        · rw [if_pos hxm, hxm, pk_us]
        · rw [if_neg hxm, pk_un hxm]
          exact f3 x (by omega)
    · rw [if_pos hs, nI_1]
      refine ⟨W1, ⟨f1, ?_, ?_⟩, rfl⟩
      · rw [f2, ofxS, if_neg hs]
      · rw [ofxS, if_neg hs]
        exact f3
  · intro m W1 ⟨f1, f2, f3⟩
    try dsimp only
    rw [f_X10_ordersFixed_L7, o10_10 h10, f1.mi 10 (by decide), h1, if_pos (le_p (Nat.le_refl _) (by omega))]
    exact ⟨W1, rfl, f1, f2, f3⟩
end
