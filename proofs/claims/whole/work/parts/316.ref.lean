/-! the reference's steps 1 to 3 -/
def rtA (F : Nat → Int32) (g : Nat) (R : Nat → Int32) (i : Nat) : Nat → Int32 := fun q => if 16 * g ≤ q ∧ q < 16 * g + i then R (q - 16 * g) else F q
theorem rtA_0 (F : Nat → Int32) (g : Nat) (R : Nat → Int32) : rtA F g R 0 = F := by funext q; simp only [rtA]; rw [if_neg (by omega)]
theorem rtA_s (F : Nat → Int32) (g : Nat) (R : Nat → Int32) (i : Nat) : upd (rtA F g R i) (16 * g + i) (R i) = rtA F g R (i + 1) := by
  funext q
  by_cases h : q = 16 * g + i
  · subst h
    rw [pk_us]
    simp only [rtA]
    rw [if_pos (by omega), Nat.add_sub_cancel_left]
  · rw [pk_un h]
    simp only [rtA]
    by_cases h2 : 16 * g ≤ q ∧ q < 16 * g + i
    · rw [if_pos h2, if_pos (by omega)]
    · rw [if_neg h2, if_neg (by omega)]
theorem rtA_in {F : Nat → Int32} {g : Nat} {R : Nat → Int32} {i f : Nat} (h : f < i) : rtA F g R i (16 * g + f) = R f := by
  simp only [rtA]
  rw [if_pos (by omega), Nat.add_sub_cancel_left]
theorem rtA_out {F : Nat → Int32} {g g' : Nat} {R : Nat → Int32} {i f : Nat} (hi : i ≤ 16) (hf : f < 16) (h : g' ≠ g ∨ i ≤ f) : rtA F g R i (16 * g' + f) = F (16 * g' + f) := by
  simp only [rtA]
  rw [if_neg (by omega)]
section
variable {b : Nat} {W : WD}
theorem m_givesJ {g f : Nat} (hg : g < 12) (hf : f < nF (W.2.1 10 0 0 0) g) (hk : flK (W.2.1 10 0 0 0) g (nF (W.2.1 10 0 0 0) g)) {v2 v4 w : Int32} {k : Int32 → AH → Option (Unit × AH)} : f_X10_gives_J102 k (b + ad 10 0 0) (nI g) v2 v4 (nI f) w (wd b W) = k (nI (f + 1)) (wd b (wsA (wsA W 10 0 0 14 (upd (W.2.1 10 0 0 14) (16 * g + f) w)) 10 0 0 4 (fun p => W.2.1 10 0 0 4 p - thr1 (W.2.1 10 0 0 0) g f p w))) := by
  obtain ⟨⟨s1, s2⟩, ⟨t1, t2⟩, -⟩ := hk.2.2 f hf
  have hn := hk.2.1
  unfold f_X10_gives_J102
  rw [o10_14 h10, li 16, pk_mul, nI_add, ot10_14 h10 (by omega), o10_4 h10, ob2_i (m_flowOfk 0 0 rfl (by omega)), wsA_k _ (by decide), s1, oa10_4 h10 (by omega), wsA_k _ (by decide), ot10_4 h10 (by omega), wsA_k _ (by decide), o10_4 h10, ob2_i (m_flowOfk 1 1 rfl (by omega)), wsA_k _ (by decide), wsA_k _ (by decide), t1, li 8, nI_add, oa10_4 h10 (by omega), wsA_r, ot10_4 h10 (by omega), wsA_r, wsA_2, nI_1, upd_sub2 (by omega)]
  rfl
theorem m_givesL {g : Nat} (hg : g < 12) {r : Nat → Int32} (hr : W.2.1 10 0 0 0 = r) (hk : flK r g (nF r g)) {v2 v4 : Int32} (hv : v2 = -1 ∨ ¬ v4 = 0) {k : AH → Option (Unit × AH)} : f_X10_gives_L69 (b + ad 10 0 0) (nI g) v2 v4 k FU (nI 0) (wd b W) = k (wd b (wsA (wsA W 10 0 0 14 (rtA (W.2.1 10 0 0 14) g (fun f => if v2 = -1 then 0 else upI (fO r g f 3) v4) (nF r g))) 10 0 0 4 (subS r g (fun f => if v2 = -1 then 0 else upI (fO r g f 3) v4) (W.2.1 10 0 0 4) (nF r g)))) := by
  have hn := hk.2.1
  have e := loopN (fun m i => f_X10_gives_L69 (b + ad 10 0 0) (nI g) v2 v4 k m (nI i) (wd b (wsA (wsA W 10 0 0 14 (rtA (W.2.1 10 0 0 14) g (fun f => if v2 = -1 then 0 else upI (fO r g f 3) v4) i)) 10 0 0 4 (subS r g (fun f => if v2 = -1 then 0 else upI (fO r g f 3) v4) (W.2.1 10 0 0 4) i)))) (nF r g) (y := k (wd b (wsA (wsA W 10 0 0 14 (rtA (W.2.1 10 0 0 14) g (fun f => if v2 = -1 then 0 else upI (fO r g f 3) v4) (nF r g))) 10 0 0 4 (subS r g (fun f => if v2 = -1 then 0 else upI (fO r g f 3) v4) (W.2.1 10 0 0 4) (nF r g))))) ?_ ?_ FU 0 (by omega) (by have := FUgt; omega)
  · rw [rtA_0, subS_0, wsA_s, wsA_s] at e
    exact e
  · intro m i hi
    try dsimp only
    generalize hW1 : wsA (wsA W 10 0 0 14 (rtA (W.2.1 10 0 0 14) g (fun f => if v2 = -1 then 0 else upI (fO r g f 3) v4) i)) 10 0 0 4 (subS r g (fun f => if v2 = -1 then 0 else upI (fO r g f 3) v4) (W.2.1 10 0 0 4) i) = W1
    have hr1 : W1.2.1 10 0 0 0 = r := by rw [← hW1, wsA_k _ (by decide), wsA_k _ (by decide), hr]
    have fin : ∀ w, w = (if v2 = -1 then 0 else upI (fO r g i 3) v4) → f_X10_gives_J102 (f_X10_gives_L69 (b + ad 10 0 0) (nI g) v2 v4 k m) (b + ad 10 0 0) (nI g) v2 v4 (nI i) w (wd b W1) = f_X10_gives_L69 (b + ad 10 0 0) (nI g) v2 v4 k m (nI (i + 1)) (wd b (wsA (wsA W 10 0 0 14 (rtA (W.2.1 10 0 0 14) g (fun f => if v2 = -1 then 0 else upI (fO r g f 3) v4) (i + 1))) 10 0 0 4 (subS r g (fun f => if v2 = -1 then 0 else upI (fO r g f 3) v4) (W.2.1 10 0 0 4) (i + 1)))) := by
      intro w hw
      rw [m_givesJ hg (by rw [hr1]; exact hi) (by rw [hr1]; exact hk), hr1, ← subS_s r g _ _ i, ← rtA_s _ g (fun f => if v2 = -1 then 0 else upI (fO r g f 3) v4) i, ← hW1, wsA_r, wsA_k _ (by decide), wsA_r]
      congr 2
      rw [hw]
      refine Prod.ext rfl (Prod.ext ?_ rfl)
      funext c' i' g' k'
      simp only [wsA_A]
      by_cases h4 : c' = 10 ∧ i' = 0 ∧ g' = 0 ∧ k' = 4
      · simp [h4]
      · by_cases h14 : c' = 10 ∧ i' = 0 ∧ g' = 0 ∧ k' = 14
        · simp [h14]
        · simp [h4, h14]
    rw [f_X10_gives_L69, ob2_i (m_ofk 5 5 rfl (by omega)), hr1, hk.1, if_neg (le_n hi (by omega))]
    by_cases h1 : v2 = -1
    · rw [if_neg (fun q => q h1)]
      exact fin 0 (by rw [if_pos h1])
    · rw [if_pos h1, ob2_i (m_flowOfk 3 3 rfl (by omega)), hr1, ob2_i (m_up (hv.resolve_left h1))]
      exact fin _ (by rw [if_neg h1])
  · intro m
    try dsimp only
    rw [f_X10_gives_L69, ob2_i (m_ofk 5 5 rfl (by omega)), wsA_k _ (by decide), wsA_k _ (by decide), hr, hk.1, if_pos (le_p (Nat.le_refl _) (by omega))]
/-- one group gets its just rates -/
theorem m_gives {g : Nat} {r : Nat → Int32} (hr : W.2.1 10 0 0 0 = r) (hG : okG r) (hT : tmK r) (hg : g < nG r) {dl : Bool} (h8 : W.1 10 0 0 8 = bI (!dl)) (hA : avK (W.2.1 10 0 0 4)) : ∃ W', f_X10_gives (b + ad 10 0 0) (nI g) (wd b W) = some ((), wd b W') ∧ frM [] [4, 5, 13, 14] [] W W' ∧ W'.2.1 10 0 0 4 = subS r g (rtS r dl g (W.2.1 10 0 0 4)) (W.2.1 10 0 0 4) (nF r g) ∧ W'.2.1 10 0 0 13 = upd (W.2.1 10 0 0 13) g (spn r g (W.2.1 10 0 0 4)) ∧ W'.2.1 10 0 0 14 = rtA (W.2.1 10 0 0 14) g (rtS r dl g (W.2.1 10 0 0 4)) (nF r g) := by
  obtain ⟨⟨hG1, hG2⟩, hG3, hG4⟩ := hG
  have hk := hG3 g hg
  unfold f_X10_gives
  obtain ⟨F, e1⟩ := m_spanOf (b := b) (W := W) (g := g) (by omega) (by rw [hr]; exact hk) hA
  rw [hr] at e1
  rw [oO_10 h10, ob2_i e1, o10_13 h10, ot10_13 h10 (by omega), wsA_k _ (by decide)]
  generalize hs : spn r g (W.2.1 10 0 0 4) = s
  generalize hW1 : wsA (wsA W 10 0 0 5 F) 10 0 0 13 (upd (W.2.1 10 0 0 13) g s) = W1
  have hr1 : W1.2.1 10 0 0 0 = r := by rw [← hW1, wsA_k _ (by decide), wsA_k _ (by decide), hr]
  have hf1 : frM [] [4, 5, 13, 14] [] W W1 := by rw [← hW1]; exact (frM.A (by decide)).tr (frM.A (by decide))
  have fin : ∀ by_ : Int32, by_ = byS r dl g s → ∃ W', f_X10_gives_L69 (b + ad 10 0 0) (nI g) s by_ (fun N => some ((), N)) FU (nI 0) (wd b W1) = some ((), wd b W') ∧ frM [] [4, 5, 13, 14] [] W W' ∧ W'.2.1 10 0 0 4 = subS r g (rtS r dl g (W.2.1 10 0 0 4)) (W.2.1 10 0 0 4) (nF r g) ∧ W'.2.1 10 0 0 13 = upd (W.2.1 10 0 0 13) g s ∧ W'.2.1 10 0 0 14 = rtA (W.2.1 10 0 0 14) g (rtS r dl g (W.2.1 10 0 0 4)) (nF r g) := by
    intro by_ hby
    have hrt : (fun f => if s = -1 then 0 else upI (fO r g f 3) by_) = rtS r dl g (W.2.1 10 0 0 4) := by
      funext f
      unfold rtS
      rw [hs, hby]
    have hv : s = -1 ∨ ¬ by_ = 0 := by
      rcases isSpan_ex (r := r) (g := g) (A := W.2.1 10 0 0 4) with ⟨h1, -⟩ | ⟨y, y1, y2, y3, -⟩
      · exact Or.inl (by rw [← hs]; exact h1)
      · obtain ⟨z, z1, z2, z3⟩ := byS_ok hT hg (dl := dl) y1 y2
        refine Or.inr ?_
        rw [hby, ← hs, y3, z1]
        exact ne_p (b := 0) (by omega) (by omega) (by omega)
    rw [m_givesL (b := b) (W := W1) (by omega) hr1 hk hv]
    refine ⟨_, rfl, (hf1.tr (frM.A (by decide))).tr (frM.A (by decide)), ?_, ?_, ?_⟩
    · rw [wsA_r, hrt, ← hW1, wsA_k _ (by decide), wsA_k _ (by decide)]
    · rw [wsA_k _ (by decide), wsA_k _ (by decide), ← hW1, wsA_r]
    · rw [wsA_k _ (by decide), wsA_r, hrt, ← hW1, wsA_k _ (by decide), wsA_k _ (by decide)]
  rw [ob2_i (m_ofk 0 0 rfl (by omega)), ob2_i (m_ofk 2 2 rfl (by omega)), o10_0 h10, oR0 0 0 rfl (by omega), hr1]
  by_cases h1 : s = -1
  · rw [if_pos h1]
    exact fin s (by unfold byS; rw [if_pos h1])
  · rw [if_neg h1, o10_8 h10, hf1.mi 8 (by decide), h8]
    cases dl with
    | false =>
      rw [if_pos (by decide)]
      exact fin s (by unfold byS; rw [if_neg h1, if_pos rfl])
    | true =>
      rw [if_neg (by decide), ob2_i (m_hasD (by omega)), hr1]
      cases h2 : hdS r g with
      | false =>
        rw [if_pos (show bI false = 0 from rfl)]
        exact fin s (by unfold byS; rw [if_neg h1, if_neg (by decide), if_pos h2])
      | true =>
        rw [if_neg (by decide)]
        by_cases h3 : leftS r g ≤ s
        · rw [if_pos (show gO r g 0 + gO r g 2 - r 0 ≤ s from h3)]
          exact fin s (by unfold byS; rw [if_neg h1, if_neg (by decide), if_neg (by rw [h2]; decide), if_pos h3])
        · rw [if_neg (show ¬ gO r g 0 + gO r g 2 - r 0 ≤ s from h3)]
          exact fin _ (by unfold byS; rw [if_neg h1, if_neg (by decide), if_neg (by rw [h2]; decide), if_neg h3]; rfl)
end
