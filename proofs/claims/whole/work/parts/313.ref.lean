/-! what a call of the reference may change: of its own fields those that are listed -/
def frM (ki ka kl : List Nat) (W W' : WD) : Prop := (∀ c i g k, ¬ (c = 10 ∧ k ∈ ki) → W'.1 c i g k = W.1 c i g k) ∧ (∀ c i g k, ¬ (c = 10 ∧ k ∈ ka) → W'.2.1 c i g k = W.2.1 c i g k) ∧ (∀ c i g k, ¬ (c = 10 ∧ k ∈ kl) → W'.2.2 c i g k = W.2.2 c i g k)
theorem frM.rf {ki ka kl : List Nat} {W : WD} : frM ki ka kl W W := ⟨fun _ _ _ _ _ => rfl, fun _ _ _ _ _ => rfl, fun _ _ _ _ _ => rfl⟩
theorem frM.tr {ki ka kl : List Nat} {W W1 W2 : WD} (h : frM ki ka kl W W1) (h2 : frM ki ka kl W1 W2) : frM ki ka kl W W2 := ⟨fun c i g k q => (h2.1 c i g k q).trans (h.1 c i g k q), fun c i g k q => (h2.2.1 c i g k q).trans (h.2.1 c i g k q), fun c i g k q => (h2.2.2 c i g k q).trans (h.2.2 c i g k q)⟩
theorem frM.mono {ki ka kl ki' ka' kl' : List Nat} {W W1 : WD} (h : frM ki ka kl W W1) (h1 : ∀ k, k ∈ ki → k ∈ ki') (h2 : ∀ k, k ∈ ka → k ∈ ka') (h3 : ∀ k, k ∈ kl → k ∈ kl') : frM ki' ka' kl' W W1 := ⟨fun c i g k q => h.1 c i g k (fun z => q ⟨z.1, h1 k z.2⟩), fun c i g k q => h.2.1 c i g k (fun z => q ⟨z.1, h2 k z.2⟩), fun c i g k q => h.2.2 c i g k (fun z => q ⟨z.1, h3 k z.2⟩)⟩
theorem frM.A {ki ka kl : List Nat} {W : WD} {k : Nat} {f : Nat → Int32} (h : k ∈ ka) : frM ki ka kl W (wsA W 10 0 0 k f) := ⟨fun _ _ _ _ _ => rfl, fun c i g k' q => by rw [wsA_A, if_neg]; rintro ⟨rfl, -, -, rfl⟩; exact q ⟨rfl, h⟩, fun _ _ _ _ _ => rfl⟩
theorem frM.I {ki ka kl : List Nat} {W : WD} {k : Nat} {v : Int32} (h : k ∈ ki) : frM ki ka kl W (wsI W 10 0 0 k v) := ⟨fun c i g k' q => by rw [wsI_1, if_neg]; rintro ⟨rfl, -, -, rfl⟩; exact q ⟨rfl, h⟩, fun _ _ _ _ _ => rfl, fun _ _ _ _ _ => rfl⟩
theorem frM.L {ki ka kl : List Nat} {W : WD} {k : Nat} {f : Nat → Int64} (h : k ∈ kl) : frM ki ka kl W (wsL W 10 0 0 k f) := ⟨fun _ _ _ _ _ => rfl, fun _ _ _ _ _ => rfl, fun c i g k' q => by rw [wsL_L, if_neg]; rintro ⟨rfl, -, -, rfl⟩; exact q ⟨rfl, h⟩⟩
theorem frM.mi {ki ka kl : List Nat} {W W' : WD} (h : frM ki ka kl W W') (k : Nat) (hk : k ∉ ki) : W'.1 10 0 0 k = W.1 10 0 0 k := h.1 10 0 0 k (fun q => hk q.2)
theorem frM.ma {ki ka kl : List Nat} {W W' : WD} (h : frM ki ka kl W W') (k : Nat) (hk : k ∉ ka) : W'.2.1 10 0 0 k = W.2.1 10 0 0 k := h.2.1 10 0 0 k (fun q => hk q.2)
theorem frM.ml {ki ka kl : List Nat} {W W' : WD} (h : frM ki ka kl W W') (k : Nat) (hk : k ∉ kl) : W'.2.2 10 0 0 k = W.2.2 10 0 0 k := h.2.2 10 0 0 k (fun q => hk q.2)
/-! keys, comparisons, orders -/
def capR (r : Nat → Int32) : Nat → Int32 := fun p => r (10 + p)
theorem spn_cg {r : Nat → Int32} {g : Nat} {A B : Nat → Int32} (h : ∀ p, p < 16 → A p = B p) : spn r g A = spn r g B := by
  have e : ∀ y, fitN r g A y ↔ fitN r g B y := fun y => ⟨fun q p hp => by rw [← h p hp]; exact q p hp, fun q p hp => by rw [h p hp]; exact q p hp⟩
  have e2 : isSpan r g A = isSpan r g B := by
    funext x
    unfold isSpan
    simp only [e]
  unfold spn
  rw [e2]
def levO (r : Nat → Int32) (g : Nat) : Int32 := if sumI (fun f => fO r g f 2 - fO r g f 3) (nF r g) < 100000 then (if sumI (fun f => fO r g f 2 - fO r g f 3) (nF r g) < 10000 then (if sumI (fun f => fO r g f 2 - fO r g f 3) (nF r g) < 1000 then (if sumI (fun f => fO r g f 2 - fO r g f 3) (nF r g) < 100 then 0 else 1) else 2) else 3) else 4
def undO (r : Nat → Int32) (g : Nat) : Int32 := sumI (fun f => if fO r g f 3 ≤ 0 then 0 else 1) (nF r g)
def rstO (r : Nat → Int32) (g : Nat) : Int32 := sumI (fun f => fO r g f 3) (nF r g)
noncomputable def keyS (r : Nat → Int32) (g : Nat) : Int64 := if r 1 = 0 ∨ r 1 = 5 then (if spn r g (capR r) = -1 then 1000000000 else (spn r g (capR r)).toInt64) else if r 1 = 1 then (gO r g 0).toInt64 else if r 1 = 2 then (rstO r g).toInt64 else if r 1 = 3 then (undO r g).toInt64 else (levO r g).toInt64
def secS (r : Nat → Int32) (g : Nat) : Int64 := if r 1 = 4 then (gO r g 0).toInt64 else 0
def hdS (r : Nat → Int32) (g : Nat) : Bool := decide (r 3 = 1) && !decide (gO r g 2 ≤ 0)
/-- the group g comes before h, which has the greater number -/
noncomputable def bfS (r : Nat → Int32) (g h : Nat) : Bool := if hdS r g || hdS r h then (if hdS r g && hdS r h then !decide (gO r h 0 + gO r h 2 < gO r g 0 + gO r g 2) else hdS r g) else if r 1 = 5 ∧ keyS r g < 1000000000 ∧ keyS r h < 1000000000 then !decide (keyS r h * (gO r g 1).toInt64 < keyS r g * (gO r h 1).toInt64) else if keyS r g = keyS r h then !decide (secS r h < secS r g) else decide (keyS r g < keyS r h)
section
variable {b : Nat} {W : WD}
theorem m_hasD {g : Nat} (hg : g < 12) : f_X10_hasDeadline (b + ad 10 0 0) (nI g) (wd b W) = some (bI (hdS (W.2.1 10 0 0 0) g), wd b W) := by
  unfold f_X10_hasDeadline hdS
  rw [oO_10 h10, o10_0 h10, oR0 3 3 rfl (by omega)]
  by_cases h1 : W.2.1 10 0 0 0 3 = 1
  · rw [if_neg (fun q => q h1), ob2_i (m_ofk 2 2 rfl (by omega))]
    by_cases h2 : gO (W.2.1 10 0 0 0) g 2 ≤ 0
    · rw [if_pos h2]
      simp [h2, bI]
    · rw [if_neg h2]
      simp [h1, h2, bI]
  · rw [if_pos h1]
    simp [h1, bI]
theorem m_levelOf {g : Nat} (hg : g < 12) (hk : flK (W.2.1 10 0 0 0) g (nF (W.2.1 10 0 0 0) g)) : f_X10_levelOf (b + ad 10 0 0) (nI g) (wd b W) = some (levO (W.2.1 10 0 0 0) g, wd b W) := by
  unfold f_X10_levelOf
  rw [oO_10 h10]
  have hn := hk.2.1
  have hc := hk.1
  have e : ∀ k, f_X10_levelOf_L4 (b + ad 10 0 0) (nI g) k FU (nI 0) (nI 0) (wd b W) = k (sumI (fun f => fO (W.2.1 10 0 0 0) g f 2 - fO (W.2.1 10 0 0 0) g f 3) (nF (W.2.1 10 0 0 0) g)) (wd b W) := by
    intro k
    refine loopN (fun m i => f_X10_levelOf_L4 (b + ad 10 0 0) (nI g) k m (sumI (fun f => fO (W.2.1 10 0 0 0) g f 2 - fO (W.2.1 10 0 0 0) g f 3) i) (nI i) (wd b W)) (nF (W.2.1 10 0 0 0) g) ?_ ?_ FU 0 (by omega) (by have := FUgt; omega)
    · intro m i hi
      try dsimp only
      rw [f_X10_levelOf_L4, ob2_i (m_ofk 5 5 rfl (by omega)), hc, if_neg (le_n hi (by omega)), ob2_i (m_flowOfk 2 2 rfl (by omega)), ob2_i (m_flowOfk 3 3 rfl (by omega)), nI_1]
      rfl
    · intro m
      try dsimp only
      rw [f_X10_levelOf_L4, ob2_i (m_ofk 5 5 rfl (by omega)), hc, if_pos (le_p (Nat.le_refl _) (by omega))]
  refine (e _).trans ?_
  unfold levO
  repeat' split
  all_goals rfl
theorem m_loneSpan {g : Nat} (hg : g < 12) (hk : flK (W.2.1 10 0 0 0) g (nF (W.2.1 10 0 0 0) g)) (hA : avK (capR (W.2.1 10 0 0 0))) : ∃ W', f_X10_loneSpanOf (b + ad 10 0 0) (nI g) (wd b W) = some (spn (W.2.1 10 0 0 0) g (capR (W.2.1 10 0 0 0)), wd b W') ∧ frM [] [4, 5] [] W W' := by
  unfold f_X10_loneSpanOf
  rw [oO_10 h10, ob2_i m_allAv]
  have e : ∀ p, p < 16 → (filI (W.2.1 10 0 0 4) 16 (fun p => W.2.1 10 0 0 0 (10 + p))) p = capR (W.2.1 10 0 0 0) p := fun p hp => filI_lt hp
  obtain ⟨F, e1⟩ := m_spanOf (b := b) (W := wsA W 10 0 0 4 (filI (W.2.1 10 0 0 4) 16 (fun p => W.2.1 10 0 0 0 (10 + p)))) hg (by rw [wsA_k _ (by decide)]; exact hk) (by rw [wsA_r]; exact fun p hp => by rw [e p hp]; exact hA p hp)
  rw [ob2_i e1, wsA_r, wsA_k _ (by decide), spn_cg e]
  exact ⟨_, rfl, (frM.A (by decide)).tr (frM.A (by decide))⟩
theorem m_keyOf {g : Nat} (hg : g < 12) (hk : flK (W.2.1 10 0 0 0) g (nF (W.2.1 10 0 0 0) g)) (hA : avK (capR (W.2.1 10 0 0 0))) : ∃ W', f_X10_keyOf (b + ad 10 0 0) (nI g) (wd b W) = some (keyS (W.2.1 10 0 0 0) g, wd b W') ∧ frM [] [4, 5] [] W W' := by
  have hJ : ∃ W', f_X10_keyOf_J16 (b + ad 10 0 0) (nI g) (wd b W) = some (if spn (W.2.1 10 0 0 0) g (capR (W.2.1 10 0 0 0)) = -1 then 1000000000 else (spn (W.2.1 10 0 0 0) g (capR (W.2.1 10 0 0 0))).toInt64, wd b W') ∧ frM [] [4, 5] [] W W' := by
    unfold f_X10_keyOf_J16
    obtain ⟨W', e1, e2⟩ := m_loneSpan (b := b) hg hk hA
    refine ⟨W', ?_, e2⟩
    rw [ob2_i e1]
    by_cases h : spn (W.2.1 10 0 0 0) g (capR (W.2.1 10 0 0 0)) = -1
    · rw [if_neg (fun q => q h), if_pos h]
    · rw [if_pos h, if_neg h]
  unfold f_X10_keyOf keyS
  rw [oO_10 h10, o10_0 h10, oR0 1 1 rfl (by omega)]
  by_cases h0 : W.2.1 10 0 0 0 1 = 0
  · rw [if_pos h0, if_pos (Or.inl h0)]
    exact hJ
  · rw [if_neg h0]
    by_cases h5 : W.2.1 10 0 0 0 1 = 5
    · rw [if_neg (fun q => q h5), if_pos (Or.inr h5)]
      exact hJ
    · rw [if_pos h5, if_neg (show ¬ (W.2.1 10 0 0 0 1 = 0 ∨ W.2.1 10 0 0 0 1 = 5) from fun q => q.elim h0 h5)]
      refine ⟨W, ?_, frM.rf⟩
      by_cases h1 : W.2.1 10 0 0 0 1 = 1
      · rw [if_neg (fun q => q h1), if_pos h1, ob2_i (m_ofk 0 0 rfl (by omega))]
      · rw [if_pos h1, if_neg h1]
        by_cases h2 : W.2.1 10 0 0 0 1 = 2
        · rw [if_neg (fun q => q h2), if_pos h2, ob2_i (m_restOf hg hk.2.1 hk.1)]
          rfl
        · rw [if_pos h2, if_neg h2]
          by_cases h3 : W.2.1 10 0 0 0 1 = 3
          · rw [if_neg (fun q => q h3), if_pos h3, ob2_i (m_undone hg hk.2.1 hk.1)]
            rfl
          · rw [if_pos h3, if_neg h3, ob2_i (m_levelOf hg hk)]
theorem bI_0 {c : Bool} : bI c = 0 ↔ c = false := by cases c <;> decide
theorem m_isBefore {g h : Nat} (hg : g < 12) (hh : h < 12) (f1 : W.2.2 10 0 0 11 g = keyS (W.2.1 10 0 0 0) g) (f2 : W.2.2 10 0 0 11 h = keyS (W.2.1 10 0 0 0) h) (s1 : W.2.2 10 0 0 12 g = secS (W.2.1 10 0 0 0) g) (s2 : W.2.2 10 0 0 12 h = secS (W.2.1 10 0 0 0) h) : f_X10_isBefore (b + ad 10 0 0) (nI g) (nI h) (wd b W) = some (bI (bfS (W.2.1 10 0 0 0) g h), wd b W) := by
  have j37 : ∀ w : Bool, f_X10_isBefore_J37 (b + ad 10 0 0) (nI g) (nI h) (bI w) (wd b W) = some (bI (if w = true then !decide (gO (W.2.1 10 0 0 0) h 0 + gO (W.2.1 10 0 0 0) h 2 < gO (W.2.1 10 0 0 0) g 0 + gO (W.2.1 10 0 0 0) g 2) else hdS (W.2.1 10 0 0 0) g), wd b W) := by
    intro w
    unfold f_X10_isBefore_J37
    cases w with
    | false =>
      rw [if_pos (show bI false = 0 from rfl), ob2_i (m_hasD hg)]
      cases hdS (W.2.1 10 0 0 0) g <;> rfl
    | true =>
      rw [if_neg (by decide), ob2_i (m_ofk 0 0 rfl (by omega)), ob2_i (m_ofk 2 2 rfl (by omega)), ob2_i (m_ofk 0 0 rfl (by omega)), ob2_i (m_ofk 2 2 rfl (by omega)), if_pos rfl]
      split
      · rename_i q
        simp [q, bI]
      · rename_i q
        simp [q, bI]
  have j16 : f_X10_isBefore_J16 (b + ad 10 0 0) (nI g) (nI h) (wd b W) = some (bI (if hdS (W.2.1 10 0 0 0) g && hdS (W.2.1 10 0 0 0) h then !decide (gO (W.2.1 10 0 0 0) h 0 + gO (W.2.1 10 0 0 0) h 2 < gO (W.2.1 10 0 0 0) g 0 + gO (W.2.1 10 0 0 0) g 2) else hdS (W.2.1 10 0 0 0) g), wd b W) := by
    unfold f_X10_isBefore_J16 f_X10_isBefore_J36
    rw [ob2_i (m_hasD hg)]
    cases h1 : hdS (W.2.1 10 0 0 0) g with
    | false =>
      rw [if_pos (show bI false = 0 from rfl)]
      have e := j37 false
      rw [h1] at e
      exact e
    | true =>
      rw [if_neg (by decide), ob2_i (m_hasD hh)]
      cases h2 : hdS (W.2.1 10 0 0 0) h with
      | false =>
        rw [if_pos (show bI false = 0 from rfl)]
        have e := j37 false
        rw [h1] at e
        exact e
      | true =>
        rw [if_neg (by decide)]
        have e := j37 true
        rw [h1] at e
        exact e
  have j159 : f_X10_isBefore_J159 (b + ad 10 0 0) (nI g) (nI h) (wd b W) = some (bI (if keyS (W.2.1 10 0 0 0) g = keyS (W.2.1 10 0 0 0) h then !decide (secS (W.2.1 10 0 0 0) h < secS (W.2.1 10 0 0 0) g) else decide (keyS (W.2.1 10 0 0 0) g < keyS (W.2.1 10 0 0 0) h)), wd b W) := by
    unfold f_X10_isBefore_J159
    rw [o10_11 h10, oa10_11 h10 hg, o10_11 h10, oa10_11 h10 hh, f1, f2]
    simp only [lg_eq, lg_gt, lg_ge]
    split
    · rw [o10_12 h10, oa10_12 h10 hg, o10_12 h10, oa10_12 h10 hh, s1, s2]
      split
      · rename_i q
        simp [q, bI]
      · rename_i q
        simp [q, bI]
    · rw [o10_11 h10, oa10_11 h10 hg, o10_11 h10, oa10_11 h10 hh, f1, f2]
      split
      · rename_i q
        simp [q, bI]
      · rename_i q
        simp [Classical.not_not.mp q, bI]
  unfold f_X10_isBefore bfS
  rw [oO_10 h10, ob2_i (m_hasD hg)]
  cases h1 : hdS (W.2.1 10 0 0 0) g with
  | true =>
    rw [if_pos (by decide), j16, h1]
    rfl
  | false =>
    rw [if_neg (by decide), ob2_i (m_hasD hh)]
    cases h2 : hdS (W.2.1 10 0 0 0) h with
    | true =>
      rw [if_neg (by decide), j16, h1]
      rfl
    | false =>
      rw [if_pos (show bI false = 0 from rfl), o10_0 h10, oR0 1 1 rfl (by omega), if_neg (show ¬ (false || false) = true by decide)]
      by_cases h5 : W.2.1 10 0 0 0 1 = 5
      · rw [if_neg (fun q => q h5), o10_11 h10, oa10_11 h10 hg, f1]
        simp only [lg_ge, lg_gt]
        by_cases k1 : keyS (W.2.1 10 0 0 0) g < 1000000000
        · rw [if_neg (fun q => q k1), o10_11 h10, oa10_11 h10 hh, f2]
          by_cases k2 : keyS (W.2.1 10 0 0 0) h < 1000000000
          · have hc : W.2.1 10 0 0 0 1 = 5 ∧ keyS (W.2.1 10 0 0 0) g < 1000000000 ∧ keyS (W.2.1 10 0 0 0) h < 1000000000 := ⟨h5, k1, k2⟩
            rw [if_neg (fun q => q k2), o10_11 h10, oa10_11 h10 hg, f1, ob2_i (m_ofk 1 1 rfl (by omega)), o10_11 h10, oa10_11 h10 hh, f2, ob2_i (m_ofk 1 1 rfl (by omega))]
            by_cases hq : keyS (W.2.1 10 0 0 0) h * (gO (W.2.1 10 0 0 0) g 1).toInt64 < keyS (W.2.1 10 0 0 0) g * (gO (W.2.1 10 0 0 0) h 1).toInt64
            · rw [if_pos hq, if_pos hc]
              simp [hq, bI]
            · rw [if_neg hq, if_pos hc]
              simp [hq, bI]
          · rw [if_pos k2, if_neg (fun q => k2 q.2.2), j159]
        · rw [if_pos k1, if_neg (fun q => k1 q.2.1), j159]
      · rw [if_pos h5, if_neg (fun q => h5 q.1), j159]
end
