theorem vo7 {i : Nat} (h : i < 8) : vo 7 i 0 = true := by simp [vo, h]
theorem vo0 {i : Nat} (h : i < 8) : vo 0 i 0 = true := by simp [vo, h]
theorem vo11 {i : Nat} (h : i < 8) : vo 11 i 0 = true := by simp [vo, h]
theorem vo4 {i g : Nat} (h : i < 8) (hg : g < 12) : vo 4 i g = true := by simp [vo, h, hg]
theorem vo1 {i g : Nat} (h : i < 8) (hg : g < 12) : vo 1 i g = true := by simp [vo, h, hg]
theorem vo8 {t : Nat} (h : t < 2) : vo 8 t 0 = true := by simp [vo, h]
theorem ordQ_S {t i : Nat} : ∀ c g k, inS c → ¬ ordQ t c i g k := by
  intro c g k h
  unfold inS at h
  unfold ordQ
  omega
section
variable {b : Nat} {W : WD} {t i T : Nat} {r F : Nat → Int32}
theorem c_plainKey (ht : vo 8 t 0 = true) (hi : i < 8) (hs : stR W i r) (ho : okR r T) (hF : W.2.1 8 t 0 4 = F) {g : Nat} (hg : g < nG r) (h0 : ¬ (r 1 = 0 ∨ r 1 = 5)) (hd : hdS r g = false) : f_X8_plainKey (b + ad 8 t 0) (b + ad 7 i 0) (nI g) (wd b W) = some (numS r F g, wd b W) := by
  have h12 := ho.1.1.2
  have hv7 := vo7 hi
  have hv4 := vo4 (g := g) hi (by omega)
  have hv1 := vo1 (g := g) hi (by omega)
  obtain ⟨g1, g2, g3⟩ := hs.2.2.2.1 g hg
  have hk := ho.1.2.1 g hg
  unfold f_X8_plainKey numS
  rw [if_neg (show ¬ hdS r g = true by rw [hd]; decide), if_neg h0, oO_8 ht, o7_10 hv7, oa7_10 hv7 (by omega), o7_1 hv7, hs.1 1 (by omega)]
  by_cases h1 : r 1 = 1
  · rw [if_pos h1, if_pos h1, o4_0 hv4, g1 0 (by omega)]
  · rw [if_neg h1, if_neg h1]
    by_cases h2 : r 1 = 2
    · rw [if_pos h2, if_pos h2, o4_5 hv4, ob2_i (c_sumOfRests hv1 g2 hk)]
    · rw [if_neg h2, if_neg h2]
      by_cases h3 : r 1 = 3
      · rw [if_pos h3, if_pos h3, o4_5 hv4, ob2_i (c_countUndone hv1 g2 hk)]
      · rw [if_neg h3, if_neg h3]
        by_cases h4 : r 1 = 4
        · rw [if_pos h4, if_pos h4, o4_5 hv4, ob2_i (c_level hv1 g2 hk), o4_0 hv4, g1 0 (by omega)]
        · rw [if_neg h4, if_neg h4, o8_4 ht, oa8_4 ht (by omega), hF]
theorem c_J91 (ht : vo 8 t 0 = true) (hi : i < 8) (hs : stR W i r) (ho : okR r T) (hF : W.2.1 8 t 0 4 = F) {g : Nat} (hg : g < nG r) (hst : stO r g = 1) (hd : hdS r g = false) (hI : oinv r F t g W) {v2 : Int32} (hv2 : v2 = 0 ↔ ¬ (r 1 = 0 ∨ r 1 = 5)) {k : Int32 → AH → Option (Unit × AH)} : ∃ W', f_X8_putInOrder_J91 k (b + ad 8 t 0) (b + ad 7 i 0) v2 (nI g) (b + ad 4 i g) (wd b W) = k (nI (g + 1)) (wd b W') ∧ frQ (ordQ t) W W' ∧ oinv r F t (g + 1) W' := by
  have h12 := ho.1.1.2
  have hv7 := vo7 hi
  have hv4 := vo4 (g := g) hi (by omega)
  have hv1 := vo1 (g := g) hi (by omega)
  obtain ⟨g1, g2, g3⟩ := hs.2.2.2.1 g hg
  have hk := ho.1.2.1 g hg
  unfold f_X8_putInOrder_J91
  by_cases h0 : r 1 = 0 ∨ r 1 = 5
  · rw [if_neg (fun q => hv2.mp q h0), o4_5 hv4, o7_7 hv7]
    obtain ⟨V, e1, e2⟩ := c_spanOf (b := b) (W := W) (t := t) (i := i) (g := g) (x := b + aa 7 i 0 7) (A := capR r) (r := r) ht hv1 g2 hk ho.cap (fun V hV p hp => by
      rw [a7_7 hv7 hp, hV.2.1 7 i 0 7 (by unfold scr; omega), (hs.2.1 p hp).1]
      rfl)
    have e2' : frQ (ordQ t) W V := e2.mono (fun c i g k ⟨h1, h2, h3⟩ => ⟨h1, h2, by omega⟩)
    have hIV : oinv r F t g V := by
      obtain ⟨i1, i2, i3⟩ := hI
      refine ⟨by rw [e2.1 8 t 0 0 (by unfold scr; omega)]; exact i1, fun x hx => by rw [e2.2.1 8 t 0 1 (by unfold scr; omega)]; exact i2 x hx, ?_⟩
      rw [e2.2.1 8 t 0 5 (by unfold scr; omega), e2.2.1 8 t 0 7 (by unfold scr; omega), e2.2.2 8 t 0 6 (by unfold scr; omega)]
      exact i3
    rw [ob2_i e1, o7_1 hv7, e2.1 7 i 0 1 (by unfold scr; omega), hs.1 1 (by omega)]
    have key : ∀ w : Int32, w = (if r 1 = 0 then 1 else gO r g 1) → ∃ W', (ob2 (f_X8_setSpanKey (b + ad 8 t 0) (nI g) (spn r g (capR r)) w (wd b V)) fun _ N26 => ob2 (f_X8_insert (b + ad 8 t 0) (nI g) N26) fun _ N27 => k (nI g + 1) N27) = k (nI (g + 1)) (wd b W') ∧ frQ (ordQ t) W W' ∧ oinv r F t (g + 1) W' := by
      intro w hw
      unfold f_X8_setSpanKey
      rw [oO_8 ht]
      by_cases hm : spn r g (capR r) = -1
      · rw [if_neg (fun q => q hm)]
        obtain ⟨V1, V2, a1, a2, a3, a4⟩ := c_keyIns (b := b) (W := V) ht (by omega) hst hIV (x := 2) (y := 0) (z := 1) (by unfold tierS; rw [if_neg (by rw [hd]; decide), if_pos h0, if_pos hm]) (by unfold numS; rw [if_neg (by rw [hd]; decide), if_pos h0, if_pos hm]) (by unfold divS; rw [if_neg (by rw [hd]; decide), if_pos h0, if_pos hm])
        rw [ob2_i a1, ob2_i rfl, ob2_i a2, nI_1]
        exact ⟨V2, rfl, e2'.tr a3, a4⟩
      · rw [if_pos hm]
        obtain ⟨V1, V2, a1, a2, a3, a4⟩ := c_keyIns (b := b) (W := V) ht (by omega) hst hIV (x := 1) (y := (spn r g (capR r)).toInt64) (z := w) (by unfold tierS; rw [if_neg (by rw [hd]; decide), if_pos h0, if_neg hm]) (by unfold numS; rw [if_neg (by rw [hd]; decide), if_pos h0, if_neg hm]) (by unfold divS; rw [if_neg (by rw [hd]; decide), if_pos h0, if_neg hm]; exact hw)
        rw [ob2_i a1, ob2_i rfl, ob2_i a2, nI_1]
        exact ⟨V2, rfl, e2'.tr a3, a4⟩
    by_cases hz : r 1 = 0
    · rw [if_neg (fun q => q hz)]
      exact key 1 (by rw [if_pos hz])
    · rw [if_pos hz, o4_1 hv4, e2.1 4 i g 1 (by unfold scr; omega), g1 1 (by omega)]
      exact key _ (by rw [if_neg hz])
  · rw [if_pos (hv2.mpr h0), ob2_i (c_plainKey (b := b) ht hi hs ho hF hg h0 hd)]
    obtain ⟨V1, V2, a1, a2, a3, a4⟩ := c_keyIns (b := b) (W := W) ht (by omega) hst hI (x := 1) (y := numS r F g) (z := 1) (by unfold tierS; rw [if_neg (by rw [hd]; decide), if_neg h0]) rfl (by unfold divS; rw [if_neg (by rw [hd]; decide), if_neg h0])
    rw [ob2_i a1, ob2_i a2, nI_1]
    exact ⟨V2, rfl, a3, a4⟩
theorem c_putL (ht : vo 8 t 0 = true) (hi : i < 8) (hs : stR W i r) (ho : okR r T) (hF : W.2.1 8 t 0 4 = F) {v2 : Int32} (hv2 : v2 = 0 ↔ ¬ (r 1 = 0 ∨ r 1 = 5)) (h8 : W.1 8 t 0 0 = nI 0) : ∃ W', f_X8_putInOrder_L28 (b + ad 8 t 0) (b + ad 7 i 0) v2 (fun N36 => some ((), N36)) FU (0 : Int32) (wd b W) = some ((), wd b W') ∧ frQ (ordQ t) W W' ∧ oinv r F t (nG r) W' := by
  have h12 := ho.1.1.2
  have h6 := ho.1.1.1
  have hv7 := vo7 hi
  refine loopE (fun m g (V : WD) => f_X8_putInOrder_L28 (b + ad 8 t 0) (b + ad 7 i 0) v2 (fun N36 => some ((), N36)) m (nI g) (wd b V)) (nG r) (fun g V => frQ (ordQ t) W V ∧ oinv r F t g V) (fun z => ∃ W', z = some ((), wd b W') ∧ frQ (ordQ t) W W' ∧ oinv r F t (nG r) W') ?_ ?_ FU 0 W (by omega) (by have := FUgt; omega) ⟨frQ.rf, h8, fun x hx => absurd hx (Nat.not_lt_zero x), fun g hg => absurd hg (Nat.not_lt_zero g)⟩
  · intro m g V hg ⟨k1, k2⟩
    have hsV := hs.fr k1 ordQ_S
    have hFV : V.2.1 8 t 0 4 = F := by rw [k1.2.1 8 t 0 4 (by unfold ordQ; omega), hF]
    have hv4 := vo4 (g := g) hi (by omega)
    obtain ⟨g1, g2, g3⟩ := hsV.2.2.2.1 g hg
    have hgk := ho.2.2.2.2.2.2.2 g hg
    have h3 := ho.2.2.2.2.2.1.2
    have h4 : gO r g 4 = 0 ∨ gO r g 4 = 1 := hgk.2.2.2.1.imp id And.left
    try dsimp only
    rw [f_X8_putInOrder_L28, o7_6 hv7, hsV.1 6 (by omega), h6, if_neg (le_n hg (by omega)), o7_10 hv7, oa7_10 hv7 (by omega), o7_0 hv7, hsV.1 0 (by omega), ob2_i (c_stateAt (b := b) hv4 g1 h4)]
    by_cases hst : stO r g = 1
    · rw [if_pos (show stT r g (r 0) = 1 from hst), o7_3 hv7, hsV.1 3 (by omega)]
      by_cases hd : hdS r g = true
      · have hd2 := hd
        simp only [hdS, Bool.and_eq_true, decide_eq_true_eq, Bool.not_eq_true', decide_eq_false_iff_not] at hd2
        rw [if_neg (show ¬ r 3 = 0 by rw [hd2.1]; decide), o4_2 hv4, g1 2 (by omega), if_neg hd2.2, ob2_i (c_deadlineEnd (b := b) hv4 g1)]
        obtain ⟨V1, V2, a1, a2, a3, a4⟩ := c_keyIns (b := b) (W := V) ht (by omega) hst k2 (x := 0) (y := (gO r g 0 + gO r g 2).toInt64) (z := 1) (by unfold tierS; rw [if_pos hd]) (by unfold numS; rw [if_pos hd]) (by unfold divS; rw [if_pos hd])
        rw [ob2_i a1, ob2_i a2, nI_1]
        exact ⟨V2, ⟨k1.tr a3, a4⟩, rfl⟩
      · have hdf : hdS r g = false := by simpa using hd
        obtain ⟨V2, a1, a2, a3⟩ := c_J91 (b := b) (W := V) ht hi hsV ho hFV hg hst hdf k2 hv2 (k := f_X8_putInOrder_L28 (b + ad 8 t 0) (b + ad 7 i 0) v2 (fun N36 => some ((), N36)) m)
        by_cases hr3 : r 3 = 0
        · rw [if_pos hr3, a1]
          exact ⟨V2, ⟨k1.tr a2, a3⟩, rfl⟩
        · have hr31 : r 3 = 1 := h3.resolve_left hr3
          have h2 : gO r g 2 ≤ 0 := by
            by_cases q : gO r g 2 ≤ 0
            · exact q
            · simp [hdS, hr31, q] at hdf
          rw [if_neg hr3, o4_2 hv4, g1 2 (by omega), if_pos h2, a1]
          exact ⟨V2, ⟨k1.tr a2, a3⟩, rfl⟩
    · rw [if_neg (show ¬ stT r g (r 0) = 1 from hst), nI_1]
      refine ⟨V, ⟨k1, ?_⟩, rfl⟩
      obtain ⟨i1, i2, i3⟩ := k2
      refine ⟨by rw [i1, ordS, if_neg hst], by rw [ordS, if_neg hst]; exact i2, fun q hq hsq => ?_⟩
      rcases Nat.lt_or_ge q g with h | h
      · exact i3 q h hsq
      · rw [show q = g by omega] at hsq
        exact absurd hsq hst
  · intro m V ⟨k1, k2⟩
    have hsV := hs.fr k1 ordQ_S
    try dsimp only
    rw [f_X8_putInOrder_L28, o7_6 hv7, hsV.1 6 (by omega), h6, if_pos (le_p (Nat.le_refl _) (by omega))]
    exact ⟨V, rfl, k1, k2⟩
theorem c_putInOrder (ht : vo 8 t 0 = true) (hi : i < 8) (hs : stR W i r) (ho : okR r T) (hF : W.2.1 8 t 0 4 = F) : ∃ W', f_X8_putInOrder (b + ad 8 t 0) (b + ad 7 i 0) (wd b W) = some ((), wd b W') ∧ frQ (ordQ t) W W' ∧ oinv r F t (nG r) W' := by
  have hv7 := vo7 hi
  have hf0 : frQ (ordQ t) W (wsI W 8 t 0 0 0) := frQ.I ⟨rfl, rfl, Or.inl rfl⟩
  have key : ∀ v2 : Int32, (v2 = 0 ↔ ¬ (r 1 = 0 ∨ r 1 = 5)) → ∃ W', f_X8_putInOrder_L28 (b + ad 8 t 0) (b + ad 7 i 0) v2 (fun N36 => some ((), N36)) FU (0 : Int32) (wd b (wsI W 8 t 0 0 0)) = some ((), wd b W') ∧ frQ (ordQ t) W W' ∧ oinv r F t (nG r) W' := by
    intro v2 h
    obtain ⟨W', e1, e2, e3⟩ := c_putL (b := b) (W := wsI W 8 t 0 0 0) (F := F) ht hi (hs.fr hf0 ordQ_S) ho (by rw [wsI_A]; exact hF) h (by rw [wsI_r]; rfl)
    exact ⟨W', e1, hf0.tr e2, e3⟩
  have j15 : (r 1 = 0 ∨ r 1 = 5) → ∃ W', f_X8_putInOrder_J15 (b + ad 8 t 0) (b + ad 7 i 0) (wd b W) = some ((), wd b W') ∧ frQ (ordQ t) W W' ∧ oinv r F t (nG r) W' := by
    intro h
    unfold f_X8_putInOrder_J15
    rw [p8_0 ht]
    exact key 1 ⟨fun q => (by cases q), fun q => absurd h q⟩
  unfold f_X8_putInOrder
  rw [oO_8 ht, o7_1 hv7, hs.1 1 (by omega)]
  by_cases h0 : r 1 = 0
  · rw [if_pos h0]
    exact j15 (Or.inl h0)
  · rw [if_neg h0, o7_1 hv7, hs.1 1 (by omega)]
    by_cases h5 : r 1 = 5
    · rw [if_neg (fun q => q h5)]
      exact j15 (Or.inr h5)
    · rw [if_pos h5, p8_0 ht]
      exact key 0 ⟨fun _ q => q.elim h0 h5, fun _ => rfl⟩
end
