/-! a tick of the class -/
theorem sumN_same {f g : Nat → Nat} : ∀ {n : Nat}, (∀ i, i < n → f i ≤ g i) → sumN g n ≤ sumN f n → ∀ i, i < n → f i = g i
  | 0, _, _, i, hi => absurd hi (Nat.not_lt_zero i)
  | n + 1, h1, h2, i, hi => by
    rw [sumN, sumN] at h2
    have h3 := sumN_mono (f := f) (g := g) (n := n) (fun i hi => h1 i (by omega))
    have h4 := h1 n (by omega)
    rcases Nat.lt_or_ge i n with q | q
    · exact sumN_same (fun i hi => h1 i (by omega)) (by omega) i q
    · rw [show i = n by omega]; omega
/-- the number of active groups -/
theorem ordC_M {r : Nat → Int32} {M : Nat} {O : Nat → Nat} (h12 : nG r ≤ 12) (hO : ordC r M O) : sumN (fun g => if stO r g = 1 then 1 else 0) (nG r) = M := by
  have e := sumI_ord (n := nG r) (O := O) M (fun g => nI (if stO r g = 1 then 1 else 0)) (fun x hx => (hO.1.2 x hx).1) hO.2.1 (fun g hg hx => by
    try dsimp only
    by_cases hs : stO r g = 1
    · obtain ⟨x, x1, x2⟩ := hO.2.2 g hg hs
      exact absurd x2 (hx x x1)
    · rw [if_neg hs]; rfl)
  rw [sumI_nI, sumI_nI] at e
  have e2 : sumN (fun x => if stO r (O x) = 1 then 1 else 0) M = M := by
    have : ∀ m, m ≤ M → sumN (fun x => if stO r (O x) = 1 then 1 else 0) m = m := by
      intro m
      induction m with
      | zero => exact fun _ => rfl
      | succ m ih =>
        intro hm
        rw [sumN, ih (by omega), if_pos (hO.1.2 m (by omega)).2]
    exact this M (Nat.le_refl _)
  have hb := sumN_le (f := fun g => if stO r g = 1 then 1 else 0) (B := 1) (n := nG r) (fun i hi => by
    try dsimp only
    split <;> omega)
  have hM := hO.1.1
  rw [e2] at e
  exact (nI_eq (by omega) (by omega)).mp e.symm
/-- nothing is sent and no group waits -/
def still (r : Nat → Int32) (dl : Bool) (M : Nat) (O : Nat → Nat) : Prop := (∀ g f, g < nG r → f < nF r g → finR r dl M O g f = 0) ∧ ∀ g, g < nG r → opB r g = true → stO r g = 1
def tkQ (t s : Nat) : Nat → Nat → Nat → Nat → Prop := fun c i _ k => (c = 8 ∧ i = t ∧ k ≠ 4) ∨ (i = s ∧ inS c ∧ c ≠ 11)
section
variable {b : Nat} {W : WD} {t i T : Nat} {r r' F : Nat → Int32}
theorem c_perform (ht : vo 8 t 0 = true) (hi : i < 8) (hs : stR W i r) (ho : okR r T) (hT : T + 1 ≤ 900000) (hF : W.2.1 8 t 0 4 = F) {M : Nat} {O : Nat → Nat} (hM : M = (ordS r (bfK r F) (nG r)).1) (hOe : ∀ x, x < M → O x = (ordS r (bfK r F) (nG r)).2 x) (hO : ordC r M O) (htk : tkR true M O r r') : ∃ c V, f_X8_perform (b + ad 8 t 0) (b + ad 7 i 0) (wd b W) = some (c, wd b V) ∧ frQ (tkQ t i) W V ∧ stR V i r' ∧ (c = 0 ∨ c = 1) ∧ (c = 0 → still r true M O) := by
  have hG := ho.1
  have h12 := hG.1.2
  have h6 := hG.1.1
  have hM12 := hO.1.1
  have hv7 := vo7 hi
  have hT' := ho.tm (by omega)
  have ho' := okR_tick ho hT hO htk
  have eG := tk_nG htk
  have eF := fun g hg => tk_nF htk (g := g) hg
  obtain ⟨a0, ⟨a1, a2, a3, a6, a7⟩, a4, a5, a10, a42, am, ag, ⟨ae, al⟩, -⟩ := id htk
  -- the order
  obtain ⟨W1, e1, f1, i1, i2, -⟩ := c_putInOrder (b := b) (W := W) ht hi hs ho hF
  rw [← hM] at i1 i2
  have i2' : ∀ x, x < M → W1.2.1 8 t 0 1 x = nI (O x) := fun x hx => by rw [i2 x hx, hOe x hx]
  have s1 : stR W1 i r := hs.fr f1 ordQ_S
  have f1' : frQ (tkQ t i) W W1 := f1.mono (fun c i g k ⟨q1, q2, q3⟩ => Or.inl ⟨q1, q2, by omega⟩)
  have eco := c_countOpen (b := b) (W := W1) (i := i) (r := r) hi (by rw [s1.1 6 (by omega)]; exact h6) h12 (fun g hg => (s1.2.2.2.1 g hg).1)
  -- the preemption
  obtain ⟨W2, e2, f2, p4, p5, pl⟩ := c_preempt (b := b) (W := W1) ht hi ho hO i1 i2' s1.1 ((lgR_V ho.2.2.1).mp s1.2.2.2.2)
  have f2' : frQ (tkQ t i) W1 W2 := f2.mono (fun c i g k ⟨q1, q2⟩ => Or.inr ⟨q1, by unfold inS; omega, by omega⟩)
  have a_2 : stA W2 i r := s1.a.fr f2 (fun c g k q => by unfold prQ; omega)
  have o20 : W2.1 8 t 0 0 = nI M := by rw [f2.1 8 t 0 0 (by unfold prQ; omega), i1]
  have o21 : ∀ x, x < M → W2.2.1 8 t 0 1 x = nI (O x) := fun x hx => by rw [f2.2.1 8 t 0 1 (by unfold prQ; omega)]; exact i2' x hx
  -- the rates
  obtain ⟨W3, e3, g3⟩ := c_give (b := b) (W := W2) ht hi a_2 ho (by omega) hO o20 o21
  obtain ⟨W4, e4, j1, j2, j3, j4⟩ := c_share (b := b) (W := W3) ht hi a_2 ho (by omega) hO o20 o21 g3
  have j1' : frQ (tkQ t i) W2 W4 := j1.mono (fun c i g k q => by
    rcases q with ⟨q1, q2, q3⟩ | ⟨q1, q2, q3⟩
    · exact Or.inl ⟨q1, q2, by omega⟩
    · exact Or.inr ⟨q2, by unfold inS; omega, by omega⟩)
  have a_4 : stA W4 i r := a_2.fr j1 raQ_A
  -- step 4
  obtain ⟨W5, e5, k1, k2, k3⟩ := c_sendAll (b := b) (W := W4) ht hi a_4 ho hO (by rw [j1.1 8 t 0 0 (by unfold raQ; omega), o20]) (fun x hx => by rw [j1.2.1 8 t 0 1 (by unfold raQ; omega)]; exact o21 x hx) j3 (fun g hg f => finR_0 hg f)
  have k1' : frQ (tkQ t i) W4 W5 := k1.mono (fun c i g k ⟨q1, q2⟩ => Or.inr ⟨q1, by unfold inS; omega, by omega⟩)
  have t5 : W5.1 7 i 0 0 = r 0 := by rw [k1.1 7 i 0 0 (by unfold seQ; omega), a_4.1 0 (by omega)]
  generalize hW6 : wsI W5 7 i 0 0 (r 0 + 1) = W6
  have f6 : frQ (fun c i' _ k => c = 7 ∧ i' = i ∧ k = 0) W5 W6 := by rw [← hW6]; exact frQ.I ⟨rfl, rfl, rfl⟩
  have f6' : frQ (tkQ t i) W5 W6 := f6.mono (fun c i g k ⟨q1, q2, q3⟩ => Or.inr ⟨q2, by unfold inS; omega, by omega⟩)
  have g6 : ∀ g, g < nG r → ∀ k, k < 5 → W6.1 4 i g k = gO r g k := fun g hg k hk => by
    rw [f6.1 4 i g k (by omega), k1.1 4 i g k (by unfold seQ; omega)]
    exact (a_4.2.2 g hg).1 k hk
  have fl6 : ∀ g, g < nG r → flR W6 i g r' := by
    intro g hg
    have hfl := (a_4.2.2 g hg).2
    refine ⟨?_, fun f hf => ?_⟩
    · rw [f6.1 1 i g 0 (by omega), k1.1 1 i g 0 (by unfold seQ; omega), hfl.1, (ag g hg).1 5 (by omega) (by omega)]
    · rw [eF g hg] at hf
      have q := (ag g hg).2.2 f hf
      rw [f6.2.1 1 i g 1 (by omega), f6.2.1 1 i g 2 (by omega), f6.2.1 1 i g 3 (by omega), f6.2.1 1 i g 4 (by omega), k1.2.1 1 i g 1 (by unfold seQ; omega), k1.2.1 1 i g 2 (by unfold seQ; omega), k1.2.1 1 i g 3 (by unfold seQ; omega), k2 g f hg hf, q.1 0 (by omega), q.1 1 (by omega), q.1 2 (by omega), q.2.1]
      exact ⟨(hfl.2 f hf).1, (hfl.2 f hf).2.1, (hfl.2 f hf).2.2.1, rfl⟩
  have l6 : lgV W6 i (if preB r M O = true then push1 (evs r) (2, r 5, r 0) else evs r) := (((pl.fr j1 (fun k => by unfold raQ; omega)).fr k1 (fun k => by unfold seQ; omega))).fr f6 (fun k => by omega)
  have n6 : W6.1 7 i 0 6 = nI (nG r) := by
    rw [f6.1 7 i 0 6 (by omega), k1.1 7 i 0 6 (by unfold seQ; omega), a_4.1 6 (by omega)]
    exact h6
  have t6 : W6.1 7 i 0 0 = r 0 + 1 := by rw [← hW6, wsI_r]
  obtain ⟨W7, e7, d1, d2, d3⟩ := c_done (b := b) (W := W6) (r := r) (r' := r') ht hi h12 n6 t6 g6 (fun g hg => ⟨fl6 g hg, ho'.1.2.1 g (by rw [eG]; exact hg)⟩) l6
  have d1' : frQ (tkQ t i) W6 W7 := d1.mono (fun c i g k ⟨q1, q2⟩ => Or.inr ⟨q1, by unfold inS; omega, by omega⟩)
  have hdone : ∀ g, g < nG r → (opB r g && decide (undO r' g = 0)) = dnS r true M O g := by
    intro g hg
    have hiff := dn_iff ho (by omega) (dl := true) hO hg
    have hk' := ho'.1.2.1 g (by rw [eG]; exact hg)
    have hu : undO r' g = 0 ↔ ∀ f, f < nF r g → vN (fO r g f 3) - vN (finR r true M O g f) = 0 := by
      unfold undO
      rw [eF g hg] at hk' ⊢
      have hz := sumI_0 (h := fun f => if fO r' g f 3 ≤ 0 then (0 : Int32) else 1) (a := fun f => if vN (fO r' g f 3) = 0 then 0 else 1) (n := nF r g) hk'.2.1 (fun f hf => by
        obtain ⟨q1, q2⟩ := (hk'.2.2 f hf).2.2
        try dsimp only
        by_cases hzz : vN (fO r' g f 3) = 0
        · rw [if_pos hzz, if_pos (by rw [q1, hzz]; decide)]
          exact ⟨rfl, by omega⟩
        · rw [if_neg hzz, if_neg (by rw [q1]; exact le_n (b := 0) (by omega) (by omega))]
          exact ⟨rfl, by omega⟩)
      rw [hz]
      have hv : ∀ f, f < nF r g → vN (fO r' g f 3) = vN (fO r g f 3) - vN (finR r true M O g f) := fun f hf => by
        have := ((hG.2.1 g hg).2.2 f hf).2.2.2
        rw [((ag g hg).2.2 f hf).2.1, rest_ok hG hT' hO.1 hg hf, vN_nI (by omega)]
      constructor
      · intro q f hf
        have := q f hf
        rw [← hv f hf]
        by_cases hzz : vN (fO r' g f 3) = 0
        · exact hzz
        · rw [if_neg hzz] at this; omega
      · intro q f hf
        rw [if_pos (by rw [hv f hf]; exact q f hf)]
    cases hd : dnS r true M O g with
    | true =>
      obtain ⟨q1, q2⟩ := hiff.mp hd
      simp [q1, hu.mpr q2]
    | false =>
      cases hop : opB r g with
      | false => rfl
      | true =>
        have : ¬ undO r' g = 0 := fun q => by rw [hiff.mpr ⟨hop, hu.mp q⟩] at hd; cases hd
        simp [this]
  have g7 : ∀ g, g < nG r → ∀ k, k < 5 → W7.1 4 i g k = gO r' g k := by
    intro g hg k hk
    by_cases hk3 : k = 3
    · rw [hk3, d2 g hg, hdone g hg, (ag g hg).2.1]
      rfl
    · rw [d1.1 4 i g k (by unfold dnQ; omega), g6 g hg k hk, (ag g hg).1 k hk3 (by omega)]
  obtain ⟨W8, e8, q1, q2⟩ := c_late (b := b) (W := W7) (r := r') ht hi h12 (by rw [d1.1 7 i 0 6 (by unfold dnQ; omega), n6]) (by rw [d1.1 7 i 0 0 (by unfold dnQ; omega), t6]) g7 d3
  have q1' : frQ (tkQ t i) W7 W8 := q1.mono (fun c i g k ⟨q1, q2⟩ => Or.inr ⟨q2, by unfold inS; omega, by omega⟩)
  have hfr : frQ (tkQ t i) W W8 := (((((f1'.tr f2').tr j1').tr k1').tr f6').tr d1').tr q1'
  -- what stands behind
  have hev : evG (evG (if preB r M O = true then push1 (evs r) (2, r 5, r 0) else evs r) 1 (r 0 + 1) (fun g => opB r g && decide (undO r' g = 0)) (nG r)) 4 (r 0 + 1) (fun g => opB r' g && (!decide (gO r' g 2 ≤ 0) && decide (gO r' g 0 + gO r' g 2 = r 0 + 1))) (nG r) = evs r' := by
    rw [al]
    unfold evT
    rw [evG_cg (c := fun g => opB r g && decide (undO r' g = 0)) (c' := dnS r true M O) hdone]
    refine evG_cg (fun g hg => ?_)
    have hgk' := ho'.2.2.2.2.2.2.2 g (by rw [eG]; exact hg)
    have hgk := ho.2.2.2.2.2.2.2 g hg
    unfold ltS
    rw [(ag g hg).1 2 (by omega) (by omega), (ag g hg).1 0 (by omega) (by omega)]
    by_cases h2 : gO r g 2 ≤ 0
    · simp [h2]
    · by_cases h3 : gO r g 0 + gO r g 2 = r 0 + 1
      · have harr : gO r g 0 ≤ r 0 + 1 := by
          obtain ⟨w1, w2⟩ := hgk.1
          obtain ⟨w3, w4⟩ := hgk.2.2.1
          rw [← h3, w1, w3, nI_add]
          exact le_p (by omega) (by omega)
        simp only [h2, h3, harr, opB, (ag g hg).1 4 (by omega) (by omega), (ag g hg).2.1]
        rcases hgk.2.2.2.1 with w | ⟨w, -⟩
        · rw [w]
          by_cases hen : enS r true M O g = -1
          · simp [hen]
          · simp [hen]
        · rw [w]
          simp
      · simp [h3]
  rw [hev] at q2
  have hst : stR W8 i r' := by
    have st7 : ∀ k, k < 7 → k ≠ 0 → k ≠ 4 → k ≠ 5 → W8.1 7 i 0 k = W1.1 7 i 0 k := fun k h7 h0 h4 h5 => by
      rw [q1.1 7 i 0 k (by unfold lgQ; omega), d1.1 7 i 0 k (by unfold dnQ; omega), f6.1 7 i 0 k (by omega), k1.1 7 i 0 k (by unfold seQ; omega), j1.1 7 i 0 k (by unfold raQ; omega), f2.1 7 i 0 k (by unfold prQ; omega)]
    refine ⟨?_, ?_, ?_, ?_, ?_⟩
    · intro k hk
      by_cases hk0 : k = 0
      · rw [hk0, q1.1 7 i 0 0 (by unfold lgQ; omega), d1.1 7 i 0 0 (by unfold dnQ; omega), t6, a0]
      · by_cases hk4 : k = 4
        · rw [hk4, q1.1 7 i 0 4 (by unfold lgQ; omega), d1.1 7 i 0 4 (by unfold dnQ; omega), f6.1 7 i 0 4 (by omega), k1.1 7 i 0 4 (by unfold seQ; omega), j1.1 7 i 0 4 (by unfold raQ; omega), p4, a4]
        · by_cases hk5 : k = 5
          · rw [hk5, q1.1 7 i 0 5 (by unfold lgQ; omega), d1.1 7 i 0 5 (by unfold dnQ; omega), f6.1 7 i 0 5 (by omega), k1.1 7 i 0 5 (by unfold seQ; omega), j1.1 7 i 0 5 (by unfold raQ; omega), p5, a5]
          · rw [st7 k hk hk0 hk4 hk5, s1.1 k hk]
            have : k = 1 ∨ k = 2 ∨ k = 3 ∨ k = 6 := by omega
            rcases this with rfl | rfl | rfl | rfl
            · exact a1.symm
            · exact a2.symm
            · exact a3.symm
            · exact a6.symm
    · intro p hp
      rw [q1.2.1 7 i 0 7 (by unfold lgQ; omega), d1.2.1 7 i 0 7 (by unfold dnQ; omega), f6.2.1 7 i 0 7 (by omega), k1.2.1 7 i 0 7 (by unfold seQ; omega), a_4.2.1 p hp, a10 _ (by omega) (by omega), q1.2.1 7 i 0 8 (by unfold lgQ; omega), d1.2.1 7 i 0 8 (by unfold dnQ; omega), f6.2.1 7 i 0 8 (by omega), k3 p hp, j1.2.1 7 i 0 8 (by unfold raQ; omega), f2.2.1 7 i 0 8 (by unfold prQ; omega), (s1.2.1 p hp).2, am p hp]
      exact ⟨rfl, rfl⟩
    · have hd := hs.2.2.1.fr hfr (fun k => by unfold tkQ inS; omega)
      refine ⟨by rw [hd.1, a7], fun f hf => ?_⟩
      have hnD : nD r' = nD r := by unfold nD; rw [a7]
      rw [hnD] at hf
      have h16 := ho.2.2.2.2.1.2.2.1
      rw [a42 _ (by omega) (by omega), a42 _ (by omega) (by omega), a42 _ (by omega) (by omega)]
      exact hd.2 f hf
    · intro g hg
      rw [eG] at hg
      refine ⟨fun k hk => by rw [q1.1 4 i g k (by unfold lgQ; omega)]; exact g7 g hg k hk, ((fl6 g hg).fr d1 (fun k hk => by unfold dnQ; omega)).fr q1 (fun k hk => by unfold lgQ; omega), fun f hf => ?_⟩
      rw [eF g hg] at hf
      rw [q1.2.1 1 i g 5 (by unfold lgQ; omega), d1.2.1 1 i g 5 (by unfold dnQ; omega), f6.2.1 1 i g 5 (by omega), k1.2.1 1 i g 5 (by unfold seQ; omega), j3 g f hg hf, ((ag g hg).2.2 f hf).2.2]
    · exact (lgR_V ae).mpr q2
  -- the answer
  have tail : ∀ w0 : Int32, (w0 = 0 ∨ w0 = 1) → (w0 = 0 → opN r (nG r) ≤ M) → ∃ c V, f_X8_perform_J21 (b + ad 8 t 0) (b + ad 7 i 0) w0 (wd b W1) = some (c, wd b V) ∧ frQ (tkQ t i) W V ∧ stR V i r' ∧ (c = 0 ∨ c = 1) ∧ (c = 0 → still r true M O) := by
    intro w0 hw0 hw
    unfold f_X8_perform_J21
    rw [ob2_i e2, ob2_i e3, ob2_i e4, ob2_i e5, o7_0 hv7, t5, p7_0 hv7, hW6, ob2_i e7, ob2_i e8]
    by_cases hsent : (0 : Int32) < sumI (fun g => sumI (finR r true M O g) (nF r g)) (nG r)
    · rw [if_pos hsent]
      exact ⟨1, W8, rfl, hfr, hst, Or.inr rfl, fun q => (by cases q)⟩
    · rw [if_neg hsent]
      rcases hw0 with rfl | rfl
      · rw [if_pos rfl]
        refine ⟨0, W8, rfl, hfr, hst, Or.inl rfl, fun _ => ⟨?_, ?_⟩⟩
        · have eN : sumI (fun g => sumI (finR r true M O g) (nF r g)) (nG r) = nI (sumN (fun g => sumN (fun f => vN (finR r true M O g f)) (nF r g)) (nG r)) := by
            rw [← sumI_nI]
            refine sumI_cg (fun g hg => ?_)
            rw [← sumI_nI]
            exact sumI_cg (fun f hf => (finR_ok hG hT' hO.1 hg hf).1)
          have hb : sumN (fun g => sumN (fun f => vN (finR r true M O g f)) (nF r g)) (nG r) ≤ nG r * 1600000 := sumN_le (fun g hg => by
            have h16 := (hG.2.1 g hg).2.1
            have := sumN_le (f := fun f => vN (finR r true M O g f)) (B := 100000) (n := nF r g) (fun f hf => Nat.le_trans (finR_ok hG hT' hO.1 hg hf).2 ((hG.2.1 g hg).2.2 f hf).2.2.2)
            try dsimp only
            omega)
          have hz : sumN (fun g => sumN (fun f => vN (finR r true M O g f)) (nF r g)) (nG r) = 0 := by
            rcases Nat.eq_zero_or_pos (sumN (fun g => sumN (fun f => vN (finR r true M O g f)) (nF r g)) (nG r)) with q | q
            · exact q
            · exact absurd (by rw [eN]; exact lt_p (a := 0) q (by omega)) hsent
          intro g f hg hf
          have := sumN_0 (sumN_0 hz g hg) f hf
          rw [(finR_ok hG hT' hO.1 hg hf).1, this]
          rfl
        · have hMs := ordC_M h12 hO
          have hle := hw rfl
          have hsame := sumN_same (f := fun g => if stO r g = 1 then 1 else 0) (g := fun g => if opB r g = true then 1 else 0) (n := nG r) (fun g hg => by
            try dsimp only
            by_cases q : stO r g = 1
            · rw [if_pos q, if_pos (stO_op (ho.2.2.2.2.2.2.2 g hg) q)]
              exact Nat.le_refl _
            · rw [if_neg q]
              exact Nat.zero_le _) (by rw [hMs]; exact hle)
          intro g hg hop
          have := hsame g hg
          try dsimp only at this
          rw [if_pos hop] at this
          by_cases q : stO r g = 1
          · exact q
          · rw [if_neg q] at this; omega
      · rw [if_neg (by decide)]
        exact ⟨1, W8, rfl, hfr, hst, Or.inr rfl, fun q => (by cases q)⟩
  unfold f_X8_perform
  rw [oO_8 ht, ob2_i e1, ob2_i eco, o8_0 ht, i1]
  have hopb := opN_le r (nG r)
  by_cases hc : opN r (nG r) ≤ M
  · rw [if_pos (le_p hc (by omega))]
    exact tail 0 (Or.inl rfl) (fun _ => hc)
  · rw [if_neg (le_n (by omega) (by omega))]
    exact tail 1 (Or.inr rfl) (fun q => (by cases q))
end
