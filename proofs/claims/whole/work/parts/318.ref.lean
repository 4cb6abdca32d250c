/-! the reference's worksOut -/
theorem rtS_cg {r : Nat → Int32} {dl : Bool} {g : Nat} {A B : Nat → Int32} (h : ∀ p, p < 16 → A p = B p) : rtS r dl g A = rtS r dl g B := by
  funext f
  unfold rtS
  rw [spn_cg h]
theorem subS_cg {r : Nat → Int32} {g : Nat} {R : Nat → Int32} {A B : Nat → Int32} {i : Nat} (h : ∀ p, p < 16 → A p = B p) : ∀ p, p < 16 → subS r g R A i p = subS r g R B i p := by
  intro p hp
  unfold subS
  rw [h p hp]
theorem shA_cg {r : Nat → Int32} {g : Nat} (hk : flK r g (nF r g)) {R R' A B : Nat → Int32} (h : ∀ p, p < 16 → A p = B p) (hR : ∀ f, f < nF r g → R f = R' f) : ∀ i, i ≤ nF r g → ∀ p, p < 16 → shA r g R A i p = shA r g R' B i p
  | 0, _ => h
  | i + 1, hi => by
    intro p hp
    have ih := shA_cg hk h hR i (by omega)
    obtain ⟨⟨s1, s2⟩, ⟨t1, t2⟩, -⟩ := hk.2.2 i (by omega)
    rw [shA, shA]
    simp only
    rw [ih p hp, ih (vN (fO r g i 0)) (by omega), ih (8 + vN (fO r g i 1)) (by omega), hR i (by omega)]
theorem moS_cg {r : Nat → Int32} {g : Nat} (hk : flK r g (nF r g)) {R R' A B : Nat → Int32} (h : ∀ p, p < 16 → A p = B p) (hR : ∀ f, f < nF r g → R f = R' f) {i : Nat} (hi : i < nF r g) : moS r g R A i = moS r g R' B i := by
  obtain ⟨⟨s1, s2⟩, ⟨t1, t2⟩, -⟩ := hk.2.2 i hi
  unfold moS
  rw [shA_cg hk h hR i (by omega) (vN (fO r g i 0)) (by omega), shA_cg hk h hR i (by omega) (8 + vN (fO r g i 1)) (by omega), hR i hi]
theorem avK_cg {A B : Nat → Int32} (h : ∀ p, p < 16 → A p = B p) (hA : avK B) : avK A := fun p hp => by rw [h p hp]; exact hA p hp
/-- an order of active groups -/
def ordK (r : Nat → Int32) (M : Nat) (O : Nat → Nat) : Prop := M ≤ 12 ∧ ∀ x, x < M → O x < nG r ∧ stO r (O x) = 1
theorem gvS_av {r : Nat → Int32} (hG : okG r) (hT : tmK r) {dl : Bool} {M : Nat} {O : Nat → Nat} (hO : ordK r M O) : ∀ k, k ≤ M → avK (gvS r dl O k).1
  | 0, _ => hG.2.2
  | k + 1, hk => avK_subS hT (hO.2 k (by omega)).1 (hG.2.1 _ (hO.2 k (by omega)).1) (gvS_av hG hT hO k (by omega)) dl
theorem gvS_rt {r : Nat → Int32} (hG : okG r) (hT : tmK r) {dl : Bool} {M : Nat} {O : Nat → Nat} (hO : ordK r M O) : ∀ k, k ≤ M → ∀ g f, (∃ x, (gvS r dl O k).2.1 g f = nI x ∧ x ≤ vN (fO r g f 3))
  | 0, _ => fun g f => ⟨0, rfl, Nat.zero_le _⟩
  | k + 1, hk => by
    intro g f
    have ih := gvS_rt hG hT (dl := dl) hO k (by omega) g f
    rw [gvS]
    simp only
    split
    · rename_i h
      obtain ⟨rfl, h2⟩ := h
      exact (rtS_ok hT (hO.2 k (by omega)).1 (hG.2.1 _ (hO.2 k (by omega)).1) (gvS_av hG hT hO k (by omega)) dl).1 f h2
    · exact ih
noncomputable def finA (r : Nat → Int32) (dl : Bool) (M : Nat) (O : Nat → Nat) : Nat → Int32 := if r 2 = 1 then (shG r O (gvS r dl O M).1 (gvS r dl O M).2.1 M).1 else (gvS r dl O M).1
noncomputable def finR (r : Nat → Int32) (dl : Bool) (M : Nat) (O : Nat → Nat) : Nat → Nat → Int32 := if r 2 = 1 then (shG r O (gvS r dl O M).1 (gvS r dl O M).2.1 M).2 else (gvS r dl O M).2.1
/-- how the reference finds its order -/
def mdK (W : WD) (dl : Bool) (M : Nat) (O : Nat → Nat) : Prop := (dl = true ∧ W.1 10 0 0 8 = 0 ∧ M = (ordS (W.2.1 10 0 0 0) (bfS (W.2.1 10 0 0 0)) (nG (W.2.1 10 0 0 0))).1 ∧ O = (ordS (W.2.1 10 0 0 0) (bfS (W.2.1 10 0 0 0)) (nG (W.2.1 10 0 0 0))).2) ∨ (dl = false ∧ W.1 10 0 0 8 = 1 ∧ ∃ (fx : Nat → Nat) (K : Nat), K ≤ 4 ∧ W.1 10 0 0 10 = nI K ∧ (∀ x, x < K → W.2.1 10 0 0 9 x = nI (fx x) ∧ fx x < nG (W.2.1 10 0 0 0)) ∧ M = (ofxS (W.2.1 10 0 0 0) fx K).1 ∧ O = (ofxS (W.2.1 10 0 0 0) fx K).2)
theorem mdK.ord {W : WD} {dl : Bool} {M : Nat} {O : Nat → Nat} (h : mdK W dl M O) (hG : okG (W.2.1 10 0 0 0)) : ordK (W.2.1 10 0 0 0) M O := by
  rcases h with ⟨-, -, rfl, rfl⟩ | ⟨-, -, fx, K, h1, -, h3, rfl, rfl⟩
  · exact ⟨Nat.le_trans (ordS_m _ _ _) hG.1.2, fun x hx => ordS_act _ _ _ x hx⟩
  · refine ⟨Nat.le_trans (ofxS_m _ _ _) (by omega), fun x hx => ?_⟩
    obtain ⟨⟨k, k1, k2⟩, k3⟩ := ofxS_act (W.2.1 10 0 0 0) fx K x hx
    exact ⟨by rw [k2]; exact (h3 k k1).2, k3⟩
section
variable {b : Nat} {W : WD}
theorem m_orders {dl : Bool} {M : Nat} {O : Nat → Nat} (hG : okG (W.2.1 10 0 0 0)) (hm : mdK W dl M O) : ∃ W', f_X10_orders (b + ad 10 0 0) (wd b W) = some ((), wd b W') ∧ frM [7] [4, 5, 6] [11, 12] W W' ∧ W'.1 10 0 0 7 = nI M ∧ ∀ x, x < M → W'.2.1 10 0 0 6 x = nI (O x) := by
  rcases hm with ⟨-, h8, rfl, rfl⟩ | ⟨-, h8, fx, K, h1, h2, h3, rfl, rfl⟩
  · exact m_orders0 hG h8
  · exact m_ordersF h1 (by rw [h8]; decide) h2 (fun x hx => ⟨(h3 x hx).1, by have := (h3 x hx).2; have := hG.1.2; omega⟩)
theorem m_worksOut {dl : Bool} {M : Nat} {O : Nat → Nat} {r : Nat → Int32} (hr : W.2.1 10 0 0 0 = r) (hG : okG r) (hT : tmK r) (hm : mdK W dl M O) : ∃ W', f_X10_worksOut (b + ad 10 0 0) (wd b W) = some ((), wd b W') ∧ frM [7] [4, 5, 6, 13, 14] [11, 12] W W' ∧ W'.1 10 0 0 7 = nI M ∧ (∀ x, x < M → W'.2.1 10 0 0 6 x = nI (O x)) ∧ (∀ p, p < 16 → W'.2.1 10 0 0 4 p = finA r dl M O p) ∧ (∀ g f, g < 12 → f < 16 → W'.2.1 10 0 0 14 (16 * g + f) = finR r dl M O g f) ∧ ∀ g, g < 12 → W'.2.1 10 0 0 13 g = (gvS r dl O M).2.2 g := by
  have hO := hm.ord (by rw [hr]; exact hG)
  rw [hr] at hO
  have h8 : W.1 10 0 0 8 = bI (!dl) := by rcases hm with ⟨rfl, h, -⟩ | ⟨rfl, h, -⟩ <;> rw [h] <;> rfl
  obtain ⟨W1, e1, f1, g1, g2⟩ := m_orders (b := b) (by rw [hr]; exact hG) hm
  have f1 : frM [7] [4, 5, 6, 13, 14] [11, 12] W W1 := f1.mono (by decide) (by decide) (by decide)
  unfold f_X10_worksOut
  rw [oO_10 h10, ob2_i e1]
  -- rates 0
  have z1 : ∀ k, f_X10_worksOut_L6 (b + ad 10 0 0) k FU (0 : Int32) (wd b W1) = k (wd b (wsA W1 10 0 0 14 (filI (W1.2.1 10 0 0 14) 192 (fun _ => 0)))) := by
    intro k
    have e := loopN (fun m i => f_X10_worksOut_L6 (b + ad 10 0 0) k m (nI i) (wd b (wsA W1 10 0 0 14 (filI (W1.2.1 10 0 0 14) i (fun _ => 0))))) 192 (y := k (wd b (wsA W1 10 0 0 14 (filI (W1.2.1 10 0 0 14) 192 (fun _ => 0))))) ?_ ?_ FU 0 (by omega) (by have := FUgt; omega)
    · rw [filI_0, wsA_s] at e
      exact e
    · intro m i hi
      try dsimp only
      rw [f_X10_worksOut_L6, li 192, if_neg (le_n hi (by omega)), o10_14 h10, ot10_14 h10 hi, nI_1, wsA_r, wsA_2, filI_s _ (fun _ => 0)]
    · intro m
      try dsimp only
      rw [f_X10_worksOut_L6, li 192, if_pos (le_p (Nat.le_refl _) (by omega))]
  rw [z1]
  generalize hW2 : wsA W1 10 0 0 14 (filI (W1.2.1 10 0 0 14) 192 (fun _ => 0)) = W2
  have z2 : ∀ k, f_X10_worksOut_L28 (b + ad 10 0 0) k FU (0 : Int32) (wd b W2) = k (wd b (wsA W2 10 0 0 13 (filI (W2.2.1 10 0 0 13) 12 (fun _ => -1)))) := by
    intro k
    have e := loopN (fun m i => f_X10_worksOut_L28 (b + ad 10 0 0) k m (nI i) (wd b (wsA W2 10 0 0 13 (filI (W2.2.1 10 0 0 13) i (fun _ => -1))))) 12 (y := k (wd b (wsA W2 10 0 0 13 (filI (W2.2.1 10 0 0 13) 12 (fun _ => -1))))) ?_ ?_ FU 0 (by omega) (by have := FUgt; omega)
    · rw [filI_0, wsA_s] at e
      exact e
    · intro m i hi
      try dsimp only
      rw [f_X10_worksOut_L28, li 12, if_neg (le_n hi (by omega)), o10_13 h10, ot10_13 h10 hi, nI_1, wsA_r, wsA_2, filI_s _ (fun _ => -1)]
    · intro m
      try dsimp only
      rw [f_X10_worksOut_L28, li 12, if_pos (le_p (Nat.le_refl _) (by omega))]
  rw [z2]
  generalize hW3 : wsA W2 10 0 0 13 (filI (W2.2.1 10 0 0 13) 12 (fun _ => -1)) = W3
  rw [ob2_i m_allAv]
  generalize hW4 : wsA W3 10 0 0 4 (filI (W3.2.1 10 0 0 4) 16 (fun p => W3.2.1 10 0 0 0 (10 + p))) = W4
  have f4 : frM [7] [4, 5, 6, 13, 14] [11, 12] W W4 := by
    rw [← hW4, ← hW3, ← hW2]
    exact ((f1.tr (frM.A (by decide))).tr (frM.A (by decide))).tr (frM.A (by decide))
  have hr3 : W3.2.1 10 0 0 0 = r := by rw [← hW3, wsA_k _ (by decide), ← hW2, wsA_k _ (by decide), f1.ma 0 (by decide), hr]
  have a4 : ∀ p, p < 16 → W4.2.1 10 0 0 4 p = capR r p := fun p hp => by rw [← hW4, wsA_r, filI_lt hp, hr3]; rfl
  have a14 : ∀ g f, g < 12 → f < 16 → W4.2.1 10 0 0 14 (16 * g + f) = 0 := fun g f hg hf => by rw [← hW4, wsA_k _ (by decide), ← hW3, wsA_k _ (by decide), ← hW2, wsA_r, filI_lt (by omega)]
  have a13 : ∀ g, g < 12 → W4.2.1 10 0 0 13 g = -1 := fun g hg => by rw [← hW4, wsA_k _ (by decide), ← hW3, wsA_r, filI_lt hg]
  have a7 : W4.1 10 0 0 7 = nI M := by rw [← hW4, ← hW3, ← hW2]; exact g1
  have a6 : ∀ x, x < M → W4.2.1 10 0 0 6 x = nI (O x) := fun x hx => by rw [← hW4, wsA_k _ (by decide), ← hW3, wsA_k _ (by decide), ← hW2, wsA_k _ (by decide)]; exact g2 x hx
  -- step 2
  refine loopE (fun m i (V : WD) => f_X10_worksOut_L53 (b + ad 10 0 0) (fun N16 => f_X10_worksOut_L79 (b + ad 10 0 0) (fun N25 => some ((), N25)) FU (0 : Int32) N16) m (nI i) (wd b V)) M (fun i V => frM [7] [4, 5, 6, 13, 14] [11, 12] W V ∧ V.1 10 0 0 7 = nI M ∧ (∀ x, x < M → V.2.1 10 0 0 6 x = nI (O x)) ∧ (∀ p, p < 16 → V.2.1 10 0 0 4 p = (gvS r dl O i).1 p) ∧ (∀ g f, g < 12 → f < 16 → V.2.1 10 0 0 14 (16 * g + f) = (gvS r dl O i).2.1 g f) ∧ ∀ g, g < 12 → V.2.1 10 0 0 13 g = (gvS r dl O i).2.2 g) (fun z => ∃ W', z = some ((), wd b W') ∧ frM [7] [4, 5, 6, 13, 14] [11, 12] W W' ∧ W'.1 10 0 0 7 = nI M ∧ (∀ x, x < M → W'.2.1 10 0 0 6 x = nI (O x)) ∧ (∀ p, p < 16 → W'.2.1 10 0 0 4 p = finA r dl M O p) ∧ (∀ g f, g < 12 → f < 16 → W'.2.1 10 0 0 14 (16 * g + f) = finR r dl M O g f) ∧ ∀ g, g < 12 → W'.2.1 10 0 0 13 g = (gvS r dl O M).2.2 g) ?_ ?_ FU 0 W4 (by omega) (by have := FUgt; have := hO.1; omega) ⟨f4, a7, a6, a4, a14, a13⟩
  · intro m i V hi ⟨k1, k2, k3, k4, k5, k6⟩
    obtain ⟨o1, o2⟩ := hO.2 i hi
    have hk := hG.2.1 _ o1
    have hrV : V.2.1 10 0 0 0 = r := by rw [k1.ma 0 (by decide), hr]
    have hav := avK_cg k4 (gvS_av hG hT hO i (by omega))
    obtain ⟨V2, e2, p1, p2, p3, p4⟩ := m_gives (b := b) (W := V) hrV hG hT o1 (dl := dl) (by rw [k1.mi 8 (by decide), h8]) hav
    have p0 : frM [7] [4, 5, 6, 13, 14] [11, 12] V V2 := p1.mono (by decide) (by decide) (by decide)
    have h12 := hG.1.2
    have h12' := hO.1
    try dsimp only
    rw [f_X10_worksOut_L53, o10_7 h10, k2, if_neg (le_n hi (by omega)), o10_6 h10, oa10_6 h10 (by omega), k3 i hi, ob2_i e2, nI_1]
    refine ⟨V2, ⟨k1.tr p0, by rw [p1.mi 7 (by decide), k2], fun x hx => by rw [p1.ma 6 (by decide)]; exact k3 x hx, ?_, ?_, ?_⟩, rfl⟩
    · intro p hp
      rw [p2, gvS]
      simp only
      rw [rtS_cg k4]
      exact subS_cg k4 p hp
    · intro g f hg hf
      rw [p4, gvS]
      simp only
      by_cases h : g = O i ∧ f < nF r g
      · rw [if_pos h]
        obtain ⟨rfl, h2⟩ := h
        rw [rtA_in h2, rtS_cg k4]
      · rw [if_neg h, rtA_out hk.2.1 hf (by
          rcases Nat.lt_or_ge f (nF r (O i)) with q | q
          · exact Or.inl (fun z => h ⟨z, by rw [z]; exact q⟩)
          · exact Or.inr q), k5 g f hg hf]
    · intro g hg
      rw [p3, gvS]
      simp only
      by_cases h : g = O i
      · rw [if_pos h, h, pk_us, spn_cg k4]
      · rw [if_neg h, pk_un h, k6 g hg]
  · intro m V ⟨k1, k2, k3, k4, k5, k6⟩
    try dsimp only
    rw [f_X10_worksOut_L53, o10_7 h10, k2, if_pos (le_p (Nat.le_refl _) (by have := hO.1; omega))]
    have hrV : V.2.1 10 0 0 0 = r := by rw [k1.ma 0 (by decide), hr]
    by_cases h2 : r 2 = 1
    · -- step 3
      have eA : finA r dl M O = (shG r O (gvS r dl O M).1 (gvS r dl O M).2.1 M).1 := by unfold finA; rw [if_pos h2]
      have eR : finR r dl M O = (shG r O (gvS r dl O M).1 (gvS r dl O M).2.1 M).2 := by unfold finR; rw [if_pos h2]
      refine loopE (fun m i (V : WD) => f_X10_worksOut_L79 (b + ad 10 0 0) (fun N25 => some ((), N25)) m (nI i) (wd b V)) M (fun i V => frM [7] [4, 5, 6, 13, 14] [11, 12] W V ∧ V.1 10 0 0 7 = nI M ∧ (∀ x, x < M → V.2.1 10 0 0 6 x = nI (O x)) ∧ (∀ p, p < 16 → V.2.1 10 0 0 4 p = (shG r O (gvS r dl O M).1 (gvS r dl O M).2.1 i).1 p) ∧ (∀ g f, g < 12 → f < 16 → V.2.1 10 0 0 14 (16 * g + f) = (shG r O (gvS r dl O M).1 (gvS r dl O M).2.1 i).2 g f) ∧ ∀ g, g < 12 → V.2.1 10 0 0 13 g = (gvS r dl O M).2.2 g) (fun z => ∃ W', z = some ((), wd b W') ∧ frM [7] [4, 5, 6, 13, 14] [11, 12] W W' ∧ W'.1 10 0 0 7 = nI M ∧ (∀ x, x < M → W'.2.1 10 0 0 6 x = nI (O x)) ∧ (∀ p, p < 16 → W'.2.1 10 0 0 4 p = finA r dl M O p) ∧ (∀ g f, g < 12 → f < 16 → W'.2.1 10 0 0 14 (16 * g + f) = finR r dl M O g f) ∧ ∀ g, g < 12 → W'.2.1 10 0 0 13 g = (gvS r dl O M).2.2 g) ?_ ?_ FU 0 V (by omega) (by have := FUgt; have := hO.1; omega) ⟨k1, k2, k3, k4, k5, k6⟩
      · intro m i V hi ⟨k1, k2, k3, k4, k5, k6⟩
        obtain ⟨o1, o2⟩ := hO.2 i hi
        have hk := hG.2.1 _ o1
        have h12 := hG.1.2
        have h12' := hO.1
        have hrV : V.2.1 10 0 0 0 = r := by rw [k1.ma 0 (by decide), hr]
        obtain ⟨V2, e2, p1, p2, p4⟩ := m_shares (b := b) (W := V) (g := O i) hrV (by omega) hk
        have p0 : frM [7] [4, 5, 6, 13, 14] [11, 12] V V2 := p1.mono (by decide) (by decide) (by decide)
        have k5' : ∀ f, f < nF r (O i) → V.2.1 10 0 0 14 (16 * O i + f) = (shG r O (gvS r dl O M).1 (gvS r dl O M).2.1 i).2 (O i) f := fun f hf => k5 (O i) f (by omega) (by have := hk.2.1; omega)
        try dsimp only
        rw [f_X10_worksOut_L79, o10_7 h10, k2, if_neg (le_n hi (by omega)), o10_0 h10, oR0 2 2 rfl (by omega), hrV, if_neg (fun q => q h2), o10_6 h10, oa10_6 h10 (by omega), k3 i hi, ob2_i e2, nI_1]
        refine ⟨V2, ⟨k1.tr p0, by rw [p1.mi 7 (by decide), k2], fun x hx => by rw [p1.ma 6 (by decide)]; exact k3 x hx, ?_, ?_, fun g hg => by rw [p1.ma 13 (by decide)]; exact k6 g hg⟩, rfl⟩
        · intro p hp
          rw [p2, shG]
          exact shA_cg hk k4 k5' _ (Nat.le_refl _) p hp
        · intro g f hg hf
          rw [p4, shG]
          simp only
          by_cases h : g = O i ∧ f < nF r g
          · rw [if_pos h]
            obtain ⟨rfl, h2⟩ := h
            rw [rtA_in h2, k5' f h2, moS_cg hk k4 k5' h2]
          · rw [if_neg h, rtA_out hk.2.1 hf (by
              rcases Nat.lt_or_ge f (nF r (O i)) with q | q
              · exact Or.inl (fun z => h ⟨z, by rw [z]; exact q⟩)
              · exact Or.inr q), k5 g f hg hf]
      · intro m V ⟨k1, k2, k3, k4, k5, k6⟩
        try dsimp only
        rw [f_X10_worksOut_L79, o10_7 h10, k2, if_pos (le_p (Nat.le_refl _) (by have := hO.1; omega))]
        exact ⟨V, rfl, k1, k2, k3, by rw [eA]; exact k4, by rw [eR]; exact k5, k6⟩
    · have eA : finA r dl M O = (gvS r dl O M).1 := by unfold finA; rw [if_neg h2]
      have eR : finR r dl M O = (gvS r dl O M).2.1 := by unfold finR; rw [if_neg h2]
      refine ⟨V, ?_, k1, k2, k3, by rw [eA]; exact k4, by rw [eR]; exact k5, k6⟩
      obtain ⟨q, hq⟩ : ∃ q, FU = q + 1 := ⟨4095, rfl⟩
      rw [hq, f_X10_worksOut_L79, o10_7 h10, k2]
      by_cases hM : nI M ≤ 0
      · rw [if_pos hM]
      · rw [if_neg hM, o10_0 h10, oR0 2 2 rfl (by omega), hrV, if_pos h2]
end
