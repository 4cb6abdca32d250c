/-- an order: active groups, each once, all of them -/
def ordC (r : Nat → Int32) (M : Nat) (O : Nat → Nat) : Prop := ordK r M O ∧ (∀ x y, x < M → y < M → O x = O y → x = y) ∧ ∀ g, g < nG r → stO r g = 1 → ∃ x, x < M ∧ O x = g
theorem gvS_0 {r : Nat → Int32} {dl : Bool} {O : Nat → Nat} {g : Nat} : ∀ k, (∀ x, x < k → O x ≠ g) → ∀ f, (gvS r dl O k).2.1 g f = 0
  | 0, _, f => rfl
  | k + 1, h, f => by
    rw [gvS]
    simp only
    rw [if_neg (fun q => h k (by omega) q.1.symm)]
    exact gvS_0 k (fun x hx => h x (by omega)) f
theorem gvS_S {r : Nat → Int32} {T : Nat} (ho : okR r T) (hT : T ≤ 900000) {dl : Bool} {M : Nat} {O : Nat → Nat} (hO : ordK r M O) : ∀ k, k ≤ M → avS (gvS r dl O k).1
  | 0, _ => ho.cap
  | k + 1, hk => by
    have ih := gvS_S ho hT (dl := dl) hO k (by omega)
    have hg := (hO.2 k (by omega)).1
    intro p hp
    obtain ⟨d, d1, -, d2⟩ := subS_av (ho.tm hT) hg (ho.1.2.1 _ hg) ih.k dl p hp
    have h := (ih p hp).2
    rw [gvS]
    simp only
    rw [d1, vN_nI (by omega)]
    exact ⟨rfl, by omega⟩
theorem subS_z {r : Nat → Int32} {g : Nat} {R A : Nat → Int32} {n : Nat} (h : ∀ f, f < n → R f = 0) : subS r g R A n = A := by
  funext p
  unfold subS
  rw [sumI_cg (g := fun _ => 0) (fun j hj => by rw [h j hj]; exact thr1_0 r g j p), sumI_z, Int32.sub_zero]
section
variable {b : Nat} {W : WD} {t i T : Nat} {r : Nat → Int32}
/-- the rates behind the first k groups of step 2 -/
def gvI (r : Nat → Int32) (i t : Nat) (O : Nat → Nat) (k : Nat) (W V : WD) : Prop := frQ (raQ t i) W V ∧ (∀ p, p < 16 → V.2.1 8 t 0 3 p = (gvS r true O k).1 p) ∧ (∀ g f, g < nG r → f < nF r g → V.2.1 1 i g 5 f = (gvS r true O k).2.1 g f) ∧ ∀ x, x < k → V.2.1 8 t 0 2 (O x) = (gvS r true O k).2.2 (O x)
theorem c_give1 (ht : vo 8 t 0 = true) (hi : i < 8) (hs : stA W i r) (ho : okR r T) (hT : T ≤ 900000) {M : Nat} {O : Nat → Nat} (hO : ordC r M O) (h0 : W.1 8 t 0 0 = nI M) (h1 : ∀ x, x < M → W.2.1 8 t 0 1 x = nI (O x)) {k m : Nat} (hk : k < M) {V : WD} (hI : gvI r i t O k W V) {K : AH → Option (Unit × AH)} : ∃ V', gvI r i t O (k + 1) W V' ∧ f_X8_giveJustRates_L49 (b + ad 8 t 0) (b + ad 7 i 0) K (m + 1) (nI k) (wd b V) = f_X8_giveJustRates_L49 (b + ad 8 t 0) (b + ad 7 i 0) K m (nI (k + 1)) (wd b V') := by
  have h12 := ho.1.1.2
  have hM := hO.1.1
  obtain ⟨o1, o2⟩ := hO.1.2 k hk
  have hv7 := vo7 hi
  have hv4 := vo4 (g := O k) hi (by omega)
  have hv1 := vo1 (g := O k) hi (by omega)
  obtain ⟨k1, k2, k3, k4⟩ := id hI
  have hsV : stA V i r := hs.fr k1 raQ_A
  have hkf := ho.1.2.1 _ o1
  have hA := gvS_S ho hT (dl := true) hO.1 k (by omega)
  have e0 : V.1 8 t 0 0 = nI M := by rw [k1.1 8 t 0 0 (by unfold raQ; omega), h0]
  have e1 : ∀ x, x < M → V.2.1 8 t 0 1 x = nI (O x) := fun x hx => by rw [k1.2.1 8 t 0 1 (by unfold raQ; omega)]; exact h1 x hx
  obtain ⟨V1, s1, s2⟩ := c_spanOf (b := b) (W := V) (t := t) (i := i) (g := O k) (x := b + aa 8 t 0 3) (A := (gvS r true O k).1) (r := r) ht hv1 (hsV.2.2 _ o1).2 hkf hA (fun U hU p hp => by rw [a8_3 ht hp, hU.2.1 8 t 0 3 (by unfold scr; omega), k2 p hp])
  generalize hsp : spn r (O k) (gvS r true O k).1 = sp at *
  have s2' : frQ (raQ t i) W V1 := k1.tr (s2.mono (fun c i g k ⟨h1, h2, h3⟩ => Or.inl ⟨h1, h2, by omega⟩))
  rw [f_X8_giveJustRates_L49, o8_0 ht, e0, if_neg (le_n hk (by omega)), o7_10 hv7, o8_1 ht, oa8_1 ht (by omega), e1 k hk, oa7_10 hv7 (by omega), o4_5 hv4, o8_3 ht, ob2_i s1, o8_2 ht, o8_1 ht, oa8_1 ht (by omega), s2.2.1 8 t 0 1 (by unfold scr; omega), e1 k hk, ot8_2 ht (by omega)]
  generalize hV2 : wsA V1 8 t 0 2 (upd (V1.2.1 8 t 0 2) (O k) sp) = V2
  have f2 : frQ (raQ t i) W V2 := by rw [← hV2]; exact s2'.tr (frQ.A (Or.inl ⟨rfl, rfl, by omega⟩))
  have a3 : ∀ p, p < 16 → V2.2.1 8 t 0 3 p = (gvS r true O k).1 p := fun p hp => by rw [← hV2, wsA_n _ (by omega), s2.2.1 8 t 0 3 (by unfold scr; omega)]; exact k2 p hp
  have a5 : ∀ g f, g < nG r → f < nF r g → V2.2.1 1 i g 5 f = (gvS r true O k).2.1 g f := fun g f hg hf => by rw [← hV2, wsA_n _ (by omega), s2.2.1 1 i g 5 (by unfold scr; omega)]; exact k3 g f hg hf
  have a2 : ∀ x, x < k + 1 → V2.2.1 8 t 0 2 (O x) = (gvS r true O (k + 1)).2.2 (O x) := by
    intro x hx
    rw [← hV2, wsA_r, gvS]
    simp only
    by_cases hxk : O x = O k
    · rw [if_pos hxk, hxk, pk_us, hsp]
    · rw [if_neg hxk, pk_un hxk, s2.2.1 8 t 0 2 (by unfold scr; omega)]
      have : x ≠ k := fun q => hxk (by rw [q])
      exact k4 x (by omega)
  have hs2 : stA V2 i r := hs.fr f2 raQ_A
  have z5 : ∀ f, f < nF r (O k) → V2.2.1 1 i (O k) 5 f = 0 := fun f hf => by
    rw [a5 _ f o1 hf]
    exact gvS_0 k (fun x hx q => by have := hO.2.1 x k (by omega) hk q; omega) f
  have goal1 : ∀ V3, rsI r i t (O k) (rtS r true (O k) (gvS r true O k).1) (subS r (O k) (rtS r true (O k) (gvS r true O k).1) (V2.2.1 8 t 0 3) (nF r (O k))) (nF r (O k)) V2 V3 → gvI r i t O (k + 1) W V3 := by
    intro V3 ⟨q1, q2, q3, q4, q5, q6⟩
    refine ⟨f2.tr q1, ?_, ?_, ?_⟩
    · intro p hp
      rw [q2 p hp, gvS]
      exact subS_cg a3 p hp
    · intro g f hg hf
      rw [gvS]
      simp only
      by_cases h : g = O k
      · subst h
        rw [if_pos ⟨rfl, hf⟩]
        exact q3 f hf
      · rw [if_neg (fun q => h q.1), q5 g h]
        exact a5 g f hg hf
    · intro x hx
      rw [q6]
      exact a2 x hx
  by_cases hm1 : sp = -1
  · rw [if_neg (fun q => q hm1), nI_1]
    refine ⟨V2, ⟨f2, ?_, ?_, a2⟩, rfl⟩
    · intro p hp
      rw [gvS]
      simp only
      rw [subS_z (fun f hf => by unfold rtS; rw [hsp, if_pos hm1])]
      exact a3 p hp
    · intro g f hg hf
      rw [gvS]
      simp only
      by_cases h : g = O k
      · subst h
        rw [if_pos ⟨rfl, hf⟩, z5 f hf]
        unfold rtS
        rw [hsp, if_pos hm1]
      · rw [if_neg (fun q => h q.1)]
        exact a5 g f hg hf
  · have hspan := isSpan_ex (r := r) (g := O k) (A := (gvS r true O k).1)
    rw [hsp] at hspan
    obtain ⟨y, y1, y2, y3, -⟩ := hspan.resolve_left (fun q => hm1 q.1)
    obtain ⟨z, z1, z2, z3⟩ := byS_ok (ho.tm hT) o1 (dl := true) y1 y2
    rw [← y3] at z1
    have hrt : rtS r true (O k) (gvS r true O k).1 = fun f => upI (fO r (O k) f 3) (nI z) := by
      funext f
      unfold rtS
      rw [hsp, if_neg hm1, z1]
    have fin : ∀ w : Int32, w = byS r true (O k) sp → ∃ V', gvI r i t O (k + 1) W V' ∧ (ob2 (f_X8_spread (b + ad 8 t 0) (b + ad 1 i (O k)) w (wd b V2)) fun _ N30 => f_X8_giveJustRates_L49 (b + ad 8 t 0) (b + ad 7 i 0) K m (nI k + 1) N30) = f_X8_giveJustRates_L49 (b + ad 8 t 0) (b + ad 7 i 0) K m (nI (k + 1)) (wd b V') := by
      intro w hw
      rw [hw, z1]
      obtain ⟨V3, p1, p2⟩ := c_spread (b := b) (W := V2) (t := t) (i := i) (r := r) (g := O k) (z := z) ht hi (by omega) (hs2.2.2 _ o1).2 hkf (by omega) z3 z5
      rw [ob2_i p1, nI_1]
      rw [← hrt] at p2
      exact ⟨V3, goal1 V3 p2, rfl⟩
    have h3 := ho.2.2.2.2.2.1.2
    rw [if_pos hm1, o7_3 hv7, hs2.1 3 (by omega)]
    by_cases hr3 : r 3 = 0
    · rw [if_pos hr3, o4_5 hv4]
      refine fin sp ?_
      unfold byS
      rw [if_neg hm1, if_neg (by decide), if_pos (show hdS r (O k) = false by simp [hdS, hr3])]
    · have hr31 : r 3 = 1 := h3.resolve_left hr3
      rw [if_neg hr3, o4_2 hv4, (hs2.2.2 _ o1).1 2 (by omega)]
      by_cases h2 : gO r (O k) 2 ≤ 0
      · rw [if_pos h2, o4_5 hv4]
        refine fin sp ?_
        unfold byS
        rw [if_neg hm1, if_neg (by decide), if_pos (show hdS r (O k) = false by simp [hdS, h2])]
      · rw [if_neg h2, ob2_i (c_deadlineEnd (b := b) hv4 (hs2.2.2 _ o1).1), o7_0 hv7, hs2.1 0 (by omega), ob2_i c_max, o4_5 hv4]
        refine fin _ ?_
        have e : byS r true (O k) sp = if leftS r (O k) ≤ sp then sp else leftS r (O k) := by
          unfold byS
          rw [if_neg hm1, if_neg (by decide), if_neg (show ¬ hdS r (O k) = false by simp [hdS, h2, hr31])]
        rw [e]
        show (if sp < leftS r (O k) then leftS r (O k) else sp) = _
        by_cases hl : leftS r (O k) ≤ sp
        · rw [if_pos hl, if_neg (Int32.not_lt.mpr hl)]
        · rw [if_neg hl, if_pos (Int32.not_le.mp hl)]
theorem c_give (ht : vo 8 t 0 = true) (hi : i < 8) (hs : stA W i r) (ho : okR r T) (hT : T ≤ 900000) {M : Nat} {O : Nat → Nat} (hO : ordC r M O) (h0 : W.1 8 t 0 0 = nI M) (h1 : ∀ x, x < M → W.2.1 8 t 0 1 x = nI (O x)) : ∃ V, f_X8_giveJustRates (b + ad 8 t 0) (b + ad 7 i 0) (wd b W) = some ((), wd b V) ∧ gvI r i t O M W V := by
  have h12 := ho.1.1.2
  have h6 := ho.1.1.1
  have hM := hO.1.1
  have hv7 := vo7 hi
  unfold f_X8_giveJustRates
  rw [oO_8 ht, o7_7 hv7, o8_3 ht, li 16, ob_i (gA_copy (isA_7_7 hi) (isA_8_3 ht) (Nat.le_refl _) (Nat.le_refl _))]
  generalize hW1 : wsA W 8 t 0 3 (va_cpy (W.2.1 7 i 0 7) (W.2.1 8 t 0 3) 0 0 16) = W1
  have f1 : frQ (raQ t i) W W1 := by rw [← hW1]; exact frQ.A (Or.inl ⟨rfl, rfl, by omega⟩)
  have c1 : ∀ p, p < 16 → W1.2.1 8 t 0 3 p = capR r p := fun p hp => by
    rw [← hW1, wsA_r, pk_cpy_in (by omega) (by omega), show 0 + (p - 0) = p by omega, hs.2.1 p hp]
    rfl
  refine loopE (fun m g (V : WD) => f_X8_giveJustRates_L17 (b + ad 8 t 0) (b + ad 7 i 0) (fun N11 => f_X8_giveJustRates_L49 (b + ad 8 t 0) (b + ad 7 i 0) (fun N42 => some ((), N42)) FU (0 : Int32) N11) m (nI g) (wd b V)) (nG r) (fun g V => frQ (raQ t i) W V ∧ (∀ p, p < 16 → V.2.1 8 t 0 3 p = capR r p) ∧ ∀ q f, q < g → f < 16 → V.2.1 1 i q 5 f = 0) (fun y => ∃ V, y = some ((), wd b V) ∧ gvI r i t O M W V) ?_ ?_ FU 0 W1 (by omega) (by have := FUgt; omega) ⟨f1, c1, fun q f hq => absurd hq (Nat.not_lt_zero q)⟩
  · intro m g V hg ⟨k1, k2, k3⟩
    have hsV : stA V i r := hs.fr k1 raQ_A
    have hv4 := vo4 (g := g) hi (by omega)
    have hv1 := vo1 (g := g) hi (by omega)
    try dsimp only
    rw [f_X8_giveJustRates_L17, o7_6 hv7, hsV.1 6 (by omega), h6, if_neg (le_n hg (by omega)), o7_10 hv7, oa7_10 hv7 (by omega), o4_5 hv4, o1_5 hv1, ob2_i (gA_fill (isA_1_5 hi (by omega))), nI_1]
    refine ⟨_, ⟨k1.tr (frQ.A (Or.inr ⟨rfl, rfl, rfl⟩)), fun p hp => by rw [wsA_n _ (by omega)]; exact k2 p hp, fun q f hq hf => ?_⟩, rfl⟩
    by_cases hqg : q = g
    · rw [hqg, wsA_r, filI_lt hf]
    · rw [wsA_n _ (by omega)]
      exact k3 q f (by omega) hf
  · intro m V ⟨k1, k2, k3⟩
    have hsV : stA V i r := hs.fr k1 raQ_A
    try dsimp only
    rw [f_X8_giveJustRates_L17, o7_6 hv7, hsV.1 6 (by omega), h6, if_pos (le_p (Nat.le_refl _) (by omega))]
    refine loopE (fun m k (V : WD) => f_X8_giveJustRates_L49 (b + ad 8 t 0) (b + ad 7 i 0) (fun N42 => some ((), N42)) m (nI k) (wd b V)) M (fun k V => gvI r i t O k W V) (fun y => ∃ V, y = some ((), wd b V) ∧ gvI r i t O M W V) ?_ ?_ FU 0 V (by omega) (by have := FUgt; omega) ⟨k1, k2, fun g f hg hf => by rw [k3 g f hg (by have := (ho.1.2.1 g hg).2.1; omega)]; rfl, fun x hx => absurd hx (Nat.not_lt_zero x)⟩
    · intro m k V hk hI
      exact c_give1 (b := b) ht hi hs ho hT hO h0 h1 hk hI
    · intro m V hI
      try dsimp only
      rw [f_X8_giveJustRates_L49, o8_0 ht, hI.1.1 8 t 0 0 (by unfold raQ; omega), h0, if_pos (le_p (Nat.le_refl _) (by omega))]
      exact ⟨V, rfl, hI⟩
/-- the rates behind steps 2 and 3 -/
def fnI (r : Nat → Int32) (i t M : Nat) (O : Nat → Nat) (W V : WD) : Prop := frQ (raQ t i) W V ∧ (∀ p, p < 16 → V.2.1 8 t 0 3 p = finA r true M O p) ∧ (∀ g f, g < nG r → f < nF r g → V.2.1 1 i g 5 f = finR r true M O g f) ∧ ∀ x, x < M → V.2.1 8 t 0 2 (O x) = (gvS r true O M).2.2 (O x)
theorem c_share (ht : vo 8 t 0 = true) (hi : i < 8) {W0 : WD} (hs : stA W0 i r) (ho : okR r T) (hT : T ≤ 900000) {M : Nat} {O : Nat → Nat} (hO : ordC r M O) (h0 : W0.1 8 t 0 0 = nI M) (h1 : ∀ x, x < M → W0.2.1 8 t 0 1 x = nI (O x)) (hI : gvI r i t O M W0 W) : ∃ V, f_X8_shareSpare (b + ad 8 t 0) (b + ad 7 i 0) (wd b W) = some ((), wd b V) ∧ fnI r i t M O W0 V := by
  have h12 := ho.1.1.2
  have hM := hO.1.1
  have hv7 := vo7 hi
  obtain ⟨j1, j2, j3, j4⟩ := hI
  have hsW : stA W i r := hs.fr j1 raQ_A
  unfold f_X8_shareSpare
  rw [oO_8 ht, o7_2 hv7, hsW.1 2 (by omega)]
  rcases ho.2.2.2.2.2.1.1 with hr2 | hr2
  · rw [if_neg (fun q => q hr2)]
    have hne : ¬ r 2 = 1 := by rw [hr2]; decide
    refine ⟨W, rfl, j1, ?_, ?_, j4⟩
    · unfold finA
      rw [if_neg hne]
      exact j2
    · unfold finR
      rw [if_neg hne]
      exact j3
  · rw [if_pos (show ¬ r 2 = 0 by rw [hr2]; decide)]
    have hG := ho.1
    have hT' := ho.tm hT
    have fA : finA r true M O = (shG r O (gvS r true O M).1 (gvS r true O M).2.1 M).1 := by unfold finA; rw [if_pos hr2]
    have fR : finR r true M O = (shG r O (gvS r true O M).1 (gvS r true O M).2.1 M).2 := by unfold finR; rw [if_pos hr2]
    have hav : ∀ k, k ≤ M → avK (shG r O (gvS r true O M).1 (gvS r true O M).2.1 k).1 ∧ ∀ g, g < nG r → ∀ f, f < nF r g → ∃ x, (shG r O (gvS r true O M).1 (gvS r true O M).2.1 k).2 g f = nI x ∧ x ≤ vN (fO r g f 3) := by
      intro k
      induction k with
      | zero => exact fun _ => ⟨gvS_av hG hT' hO.1 M (Nat.le_refl _), fun g _ f _ => gvS_rt hG hT' hO.1 M (Nat.le_refl _) g f⟩
      | succ k ih =>
        intro hk
        obtain ⟨i1, i2⟩ := ih (by omega)
        have o1 := (hO.1.2 k (by omega)).1
        refine ⟨shA_av (hG.2.1 _ o1) i1 (i2 _ o1) _ (Nat.le_refl _), fun g hg f hf => ?_⟩
        rw [shG]
        simp only
        by_cases h : g = O k ∧ f < nF r g
        · rw [if_pos h]
          obtain ⟨x, x1, x2, x3⟩ := moS_ok (hG.2.1 _ hg) i1 (i2 _ hg) hf
          exact x2
        · rw [if_neg h]
          exact i2 g hg f hf
    refine loopE (fun m k (V : WD) => f_X8_shareSpare_L10 (b + ad 8 t 0) (b + ad 7 i 0) (fun N30 => some ((), N30)) m (nI k) (wd b V)) M (fun k V => frQ (raQ t i) W0 V ∧ (∀ p, p < 16 → V.2.1 8 t 0 3 p = (shG r O (gvS r true O M).1 (gvS r true O M).2.1 k).1 p) ∧ (∀ g f, g < nG r → f < nF r g → V.2.1 1 i g 5 f = (shG r O (gvS r true O M).1 (gvS r true O M).2.1 k).2 g f) ∧ ∀ x, x < M → V.2.1 8 t 0 2 (O x) = (gvS r true O M).2.2 (O x)) (fun y => ∃ V, y = some ((), wd b V) ∧ fnI r i t M O W0 V) ?_ ?_ FU 0 W (by omega) (by have := FUgt; omega) ⟨j1, j2, j3, j4⟩
    · intro m k V hk ⟨k1, k2, k3, k4⟩
      obtain ⟨o1, o2⟩ := hO.1.2 k hk
      have hsV : stA V i r := hs.fr k1 raQ_A
      have hv4 := vo4 (g := O k) hi (by omega)
      have e0 : V.1 8 t 0 0 = nI M := by rw [k1.1 8 t 0 0 (by unfold raQ; omega), h0]
      have e1 : V.2.1 8 t 0 1 k = nI (O k) := by rw [k1.2.1 8 t 0 1 (by unfold raQ; omega)]; exact h1 k hk
      obtain ⟨V', p1, q1, q2, q3, q4, q5, q6⟩ := c_share1 (b := b) (W := V) (t := t) (i := i) (r := r) (g := O k) ht hi (by omega) (hsV.2.2 _ o1).2 (hG.2.1 _ o1) (R := (shG r O (gvS r true O M).1 (gvS r true O M).2.1 k).2 (O k)) (A := (shG r O (gvS r true O M).1 (gvS r true O M).2.1 k).1) (hav k (by omega)).1 k2 ((hav k (by omega)).2 _ o1) (fun f hf => k3 _ f o1 hf) (v1 := b + ad 7 i 0) (v2 := nI k) (k := fun N29 => f_X8_shareSpare_L10 (b + ad 8 t 0) (b + ad 7 i 0) (fun N30 => some ((), N30)) m (nI k + 1) N29)
      try dsimp only
      rw [f_X8_shareSpare_L10, o8_0 ht, e0, if_neg (le_n hk (by omega)), o7_10 hv7, o8_1 ht, oa8_1 ht (by omega), e1, oa7_10 hv7 (by omega), o4_5 hv4, p1, nI_1]
      refine ⟨V', ⟨k1.tr q1, ?_, ?_, fun x hx => by rw [q6]; exact k4 x hx⟩, rfl⟩
      · intro p hp
        rw [q2 p hp, shG]
      · intro g f hg hf
        rw [shG]
        simp only
        by_cases h : g = O k
        · subst h
          rw [if_pos ⟨rfl, hf⟩]
          exact q3 f hf
        · rw [if_neg (fun q => h q.1), q5 g h]
          exact k3 g f hg hf
    · intro m V ⟨k1, k2, k3, k4⟩
      try dsimp only
      rw [f_X8_shareSpare_L10, o8_0 ht, k1.1 8 t 0 0 (by unfold raQ; omega), h0, if_pos (le_p (Nat.le_refl _) (by omega))]
      exact ⟨V, rfl, k1, by rw [fA]; exact k2, by rw [fR]; exact k3, k4⟩
end
