/-! arrays of ints, wherever they stand -/
def isA (c i g k n : Nat) : Prop := aa c i g k < 836 ∧ dc (aa c i g k) = (c, i, g, k + 1) ∧ n < 4000 ∧ ∀ b W, arr b W c i g k = .inr (0, n, .inl (W.2.1 c i g k))
theorem isA_0_2 {i : Nat} (h : i < 8) : isA 0 i 0 2 20 := ⟨(aa_0_2 (vo0 h)).1, (aa_0_2 (vo0 h)).2, by omega, fun _ _ => rfl⟩
theorem isA_0_3 {i : Nat} (h : i < 8) : isA 0 i 0 3 20 := ⟨(aa_0_3 (vo0 h)).1, (aa_0_3 (vo0 h)).2, by omega, fun _ _ => rfl⟩
theorem isA_0_4 {i : Nat} (h : i < 8) : isA 0 i 0 4 20 := ⟨(aa_0_4 (vo0 h)).1, (aa_0_4 (vo0 h)).2, by omega, fun _ _ => rfl⟩
theorem isA_1_1 {i g : Nat} (h : i < 8) (hg : g < 12) : isA 1 i g 1 16 := ⟨(aa_1_1 (vo1 h hg)).1, (aa_1_1 (vo1 h hg)).2, by omega, fun _ _ => rfl⟩
theorem isA_1_2 {i g : Nat} (h : i < 8) (hg : g < 12) : isA 1 i g 2 16 := ⟨(aa_1_2 (vo1 h hg)).1, (aa_1_2 (vo1 h hg)).2, by omega, fun _ _ => rfl⟩
theorem isA_1_3 {i g : Nat} (h : i < 8) (hg : g < 12) : isA 1 i g 3 16 := ⟨(aa_1_3 (vo1 h hg)).1, (aa_1_3 (vo1 h hg)).2, by omega, fun _ _ => rfl⟩
theorem isA_1_4 {i g : Nat} (h : i < 8) (hg : g < 12) : isA 1 i g 4 16 := ⟨(aa_1_4 (vo1 h hg)).1, (aa_1_4 (vo1 h hg)).2, by omega, fun _ _ => rfl⟩
theorem isA_1_5 {i g : Nat} (h : i < 8) (hg : g < 12) : isA 1 i g 5 16 := ⟨(aa_1_5 (vo1 h hg)).1, (aa_1_5 (vo1 h hg)).2, by omega, fun _ _ => rfl⟩
theorem isA_11_1 {i : Nat} (h : i < 8) : isA 11 i 0 1 16 := ⟨(aa_11_1 (vo11 h)).1, (aa_11_1 (vo11 h)).2, by omega, fun _ _ => rfl⟩
theorem isA_11_2 {i : Nat} (h : i < 8) : isA 11 i 0 2 16 := ⟨(aa_11_2 (vo11 h)).1, (aa_11_2 (vo11 h)).2, by omega, fun _ _ => rfl⟩
theorem isA_11_3 {i : Nat} (h : i < 8) : isA 11 i 0 3 16 := ⟨(aa_11_3 (vo11 h)).1, (aa_11_3 (vo11 h)).2, by omega, fun _ _ => rfl⟩
theorem isA_11_4 {i : Nat} (h : i < 8) : isA 11 i 0 4 16 := ⟨(aa_11_4 (vo11 h)).1, (aa_11_4 (vo11 h)).2, by omega, fun _ _ => rfl⟩
theorem isA_11_5 {i : Nat} (h : i < 8) : isA 11 i 0 5 16 := ⟨(aa_11_5 (vo11 h)).1, (aa_11_5 (vo11 h)).2, by omega, fun _ _ => rfl⟩
theorem isA_7_7 {i : Nat} (h : i < 8) : isA 7 i 0 7 16 := ⟨(aa_7_7 (vo7 h)).1, (aa_7_7 (vo7 h)).2, by omega, fun _ _ => rfl⟩
theorem isA_7_8 {i : Nat} (h : i < 8) : isA 7 i 0 8 16 := ⟨(aa_7_8 (vo7 h)).1, (aa_7_8 (vo7 h)).2, by omega, fun _ _ => rfl⟩
theorem isA_8_3 {i : Nat} (h : vo 8 i 0 = true) : isA 8 i 0 3 16 := ⟨(aa_8_3 h).1, (aa_8_3 h).2, by omega, fun _ _ => rfl⟩
theorem isA_6_0 {i : Nat} (h : vo 6 i 0 = true) : isA 6 i 0 0 16 := ⟨(aa_6_0 h).1, (aa_6_0 h).2, by omega, fun _ _ => rfl⟩
theorem isA_3_4 : isA 3 0 0 4 4 := ⟨(aa_3_4 rfl).1, (aa_3_4 rfl).2, by omega, fun _ _ => rfl⟩
theorem isA_3_6 : isA 3 0 0 6 4 := ⟨(aa_3_6 rfl).1, (aa_3_6 rfl).2, by omega, fun _ _ => rfl⟩
section
variable {b : Nat} {W : WD} {c i g k n c' i' g' k' n' : Nat}
theorem gA_q (h : isA c i g k n) : (wd b W).2 (b + aa c i g k) = some (.inr (0, n, .inl (W.2.1 c i g k))) := by
  rw [wd_at h.1, h.2.1, ← h.2.2.2 b W]
  rfl
theorem gA_up (h : isA c i g k n) {F : Nat → Int32} : ab_up (wd b W) (b + aa c i g k) (.inr (0, n, .inl F)) = wd b (wsA W c i g k F) := by
  refine wd_up h.1 ?_ (by rw [h.2.1]; exact cel_wsA)
  rw [h.2.1]
  have e := h.2.2.2 b (wsA W c i g k F)
  rw [wsA_r] at e
  rw [← e]
  rfl
theorem gA_copy (h : isA c i g k n) (h' : isA c' i' g' k' n') {m : Nat} (hm : m ≤ n) (hm' : m ≤ n') : cI (wd b W) (b + aa c i g k) (0 : Int32) (b + aa c' i' g' k') (0 : Int32) (nI m) = some (wd b (wsA W c' i' g' k' (va_cpy (W.2.1 c i g k) (W.2.1 c' i' g' k') 0 0 m))) := by
  have hn := h.2.2.1
  have hc : (nI m).toNatClampNeg = m := nI_clamp (by omega)
  have h0 : (0 : Int32).toNatClampNeg = 0 := rfl
  have hneg : ¬ nI m < 0 := lt_n (b := 0) (by omega) (by omega)
  have hcond : ¬ ((0 : Int32) < 0 ∨ (0 : Int32) < 0 ∨ nI m < 0 ∨ n < (0 : Int32).toNatClampNeg + (nI m).toNatClampNeg ∨ n' < (0 : Int32).toNatClampNeg + (nI m).toNatClampNeg) := by
    rw [hc, h0]
    rintro (q | q | q | q | q)
    · exact absurd q (by decide)
    · exact absurd q (by decide)
    · exact hneg q
    · omega
    · omega
  simp only [cI, gA_q h, gA_q h']
  rw [if_neg hcond, hc, h0, gA_up h']
theorem gA_fill (h : isA c i g k n) {v : Int32} : f_J7_fill_53178 (b + aa c i g k) v (wd b W) = some ((), wd b (wsA W c i g k (filI (W.2.1 c i g k) n (fun _ => v)))) := by
  have hn := h.2.2.1
  have hLen : aL (wd b W) (b + aa c i g k) = some (nI n) := by
    simp only [aL, gA_q h]
    rfl
  have hS : ∀ (W1 : WD) (x : Nat) (y : Int32), x < n → sI (wd b W1) (b + aa c i g k) (nI x) y = some (wd b (wsA W1 c i g k (upd (W1.2.1 c i g k) x y))) := by
    intro W1 x y hx
    have e1 : (nI x).toNatClampNeg = x := nI_clamp (by omega)
    have e2 : ¬ (nI x < 0 ∨ n ≤ (nI x).toNatClampNeg) := nI_in hx (by omega)
    rw [e1] at e2
    simp only [sI, gA_q h, if_neg e2, e1]
    rw [gA_up h]
  unfold f_J7_fill_53178
  rw [ob_i hLen]
  have e := loopN (fun m j => f_J7_fill_53178_L5 (b + aa c i g k) v (nI n) (fun N4 => some ((), N4)) m (nI j) (wd b (wsA W c i g k (filI (W.2.1 c i g k) j (fun _ => v))))) n (y := some ((), wd b (wsA W c i g k (filI (W.2.1 c i g k) n (fun _ => v))))) ?_ ?_ FU 0 (by omega) (by have := FUgt; omega)
  · rw [filI_0, wsA_s] at e
    exact e
  · intro m j hj
    try dsimp only
    rw [f_J7_fill_53178_L5, if_neg (le_n hj (by omega)), ob_i (hS _ j v hj), nI_1, wsA_r, wsA_2, filI_s _ (fun _ => v)]
  · intro m
    try dsimp only
    rw [f_J7_fill_53178_L5, if_pos (le_p (Nat.le_refl _) (by omega))]
end
/-! steps 2 and 3 of the class -/
def stA (W : WD) (i : Nat) (r : Nat → Int32) : Prop := (∀ k, k < 4 ∨ k = 6 → W.1 7 i 0 k = r k) ∧ (∀ p, p < 16 → W.2.1 7 i 0 7 p = r (10 + p)) ∧ ∀ g, g < nG r → (∀ k, k < 5 → W.1 4 i g k = gO r g k) ∧ flR W i g r
theorem stR.a {W : WD} {i : Nat} {r : Nat → Int32} (h : stR W i r) : stA W i r := ⟨fun k hk => h.1 k (by omega), fun p hp => (h.2.1 p hp).1, fun g hg => ⟨(h.2.2.2.1 g hg).1, (h.2.2.2.1 g hg).2.1⟩⟩
theorem stA.fr {Q : Nat → Nat → Nat → Nat → Prop} {W V : WD} {i : Nat} {r : Nat → Int32} (h : stA W i r) (hf : frQ Q W V) (hq : ∀ c g k, (c = 7 ∧ k ≠ 4 ∧ k ≠ 5 ∧ k < 8) ∨ c = 4 ∨ (c = 1 ∧ k < 5) → ¬ Q c i g k) : stA V i r := by
  refine ⟨fun k hk => by rw [hf.1 7 i 0 k (hq _ _ _ (by omega))]; exact h.1 k hk, ?_, fun g hg => ⟨fun k hk => by rw [hf.1 4 i g k (hq _ _ _ (by omega))]; exact (h.2.2 g hg).1 k hk, (h.2.2 g hg).2.fr hf (fun k hk => hq _ _ _ (by omega))⟩⟩
  rw [hf.2.1 7 i 0 7 (hq _ _ _ (by omega))]
  exact h.2.1
def raQ (t s : Nat) : Nat → Nat → Nat → Nat → Prop := fun c i _ k => (c = 8 ∧ i = t ∧ (k = 2 ∨ k = 3 ∨ k = 8 ∨ k = 9 ∨ k = 10)) ∨ (c = 1 ∧ i = s ∧ k = 5)
theorem raQ_A {t s i : Nat} : ∀ c g k, (c = 7 ∧ k ≠ 4 ∧ k ≠ 5 ∧ k < 8) ∨ c = 4 ∨ (c = 1 ∧ k < 5) → ¬ raQ t s c i g k := by
  intro c g k h
  unfold raQ
  omega
section
variable {b : Nat} {W : WD} {t i : Nat} {r : Nat → Int32}
theorem c_raise {g f : Nat} (ht : vo 8 t 0 = true) (hv : vo 1 i g = true) (hf : flR W i g r) (hk : flK r g (nF r g)) (hff : f < nF r g) {x : Int32} : f_X8_raise (b + ad 8 t 0) (b + ad 1 i g) (nI f) x (wd b W) = some ((), wd b (wsA (wsA W 1 i g 5 (upd (W.2.1 1 i g 5) f (W.2.1 1 i g 5 f + x))) 8 t 0 3 (fun p => W.2.1 8 t 0 3 p - thr1 r g f p x))) := by
  obtain ⟨⟨s1, s2⟩, ⟨t1, t2⟩, -⟩ := hk.2.2 f hff
  have h16 := hk.2.1
  obtain ⟨x1, x2, x3, x4⟩ := hf.2 f hff
  unfold f_X8_raise
  rw [oO_8 ht, o1_5 hv, oa1_5 hv (by omega), ot1_5 hv (by omega), o8_3 ht, o1_1 hv, oa1_1 hv (by omega), wsA_n _ (by omega), x1, s1, oa8_3 ht (by omega), wsA_n _ (by omega), ot8_3 ht (by omega), wsA_n _ (by omega), o8_3 ht, o1_2 hv, oa1_2 hv (by omega), wsA_n _ (by omega), wsA_n _ (by omega), x2, t1, li 8, nI_add, oa8_3 ht (by omega), wsA_r, ot8_3 ht (by omega), wsA_r, wsA_2, upd_sub2 (by omega)]
  rfl
/-- the rates of a group are raised one after the other -/
def rsI (r : Nat → Int32) (i t g : Nat) (R A : Nat → Int32) (n : Nat) (W V : WD) : Prop := frQ (raQ t i) W V ∧ (∀ p, p < 16 → V.2.1 8 t 0 3 p = A p) ∧ (∀ f, f < n → V.2.1 1 i g 5 f = R f) ∧ (∀ f, n ≤ f → V.2.1 1 i g 5 f = W.2.1 1 i g 5 f) ∧ (∀ g', g' ≠ g → V.2.1 1 i g' 5 = W.2.1 1 i g' 5) ∧ V.2.1 8 t 0 2 = W.2.1 8 t 0 2
theorem rsI.step {g f : Nat} {R A : Nat → Int32} {V : WD} (h : rsI r i t g R A f W V) {x : Int32} (hx : W.2.1 1 i g 5 f + x = R f) : rsI r i t g R (fun p => A p - thr1 r g f p x) (f + 1) W (wsA (wsA V 1 i g 5 (upd (V.2.1 1 i g 5) f (V.2.1 1 i g 5 f + x))) 8 t 0 3 (fun p => V.2.1 8 t 0 3 p - thr1 r g f p x)) := by
  obtain ⟨h1, h2, h3, h4, h5, h6⟩ := h
  refine ⟨h1.tr ((frQ.A (Or.inr ⟨rfl, rfl, rfl⟩)).tr (frQ.A (Or.inl ⟨rfl, rfl, by omega⟩))), ?_, ?_, ?_, ?_, ?_⟩
  · intro p hp
    rw [wsA_r, h2 p hp]
  · intro q hq
    rw [wsA_n _ (by omega), wsA_r]
    by_cases hqf : q = f
    · rw [hqf, pk_us, h4 f (Nat.le_refl _), hx]
    · rw [pk_un hqf]
      exact h3 q (by omega)
  · intro q hq
    rw [wsA_n _ (by omega), wsA_r, pk_un (by omega)]
    exact h4 q (by omega)
  · intro g' hg'
    rw [wsA_n _ (by omega), wsA_n _ (by omega)]
    exact h5 g' hg'
  · rw [wsA_n _ (by omega), wsA_n _ (by omega)]
    exact h6
theorem c_spread {g z : Nat} (ht : vo 8 t 0 = true) (hi : i < 8) (hg : g < 12) (hf : flR W i g r) (hk : flK r g (nF r g)) (hz : 1 ≤ z) (hz2 : z ≤ 3000000) (h0 : ∀ f, f < nF r g → W.2.1 1 i g 5 f = 0) : ∃ V, f_X8_spread (b + ad 8 t 0) (b + ad 1 i g) (nI z) (wd b W) = some ((), wd b V) ∧ rsI r i t g (fun f => upI (fO r g f 3) (nI z)) (subS r g (fun f => upI (fO r g f 3) (nI z)) (W.2.1 8 t 0 3) (nF r g)) (nF r g) W V := by
  have hv := vo1 hi hg
  have h16 := hk.2.1
  unfold f_X8_spread
  rw [oO_8 ht]
  refine loopE (fun m j (V : WD) => f_X8_spread_L2 (b + ad 8 t 0) (b + ad 1 i g) (nI z) (fun N8 => some ((), N8)) m (nI j) (wd b V)) (nF r g) (fun j V => rsI r i t g (fun f => upI (fO r g f 3) (nI z)) (subS r g (fun f => upI (fO r g f 3) (nI z)) (W.2.1 8 t 0 3) j) j W V) (fun y => ∃ V, y = some ((), wd b V) ∧ rsI r i t g (fun f => upI (fO r g f 3) (nI z)) (subS r g (fun f => upI (fO r g f 3) (nI z)) (W.2.1 8 t 0 3) (nF r g)) (nF r g) W V) ?_ ?_ FU 0 W (by omega) (by have := FUgt; omega) ⟨frQ.rf, fun p hp => by rw [subS_0], fun f hff => absurd hff (Nat.not_lt_zero f), fun _ _ => rfl, fun _ _ => rfl, rfl⟩
  · intro m j V hj hI
    have hfV : flR V i g r := hf.fr hI.1 (fun k hk => raQ_A _ _ _ (by omega))
    obtain ⟨-, -, q1, q2⟩ := hk.2.2 j hj
    have eu : f_X9_roundedUp (fO r g j 3) (nI z) (wd b V) = some (upI (fO r g j 3) (nI z), wd b V) := by
      rw [q1, c_upN (by omega) (by omega), upI_nI (by omega) (by omega)]
    try dsimp only
    rw [f_X8_spread_L2, o1_0 hv, hfV.1, hk.1, if_neg (le_n hj (by omega)), o1_4 hv, oa1_4 hv (by omega), (hfV.2 j hj).2.2.2, ob2_i eu, ob2_i (c_raise (b := b) ht hv hfV hk hj), nI_1]
    refine ⟨_, ?_, rfl⟩
    have hst := hI.step (x := upI (fO r g j 3) (nI z)) (by rw [h0 j hj, Int32.zero_add])
    rw [← subS_s]
    exact hst
  · intro m V hI
    have hfV : flR V i g r := hf.fr hI.1 (fun k hk => raQ_A _ _ _ (by omega))
    try dsimp only
    rw [f_X8_spread_L2, o1_0 hv, hfV.1, hk.1, if_pos (le_p (Nat.le_refl _) (by omega))]
    exact ⟨V, rfl, hI⟩
/-- one group gets what is spare -/
theorem c_share1 {g : Nat} (ht : vo 8 t 0 = true) (hi : i < 8) (hg : g < 12) (hf : flR W i g r) (hk : flK r g (nF r g)) {R A : Nat → Int32} (hA : avK A) (hA2 : ∀ p, p < 16 → W.2.1 8 t 0 3 p = A p) (hR : ∀ f, f < nF r g → ∃ x, R f = nI x ∧ x ≤ vN (fO r g f 3)) (hR2 : ∀ f, f < nF r g → W.2.1 1 i g 5 f = R f) {v1 : Nat} {v2 : Int32} {k : AH → Option (Unit × AH)} : ∃ V, f_X8_shareSpare_L36 (b + ad 8 t 0) v1 v2 (b + ad 1 i g) k FU (0 : Int32) (wd b W) = k (wd b V) ∧ rsI r i t g (fun f => R f + moS r g R A f) (shA r g R A (nF r g)) (nF r g) W V := by
  have hv := vo1 hi hg
  have h16 := hk.2.1
  refine loopE (fun m j (V : WD) => f_X8_shareSpare_L36 (b + ad 8 t 0) v1 v2 (b + ad 1 i g) k m (nI j) (wd b V)) (nF r g) (fun j V => rsI r i t g (fun f => R f + moS r g R A f) (shA r g R A j) j W V) (fun y => ∃ V, y = k (wd b V) ∧ rsI r i t g (fun f => R f + moS r g R A f) (shA r g R A (nF r g)) (nF r g) W V) ?_ ?_ FU 0 W (by omega) (by have := FUgt; omega) ⟨frQ.rf, hA2, fun f hff => absurd hff (Nat.not_lt_zero f), fun _ _ => rfl, fun _ _ => rfl, rfl⟩
  · intro m j V hj hI
    have hfV : flR V i g r := hf.fr hI.1 (fun k hk => raQ_A _ _ _ (by omega))
    obtain ⟨⟨s1, s2⟩, ⟨t1, t2⟩, q1, q2⟩ := hk.2.2 j hj
    obtain ⟨x1, x2, x3, x4⟩ := hfV.2 j hj
    obtain ⟨y, y1, y2⟩ := hR j hj
    have hav := shA_av hk hA hR j (by omega)
    have hs := hav (vN (fO r g j 0)) (by omega)
    have hh := hav (8 + vN (fO r g j 1)) (by omega)
    have er : V.2.1 1 i g 5 j = nI y := by rw [hI.2.2.2.1 j (Nat.le_refl _), hR2 j hj, y1]
    have emo : moS r g R A j = nI (min (min (vN (shA r g R A j (vN (fO r g j 0)))) (vN (shA r g R A j (8 + vN (fO r g j 1))))) (vN (fO r g j 3) - y)) := by
      unfold moS
      rw [q1, y1, pk_sub y2, hs.1, hh.1, mnS_nI (by omega) hs.2 hh.2, ← hs.1, ← hh.1, ← q1]
      congr 1
      omega
    try dsimp only
    rw [f_X8_shareSpare_L36, o1_0 hv, hfV.1, hk.1, if_neg (le_n hj (by omega)), o8_3 ht, o1_1 hv, oa1_1 hv (by omega), x1, s1, oa8_3 ht (by omega), hI.2.1 _ (by omega), o8_3 ht, o1_2 hv, oa1_2 hv (by omega), x2, t1, li 8, nI_add, oa8_3 ht (by omega), hI.2.1 _ (by omega), hs.1, hh.1, ob2_i (c_minN hs.2 hh.2), o1_4 hv, oa1_4 hv (by omega), x4, o1_5 hv, oa1_5 hv (by omega), er, q1, pk_sub y2, ob2_i (c_minN (by omega) (by omega)), ← emo, ob2_i (c_raise (b := b) ht hv hfV hk hj), nI_1]
    refine ⟨_, ?_, rfl⟩
    exact hI.step (x := moS r g R A j) (by rw [hR2 j hj])
  · intro m V hI
    have hfV : flR V i g r := hf.fr hI.1 (fun k hk => raQ_A _ _ _ (by omega))
    try dsimp only
    rw [f_X8_shareSpare_L36, o1_0 hv, hfV.1, hk.1, if_pos (le_p (Nat.le_refl _) (by omega))]
    exact ⟨V, rfl, hI⟩
end
