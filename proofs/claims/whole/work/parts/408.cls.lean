/-! the log -/
def lgV (W : WD) (i : Nat) (l : List (Int32 × Int32 × Int32)) : Prop := l.length ≤ 20 ∧ W.1 0 i 0 0 = nI l.length ∧ ∃ n, n < 20 ∧ W.1 0 i 0 1 = nI n ∧ ∀ k, k < l.length → l[k]? = some (W.2.1 0 i 0 2 ((n + 20 - l.length + k) % 20), W.2.1 0 i 0 3 ((n + 20 - l.length + k) % 20), W.2.1 0 i 0 4 ((n + 20 - l.length + k) % 20))
theorem evs_get {r : Nat → Int32} {k : Nat} (h : k < nE r) : (evs r)[k]? = some (ev1 r k) := by
  unfold evs
  rw [List.getElem?_map, List.getElem?_range h]
  rfl
theorem lgR_V {W : WD} {i : Nat} {r : Nat → Int32} (hE : okE r) : lgR W i r ↔ lgV W i (evs r) := by
  unfold lgR lgV
  rw [evs_len]
  constructor
  · rintro ⟨h1, n, h2, h3, h4⟩
    exact ⟨hE.2, by rw [h1]; exact hE.1, n, h2, h3, fun k hk => by rw [evs_get hk, h4 k hk]⟩
  · rintro ⟨-, h1, n, h2, h3, h4⟩
    refine ⟨by rw [h1]; exact hE.1.symm, n, h2, h3, fun k hk => ?_⟩
    have := h4 k hk
    rw [evs_get hk] at this
    exact (Option.some.inj this).symm
theorem lgV.fr {Q : Nat → Nat → Nat → Nat → Prop} {W V : WD} {i : Nat} {l : List (Int32 × Int32 × Int32)} (h : lgV W i l) (hf : frQ Q W V) (hq : ∀ k, ¬ Q 0 i 0 k) : lgV V i l := by
  unfold lgV
  rw [hf.1 0 i 0 0 (hq 0), hf.1 0 i 0 1 (hq 1), hf.2.1 0 i 0 2 (hq 2), hf.2.1 0 i 0 3 (hq 3), hf.2.1 0 i 0 4 (hq 4)]
  exact h
def lgQ (s : Nat) : Nat → Nat → Nat → Nat → Prop := fun c i _ _ => c = 0 ∧ i = s
theorem dM_nI {x y : Nat} (h0 : 0 < y) (hx : x < 2147483648) (hy : y < 2147483648) : dM (nI x) (nI y) = some (nI (x % y)) := by
  unfold dM
  rw [if_neg (show ¬ nI y = 0 from ne_p (b := 0) (by omega) (by omega) (by omega)), pk_div (by omega) h0 (by omega), pk_mul, pk_sub (Nat.div_mul_le_self x y)]
  congr 2
  have := Nat.div_add_mod x y
  rw [Nat.mul_comm] at this
  omega
section
variable {b : Nat} {W : WD} {i : Nat}
theorem c_add (hi : i < 8) {l : List (Int32 × Int32 × Int32)} (hl : lgV W i l) {x y z : Int32} : ∃ W', f_X0_add (b + ad 0 i 0) x y z (wd b W) = some ((), wd b W') ∧ frQ (lgQ i) W W' ∧ lgV W' i (push1 l (x, y, z)) := by
  obtain ⟨h1, h2, n, h3, h4, h5⟩ := hl
  have hv := vo0 hi
  unfold f_X0_add
  have e4 : ∀ (V : WD), V.1 0 i 0 1 = nI n → V.1 0 i 0 1 = nI n := fun _ h => h
  rw [oO_0 hv, o0_2 hv, o0_1 hv, h4, ot0_2 hv h3, o0_3 hv, o0_1 hv, wsA_1, h4, ot0_3 hv h3, o0_4 hv, o0_1 hv, wsA_1, wsA_1, h4, ot0_4 hv h3, o0_1 hv, wsA_1, wsA_1, wsA_1, h4, nI_1, li 20, ob_i (dM_nI (by omega) (by omega) (by omega)), p0_1 hv, o0_0 hv, wsI_k _ (by decide), wsA_1, wsA_1, wsA_1, h2]
  generalize hV : wsI (wsA (wsA (wsA W 0 i 0 2 (upd (W.2.1 0 i 0 2) n x)) 0 i 0 3 (upd ((wsA W 0 i 0 2 (upd (W.2.1 0 i 0 2) n x)).2.1 0 i 0 3) n y)) 0 i 0 4 (upd ((wsA (wsA W 0 i 0 2 (upd (W.2.1 0 i 0 2) n x)) 0 i 0 3 (upd ((wsA W 0 i 0 2 (upd (W.2.1 0 i 0 2) n x)).2.1 0 i 0 3) n y)).2.1 0 i 0 4) n z)) 0 i 0 1 (nI ((n + 1) % 20)) = V
  have f1 : frQ (lgQ i) W V := by
    rw [← hV]
    exact (((frQ.A ⟨rfl, rfl⟩).tr (frQ.A ⟨rfl, rfl⟩)).tr (frQ.A ⟨rfl, rfl⟩)).tr (frQ.I ⟨rfl, rfl⟩)
  have v1 : V.1 0 i 0 1 = nI ((n + 1) % 20) := by rw [← hV, wsI_r]
  have v0 : V.1 0 i 0 0 = nI l.length := by rw [← hV, wsI_k _ (by decide), wsA_1, wsA_1, wsA_1, h2]
  have v2 : V.2.1 0 i 0 2 = upd (W.2.1 0 i 0 2) n x := by rw [← hV, wsI_A, wsA_k _ (by decide), wsA_k _ (by decide), wsA_r]
  have v3 : V.2.1 0 i 0 3 = upd (W.2.1 0 i 0 3) n y := by rw [← hV, wsI_A, wsA_k _ (by decide), wsA_r, wsA_k _ (by decide)]
  have v4 : V.2.1 0 i 0 4 = upd (W.2.1 0 i 0 4) n z := by rw [← hV, wsI_A, wsA_r, wsA_k _ (by decide), wsA_k _ (by decide)]
  rcases Nat.lt_or_ge l.length 20 with hl | hl
  · have hp : push1 l (x, y, z) = l ++ [(x, y, z)] := by unfold push1; rw [if_neg (by omega)]
    rw [if_neg (le_n hl (by omega)), o0_0 hv, v0, p0_0 hv, nI_1]
    refine ⟨_, rfl, f1.tr (frQ.I ⟨rfl, rfl⟩), ?_⟩
    rw [hp]
    unfold lgV
    rw [List.length_append, List.length_singleton]
    refine ⟨by omega, by rw [wsI_r], (n + 1) % 20, by omega, by rw [wsI_k _ (by decide)]; exact v1, fun k hk => ?_⟩
    rw [wsI_A, v2, v3, v4]
    by_cases hkl : k < l.length
    · rw [List.getElem?_append_left hkl, h5 k hkl]
      have hne : ((n + 1) % 20 + 20 - (l.length + 1) + k) % 20 ≠ n := by omega
      rw [pk_un hne, pk_un hne, pk_un hne, show ((n + 1) % 20 + 20 - (l.length + 1) + k) % 20 = (n + 20 - l.length + k) % 20 by omega]
    · have hk2 : k = l.length := by omega
      rw [hk2, List.getElem?_append_right (Nat.le_refl _), Nat.sub_self, show ((n + 1) % 20 + 20 - (l.length + 1) + l.length) % 20 = n by omega, pk_us, pk_us, pk_us]
      rfl
  · have hl20 : l.length = 20 := by omega
    have hp : push1 l (x, y, z) = l.tail ++ [(x, y, z)] := by unfold push1; rw [if_pos hl20]
    rw [if_pos (le_p hl (by omega))]
    refine ⟨_, rfl, f1, ?_⟩
    rw [hp]
    unfold lgV
    rw [List.length_append, List.length_singleton, List.length_tail, hl20]
    refine ⟨by omega, by rw [v0, hl20], (n + 1) % 20, by omega, v1, fun k hk => ?_⟩
    rw [v2, v3, v4]
    by_cases hkl : k < 19
    · rw [List.getElem?_append_left (by rw [List.length_tail]; omega), List.getElem?_tail, h5 (k + 1) (by omega)]
      have hne : ((n + 1) % 20 + 20 - (19 + 1) + k) % 20 ≠ n := by omega
      rw [pk_un hne, pk_un hne, pk_un hne, show ((n + 1) % 20 + 20 - (19 + 1) + k) % 20 = (n + 20 - l.length + (k + 1)) % 20 by omega]
    · have hk2 : k = 19 := by omega
      rw [hk2, List.getElem?_append_right (by rw [List.length_tail]; omega), List.length_tail, hl20, show ((n + 1) % 20 + 20 - (19 + 1) + 19) % 20 = n by omega, pk_us, pk_us, pk_us]
      rfl
end
/-! step 4 of the class -/
theorem sumI_rm {h : Nat → Int32} {a : Nat} : ∀ n, sumI h n = sumI (fun g => if g = a then 0 else h g) n + (if a < n then h a else 0)
  | 0 => by simp [sumI]
  | n + 1 => by
    rw [sumI, sumI, sumI_rm (a := a) n]
    by_cases h1 : n = a
    · subst h1
      rw [if_pos rfl, if_neg (Nat.lt_irrefl n), if_pos (Nat.lt_succ_self n), Int32.add_zero]
    · rw [if_neg h1]
      by_cases h2 : a < n
      · rw [if_pos h2, if_pos (by omega), Int32.add_assoc, Int32.add_assoc, Int32.add_comm (h a)]
      · rw [if_neg h2, if_neg (by omega), Int32.add_zero, Int32.add_zero]
theorem sumI_ord {n : Nat} {O : Nat → Nat} : ∀ (M : Nat) (h : Nat → Int32), (∀ x, x < M → O x < n) → (∀ x y, x < M → y < M → O x = O y → x = y) → (∀ g, g < n → (∀ x, x < M → O x ≠ g) → h g = 0) → sumI (fun x => h (O x)) M = sumI h n
  | 0, h, _, _, h3 => by rw [sumI_cg (g := fun _ => 0) (fun g hg => h3 g hg (fun x hx => absurd hx (Nat.not_lt_zero x))), sumI_z, sumI]
  | M + 1, h, h1, h2, h3 => by
    rw [sumI, sumI_rm (h := h) (a := O M) n, if_pos (h1 M (by omega))]
    congr 1
    rw [← sumI_ord M (fun g => if g = O M then 0 else h g) (fun x hx => h1 x (by omega)) (fun x y hx hy => h2 x y (by omega) (by omega)) (fun g hg hx => by
      try dsimp only
      by_cases hg2 : g = O M
      · rw [if_pos hg2]
      · rw [if_neg hg2]
        refine h3 g hg (fun x hx2 => ?_)
        rcases Nat.lt_or_ge x M with q | q
        · exact hx x q
        · rw [show x = M by omega]; exact fun z => hg2 z.symm)]
    refine sumI_cg (fun x hx => ?_)
    rw [if_neg (fun q => by have := h2 x M (by omega) (by omega) q; omega)]
theorem shG_0 {r : Nat → Int32} {O : Nat → Nat} {A0 : Nat → Int32} {R0 : Nat → Nat → Int32} {g : Nat} (h0 : ∀ f, R0 g f = 0) : ∀ k, (∀ x, x < k → O x ≠ g) → ∀ f, (shG r O A0 R0 k).2 g f = 0
  | 0, _, f => h0 f
  | k + 1, h, f => by
    rw [shG]
    simp only
    rw [if_neg (fun q => h k (by omega) q.1.symm)]
    exact shG_0 h0 k (fun x hx => h x (by omega)) f
theorem finR_0 {r : Nat → Int32} {dl : Bool} {M : Nat} {O : Nat → Nat} {g : Nat} (h : ∀ x, x < M → O x ≠ g) (f : Nat) : finR r dl M O g f = 0 := by
  unfold finR
  split
  · exact shG_0 (gvS_0 M h) M h f
  · exact gvS_0 M h f
theorem inB_iff {M : Nat} {O : Nat → Nat} {g : Nat} : inB M O g = true ↔ ∃ x, x < M ∧ O x = g := by
  unfold inB
  rw [anyB_iff]
  simp
theorem inB_s {M : Nat} {O : Nat → Nat} {g : Nat} : inB (M + 1) O g = (inB M O g || decide (O M = g)) := rfl
def seQ (s : Nat) : Nat → Nat → Nat → Nat → Prop := fun c i _ k => i = s ∧ ((c = 1 ∧ k = 4) ∨ (c = 7 ∧ k = 8))
section
variable {b : Nat} {W : WD} {t i T : Nat} {r : Nat → Int32}
theorem c_send1 {g : Nat} (hi : i < 8) (hg : g < 12) (hk : flK r g (nF r g)) {R : Nat → Int32} (hc : W.1 1 i g 0 = gO r g 5) (hst : ∀ f, f < nF r g → W.2.1 1 i g 1 f = fO r g f 0 ∧ W.2.1 1 i g 2 f = fO r g f 1 ∧ W.2.1 1 i g 5 f = R f) {v0 : Nat} {v3 s0 : Int32} {k : Int32 → AH → Option (Int32 × AH)} : ∃ V, f_X8_sendAll_L31 v0 (b + ad 7 i 0) v3 (b + ad 1 i g) k FU s0 (0 : Int32) (wd b W) = k (s0 + sumI R (nF r g)) (wd b V) ∧ frQ (seQ i) W V ∧ (∀ f, f < nF r g → V.2.1 1 i g 4 f = W.2.1 1 i g 4 f - R f) ∧ (∀ g', g' ≠ g → V.2.1 1 i g' 4 = W.2.1 1 i g' 4) ∧ ∀ p, p < 16 → V.2.1 7 i 0 8 p = W.2.1 7 i 0 8 p + sumI (fun f => thr1 r g f p (R f)) (nF r g) := by
  have hv := vo1 hi hg
  have hv7 := vo7 hi
  have h16 := hk.2.1
  have e := loopE (fun m j (V : WD) => f_X8_sendAll_L31 v0 (b + ad 7 i 0) v3 (b + ad 1 i g) k m (s0 + sumI R j) (nI j) (wd b V)) (nF r g) (fun j V => frQ (seQ i) W V ∧ (∀ f, f < j → V.2.1 1 i g 4 f = W.2.1 1 i g 4 f - R f) ∧ (∀ f, j ≤ f → V.2.1 1 i g 4 f = W.2.1 1 i g 4 f) ∧ (∀ g', g' ≠ g → V.2.1 1 i g' 4 = W.2.1 1 i g' 4) ∧ ∀ p, p < 16 → V.2.1 7 i 0 8 p = W.2.1 7 i 0 8 p + sumI (fun f => thr1 r g f p (R f)) j) (fun y => ∃ V, y = k (s0 + sumI R (nF r g)) (wd b V) ∧ frQ (seQ i) W V ∧ (∀ f, f < nF r g → V.2.1 1 i g 4 f = W.2.1 1 i g 4 f - R f) ∧ (∀ g', g' ≠ g → V.2.1 1 i g' 4 = W.2.1 1 i g' 4) ∧ ∀ p, p < 16 → V.2.1 7 i 0 8 p = W.2.1 7 i 0 8 p + sumI (fun f => thr1 r g f p (R f)) (nF r g)) ?_ ?_ FU 0 W (by omega) (by have := FUgt; omega) ⟨frQ.rf, fun f hf => absurd hf (Nat.not_lt_zero f), fun _ _ => rfl, fun _ _ => rfl, fun p hp => by rw [sumI, Int32.add_zero]⟩
  · try dsimp only at e
    rw [sumI, Int32.add_zero] at e
    exact e
  · intro m j V hj ⟨k1, k2, k3, k4, k5⟩
    obtain ⟨⟨s1, s2⟩, ⟨t1, t2⟩, -⟩ := hk.2.2 j hj
    obtain ⟨x1, x2, x5⟩ := hst j hj
    have e0 : V.1 1 i g 0 = nI (nF r g) := by rw [k1.1 1 i g 0 (by unfold seQ; omega), hc, hk.1]
    have e1 : V.2.1 1 i g 1 j = nI (vN (fO r g j 0)) := by rw [k1.2.1 1 i g 1 (by unfold seQ; omega), x1, ← s1]
    have e2 : V.2.1 1 i g 2 j = nI (vN (fO r g j 1)) := by rw [k1.2.1 1 i g 2 (by unfold seQ; omega), x2, ← t1]
    have e5 : V.2.1 1 i g 5 j = R j := by rw [k1.2.1 1 i g 5 (by unfold seQ; omega), x5]
    try dsimp only
    rw [f_X8_sendAll_L31, o1_0 hv, e0, if_neg (le_n hj (by omega)), o1_5 hv, oa1_5 hv (by omega), e5, o1_4 hv, oa1_4 hv (by omega), ot1_4 hv (by omega), o7_8 hv7, o1_1 hv, oa1_1 hv (by omega), wsA_n _ (by omega), e1, oa7_8 hv7 (by omega), wsA_n _ (by omega), ot7_8 hv7 (by omega), wsA_n _ (by omega), o7_8 hv7, o1_2 hv, oa1_2 hv (by omega), wsA_n _ (by omega), wsA_n _ (by omega), e2, li 8, nI_add, oa7_8 hv7 (by omega), wsA_r, ot7_8 hv7 (by omega), wsA_r, wsA_2, upd_add2 (by omega), nI_1, Int32.add_assoc]
    refine ⟨_, ⟨k1.tr ((frQ.A ⟨rfl, by omega⟩).tr (frQ.A ⟨rfl, by omega⟩)), ?_, ?_, ?_, ?_⟩, rfl⟩
    · intro f hf
      rw [wsA_n _ (by omega), wsA_r]
      by_cases hfj : f = j
      · rw [hfj, pk_us, k3 j (Nat.le_refl _)]
      · rw [pk_un hfj]
        exact k2 f (by omega)
    · intro f hf
      rw [wsA_n _ (by omega), wsA_r, pk_un (by omega)]
      exact k3 f (by omega)
    · intro g' hg'
      rw [wsA_n _ (by omega), wsA_n _ (by omega)]
      exact k4 g' hg'
    · intro p hp
      rw [wsA_r, k5 p hp, sumI, ← Int32.add_assoc]
      rfl
  · intro m V ⟨k1, k2, k3, k4, k5⟩
    try dsimp only
    rw [f_X8_sendAll_L31, o1_0 hv, k1.1 1 i g 0 (by unfold seQ; omega), hc, hk.1, if_pos (le_p (Nat.le_refl _) (by omega))]
    exact ⟨V, rfl, k1, k2, k4, k5⟩
theorem c_sendAll (ht : vo 8 t 0 = true) (hi : i < 8) (hs : stA W i r) (ho : okR r T) {M : Nat} {O : Nat → Nat} (hO : ordC r M O) (h0 : W.1 8 t 0 0 = nI M) (h1 : ∀ x, x < M → W.2.1 8 t 0 1 x = nI (O x)) {R : Nat → Nat → Int32} (hR : ∀ g f, g < nG r → f < nF r g → W.2.1 1 i g 5 f = R g f) (hz : ∀ g, (∀ x, x < M → O x ≠ g) → ∀ f, R g f = 0) : ∃ V, f_X8_sendAll (b + ad 8 t 0) (b + ad 7 i 0) (wd b W) = some (sumI (fun g => sumI (R g) (nF r g)) (nG r), wd b V) ∧ frQ (seQ i) W V ∧ (∀ g f, g < nG r → f < nF r g → V.2.1 1 i g 4 f = fO r g f 3 - R g f) ∧ ∀ p, p < 16 → V.2.1 7 i 0 8 p = W.2.1 7 i 0 8 p + sumI (fun g => sumI (fun f => thr1 r g f p (R g f)) (nF r g)) (nG r) := by
  have h12 := ho.1.1.2
  have hM := hO.1.1
  have hv7 := vo7 hi
  unfold f_X8_sendAll
  rw [oO_8 ht]
  refine loopE (fun m k (V : WD) => f_X8_sendAll_L4 (b + ad 8 t 0) (b + ad 7 i 0) (fun v27 N28 => some (v27, N28)) m (sumI (fun x => sumI (R (O x)) (nF r (O x))) k) (nI k) (wd b V)) M (fun k V => frQ (seQ i) W V ∧ (∀ g f, g < nG r → f < nF r g → V.2.1 1 i g 4 f = if inB k O g = true then fO r g f 3 - R g f else fO r g f 3) ∧ ∀ p, p < 16 → V.2.1 7 i 0 8 p = W.2.1 7 i 0 8 p + sumI (fun x => sumI (fun f => thr1 r (O x) f p (R (O x) f)) (nF r (O x))) k) (fun y => ∃ V, y = some (sumI (fun g => sumI (R g) (nF r g)) (nG r), wd b V) ∧ frQ (seQ i) W V ∧ (∀ g f, g < nG r → f < nF r g → V.2.1 1 i g 4 f = fO r g f 3 - R g f) ∧ ∀ p, p < 16 → V.2.1 7 i 0 8 p = W.2.1 7 i 0 8 p + sumI (fun g => sumI (fun f => thr1 r g f p (R g f)) (nF r g)) (nG r)) ?_ ?_ FU 0 W (by omega) (by have := FUgt; omega) ⟨frQ.rf, fun g f hg hf => by rw [if_neg (by simp [inB, anyB])]; exact ((hs.2.2 g hg).2.2 f hf).2.2.2, fun p hp => by rw [sumI, Int32.add_zero]⟩
  · intro m k V hk ⟨k1, k2, k3⟩
    obtain ⟨o1, o2⟩ := hO.1.2 k hk
    have hv4 := vo4 (g := O k) hi (by omega)
    have e0 : V.1 8 t 0 0 = nI M := by rw [k1.1 8 t 0 0 (by unfold seQ; omega), h0]
    have e1 : V.2.1 8 t 0 1 k = nI (O k) := by rw [k1.2.1 8 t 0 1 (by unfold seQ; omega)]; exact h1 k hk
    have hf := (hs.2.2 _ o1).2
    obtain ⟨V', p1, q1, q2, q3, q4⟩ := c_send1 (b := b) (W := V) (i := i) (r := r) (g := O k) hi (by omega) (ho.1.2.1 _ o1) (R := R (O k)) (by rw [k1.1 1 i (O k) 0 (by unfold seQ; omega)]; exact hf.1) (fun f hff => by
      rw [k1.2.1 1 i (O k) 1 (by unfold seQ; omega), k1.2.1 1 i (O k) 2 (by unfold seQ; omega), k1.2.1 1 i (O k) 5 (by unfold seQ; omega)]
      exact ⟨(hf.2 f hff).1, (hf.2 f hff).2.1, hR _ f o1 hff⟩) (v0 := b + ad 8 t 0) (v3 := nI k) (s0 := sumI (fun x => sumI (R (O x)) (nF r (O x))) k) (k := fun v25 N26 => f_X8_sendAll_L4 (b + ad 8 t 0) (b + ad 7 i 0) (fun v27 N28 => some (v27, N28)) m v25 (nI k + 1) N26)
    try dsimp only
    rw [f_X8_sendAll_L4, o8_0 ht, e0, if_neg (le_n hk (by omega)), o7_10 hv7, o8_1 ht, oa8_1 ht (by omega), e1, oa7_10 hv7 (by omega), o4_5 hv4, p1, nI_1]
    refine ⟨V', ⟨k1.tr q1, ?_, ?_⟩, rfl⟩
    · intro g f hg hff
      rw [inB_s]
      by_cases hgo : O k = g
      · subst hgo
        have hni : inB k O (O k) = false := by
          cases hb : inB k O (O k) with
          | false => rfl
          | true =>
            obtain ⟨x, x1, x2⟩ := inB_iff.mp hb
            have := hO.2.1 x k (by omega) hk x2
            omega
        rw [if_pos (by simp), q2 f hff, k2 _ f hg hff, if_neg (by rw [hni]; decide)]
      · rw [q3 g (fun q => hgo q.symm), k2 g f hg hff]
        simp [hgo]
    · intro p hp
      rw [q4 p hp, k3 p hp, sumI, ← Int32.add_assoc]
  · intro m V ⟨k1, k2, k3⟩
    try dsimp only
    rw [f_X8_sendAll_L4, o8_0 ht, k1.1 8 t 0 0 (by unfold seQ; omega), h0, if_pos (le_p (Nat.le_refl _) (by omega))]
    have eo : ∀ h : Nat → Int32, (∀ g, (∀ x, x < M → O x ≠ g) → h g = 0) → sumI (fun x => h (O x)) M = sumI h (nG r) := fun h hh => sumI_ord M h (fun x hx => (hO.1.2 x hx).1) hO.2.1 (fun g hg hx => hh g hx)
    rw [eo (fun g => sumI (R g) (nF r g)) (fun g hg => by
      try dsimp only
      rw [sumI_cg (g := fun _ => 0) (fun f hf => hz g hg f), sumI_z])]
    refine ⟨V, rfl, k1, ?_, ?_⟩
    · intro g f hg hff
      rw [k2 g f hg hff]
      by_cases hb : inB M O g = true
      · rw [if_pos hb]
      · rw [if_neg hb, hz g (fun x hx q => hb (inB_iff.mpr ⟨x, hx, q⟩)), Int32.sub_zero]
    · intro p hp
      rw [k3 p hp, eo (fun g => sumI (fun f => thr1 r g f p (R g f)) (nF r g)) (fun g hg => by
        try dsimp only
        rw [sumI_cg (g := fun _ => 0) (fun f hf => by rw [hz g hg f]; exact thr1_0 r g f p), sumI_z])]
end
