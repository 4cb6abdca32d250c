/-! a tick keeps the rows valid -/
theorem shG_ok {r : Nat → Int32} (hG : okG r) (hT : tmK r) {dl : Bool} {M : Nat} {O : Nat → Nat} (hO : ordK r M O) : ∀ k, k ≤ M → avK (shG r O (gvS r dl O M).1 (gvS r dl O M).2.1 k).1 ∧ ∀ g, g < nG r → ∀ f, f < nF r g → ∃ x, (shG r O (gvS r dl O M).1 (gvS r dl O M).2.1 k).2 g f = nI x ∧ x ≤ vN (fO r g f 3) := by
  intro k
  induction k with
  | zero => exact fun _ => ⟨gvS_av hG hT hO M (Nat.le_refl _), fun g _ f _ => gvS_rt hG hT hO M (Nat.le_refl _) g f⟩
  | succ k ih =>
    intro hk
    obtain ⟨i1, i2⟩ := ih (by omega)
    have o1 := (hO.2 k (by omega)).1
    refine ⟨shA_av (hG.2.1 _ o1) i1 (i2 _ o1) _ (Nat.le_refl _), fun g hg f hf => ?_⟩
    rw [shG]
    simp only
    by_cases h : g = O k ∧ f < nF r g
    · rw [if_pos h]
      obtain ⟨x, x1, x2, x3⟩ := moS_ok (hG.2.1 _ hg) i1 (i2 _ hg) hf
      exact x2
    · rw [if_neg h]
      exact i2 g hg f hf
theorem finR_ok {r : Nat → Int32} (hG : okG r) (hT : tmK r) {dl : Bool} {M : Nat} {O : Nat → Nat} (hO : ordK r M O) {g f : Nat} (hg : g < nG r) (hf : f < nF r g) : finR r dl M O g f = nI (vN (finR r dl M O g f)) ∧ vN (finR r dl M O g f) ≤ vN (fO r g f 3) := by
  have h100 := ((hG.2.1 g hg).2.2 f hf).2.2.2
  have key : ∃ x, finR r dl M O g f = nI x ∧ x ≤ vN (fO r g f 3) := by
    unfold finR
    split
    · exact (shG_ok hG hT hO M (Nat.le_refl _)).2 g hg f hf
    · exact gvS_rt hG hT hO M (Nat.le_refl _) g f
  obtain ⟨x, x1, x2⟩ := key
  rw [x1, vN_nI (by omega)]
  exact ⟨rfl, x2⟩
theorem sumN_0 {f : Nat → Nat} : ∀ {n : Nat}, sumN f n = 0 → ∀ i, i < n → f i = 0
  | 0, _, i, hi => absurd hi (Nat.not_lt_zero i)
  | n + 1, h, i, hi => by
    rw [sumN] at h
    rcases Nat.lt_or_ge i n with q | q
    · exact sumN_0 (by omega) i q
    · rw [show i = n by omega]; omega
theorem sumN_z {f : Nat → Nat} : ∀ {n : Nat}, (∀ i, i < n → f i = 0) → sumN f n = 0
  | 0, _ => rfl
  | n + 1, h => by rw [sumN, sumN_z (fun i hi => h i (by omega)), h n (by omega)]
/-- a sum of small numbers is 0 only if all are -/
theorem sumI_0 {h : Nat → Int32} {a : Nat → Nat} {n : Nat} (hn : n ≤ 16) (ha : ∀ i, i < n → h i = nI (a i) ∧ a i ≤ 100000) : sumI h n = 0 ↔ ∀ i, i < n → a i = 0 := by
  rw [sumI_cg (fun i hi => (ha i hi).1), sumI_nI]
  have hb := sumN_le (f := a) (B := 100000) (n := n) (fun i hi => (ha i hi).2)
  have hb2 := Nat.mul_le_mul_right 100000 hn
  constructor
  · intro q
    have q2 : sumN a n = 0 := (nI_eq (by omega) (by omega)).mp (show nI (sumN a n) = nI 0 from q)
    exact sumN_0 q2
  · intro q
    rw [sumN_z q]
    rfl
theorem stO_op {r : Nat → Int32} {T g : Nat} (h : grK r g T) (hs : stO r g = 1) : opB r g = true := (opB_st h).mpr (Or.inl hs)
/-- the rests behind a tick -/
theorem rest_ok {r : Nat → Int32} (hG : okG r) (hT : tmK r) {dl : Bool} {M : Nat} {O : Nat → Nat} (hO : ordK r M O) {g f : Nat} (hg : g < nG r) (hf : f < nF r g) : fO r g f 3 - finR r dl M O g f = nI (vN (fO r g f 3) - vN (finR r dl M O g f)) := by
  obtain ⟨h1, h2⟩ := finR_ok hG hT (dl := dl) hO hg hf
  have e := pk_sub h2
  rw [← h1, ← ((hG.2.1 g hg).2.2 f hf).2.2.1] at e
  exact e
theorem dn_iff {r : Nat → Int32} {T : Nat} (ho : okR r T) (hT : T ≤ 900000) {dl : Bool} {M : Nat} {O : Nat → Nat} (hO : ordC r M O) {g : Nat} (hg : g < nG r) : dnS r dl M O g = true ↔ (opB r g = true ∧ ∀ f, f < nF r g → vN (fO r g f 3) - vN (finR r dl M O g f) = 0) := by
  have hk := ho.1.2.1 g hg
  have hgk := ho.2.2.2.2.2.2.2 g hg
  have hz := sumI_0 (h := fun f => fO r g f 3 - finR r dl M O g f) (a := fun f => vN (fO r g f 3) - vN (finR r dl M O g f)) (n := nF r g) hk.2.1 (fun f hf => ⟨rest_ok ho.1 (ho.tm hT) hO.1 hg hf, Nat.le_trans (Nat.sub_le _ _) (hk.2.2 f hf).2.2.2⟩)
  unfold dnS
  rw [Bool.and_eq_true, decide_eq_true_eq, hz]
  constructor
  · rintro ⟨h1, h2⟩
    obtain ⟨x, x1, x2⟩ := inB_iff.mp h1
    exact ⟨stO_op hgk (by rw [← x2]; exact (hO.1.2 x x1).2), h2⟩
  · rintro ⟨h1, h2⟩
    refine ⟨?_, h2⟩
    cases hb : inB M O g with
    | true => rfl
    | false =>
      have hno : ∀ x, x < M → O x ≠ g := fun x hx q => by rw [inB_iff.mpr ⟨x, hx, q⟩] at hb; cases hb
      have hend : gO r g 3 = -1 := by
        unfold opB at h1
        simp at h1
        exact h1.2
      rcases hgk.2.2.2.2.2 with ⟨-, f, f1, f2⟩ | ⟨q, -⟩
      · have := h2 f f1
        rw [finR_0 hno] at this
        have e0 : vN (0 : Int32) = 0 := rfl
        rw [e0] at this
        omega
      · exact absurd hend (nI_m1 q (vN_lt _))
section
variable {r r' : Nat → Int32} {T M : Nat} {O : Nat → Nat} {dl : Bool}
theorem tk_nG (h : tkR dl M O r r') : nG r' = nG r := nG_cg h.2.1.2.2.2.1
theorem tk_nF (h : tkR dl M O r r') {g : Nat} (hg : g < nG r) : nF r' g = nF r g := nF_cg ((h.2.2.2.2.2.2.2.1 g hg).1 5 (by omega) (by omega))
theorem okR_tick (ho : okR r T) (hT : T + 1 ≤ 900000) (hO : ordC r M O) (h : tkR dl M O r r') : okR r' (T + 1) := by
  have hG := ho.1
  have hT' := ho.tm (by omega)
  have eG := tk_nG h
  have eF := fun g hg => tk_nF h (g := g) hg
  obtain ⟨a0, ⟨a1, a2, a3, a6, a7⟩, a4, a5, a10, a42, am, ag, ⟨ae, al⟩, -⟩ := id h
  have hcap : ∀ p, p < 16 → capR r' p = capR r p := fun p hp => a10 _ (by omega) (by omega)
  have hrest : ∀ g f, g < nG r → f < nF r g → fO r' g f 3 = nI (vN (fO r g f 3) - vN (finR r dl M O g f)) := fun g f hg hf => by
    rw [((ag g hg).2.2 f hf).2.1]
    exact rest_ok hG hT' hO.1 hg hf
  have hvr : ∀ g f, g < nG r → f < nF r g → vN (fO r' g f 3) = vN (fO r g f 3) - vN (finR r dl M O g f) := fun g f hg hf => by
    have := ((hG.2.1 g hg).2.2 f hf).2.2.2
    rw [hrest g f hg hf, vN_nI (by omega)]
  refine ⟨⟨⟨by rw [eG, a6]; exact hG.1.1, by rw [eG]; exact hG.1.2⟩, fun g hg => ?_, fun p hp => by rw [hcap p hp]; exact hG.2.2 p hp⟩, ?_, ae, ?_, ⟨by rw [a1]; exact ho.2.2.2.2.1.1, ho.2.2.2.2.1.2.cg a7 a42⟩, by rw [a2, a3]; exact ho.2.2.2.2.2.1, fun p hp => by rw [hcap p hp]; exact ho.2.2.2.2.2.2.1 p hp, fun g hg => ?_⟩
  · rw [eG] at hg
    rw [eF g hg]
    have hk := hG.2.1 g hg
    refine ⟨by rw [(ag g hg).1 5 (by omega) (by omega)]; exact hk.1, hk.2.1, fun f hf => ?_⟩
    have hfl := (ag g hg).2.2 f hf
    obtain ⟨b0, b1, b3⟩ := hk.2.2 f hf
    rw [hfl.1 0 (by omega), hfl.1 1 (by omega)]
    refine ⟨b0, b1, ?_, ?_⟩
    · rw [hvr g f hg hf]; exact hrest g f hg hf
    · rw [hvr g f hg hf]; omega
  · rw [a0, ho.2.1.1, nI_1, vN_nI (by have := ho.2.1.2; omega)]
    have := ho.2.1.2
    exact ⟨rfl, by omega⟩
  · rw [a5, eG]
    by_cases hM : M = 0
    · rw [if_pos hM]
      exact ho.2.2.2.1
    · rw [if_neg hM]
      have h0 := (hO.1.2 0 (by omega)).1
      have h12 := hG.1.2
      refine Or.inr ?_
      rw [vN_nI (by omega)]
      exact ⟨rfl, h0⟩
  · rw [eG] at hg
    obtain ⟨c1, c2, c3, c4, c5, c6⟩ := ho.2.2.2.2.2.2.2 g hg
    have hk := hG.2.1 g hg
    have gs : ∀ k, k ≠ 3 → k < 6 → gO r' g k = gO r g k := (ag g hg).1
    have hen := (ag g hg).2.1
    have hdn := dn_iff ho (by omega) (dl := dl) hO hg
    unfold grK
    rw [eF g hg, gs 0 (by omega) (by omega), gs 1 (by omega) (by omega), gs 2 (by omega) (by omega), gs 4 (by omega) (by omega), hen]
    refine ⟨⟨c1.1, by have := c1.2; omega⟩, c2, c3, ?_, ?_, ?_⟩
    · rcases c4 with q | ⟨q1, q2⟩
      · exact Or.inl q
      · refine Or.inr ⟨q1, ?_⟩
        unfold enS
        rw [if_neg, q2]
        intro z
        have := (hdn.mp z).1
        unfold opB at this
        rw [q1] at this
        simp at this
    · intro f hf
      have hfl := (ag g hg).2.2 f hf
      rw [hfl.1 2 (by omega), hvr g f hg hf]
      have := c5 f hf
      exact ⟨this.1, this.2.1, by omega⟩
    · unfold enS
      by_cases hd : dnS r dl M O g = true
      · rw [if_pos hd]
        refine Or.inr ?_
        have ht := ho.2.1
        rw [ht.1, nI_1, vN_nI (by omega)]
        refine ⟨rfl, by omega, fun f hf => ?_⟩
        rw [hvr g f hg hf]
        exact (hdn.mp hd).2 f hf
      · rw [if_neg hd]
        rcases c6 with ⟨q1, f, q2, q3⟩ | ⟨q1, q2, q3⟩
        · refine Or.inl ⟨q1, ?_⟩
          rcases c4 with w | ⟨w, -⟩
          · have hop : opB r g = true := by unfold opB; rw [w, q1]; rfl
            have hne : ¬ ∀ f, f < nF r g → vN (fO r g f 3) - vN (finR r dl M O g f) = 0 := fun z => hd (hdn.mpr ⟨hop, z⟩)
            obtain ⟨f', hf'⟩ := Classical.not_forall.mp hne
            obtain ⟨f1, f2⟩ := Classical.not_imp.mp hf'
            exact ⟨f', f1, by rw [hvr g f' hg f1]; omega⟩
          · refine ⟨f, q2, ?_⟩
            rw [hvr g f hg q2, finR_0]
            · have e0 : vN (0 : Int32) = 0 := rfl
              rw [e0]
              omega
            · intro x hx z
              have := (hO.1.2 x hx).2
              rw [z] at this
              unfold stO at this
              rw [w] at this
              simp at this
        · refine Or.inr ⟨q1, by omega, fun f hf => ?_⟩
          rw [hvr g f hg hf, q3 f hf, Nat.zero_sub]
end
/-! orders are orders -/
theorem ordS_inj (r : Nat → Int32) (bf : Nat → Nat → Bool) : ∀ n x y, x < (ordS r bf n).1 → y < (ordS r bf n).1 → (ordS r bf n).2 x = (ordS r bf n).2 y → x = y
  | 0, x, y, h, _, _ => absurd h (Nat.not_lt_zero x)
  | n + 1, x, y, hx, hy, he => by
    have ih := ordS_inj r bf n
    have ha := ordS_act r bf n
    rw [ordS] at hx hy he
    by_cases hs : stO r n = 1
    · rw [if_pos hs] at hx hy he
      simp only at hx hy he
      have hp := posS_le bf (ordS r bf n).2 n (ordS r bf n).1
      unfold insO at he
      generalize posS bf (ordS r bf n).2 n (ordS r bf n).1 = p at *
      by_cases h1 : x = p
      · by_cases h2 : y = p
        · omega
        · rw [if_pos h1, if_neg h2] at he
          by_cases h3 : p < y ∧ y ≤ (ordS r bf n).1
          · rw [if_pos h3] at he
            have := (ha (y - 1) (by omega)).1
            omega
          · rw [if_neg h3] at he
            have := (ha y (by omega)).1
            omega
      · rw [if_neg h1] at he
        by_cases h2 : y = p
        · rw [if_pos h2] at he
          by_cases h3 : p < x ∧ x ≤ (ordS r bf n).1
          · rw [if_pos h3] at he
            have := (ha (x - 1) (by omega)).1
            omega
          · rw [if_neg h3] at he
            have := (ha x (by omega)).1
            omega
        · rw [if_neg h2] at he
          by_cases h3 : p < x ∧ x ≤ (ordS r bf n).1
          · rw [if_pos h3] at he
            by_cases h4 : p < y ∧ y ≤ (ordS r bf n).1
            · rw [if_pos h4] at he
              have := ih (x - 1) (y - 1) (by omega) (by omega) he
              omega
            · rw [if_neg h4] at he
              have := ih (x - 1) y (by omega) (by omega) he
              omega
          · rw [if_neg h3] at he
            by_cases h4 : p < y ∧ y ≤ (ordS r bf n).1
            · rw [if_pos h4] at he
              have := ih x (y - 1) (by omega) (by omega) he
              omega
            · rw [if_neg h4] at he
              exact ih x y (by omega) (by omega) he
    · rw [if_neg hs] at hx hy he
      exact ih x y hx hy he
theorem ordS_mem (r : Nat → Int32) (bf : Nat → Nat → Bool) : ∀ n g, g < n → stO r g = 1 → ∃ x, x < (ordS r bf n).1 ∧ (ordS r bf n).2 x = g
  | 0, g, h, _ => absurd h (Nat.not_lt_zero g)
  | n + 1, g, h, hg => by
    have ih := ordS_mem r bf n
    rw [ordS]
    by_cases hs : stO r n = 1
    · rw [if_pos hs]
      simp only
      have hp := posS_le bf (ordS r bf n).2 n (ordS r bf n).1
      unfold insO
      generalize posS bf (ordS r bf n).2 n (ordS r bf n).1 = p at *
      by_cases hgn : g = n
      · exact ⟨p, by omega, by rw [if_pos rfl, hgn]⟩
      · obtain ⟨x, x1, x2⟩ := ih g (by omega) hg
        rcases Nat.lt_or_ge x p with q | q
        · exact ⟨x, by omega, by rw [if_neg (by omega), if_neg (by omega), x2]⟩
        · exact ⟨x + 1, by omega, by rw [if_neg (by omega), if_pos (by omega), Nat.add_sub_cancel, x2]⟩
    · rw [if_neg hs]
      have : g ≠ n := fun q => hs (by rw [← q]; exact hg)
      exact ih g (by omega) hg
theorem ordS_C {r : Nat → Int32} (hG : okG r) (bf : Nat → Nat → Bool) : ordC r (ordS r bf (nG r)).1 (ordS r bf (nG r)).2 := ⟨⟨Nat.le_trans (ordS_m _ _ _) hG.1.2, fun x hx => ordS_act _ _ _ x hx⟩, fun x y => ordS_inj r bf _ x y, fun g hg hs => ordS_mem r bf _ g hg hs⟩
