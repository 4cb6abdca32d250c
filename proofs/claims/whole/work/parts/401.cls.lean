theorem loopX {β σ : Type} (F : Nat → Nat → σ → Option β) (n : Nat) (I : Nat → σ → Prop) (P : Option β → Prop) (hs : ∀ m i s, i < n → I i s → (∃ s', I (i + 1) s' ∧ F (m + 1) i s = F m (i + 1) s') ∨ P (F (m + 1) i s)) (he : ∀ m s, I n s → P (F (m + 1) n s)) : ∀ m i s, i ≤ n → n - i < m → I i s → P (F m i s) := by
  intro m
  induction m with
  | zero => intro i s h1 h2; exact absurd h2 (by omega)
  | succ m ih =>
    intro i s h1 h2 hI
    rcases Nat.lt_or_ge i n with h | h
    · rcases hs m i s h hI with ⟨s', h3, h4⟩ | h3
      · rw [h4]
        exact ih (i + 1) s' (by omega) (by omega) h3
      · exact h3
    · have hi : i = n := by omega
      subst hi
      exact he m s hI
def needU (r : Nat → Int32) (g y i p : Nat) : Nat := sumN (fun f => if vN (fO r g f 0) = p ∨ 8 + vN (fO r g f 1) = p then cdiv (vN (fO r g f 3)) y else 0) i
theorem needU_le {r : Nat → Int32} {g y p : Nat} : ∀ {i n : Nat}, i ≤ n → needU r g y i p ≤ needU r g y n p := by
  intro i n h
  induction n with
  | zero => rw [show i = 0 by omega]; exact Nat.le_refl _
  | succ n ih =>
    rcases Nat.lt_or_ge n i with q | q
    · rw [show i = n + 1 by omega]; exact Nat.le_refl _
    · have h1 := ih q
      have h2 : needU r g y (n + 1) p = needU r g y n p + (if vN (fO r g n 0) = p ∨ 8 + vN (fO r g n 1) = p then cdiv (vN (fO r g n 3)) y else 0) := rfl
      omega
theorem needU_big {r : Nat → Int32} {g y p i : Nat} (hi : i ≤ 16) (hfl : ∀ f, f < i → vN (fO r g f 3) ≤ 100000) (h0 : 0 < y) : needU r g y i p ≤ 1600000 := by
  have h1 := sumN_le (f := fun f => if vN (fO r g f 0) = p ∨ 8 + vN (fO r g f 1) = p then cdiv (vN (fO r g f 3)) y else 0) (B := 100000) (n := i) (fun j hj => by
    try dsimp only
    split
    · exact Nat.le_trans (cdiv_le h0) (hfl j hj)
    · omega)
  unfold needU
  omega
/-- scratch of the tick t -/
def scr (t : Nat) : Nat → Nat → Nat → Nat → Prop := fun c i _ k => c = 8 ∧ i = t ∧ (k = 8 ∨ k = 9 ∨ k = 10)
section
variable {b : Nat} {W : WD}
theorem c_isEnough {t i g x y : Nat} {A r : Nat → Int32} (ht : vo 8 t 0 = true) (hv : vo 1 i g = true) (hf : flR W i g r) (hk : flK r g (nF r g)) (hA : avK A) (hx : ∀ V, frQ (scr t) W V → ∀ p, p < 16 → aI (wd b V) x (nI p) = some (A p)) (h0 : 0 < y) (hy : y < 1000000000) : ∃ (c : Bool) (W' : WD), f_X8_isEnough (b + ad 8 t 0) (b + ad 1 i g) (nI y) x (wd b W) = some (bI c, wd b W') ∧ frQ (scr t) W W' ∧ (c = true ↔ fitN r g A y) := by
  obtain ⟨hc, hn, hfl⟩ := id hk
  unfold f_X8_isEnough
  rw [oO_8 ht, if_pos (show 1 ≤ nI y from le_p (a := 1) (by omega) (by omega)), o8_10 ht, ob2_i (c_fill8 ht ⟨Or.inr (Or.inr rfl), rfl⟩)]
  generalize hW1 : wsA W 8 t 0 10 (filI (W.2.1 8 t 0 10) 16 (fun _ => 0)) = W1
  have f0 : frQ (scr t) W W1 := by
    rw [← hW1]
    exact frQ.A ⟨rfl, rfl, Or.inr (Or.inr rfl)⟩
  have z0 : ∀ p, p < 16 → W1.2.1 8 t 0 10 p = nI (needU r g y 0 p) := by
    intro p hp
    rw [← hW1, wsA_r, filI_lt hp]
    rfl
  refine loopX (fun m j (V : WD) => f_X8_isEnough_L18 (b + ad 8 t 0) (b + ad 1 i g) (nI y) x (fun N27 => some ((0 : Int32), N27)) (fun N28 => some ((1 : Int32), N28)) m (nI j) (wd b V)) (nF r g) (fun j V => frQ (scr t) W V ∧ (∀ p, p < 16 → V.2.1 8 t 0 10 p = nI (needU r g y j p)) ∧ ∀ p, p < 16 → needU r g y j p ≤ vN (A p)) (fun z => ∃ (c : Bool) (W' : WD), z = some (bI c, wd b W') ∧ frQ (scr t) W W' ∧ (c = true ↔ fitN r g A y)) ?_ ?_ FU 0 W1 (by omega) (by have := FUgt; omega) ⟨f0, z0, fun p hp => Nat.zero_le _⟩
  · intro m j V hj ⟨k1, k2, k3⟩
    obtain ⟨x1, x2, x3, x4⟩ := hf.2 j hj
    obtain ⟨⟨s1, s2⟩, ⟨t1, t2⟩, q1, q2⟩ := hfl j hj
    have e0 : V.1 1 i g 0 = nI (nF r g) := by rw [k1.1 1 i g 0 (by unfold scr; omega), hf.1, hc]
    have e1 : V.2.1 1 i g 1 j = nI (vN (fO r g j 0)) := by rw [k1.2.1 1 i g 1 (by unfold scr; omega), x1, ← s1]
    have e2 : V.2.1 1 i g 2 j = nI (vN (fO r g j 1)) := by rw [k1.2.1 1 i g 2 (by unfold scr; omega), x2, ← t1]
    have e4 : V.2.1 1 i g 4 j = nI (vN (fO r g j 3)) := by rw [k1.2.1 1 i g 4 (by unfold scr; omega), x4, ← q1]
    have ed : dV (nI (vN (fO r g j 3)) + nI y - 1) (nI y) = some (nI (cdiv (vN (fO r g j 3)) y)) := by
      unfold dV
      rw [if_neg (show ¬ nI y = 0 from ne_p (b := 0) (by omega) (by omega) (by omega)), ← upI_nI h0 (by omega)]
      rfl
    have hb : ∀ p, needU r g y (j + 1) p ≤ 1600000 := fun p => needU_big (by omega) (fun f hf => (hfl f (by omega)).2.2.2) h0
    have hstep : ∀ p, needU r g y (j + 1) p = needU r g y j p + (if vN (fO r g j 0) = p ∨ 8 + vN (fO r g j 1) = p then cdiv (vN (fO r g j 3)) y else 0) := fun p => rfl
    try dsimp only
    rw [f_X8_isEnough_L18, o1_0 hv, e0, if_neg (le_n hj (by omega)), o1_4 hv, oa1_4 hv (by omega), e4, ob_i ed, o1_1 hv, oa1_1 hv (by omega), e1, o1_2 hv, oa1_2 hv (by omega), e2, o8_10 ht, oa8_10 ht (by omega), ot8_10 ht (by omega), o8_10 ht, li 8, nI_add, oa8_10 ht (by omega), wsA_r, ot8_10 ht (by omega), wsA_r, wsA_2, upd_add2 (by omega)]
    generalize hV2 : wsA V 8 t 0 10 (fun p => V.2.1 8 t 0 10 p + if vN (fO r g j 0) = p ∨ 8 + vN (fO r g j 1) = p then nI (cdiv (vN (fO r g j 3)) y) else 0) = V2
    have g1 : frQ (scr t) W V2 := by
      rw [← hV2]
      exact k1.tr (frQ.A ⟨rfl, rfl, Or.inr (Or.inr rfl)⟩)
    have g2 : ∀ p, p < 16 → V2.2.1 8 t 0 10 p = nI (needU r g y (j + 1) p) := by
      intro p hp
      rw [← hV2, wsA_r, k2 p hp, hstep]
      split
      · rw [nI_add]
      · rw [Int32.add_zero, Nat.add_zero]
    have fail : ∀ p, p < 16 → vN (A p) < needU r g y (j + 1) p → ∃ (c : Bool) (W' : WD), (some ((0 : Int32), wd b V2) : Option (Int32 × AH)) = some (bI c, wd b W') ∧ frQ (scr t) W W' ∧ (c = true ↔ fitN r g A y) := by
      intro p hp hlt
      refine ⟨false, V2, rfl, g1, ⟨fun q => (by cases q), fun q => ?_⟩⟩
      have h1 := q p hp
      have h2 := needU_le (r := r) (g := g) (y := y) (p := p) (show j + 1 ≤ nF r g by omega)
      have h3 : needN r g y p = needU r g y (nF r g) p := rfl
      omega
    rw [o8_10 ht, oa8_10 ht (by omega), g2 _ (by omega), ob_i (hx V2 g1 _ (by omega))]
    have hAs := hA (vN (fO r g j 0)) (by omega)
    have hAt := hA (8 + vN (fO r g j 1)) (by omega)
    by_cases c1 : vN (A (vN (fO r g j 0))) < needU r g y (j + 1) (vN (fO r g j 0))
    · right
      rw [if_pos (by rw [hAs.1]; exact lt_p c1 (by have := hb (vN (fO r g j 0)); omega))]
      exact fail _ (by omega) c1
    · rw [if_neg (by rw [hAs.1]; exact lt_n (by omega) hAs.2), o8_10 ht, oa8_10 ht (by omega), g2 _ (by omega), ob_i (hx V2 g1 _ (by omega))]
      by_cases c2 : needU r g y (j + 1) (8 + vN (fO r g j 1)) ≤ vN (A (8 + vN (fO r g j 1)))
      · left
        rw [if_pos (by rw [hAt.1]; exact le_p c2 hAt.2), nI_1]
        refine ⟨V2, ⟨g1, g2, fun p hp => ?_⟩, rfl⟩
        by_cases hp1 : vN (fO r g j 0) = p
        · rw [← hp1]; omega
        · by_cases hp2 : 8 + vN (fO r g j 1) = p
          · rw [← hp2]; exact c2
          · rw [hstep, if_neg (by omega)]
            have := k3 p hp
            omega
      · right
        rw [if_neg (by rw [hAt.1]; exact le_n (by omega) (by have := hb (8 + vN (fO r g j 1)); omega))]
        exact fail (8 + vN (fO r g j 1)) (by omega) (by omega)
  · intro m V ⟨k1, k2, k3⟩
    try dsimp only
    rw [f_X8_isEnough_L18, o1_0 hv, k1.1 1 i g 0 (by unfold scr; omega), hf.1, hc, if_pos (le_p (Nat.le_refl _) (by omega))]
    exact ⟨true, V, rfl, k1, ⟨fun _ => k3, fun _ => rfl⟩⟩
end
/-! bounds of a span -/
theorem usN_need {r : Nat → Int32} {g y p : Nat} (h0 : 0 < y) : usN r g (nF r g) p ≤ needN r g y p := by
  refine sumN_mono (fun f hf => ?_)
  by_cases hu : vN (fO r g f 0) = p ∨ 8 + vN (fO r g f 1) = p
  · rw [if_pos hu]
    split
    · rename_i h
      unfold cdiv
      exact (Nat.le_div_iff_mul_le h0).mpr (by omega)
    · exact Nat.zero_le _
  · rw [if_neg hu, if_neg (fun q => hu q.1)]
    exact Nat.le_refl _
theorem un_need {r : Nat → Int32} {g y p : Nat} (h0 : 0 < y) : ∀ n, unN r g n p ≤ y * needU r g y n p
  | 0 => Nat.zero_le _
  | n + 1 => by
    have ih := un_need (r := r) (g := g) (p := p) h0 n
    have e1 : unN r g (n + 1) p = unN r g n p + (if vN (fO r g n 0) = p ∨ 8 + vN (fO r g n 1) = p then vN (fO r g n 3) else 0) := rfl
    have e2 : needU r g y (n + 1) p = needU r g y n p + (if vN (fO r g n 0) = p ∨ 8 + vN (fO r g n 1) = p then cdiv (vN (fO r g n 3)) y else 0) := rfl
    rw [e1, e2, Nat.mul_add]
    split
    · have h1 : vN (fO r g n 3) ≤ y * cdiv (vN (fO r g n 3)) y := by
        unfold cdiv
        have := Nat.lt_mul_div_succ (vN (fO r g n 3) + y - 1) h0
        rw [Nat.mul_add] at this
        omega
      omega
    · omega
theorem need_un {r : Nat → Int32} {g y p : Nat} (h0 : 0 < y) : ∀ n, usN r g n p ≤ unN r g n p ∧ y * needU r g y n p + usN r g n p ≤ y * usN r g n p + unN r g n p
  | 0 => ⟨Nat.le_refl _, by simp [needU, usN, unN, sumN]⟩
  | n + 1 => by
    obtain ⟨i1, i2⟩ := need_un (r := r) (g := g) (p := p) h0 n
    have e1 : unN r g (n + 1) p = unN r g n p + (if vN (fO r g n 0) = p ∨ 8 + vN (fO r g n 1) = p then vN (fO r g n 3) else 0) := rfl
    have e2 : needU r g y (n + 1) p = needU r g y n p + (if vN (fO r g n 0) = p ∨ 8 + vN (fO r g n 1) = p then cdiv (vN (fO r g n 3)) y else 0) := rfl
    have e3 : usN r g (n + 1) p = usN r g n p + (if (vN (fO r g n 0) = p ∨ 8 + vN (fO r g n 1) = p) ∧ 0 < vN (fO r g n 3) then 1 else 0) := rfl
    rw [e1, e2, e3, Nat.mul_add, Nat.mul_add]
    by_cases hu : vN (fO r g n 0) = p ∨ 8 + vN (fO r g n 1) = p
    · by_cases hz : 0 < vN (fO r g n 3)
      · rw [if_pos hu, if_pos hu, if_pos ⟨hu, hz⟩]
        have h1 : y * cdiv (vN (fO r g n 3)) y ≤ vN (fO r g n 3) + y - 1 := by
          unfold cdiv
          exact Nat.mul_div_le _ _
        omega
      · rw [if_pos hu, if_pos hu, if_neg (fun q => hz q.2), show vN (fO r g n 3) = 0 by omega]
        have h1 : cdiv 0 y = 0 := by
          unfold cdiv
          exact Nat.div_eq_of_lt (by omega)
        rw [h1]
        omega
    · rw [if_neg hu, if_neg hu, if_neg (fun q => hu q.1)]
      omega
theorem need_gr {r : Nat → Int32} {g y p : Nat} (h0 : 0 < y) (hy : grN r g (nF r g) ≤ y) : needN r g y p = usN r g (nF r g) p := by
  unfold needN usN
  refine sumN_cg (fun f hf => ?_)
  have h1 := Nat.le_trans (grN_ge (r := r) (g := g) hf) hy
  by_cases hu : vN (fO r g f 0) = p ∨ 8 + vN (fO r g f 1) = p
  · rw [if_pos hu]
    by_cases hz : 0 < vN (fO r g f 3)
    · rw [if_pos ⟨hu, hz⟩]
      unfold cdiv
      rw [Nat.div_eq_of_lt_le (k := 1)] <;> omega
    · rw [if_neg (fun q => hz q.2), show vN (fO r g f 3) = 0 by omega]
      unfold cdiv
      exact Nat.div_eq_of_lt (by omega)
  · rw [if_neg hu, if_neg (fun q => hu q.1)]
theorem nofit_low {r : Nat → Int32} {g y p a : Nat} (ha : 0 < a) (h0 : 0 < y) (h : y < cdiv (unN r g (nF r g) p) a) : a < needN r g y p := by
  have h1 := un_need (r := r) (g := g) (y := y) (p := p) h0 (nF r g)
  have h2 : (y + 1) * a ≤ unN r g (nF r g) p + a - 1 := (Nat.le_div_iff_mul_le ha).mp h
  have h3 : needN r g y p = needU r g y (nF r g) p := rfl
  rw [h3]
  rcases Nat.lt_or_ge a (needU r g y (nF r g) p) with q | q
  · exact q
  · have h4 := Nat.mul_le_mul_left y q
    rw [Nat.add_mul, Nat.one_mul] at h2
    omega
theorem fit_high {r : Nat → Int32} {g y p a : Nat} (h0 : 0 < y) (hl : usN r g (nF r g) p < a) (h : cdiv (unN r g (nF r g) p - usN r g (nF r g) p) (a - usN r g (nF r g) p) ≤ y) : needN r g y p ≤ a := by
  obtain ⟨i1, i2⟩ := need_un (r := r) (g := g) (p := p) h0 (nF r g)
  have h3 : needN r g y p = needU r g y (nF r g) p := rfl
  rw [h3]
  generalize usN r g (nF r g) p = u at *
  generalize unN r g (nF r g) p = s at *
  generalize needU r g y (nF r g) p = n at *
  have h4 : s - u ≤ y * (a - u) := by
    unfold cdiv at h
    have h5 := Nat.lt_mul_div_succ (s - u + (a - u) - 1) (show 0 < a - u by omega)
    have h6 := Nat.mul_le_mul_left (a - u) h
    rw [Nat.mul_add] at h5
    rw [Nat.mul_comm y]
    omega
  have h7 : y * n ≤ y * a := by
    have h8 : y * (a - u) = y * a - y * u := Nat.mul_sub y a u
    have h9 : y * u ≤ y * a := Nat.mul_le_mul_left y (by omega)
    omega
  exact Nat.le_of_mul_le_mul_left h7 h0
