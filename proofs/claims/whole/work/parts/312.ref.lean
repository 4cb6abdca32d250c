/-! spans -/
def nF (r : Nat → Int32) (g : Nat) : Nat := vN (gO r g 5)
theorem flK.n {r : Nat → Int32} {g n : Nat} (h : flK r g n) : nF r g = n := by unfold nF; rw [h.1]; exact vN_nI (by have := h.2.1; omega)
/-- what the group g needs at the port p for the span y -/
def needN (r : Nat → Int32) (g y p : Nat) : Nat := sumN (fun f => if vN (fO r g f 0) = p ∨ 8 + vN (fO r g f 1) = p then cdiv (vN (fO r g f 3)) y else 0) (nF r g)
def fitN (r : Nat → Int32) (g : Nat) (A : Nat → Int32) (y : Nat) : Prop := ∀ p, p < 16 → needN r g y p ≤ vN (A p)
def avK (A : Nat → Int32) : Prop := ∀ p, p < 16 → A p = nI (vN (A p)) ∧ vN (A p) < 2147483648
theorem cdiv_anti {a x y : Nat} (h0 : 0 < x) (h : x ≤ y) : cdiv a y ≤ cdiv a x := by
  unfold cdiv
  have hy : 0 < y := by omega
  rcases Nat.eq_zero_or_pos a with ha | ha
  · subst ha
    rw [Nat.div_eq_of_lt (by omega)]
    exact Nat.zero_le _
  · refine (Nat.div_le_iff_le_mul_add_pred hy).mpr ?_
    have h1 : a + x - 1 < x * ((a + x - 1) / x) + x := by
      have := Nat.lt_mul_div_succ (a + x - 1) h0
      rw [Nat.mul_add] at this
      omega
    have h2 : x * ((a + x - 1) / x) ≤ y * ((a + x - 1) / x) := Nat.mul_le_mul_right _ h
    omega
theorem sumN_mono {f g : Nat → Nat} : ∀ {n : Nat}, (∀ i, i < n → f i ≤ g i) → sumN f n ≤ sumN g n
  | 0, _ => Nat.le_refl _
  | n + 1, h => by
    have h1 := sumN_mono (n := n) (fun i hi => h i (by omega))
    have h2 := h n (by omega)
    rw [sumN, sumN]
    omega
theorem needN_anti {r : Nat → Int32} {g x y p : Nat} (h0 : 0 < x) (h : x ≤ y) : needN r g y p ≤ needN r g x p := by
  refine sumN_mono (fun i hi => ?_)
  split
  · exact cdiv_anti h0 h
  · exact Nat.le_refl _
theorem fitN_mono {r : Nat → Int32} {g : Nat} {A : Nat → Int32} {x y : Nat} (h0 : 0 < x) (h : x ≤ y) (hf : fitN r g A x) : fitN r g A y := fun p hp => Nat.le_trans (needN_anti h0 h) (hf p hp)
theorem needN_le {r : Nat → Int32} {g y p : Nat} (hk : flK r g (nF r g)) (h0 : 0 < y) : needN r g y p ≤ 1600000 := by
  have h1 := sumN_le (f := fun f => if vN (fO r g f 0) = p ∨ 8 + vN (fO r g f 1) = p then cdiv (vN (fO r g f 3)) y else 0) (B := 100000) (n := nF r g) (fun i hi => by
    try dsimp only
    split
    · exact Nat.le_trans (cdiv_le h0) (hk.2.2 i hi).2.2.2
    · omega)
  have h2 := hk.2.1
  unfold needN
  omega
theorem needI_nI {r : Nat → Int32} {g y : Nat} (hk : flK r g (nF r g)) (h0 : 0 < y) (hy : y < 2000000000) (p : Nat) : needI r g (nI y) (nF r g) p = nI (needN r g y p) := by
  unfold needI needN
  rw [← sumI_nI]
  refine sumI_cg (fun i hi => ?_)
  obtain ⟨-, -, h1, h2⟩ := hk.2.2 i hi
  unfold thr1
  split
  · rw [h1, upI_nI h0 (by omega), ← h1]
  · rfl
theorem fit_all {r : Nat → Int32} {g y : Nat} {A : Nat → Int32} (hk : flK r g (nF r g)) (hA : avK A) (h0 : 0 < y) (hy : y < 2000000000) : allB (fun p => !decide (A p < needI r g (nI y) (nF r g) p)) 16 = true ↔ fitN r g A y := by
  rw [allB_iff]
  constructor
  · intro h p hp
    have h1 := h p hp
    rw [needI_nI hk h0 hy, (hA p hp).1] at h1
    simp only [Bool.not_eq_true', decide_eq_false_iff_not] at h1
    rcases Nat.lt_or_ge (vN (A p)) (needN r g y p) with q | q
    · exact absurd (lt_p q (by have := needN_le (p := p) hk h0; omega)) h1
    · exact q
  · intro h p hp
    rw [needI_nI hk h0 hy, (hA p hp).1]
    simp only [Bool.not_eq_true', decide_eq_false_iff_not]
    exact lt_n (h p hp) (hA p hp).2
def isSpan (r : Nat → Int32) (g : Nat) (A : Nat → Int32) (x : Int32) : Prop := (x = -1 ∧ ¬ fitN r g A 100000) ∨ ∃ y, 1 ≤ y ∧ y ≤ 100000 ∧ x = nI y ∧ fitN r g A y ∧ ∀ z, 1 ≤ z → z < y → ¬ fitN r g A z
noncomputable def spn (r : Nat → Int32) (g : Nat) (A : Nat → Int32) : Int32 := @Classical.epsilon Int32 ⟨0⟩ (isSpan r g A)
theorem isSpan_one {r : Nat → Int32} {g : Nat} {A : Nat → Int32} {x y : Int32} (hx : isSpan r g A x) (hy : isSpan r g A y) : x = y := by
  rcases hx with ⟨rfl, h1⟩ | ⟨u, u1, u2, rfl, u3, u4⟩
  · rcases hy with ⟨rfl, -⟩ | ⟨v, v1, v2, rfl, v3, v4⟩
    · rfl
    · exact absurd (fitN_mono (by omega) v2 v3) h1
  · rcases hy with ⟨rfl, h1⟩ | ⟨v, v1, v2, rfl, v3, v4⟩
    · exact absurd (fitN_mono (by omega) u2 u3) h1
    · rcases Nat.lt_trichotomy u v with h | h | h
      · exact absurd u3 (v4 u u1 h)
      · rw [h]
      · exact absurd v3 (u4 v v1 h)
theorem spn_eq {r : Nat → Int32} {g : Nat} {A : Nat → Int32} {x : Int32} (hx : isSpan r g A x) : spn r g A = x := isSpan_one (Classical.epsilon_spec (p := isSpan r g A) ⟨x, hx⟩) hx
section
variable {b : Nat} {W : WD}
theorem m_fitsN {g y : Nat} (hg : g < 12) (hk : flK (W.2.1 10 0 0 0) g (nF (W.2.1 10 0 0 0) g)) (hA : avK (W.2.1 10 0 0 4)) (h0 : 0 < y) (hy : y < 2000000000) : ∃ (c : Bool) (F : Nat → Int32), f_X10_fits (b + ad 10 0 0) (nI g) (nI y) (wd b W) = some (bI c, wd b (wsA W 10 0 0 5 F)) ∧ (c = true ↔ fitN (W.2.1 10 0 0 0) g (W.2.1 10 0 0 4) y) :=
  ⟨_, _, m_fits hg hk (ne_p (b := 0) (by omega) (by omega) (by omega)), fit_all hk hA h0 hy⟩
theorem m_spanL {g : Nat} (hg : g < 12) {r A : Nat → Int32} (hk : flK r g (nF r g)) (hA : avK A) : ∀ (d m a c : Nat) (W : WD), W.2.1 10 0 0 0 = r → W.2.1 10 0 0 4 = A → a < c → c ≤ 100000 → c - a ≤ 2 ^ d → d < m → fitN r g A c → (a = 0 ∨ ¬ fitN r g A a) → ∃ F, f_X10_spanOf_L17 (b + ad 10 0 0) (nI g) (fun v9 N10 => some (v9, N10)) m (nI a) (nI c) (wd b W) = some (spn r g A, wd b (wsA W 10 0 0 5 F)) := by
  intro d
  induction d with
  | zero =>
    intro m a c W hr hAe h1 h2 h3 h4 h5 h6
    obtain ⟨m, rfl⟩ : ∃ q, m = q + 1 := ⟨m - 1, by omega⟩
    refine ⟨W.2.1 10 0 0 5, ?_⟩
    rw [f_X10_spanOf_L17, pk_sub (by omega), li 1, if_pos (le_p (by omega) (by omega)), wsA_s, spn_eq (x := nI c) (Or.inr ⟨c, by omega, h2, rfl, h5, fun z z1 z2 => ?_⟩)]
    rcases h6 with h | h
    · omega
    · exact fun q => h (fitN_mono (by omega) (by omega) q)
  | succ d ih =>
    intro m a c W hr hAe h1 h2 h3 h4 h5 h6
    obtain ⟨m, rfl⟩ : ∃ q, m = q + 1 := ⟨m - 1, by omega⟩
    rcases Nat.lt_or_ge (c - a) 2 with h | h
    · refine ⟨W.2.1 10 0 0 5, ?_⟩
      rw [f_X10_spanOf_L17, pk_sub (by omega), li 1, if_pos (le_p (by omega) (by omega)), wsA_s, spn_eq (x := nI c) (Or.inr ⟨c, by omega, h2, rfl, h5, fun z z1 z2 => ?_⟩)]
      rcases h6 with h | h
      · omega
      · exact fun q => h (fitN_mono (by omega) (by omega) q)
    · have hd : dV (nI (a + c)) (nI 2) = some (nI ((a + c) / 2)) := by
        unfold dV
        rw [if_neg (by decide), pk_div (by omega) (by omega) (by omega)]
      obtain ⟨q, F, e1, e2⟩ := m_fitsN (b := b) (W := W) (y := (a + c) / 2) hg (by rw [hr]; exact hk) (by rw [hAe]; exact hA) (by omega) (by omega)
      rw [hr, hAe] at e2
      rw [f_X10_spanOf_L17, pk_sub (by omega), li 1, if_neg (le_n (by omega) (by omega)), nI_add, li 2, ob_i hd, ob2_i e1]
      rw [Nat.pow_succ] at h3
      cases q with
      | true =>
        rw [if_neg (by decide)]
        obtain ⟨F2, e3⟩ := ih m a ((a + c) / 2) (wsA W 10 0 0 5 F) (by rw [wsA_k _ (by decide), hr]) (by rw [wsA_k _ (by decide), hAe]) (by omega) (by omega) (by omega) (by omega) (e2.mp rfl) h6
        exact ⟨F2, by rw [e3, wsA_2]⟩
      | false =>
        rw [if_pos (show bI false = 0 from rfl)]
        obtain ⟨F2, e3⟩ := ih m ((a + c) / 2) c (wsA W 10 0 0 5 F) (by rw [wsA_k _ (by decide), hr]) (by rw [wsA_k _ (by decide), hAe]) (by omega) h2 (by omega) (by omega) h5 (Or.inr fun q => by simpa using e2.mpr q)
        exact ⟨F2, by rw [e3, wsA_2]⟩
theorem m_spanOf {g : Nat} (hg : g < 12) (hk : flK (W.2.1 10 0 0 0) g (nF (W.2.1 10 0 0 0) g)) (hA : avK (W.2.1 10 0 0 4)) : ∃ F, f_X10_spanOf (b + ad 10 0 0) (nI g) (wd b W) = some (spn (W.2.1 10 0 0 0) g (W.2.1 10 0 0 4), wd b (wsA W 10 0 0 5 F)) := by
  unfold f_X10_spanOf
  obtain ⟨q, F, e1, e2⟩ := m_fitsN (b := b) (W := W) (y := 100000) hg hk hA (by omega) (by omega)
  rw [oO_10 h10, li 100000, ob2_i e1]
  cases q with
  | true =>
    rw [if_pos (by decide)]
    obtain ⟨F2, e3⟩ := m_spanL (b := b) hg hk hA 17 FU 0 100000 (wsA W 10 0 0 5 F) (by rw [wsA_k _ (by decide)]) (by rw [wsA_k _ (by decide)]) (by omega) (by omega) (by decide) (by have := FUgt; omega) (e2.mp rfl) (Or.inl rfl)
    exact ⟨F2, e3.trans (by rw [wsA_2])⟩
  | false =>
    rw [if_neg (by decide), spn_eq (x := -1) (Or.inl ⟨rfl, fun q => by simpa using e2.mpr q⟩)]
    exact ⟨F, rfl⟩
end
