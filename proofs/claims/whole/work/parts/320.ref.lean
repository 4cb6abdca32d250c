/-! step 4 -/
theorem ix_gf {g g' f k c : Nat} (hk : k < 6) (hf : f < 16) (hc : c < 5) : 90 + 86 * g + k ≠ 90 + 86 * g' + (6 + 5 * f + c) := by
  rcases Nat.lt_trichotomy g g' with h | h | h <;> omega
theorem ix_ff {g g' f f' k c : Nat} (hf : f < 16) (hf' : f' < 16) (hk : k < 5) (hc : c < 5) (h : 90 + 86 * g + (6 + 5 * f + k) = 90 + 86 * g' + (6 + 5 * f' + c)) : g = g' ∧ f = f' ∧ k = c := by
  rcases Nat.lt_trichotomy g g' with h1 | h1 | h1
  · omega
  · subst h1
    exact ⟨rfl, by omega, by omega⟩
  · omega
theorem fO_un {r : Nat → Int32} {q g f k : Nat} {v : Int32} (h : 90 + 86 * g + (6 + 5 * f + k) ≠ q) : fO (upd r q v) g f k = fO r g f k := pk_un h
theorem gO_un {r : Nat → Int32} {q g k : Nat} {v : Int32} (h : 90 + 86 * g + k ≠ q) : gO (upd r q v) g k = gO r g k := pk_un h
def sndP (r : Nat → Int32) (g : Nat) (R : Nat → Int32) (i : Nat) (r1 : Nat → Int32) : Prop := (∀ q, ¬ (26 ≤ q ∧ q < 42) → (∀ f, f < i → q ≠ 90 + 86 * g + (6 + 5 * f + 3) ∧ q ≠ 90 + 86 * g + (6 + 5 * f + 4)) → r1 q = r q) ∧ (∀ f, f < i → r1 (90 + 86 * g + (6 + 5 * f + 3)) = fO r g f 3 - R f ∧ r1 (90 + 86 * g + (6 + 5 * f + 4)) = R f) ∧ ∀ p, p < 16 → r1 (26 + p) = r (26 + p) + sumI (fun f => thr1 r g f p (R f)) i
section
variable {b : Nat} {W : WD}
theorem m_sends {g : Nat} {r R : Nat → Int32} (hr : W.2.1 10 0 0 0 = r) (hg : g < 12) (hk : flK r g (nF r g)) (h14 : ∀ f, f < nF r g → W.2.1 10 0 0 14 (16 * g + f) = R f) : ∃ r', f_X10_sends (b + ad 10 0 0) (nI g) (wd b W) = some ((), wd b (wsA W 10 0 0 0 r')) ∧ sndP r g R (nF r g) r' := by
  have hn := hk.2.1
  unfold f_X10_sends
  rw [oO_10 h10]
  suffices h : ∃ r', f_X10_sends_L2 (b + ad 10 0 0) (nI g) (fun N20 => some ((), N20)) FU (nI 0) (wd b (wsA W 10 0 0 0 r)) = some ((), wd b (wsA W 10 0 0 0 r')) ∧ sndP r g R (nF r g) r' by
    rw [← hr, wsA_s] at h
    rw [hr] at h
    exact h
  refine loopE (fun m i (r1 : Nat → Int32) => f_X10_sends_L2 (b + ad 10 0 0) (nI g) (fun N20 => some ((), N20)) m (nI i) (wd b (wsA W 10 0 0 0 r1))) (nF r g) (fun i r1 => sndP r g R i r1) (fun z => ∃ r', z = some ((), wd b (wsA W 10 0 0 0 r')) ∧ sndP r g R (nF r g) r') ?_ ?_ FU 0 r (by omega) (by have := FUgt; omega) ⟨fun _ _ _ => rfl, fun f hf => absurd hf (Nat.not_lt_zero f), fun p hp => by rw [sumI, Int32.add_zero]⟩
  · intro m i r1 hi ⟨f1, f2, f3⟩
    obtain ⟨⟨s1, s2⟩, ⟨t1, t2⟩, -⟩ := hk.2.2 i hi
    have hc : gO r1 g 5 = nI (nF r g) := by
      unfold gO
      rw [f1 _ (by omega) (fun f hf => by omega)]
      exact hk.1
    have es : fO r1 g i 0 = nI (vN (fO r g i 0)) := by
      rw [← s1]
      unfold fO
      rw [f1 _ (by omega) (fun f hf => by omega)]
    have et : fO r1 g i 1 = nI (vN (fO r g i 1)) := by
      rw [← t1]
      unfold fO
      rw [f1 _ (by omega) (fun f hf => by omega)]
    have e3 : fO r1 g i 3 = fO r g i 3 := by
      unfold fO
      rw [f1 _ (by omega) (fun f hf => by omega)]
    have st : fO (upd (upd r1 (90 + 86 * g + (6 + 5 * i + 4)) (R i)) (90 + 86 * g + (6 + 5 * i + 3)) (fO r g i 3 - R i)) g i 0 = nI (vN (fO r g i 0)) := by
      rw [← es, fO_un (by omega), fO_un (by omega)]
    have tt : ∀ v, fO (upd (upd (upd r1 (90 + 86 * g + (6 + 5 * i + 4)) (R i)) (90 + 86 * g + (6 + 5 * i + 3)) (fO r g i 3 - R i)) (26 + vN (fO r g i 0)) v) g i 1 = nI (vN (fO r g i 1)) := by
      intro v
      rw [← et, fO_un (by omega), fO_un (by omega), fO_un (by omega)]
    try dsimp only
    rw [f_X10_sends_L2, ob2_i (m_ofk 5 5 rfl (by omega)), wsA_r, hc, if_neg (le_n hi (by omega)), o10_14 h10, li 16, pk_mul, nI_add, oa10_14 h10 (by omega), wsA_k _ (by decide), h14 i hi, li 4, ob2_i (m_setsFlow (by omega)), wsA_r, wsA_2, ob2_i (m_flowOfk 3 3 rfl (by omega)), wsA_r]
    rw [show fO (upd r1 (90 + 86 * g + (6 + 5 * i + 4)) (R i)) g i 3 = fO r g i 3 by rw [← e3]; unfold fO; rw [pk_un (by omega)]]
    rw [li 3, ob2_i (m_setsFlow (by omega)), wsA_r, wsA_2, o10_0 h10, ob2_i (m_flowOfk 0 0 rfl (by omega)), wsA_r, st, li 26, nI_add, oa10_0 h10 (by omega), wsA_r, ot10_0 h10 (by omega), wsA_r, wsA_2, o10_0 h10, ob2_i (m_flowOfk 1 1 rfl (by omega)), wsA_r, tt, li 34, nI_add, oa10_0 h10 (by omega), wsA_r, ot10_0 h10 (by omega), wsA_r, wsA_2, nI_1]
    refine ⟨_, ⟨?_, ?_, ?_⟩, rfl⟩
    · intro q q1 q2
      have q3 := q2 i (by omega)
      rw [pk_un (by omega), pk_un (by omega), pk_un q3.1, pk_un q3.2]
      exact f1 q q1 (fun f hf => q2 f (by omega))
    · intro f hf
      by_cases hfi : f = i
      · subst hfi
        refine ⟨?_, ?_⟩
        · rw [pk_un (by omega), pk_un (by omega), pk_us]
        · rw [pk_un (by omega), pk_un (by omega), pk_un (by omega), pk_us]
      · obtain ⟨g1, g2⟩ := f2 f (by omega)
        refine ⟨?_, ?_⟩
        · rw [pk_un (by omega), pk_un (by omega), pk_un (by omega), pk_un (by omega), g1]
        · rw [pk_un (by omega), pk_un (by omega), pk_un (by omega), pk_un (by omega), g2]
    · intro p hp
      have e4 : upd (upd r1 (90 + 86 * g + (6 + 5 * i + 4)) (R i)) (90 + 86 * g + (6 + 5 * i + 3)) (fO r g i 3 - R i) (26 + p) = r1 (26 + p) := by rw [pk_un (by omega), pk_un (by omega)]
      rw [sumI, ← Int32.add_assoc, ← f3 p hp]
      unfold thr1
      by_cases h1 : p = vN (fO r g i 0)
      · rw [if_pos (Or.inl h1.symm), pk_un (by omega), h1, pk_us, ← h1, e4]
      · by_cases h2 : p = 8 + vN (fO r g i 1)
        · rw [if_pos (Or.inr h2.symm), show 34 + vN (fO r g i 1) = 26 + p by omega, pk_us, pk_un (by omega), e4]
        · rw [if_neg (by rintro (q | q) <;> omega), pk_un (by omega), pk_un (by omega), e4, Int32.add_zero]
  · intro m r1 ⟨f1, f2, f3⟩
    have hc : gO r1 g 5 = nI (nF r g) := by
      unfold gO
      rw [f1 _ (by omega) (fun f hf => by omega)]
      exact hk.1
    try dsimp only
    rw [f_X10_sends_L2, ob2_i (m_ofk 5 5 rfl (by omega)), wsA_r, hc, if_pos (le_p (Nat.le_refl _) (by omega))]
    exact ⟨r1, rfl, f1, f2, f3⟩
end
/-- all groups have sent, the first n of them -/
def sntP (r : Nat → Int32) (R : Nat → Nat → Int32) (n : Nat) (r1 : Nat → Int32) : Prop := (∀ q, ¬ (26 ≤ q ∧ q < 42) → (∀ g f, g < n → f < nF r g → q ≠ 90 + 86 * g + (6 + 5 * f + 3) ∧ q ≠ 90 + 86 * g + (6 + 5 * f + 4)) → r1 q = r q) ∧ (∀ g f, g < n → f < nF r g → r1 (90 + 86 * g + (6 + 5 * f + 3)) = fO r g f 3 - R g f ∧ r1 (90 + 86 * g + (6 + 5 * f + 4)) = R g f) ∧ ∀ p, p < 16 → r1 (26 + p) = r (26 + p) + sumI (fun g => sumI (fun f => thr1 r g f p (R g f)) (nF r g)) n
theorem sntP_g {r : Nat → Int32} {R : Nat → Nat → Int32} {n : Nat} {r1 : Nat → Int32} (h : sntP r R n r1) (hF : ∀ g, g < n → nF r g ≤ 16) (g k : Nat) (hk : k < 6) : gO r1 g k = gO r g k := by
  unfold gO
  exact h.1 _ (by omega) (fun g' f hg' hf => ⟨ix_gf hk (by have := hF g' hg'; omega) (by omega), ix_gf hk (by have := hF g' hg'; omega) (by omega)⟩)
theorem sntP_f {r : Nat → Int32} {R : Nat → Nat → Int32} {n : Nat} {r1 : Nat → Int32} (h : sntP r R n r1) (hF : ∀ g, g < n → nF r g ≤ 16) (g f k : Nat) (hf : f < 16) (hk : k < 3) : fO r1 g f k = fO r g f k := by
  unfold fO
  exact h.1 _ (by omega) (fun g' f' hg' hf' => ⟨fun q => by have := ix_ff hf (by have := hF g' hg'; omega) (by omega) (by omega) q; omega, fun q => by have := ix_ff hf (by have := hF g' hg'; omega) (by omega) (by omega) q; omega⟩)
theorem sntP_later {r : Nat → Int32} {R : Nat → Nat → Int32} {n : Nat} {r1 : Nat → Int32} (h : sntP r R n r1) (hF : ∀ g, g < n → nF r g ≤ 16) (g f k : Nat) (hg : n ≤ g) (hf : f < 16) (hk : k < 5) : fO r1 g f k = fO r g f k := by
  unfold fO
  exact h.1 _ (by omega) (fun g' f' hg' hf' => ⟨fun q => by have := ix_ff hf (by have := hF g' hg'; omega) (by omega) (by omega) q; omega, fun q => by have := ix_ff hf (by have := hF g' hg'; omega) (by omega) (by omega) q; omega⟩)
section
variable {b : Nat} {W : WD}
theorem m_sendAll {r : Nat → Int32} {R : Nat → Nat → Int32} (hr : W.2.1 10 0 0 0 = r) (hG : okG r) (h14 : ∀ g f, g < nG r → f < nF r g → W.2.1 10 0 0 14 (16 * g + f) = R g f) {k : AH → Option (Unit × AH)} : ∃ r', f_X10_ticks_L10 (b + ad 10 0 0) k FU (nI 0) (wd b W) = k (wd b (wsA W 10 0 0 0 r')) ∧ sntP r R (nG r) r' := by
  obtain ⟨⟨hG1, hG2⟩, hG3, hG4⟩ := hG
  have hF : ∀ g, g < nG r → nF r g ≤ 16 := fun g hg => (hG3 g hg).2.1
  suffices h : ∃ r', f_X10_ticks_L10 (b + ad 10 0 0) k FU (nI 0) (wd b (wsA W 10 0 0 0 r)) = k (wd b (wsA W 10 0 0 0 r')) ∧ sntP r R (nG r) r' by
    rw [← hr, wsA_s] at h
    rw [hr] at h
    exact h
  refine loopE (fun m i (r1 : Nat → Int32) => f_X10_ticks_L10 (b + ad 10 0 0) k m (nI i) (wd b (wsA W 10 0 0 0 r1))) (nG r) (fun i r1 => sntP r R i r1) (fun z => ∃ r', z = k (wd b (wsA W 10 0 0 0 r')) ∧ sntP r R (nG r) r') ?_ ?_ FU 0 r (by omega) (by have := FUgt; omega) ⟨fun _ _ _ => rfl, fun g f hg => absurd hg (Nat.not_lt_zero g), fun p hp => by rw [sumI, Int32.add_zero]⟩
  · intro m i r1 hi hS
    obtain ⟨f1, f2, f3⟩ := id hS
    have hFi : ∀ g, g < i → nF r g ≤ 16 := fun g hg => hF g (by omega)
    have hk := hG3 i hi
    have hn1 : nF r1 i = nF r i := by unfold nF; rw [sntP_g hS hFi i 5 (by omega)]
    have hk1 : flK r1 i (nF r1 i) := by
      rw [hn1]
      refine ⟨by rw [sntP_g hS hFi i 5 (by omega)]; exact hk.1, hk.2.1, fun f hf => ?_⟩
      have h16 := hk.2.1
      rw [sntP_later hS hFi i f 0 (Nat.le_refl _) (by omega) (by omega), sntP_later hS hFi i f 1 (Nat.le_refl _) (by omega) (by omega), sntP_later hS hFi i f 3 (Nat.le_refl _) (by omega) (by omega)]
      exact hk.2.2 f hf
    obtain ⟨r2, e1, g1, g2, g3⟩ := m_sends (b := b) (W := wsA W 10 0 0 0 r1) (g := i) (R := R i) (by rw [wsA_r]) (by omega) hk1 (fun f hf => by rw [wsA_k _ (by decide)]; exact h14 i f hi (by omega))
    rw [wsA_2] at e1
    rw [hn1] at g1 g2 g3
    have h6 : r1 6 = nI (nG r) := by rw [f1 6 (by omega) (fun g f _ _ => by omega)]; exact hG1
    try dsimp only
    rw [f_X10_ticks_L10, o10_0 h10, oR0 6 6 rfl (by omega), wsA_r, h6, if_neg (le_n hi (by omega)), ob2_i e1, nI_1]
    have h16 := hk.2.1
    refine ⟨r2, ⟨?_, ?_, ?_⟩, rfl⟩
    · intro q q1 q2
      rw [g1 q q1 (fun f hf => q2 i f (by omega) hf)]
      exact f1 q q1 (fun g f hg hf => q2 g f (by omega) hf)
    · intro g f hg hf
      by_cases hgi : g = i
      · subst hgi
        have := g2 f hf
        rw [sntP_later hS hFi g f 3 (Nat.le_refl _) (by omega) (by omega)] at this
        exact this
      · have hfg := hF g (by omega)
        obtain ⟨a1, a2⟩ := f2 g f (by omega) hf
        rw [g1 _ (by omega) (fun f' hf' => by omega), g1 _ (by omega) (fun f' hf' => by omega)]
        exact ⟨a1, a2⟩
    · intro p hp
      rw [g3 p hp, f3 p hp, sumI, ← Int32.add_assoc]
      congr 1
      refine sumI_cg (fun f hf => ?_)
      unfold thr1
      rw [sntP_later hS hFi i f 0 (Nat.le_refl _) (by omega) (by omega), sntP_later hS hFi i f 1 (Nat.le_refl _) (by omega) (by omega)]
  · intro m r1 hS
    have h6 : r1 6 = nI (nG r) := by rw [hS.1 6 (by omega) (fun g f _ _ => by omega)]; exact hG1
    try dsimp only
    rw [f_X10_ticks_L10, o10_0 h10, oR0 6 6 rfl (by omega), wsA_r, h6, if_pos (le_p (Nat.le_refl _) (by omega))]
    exact ⟨r1, rfl, hS⟩
end
