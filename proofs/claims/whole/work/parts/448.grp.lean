/-! admission, on the side of the reference -/
def nwN (r : Nat → Int32) (g D p : Nat) : Nat → Nat := sumN (fun f => if vN (fO r g f 0) = p ∨ 8 + vN (fO r g f 1) = p then cdiv (vN (fO r g f 2)) D else 0)
section
variable {b : Nat} {W : WD} {T : Nat} {r : Nat → Int32}
theorem m_comL {h p lf : Nat} {x : Int32} (hr : W.2.1 10 0 0 0 = r) (hh : h < 12) (hk : flK r h (nF r h)) (hp : p < 16) (hx : lfC lf x) : f_X10_committed_L54 (b + ad 10 0 0) (nI h) (nI p) x (fun v28 N29 => some (v28, N29)) FU (0 : Int64) (0 : Int32) (wd b W) = some (lN (cmG r h lf p (nF r h)), wd b W) := by
  have h16 := hk.2.1
  refine loopN (fun m f => f_X10_committed_L54 (b + ad 10 0 0) (nI h) (nI p) x (fun v28 N29 => some (v28, N29)) m (lN (cmG r h lf p f)) (nI f) (wd b W)) (nF r h) ?_ ?_ FU 0 (by omega) (by have := FUgt; omega)
  · intro m f hf
    obtain ⟨⟨s1, s2⟩, ⟨t1, t2⟩, q1, q2⟩ := hk.2.2 f hf
    have e1 : cmG r h lf p (f + 1) = cmG r h lf p f + (if vN (fO r h f 0) = p ∨ 8 + vN (fO r h f 1) = p then cmv lf (vN (fO r h f 3)) else 0) := rfl
    have e3 : f_X10_flowOf (b + ad 10 0 0) (nI h) (nI f) (3 : Int32) (wd b W) = some (nI (vN (fO r h f 3)), wd b W) := by
      have e := m_flowOfk (b := b) (W := W) 3 3 rfl (g := h) (f := f) (by omega)
      rw [hr] at e
      rw [← q1]
      exact e
    have j0 : ¬ (vN (fO r h f 0) = p ∨ 8 + vN (fO r h f 1) = p) → f_X10_committed_J111 (f_X10_committed_L54 (b + ad 10 0 0) (nI h) (nI p) x (fun v28 N29 => some (v28, N29)) m) (b + ad 10 0 0) (nI h) (nI p) x (lN (cmG r h lf p f)) (nI f) (0 : Int32) (wd b W) = f_X10_committed_L54 (b + ad 10 0 0) (nI h) (nI p) x (fun v28 N29 => some (v28, N29)) m (lN (cmG r h lf p (f + 1))) (nI (f + 1)) (wd b W) := by
      intro hn
      unfold f_X10_committed_J111
      rw [ob2_i e3, if_neg (by decide), nI_1, e1, if_neg hn, Int64.add_zero]
      rfl
    have j1 : (vN (fO r h f 0) = p ∨ 8 + vN (fO r h f 1) = p) → f_X10_committed_J111 (f_X10_committed_L54 (b + ad 10 0 0) (nI h) (nI p) x (fun v28 N29 => some (v28, N29)) m) (b + ad 10 0 0) (nI h) (nI p) x (lN (cmG r h lf p f)) (nI f) (1 : Int32) (wd b W) = f_X10_committed_L54 (b + ad 10 0 0) (nI h) (nI p) x (fun v28 N29 => some (v28, N29)) m (lN (cmG r h lf p (f + 1))) (nI (f + 1)) (wd b W) := by
      intro hn
      unfold f_X10_committed_J111
      rw [ob2_i e3, if_pos (by decide), nI_1, e1, if_pos hn]
      unfold cmv
      rcases hx with ⟨h0, hx⟩ | ⟨h0, h1, hx⟩
      · rw [if_pos hx, nI_l (by omega), lN_add, if_pos h0]
      · have hc := cdiv_le (a := vN (fO r h f 3)) h0
        rw [if_neg (by rw [hx]; exact le_n (b := 0) h0 (by omega)), hx, ob2_i (m_up (ne_p (b := 0) (by omega) (by omega) (by omega))), upI_nI h0 (by omega), nI_l (by omega), lN_add, if_neg (by omega)]
    try dsimp only
    rw [f_X10_committed_L54, ob2_i (m_ofk 5 5 rfl (by omega)), hr, hk.1, if_neg (le_n hf (by omega))]
    rcases Nat.lt_or_ge p 8 with hp8 | hp8
    · rw [if_neg (show ¬ (8 : Int32) ≤ nI p from le_n (a := 8) hp8 (by omega)), ob2_i (m_flowOfk 0 0 rfl (by omega)), hr, s1]
      by_cases q : vN (fO r h f 0) = p
      · rw [if_neg (fun z => z (by rw [q])), ← j1 (Or.inl q)]
      · rw [if_pos (ne_p q (by omega) (by omega)), ← j0 (by omega)]
    · rw [if_pos (show (8 : Int32) ≤ nI p from le_p (a := 8) hp8 (by omega)), ob2_i (m_flowOfk 1 1 rfl (by omega)), hr, t1, show nI p - 8 = nI (p - 8) from pk_sub (b := 8) hp8]
      by_cases q : 8 + vN (fO r h f 1) = p
      · rw [if_neg (fun z => z (by rw [← q, Nat.add_sub_cancel_left])), ← j1 (Or.inr q)]
      · rw [if_pos (ne_p (by omega) (by omega) (by omega)), ← j0 (by omega)]
  · intro m
    try dsimp only
    rw [f_X10_committed_L54, ob2_i (m_ofk 5 5 rfl (by omega)), hr, hk.1, if_pos (le_p (Nat.le_refl _) (by omega))]
theorem m_com {h p : Nat} (hr : W.2.1 10 0 0 0 = r) (ho : okR r T) (hT : T ≤ 900000) (hh : h < nG r) (hp : p < 16) : f_X10_committed (b + ad 10 0 0) (nI h) (nI p) (wd b W) = some (lN (cmG r h (lfN r h) p (nF r h)), wd b W) := by
  have h12 := ho.1.1.2
  obtain ⟨⟨c1, c1'⟩, -, ⟨c3, c3'⟩, -⟩ := ho.2.2.2.2.2.2.2 h hh
  obtain ⟨c0, c0'⟩ := ho.2.1
  have hlf := lf_cases (a := vN (gO r h 0)) (d := vN (gO r h 2)) (τ := vN (r 0)) (by omega) c3' (by omega)
  have hl : lfN r h = vN (gO r h 0) + vN (gO r h 2) - max (vN (r 0)) (vN (gO r h 0)) := rfl
  have e0 : ∀ V : WD, V.2.1 10 0 0 0 = r → f_X10_of (b + ad 10 0 0) (nI h) (0 : Int32) (wd b V) = some (gO r h 0, wd b V) := fun V hV => by
    have e := m_ofk (b := b) (W := V) 0 0 rfl (g := h) (by omega)
    rw [hV] at e
    exact e
  have e2 : ∀ V : WD, V.2.1 10 0 0 0 = r → f_X10_of (b + ad 10 0 0) (nI h) (2 : Int32) (wd b V) = some (gO r h 2, wd b V) := fun V hV => by
    have e := m_ofk (b := b) (W := V) 2 2 rfl (g := h) (by omega)
    rw [hV] at e
    exact e
  rw [hl]
  generalize ha : gO r h 0 = A at *
  generalize hd : gO r h 2 = B at *
  generalize ht : r 0 = C at *
  generalize vN A = a at *
  generalize vN B = d at *
  generalize vN C = τ at *
  subst c1 c3 c0
  have j30 : ∀ w0, w0 = nI (max τ a) → f_X10_committed_J30 (b + ad 10 0 0) (nI h) (nI p) w0 (wd b W) = some (lN (cmG r h (a + d - max τ a) p (nF r h)), wd b W) := by
    intro w0 hw
    unfold f_X10_committed_J30
    rw [ob2_i (e0 W hr), ob2_i (e2 W hr), hw, nI_add]
    exact m_comL hr (by omega) (ho.1.2.1 h hh) hp hlf
  unfold f_X10_committed
  rw [oO_10 h10, o10_0 h10, oR0 0 0 rfl (by omega), hr, ht, ob2_i (e0 W hr)]
  rcases Nat.lt_or_ge a τ with q | q
  · rw [if_neg (le_n q (by omega)), o10_0 h10, oR0 0 0 rfl (by omega), hr, ht]
    exact j30 _ (by rw [show max τ a = τ by omega])
  · rw [if_pos (le_p q (by omega)), ob2_i (e0 W hr)]
    exact j30 _ (by rw [show max τ a = a by omega])
def fitM (r : Nat → Int32) (g D : Nat) : Bool := allB (fun p => decide (cmN r p g + nwN r g D p (nF r g) ≤ vN (capR r p))) 16
theorem nwN_le {g D p : Nat} (hk : flK r g (nF r g)) (hz : ∀ f, f < nF r g → vN (fO r g f 2) ≤ 100000) (hD : 0 < D) : nwN r g D p (nF r g) ≤ 1600000 := by
  have h16 := hk.2.1
  refine Nat.le_trans (sumN_le (B := 100000) (fun f hf => ?_)) (by omega)
  have h1 := hz f hf
  have h2 := cdiv_le (a := vN (fO r g f 2)) hD
  split <;> omega
theorem m_isAdm {g D : Nat} (hr : W.2.1 10 0 0 0 = r) (ho : okR r T) (hT : T ≤ 900000) (hg : g < nG r) (hD : gO r g 2 = nI D) (hD1 : 1 ≤ D) (hD2 : D ≤ 10000) : f_X10_isAdmitted (b + ad 10 0 0) (nI g) (wd b W) = some (bI (fitM r g D), wd b W) := by
  have h12 := ho.1.1.2
  have hk := ho.1.2.1 g hg
  have h16 := hk.2.1
  have hgk := ho.2.2.2.2.2.2.2 g hg
  have l16 : ∀ p, p < 16 → ∀ v2 k, f_X10_isAdmitted_L16 (b + ad 10 0 0) (nI g) v2 (nI p) k FU (0 : Int64) (0 : Int32) (wd b W) = k (lN (cmN r p g)) (wd b W) := by
    intro p hp v2 k
    refine loopN (fun m h => f_X10_isAdmitted_L16 (b + ad 10 0 0) (nI g) v2 (nI p) k m (lN (cmN r p h)) (nI h) (wd b W)) g ?_ ?_ FU 0 (by omega) (by have := FUgt; omega)
    · intro m h hh
      obtain ⟨c3, c3'⟩ := (ho.2.2.2.2.2.2.2 h (by omega)).2.2.1
      have hst := st_lt2 (ho.2.2.2.2.2.2.2 h (by omega))
      have e1 : cmN r p (h + 1) = cmN r p h + (if opB r h = true ∧ 0 < vN (gO r h 2) then cmG r h (lfN r h) p (nF r h) else 0) := rfl
      have e2 : f_X10_of (b + ad 10 0 0) (nI h) (2 : Int32) (wd b W) = some (nI (vN (gO r h 2)), wd b W) := by
        have e := m_ofk (b := b) (W := W) 2 2 rfl (g := h) (by omega)
        rw [hr] at e
        rw [← c3]
        exact e
      try dsimp only
      rw [f_X10_isAdmitted_L16, if_neg (le_n hh (by omega)), ob2_i e2]
      rcases Nat.eq_zero_or_pos (vN (gO r h 2)) with z | z
      · rw [if_pos (by rw [z]; decide), nI_1, e1, if_neg (fun y => by omega), Int64.add_zero]
        rfl
      · rw [if_neg (show ¬ nI (vN (gO r h 2)) ≤ 0 from le_n (b := 0) z (by omega)), ob2_i (m_stateOf (by omega)), hr]
        cases hop : opB r h with
        | false =>
          rw [if_pos (hst.mpr hop), nI_1, e1, if_neg (fun y => by rw [hop] at y; cases y.1), Int64.add_zero]
          rfl
        | true => rw [if_neg (fun y => by rw [hst.mp y] at hop; cases hop), ob2_i (m_com hr ho hT (by omega) hp), nI_1, e1, if_pos ⟨hop, z⟩, lN_add]
    · intro m
      try dsimp only
      rw [f_X10_isAdmitted_L16, if_pos (le_p (Nat.le_refl _) (by omega))]
  have l67 : ∀ p, p < 16 → ∀ S v2 k, f_X10_isAdmitted_L67 (b + ad 10 0 0) (nI g) v2 (nI p) k FU (lN S) (0 : Int32) (wd b W) = k (lN (S + nwN r g D p (nF r g))) (wd b W) := by
    intro p hp S v2 k
    refine loopN (fun m f => f_X10_isAdmitted_L67 (b + ad 10 0 0) (nI g) v2 (nI p) k m (lN (S + nwN r g D p f)) (nI f) (wd b W)) (nF r g) ?_ ?_ FU 0 (by omega) (by have := FUgt; omega)
    · intro m f hf
      obtain ⟨⟨s1, s2⟩, ⟨t1, t2⟩, -⟩ := hk.2.2 f hf
      obtain ⟨q1, q2, -⟩ := hgk.2.2.2.2.1 f hf
      have e1 : nwN r g D p (f + 1) = nwN r g D p f + (if vN (fO r g f 0) = p ∨ 8 + vN (fO r g f 1) = p then cdiv (vN (fO r g f 2)) D else 0) := rfl
      have e2 : f_X10_flowOf (b + ad 10 0 0) (nI g) (nI f) (2 : Int32) (wd b W) = some (nI (vN (fO r g f 2)), wd b W) := by
        have e := m_flowOfk (b := b) (W := W) 2 2 rfl (g := g) (f := f) (by omega)
        rw [hr] at e
        rw [← q1]
        exact e
      have e4 : f_X10_of (b + ad 10 0 0) (nI g) (2 : Int32) (wd b W) = some (nI D, wd b W) := by
        have e := m_ofk (b := b) (W := W) 2 2 rfl (g := g) (by omega)
        rw [hr, hD] at e
        exact e
      have j0 : ¬ (vN (fO r g f 0) = p ∨ 8 + vN (fO r g f 1) = p) → f_X10_isAdmitted_J124 (f_X10_isAdmitted_L67 (b + ad 10 0 0) (nI g) v2 (nI p) k m) (b + ad 10 0 0) (nI g) v2 (nI p) (lN (S + nwN r g D p f)) (nI f) (0 : Int32) (wd b W) = f_X10_isAdmitted_L67 (b + ad 10 0 0) (nI g) v2 (nI p) k m (lN (S + nwN r g D p (f + 1))) (nI (f + 1)) (wd b W) := by
        intro hn
        unfold f_X10_isAdmitted_J124
        rw [if_pos rfl, nI_1, e1, if_neg hn, Int64.add_zero]
        rfl
      have j1 : (vN (fO r g f 0) = p ∨ 8 + vN (fO r g f 1) = p) → f_X10_isAdmitted_J124 (f_X10_isAdmitted_L67 (b + ad 10 0 0) (nI g) v2 (nI p) k m) (b + ad 10 0 0) (nI g) v2 (nI p) (lN (S + nwN r g D p f)) (nI f) (1 : Int32) (wd b W) = f_X10_isAdmitted_L67 (b + ad 10 0 0) (nI g) v2 (nI p) k m (lN (S + nwN r g D p (f + 1))) (nI (f + 1)) (wd b W) := by
        intro hn
        have hc := cdiv_le (a := vN (fO r g f 2)) (show 0 < D by omega)
        unfold f_X10_isAdmitted_J124
        rw [if_neg (by decide), ob2_i e2, ob2_i e4, ob2_i (m_up (ne_p (b := 0) (by omega) (by omega) (by omega))), upI_nI (by omega) (by omega), nI_l (by omega), nI_1, e1, if_pos hn, lN_add, Nat.add_assoc]
      try dsimp only
      rw [f_X10_isAdmitted_L67, ob2_i (m_ofk 5 5 rfl (by omega)), hr, hk.1, if_neg (le_n hf (by omega))]
      rcases Nat.lt_or_ge p 8 with hp8 | hp8
      · rw [if_neg (show ¬ (8 : Int32) ≤ nI p from le_n (a := 8) hp8 (by omega)), ob2_i (m_flowOfk 0 0 rfl (by omega)), hr, s1]
        by_cases q : vN (fO r g f 0) = p
        · rw [if_neg (fun z => z (by rw [q])), ← j1 (Or.inl q)]
        · rw [if_pos (ne_p q (by omega) (by omega)), ← j0 (by omega)]
      · rw [if_pos (show (8 : Int32) ≤ nI p from le_p (a := 8) hp8 (by omega)), ob2_i (m_flowOfk 1 1 rfl (by omega)), hr, t1, show nI p - 8 = nI (p - 8) from pk_sub (b := 8) hp8]
        by_cases q : 8 + vN (fO r g f 1) = p
        · rw [if_neg (fun z => z (by rw [← q, Nat.add_sub_cancel_left])), ← j1 (Or.inr q)]
        · rw [if_pos (ne_p (by omega) (by omega) (by omega)), ← j0 (by omega)]
    · intro m
      try dsimp only
      rw [f_X10_isAdmitted_L67, ob2_i (m_ofk 5 5 rfl (by omega)), hr, hk.1, if_pos (le_p (Nat.le_refl _) (by omega))]
  unfold f_X10_isAdmitted
  rw [oO_10 h10]
  refine loopN (fun m p => f_X10_isAdmitted_L4 (b + ad 10 0 0) (nI g) (fun v36 N37 => rZ v36 N37) m (bI (allB (fun p => decide (cmN r p g + nwN r g D p (nF r g) ≤ vN (capR r p))) p)) (nI p) (wd b W)) 16 ?_ ?_ FU 0 (by omega) (by have := FUgt; omega)
  · intro m p hp
    have a1 := cmN_le (p := p) (n := g) (fun h hh => ho.1.2.1 h (by omega)) (by omega)
    have a2 := nwN_le (p := p) hk (fun f hf => (hgk.2.2.2.2.1 f hf).2.1) (show 0 < D by omega)
    obtain ⟨c1, c2⟩ := ho.ck p hp
    have ec : r (10 + p) = nI (vN (capR r p)) := c1
    have eA : allB (fun p => decide (cmN r p g + nwN r g D p (nF r g) ≤ vN (capR r p))) (p + 1) = (allB (fun p => decide (cmN r p g + nwN r g D p (nF r g) ≤ vN (capR r p))) p && decide (cmN r p g + nwN r g D p (nF r g) ≤ vN (capR r p))) := rfl
    try dsimp only
    rw [f_X10_isAdmitted_L4, if_neg (show ¬ (16 : Int32) ≤ nI p from le_n (a := 16) hp (by omega)), l16 p hp, l67 p hp, nI_1, eA]
    cases hA : allB (fun p => decide (cmN r p g + nwN r g D p (nF r g) ≤ vN (capR r p))) p with
    | false =>
      rw [if_pos (by decide)]
      rfl
    | true =>
      rw [if_neg (by decide), o10_0 h10, li 10, nI_add, oa10_0 h10 (by omega), hr, ec, nI_l (by omega)]
      rcases Nat.lt_or_ge (vN (capR r p)) (cmN r p g + nwN r g D p (nF r g)) with z | z
      · rw [if_pos (lg_gt.mpr ((lN_lt (by omega) (by omega)).mpr z)), show decide (cmN r p g + nwN r g D p (nF r g) ≤ vN (capR r p)) = false by rw [decide_eq_false_iff_not]; omega]
        rfl
      · rw [if_neg (fun w => absurd ((lN_lt (by omega) (by omega)).mp (lg_gt.mp w)) (by omega)), show decide (cmN r p g + nwN r g D p (nF r g) ≤ vN (capR r p)) = true by rw [decide_eq_true_eq]; exact z]
        rfl
  · intro m
    try dsimp only
    rw [f_X10_isAdmitted_L4, if_pos (by decide)]
    exact rZ_bI
end
