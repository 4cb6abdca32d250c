/-! admission, on the side of the class -/
def cmv (lf a : Nat) : Nat := if lf = 0 then a else cdiv a lf
theorem cmv_le (lf a : Nat) : cmv lf a ≤ a := by
  unfold cmv
  split
  · exact Nat.le_refl _
  · exact cdiv_le (by omega)
def cmG (r : Nat → Int32) (h lf p : Nat) : Nat → Nat := sumN (fun f => if vN (fO r h f 0) = p ∨ 8 + vN (fO r h f 1) = p then cmv lf (vN (fO r h f 3)) else 0)
def lfN (r : Nat → Int32) (h : Nat) : Nat := vN (gO r h 0) + vN (gO r h 2) - max (vN (r 0)) (vN (gO r h 0))
def cmN (r : Nat → Int32) (p : Nat) : Nat → Nat := sumN (fun h => if opB r h = true ∧ 0 < vN (gO r h 2) then cmG r h (lfN r h) p (nF r h) else 0)
def dwN (r : Nat → Int32) (D p : Nat) : Nat → Nat := sumN (fun f => if vN (r (42 + 3 * f)) = p ∨ 8 + vN (r (42 + 3 * f + 1)) = p then cdiv (vN (r (42 + 3 * f + 2))) D else 0)
def lfC (lf : Nat) (x : Int32) : Prop := (lf = 0 ∧ x ≤ 0) ∨ (0 < lf ∧ lf ≤ 10000 ∧ x = nI lf)
theorem lf_cases {a d τ : Nat} (ha : a ≤ 2000000) (hd : d ≤ 10000) (hτ : τ ≤ 2000000) : lfC (a + d - max τ a) (nI (a + d) - nI (max τ a)) := by
  rcases Nat.lt_or_ge (max τ a) (a + d) with q | q
  · exact Or.inr ⟨by omega, by omega, pk_sub (by omega)⟩
  · refine Or.inl ⟨by omega, ?_⟩
    rw [Int32.le_iff_toInt_le, pk_sub_toInt (by omega) (by omega)]
    have : (0 : Int32).toInt = 0 := rfl
    omega
theorem cmG_le {r : Nat → Int32} {h lf p : Nat} (hk : flK r h (nF r h)) : cmG r h lf p (nF r h) ≤ 1600000 := by
  have h16 := hk.2.1
  refine Nat.le_trans (sumN_le (B := 100000) (fun f hf => ?_)) (by omega)
  have h1 := (hk.2.2 f hf).2.2.2
  have h2 := cmv_le lf (vN (fO r h f 3))
  split <;> omega
theorem cmN_le {r : Nat → Int32} {p n : Nat} (hk : ∀ h, h < n → flK r h (nF r h)) (hn : n ≤ 12) : cmN r p n ≤ 19200000 := by
  refine Nat.le_trans (sumN_le (B := 1600000) (fun h hh => ?_)) (by omega)
  have h1 := cmG_le (lf := lfN r h) (p := p) (hk h hh)
  split <;> omega
theorem dwN_le {r : Nat → Int32} {D p : Nat} (hk : dfK r) (hD : 0 < D) : dwN r D p (nD r) ≤ 1600000 := by
  have h16 := hk.2.1
  refine Nat.le_trans (sumN_le (B := 100000) (fun f hf => ?_)) (by omega)
  have h1 := (hk.2.2 f hf).2.2.2.2
  have h2 := cdiv_le (a := vN (r (42 + 3 * f + 2))) hD
  split <;> omega
def fitB (r : Nat → Int32) (D : Nat) : Bool := allB (fun p => decide (cmN r p (nG r) + dwN r D p (nD r) ≤ vN (capR r p))) 16
section
variable {b : Nat} {W : WD} {T u i : Nat} {r : Nat → Int32}
theorem c_addCom {g lf : Nat} {x : Int32} (hu : vo 6 u 0 = true) (hi : i < 8) (hg : g < 12) (hf : flR W i g r) (hk : flK r g (nF r g)) (hx : lfC lf x) : ∃ V, f_X6_addCommitted (b + ad 6 u 0) (b + ad 4 i g) x (wd b W) = some ((), wd b V) ∧ frQ (ldQ u) W V ∧ ∀ p, V.2.1 6 u 0 0 p = W.2.1 6 u 0 0 p + nI (cmG r g lf p (nF r g)) := by
  have hv := vo1 hi hg
  have h16 := hk.2.1
  unfold f_X6_addCommitted
  rw [oO_6 hu, o4_5 (vo4 hi hg)]
  refine loopE (fun m j (V : WD) => f_X6_addCommitted_L8 (b + ad 6 u 0) x (b + ad 1 i g) (fun N11 => some ((), N11)) m (nI j) (wd b V)) (nF r g) (fun j V => frQ (ldQ u) W V ∧ ∀ p, V.2.1 6 u 0 0 p = W.2.1 6 u 0 0 p + nI (cmG r g lf p j)) (fun y => ∃ V, y = some ((), wd b V) ∧ frQ (ldQ u) W V ∧ ∀ p, V.2.1 6 u 0 0 p = W.2.1 6 u 0 0 p + nI (cmG r g lf p (nF r g))) ?_ ?_ FU 0 W (by omega) (by have := FUgt; omega) ⟨frQ.rf, fun p => by rw [show cmG r g lf p 0 = 0 from rfl]; exact (Int32.add_zero _).symm⟩
  · intro m j V hj ⟨k1, k2⟩
    have hfV := hf.fr k1 (fun k _ => by unfold ldQ; omega)
    obtain ⟨⟨s1, s2⟩, ⟨t1, t2⟩, q1, q2⟩ := hk.2.2 j hj
    obtain ⟨x1, x2, x3, x4⟩ := hfV.2 j hj
    have e1 : ∀ p, cmG r g lf p (j + 1) = cmG r g lf p j + (if vN (fO r g j 0) = p ∨ 8 + vN (fO r g j 1) = p then cmv lf (vN (fO r g j 3)) else 0) := fun p => rfl
    have x4' := x4.trans q1
    have fin : ∀ y, y = nI (cmv lf (vN (fO r g j 3))) → ∃ s', (frQ (ldQ u) W s' ∧ ∀ p, s'.2.1 6 u 0 0 p = W.2.1 6 u 0 0 p + nI (cmG r g lf p (j + 1))) ∧ (ob2 (f_X6_add (b + ad 6 u 0) (b + ad 1 i g) (nI j) y (wd b V)) fun _ N7 => f_X6_addCommitted_L8 (b + ad 6 u 0) x (b + ad 1 i g) (fun N11 => some ((), N11)) m (nI j + 1) N7) = f_X6_addCommitted_L8 (b + ad 6 u 0) x (b + ad 1 i g) (fun N11 => some ((), N11)) m (nI (j + 1)) (wd b s') := by
      intro y hy
      rw [ob2_i (c_add6 (b := b) hu (isF_1 hi hg) (by omega) (by omega) (x1.trans s1) (x2.trans t1) s2 t2), nI_1]
      refine ⟨_, ⟨k1.tr (frQ.A ⟨rfl, rfl, rfl⟩), fun p => ?_⟩, rfl⟩
      rw [wsA_r, k2 p, e1, hy]
      split
      · rw [Int32.add_assoc, nI_add]
      · rw [Int32.add_zero, Nat.add_zero]
    try dsimp only
    rw [f_X6_addCommitted_L8, o1_0 hv, hfV.1, hk.1, if_neg (le_n hj (by omega)), o1_4 hv, oa1_4 hv (by omega), x4']
    rcases hx with ⟨h0, hx⟩ | ⟨h0, h1, hx⟩
    · rw [if_pos hx]
      exact fin _ (by unfold cmv; rw [if_pos h0])
    · rw [if_neg (by rw [hx]; exact le_n (b := 0) h0 (by omega)), hx, ob2_i (c_upN h0 (by omega))]
      rw [hx] at fin
      exact fin _ (by unfold cmv; rw [if_neg (by omega)])
  · intro m V ⟨k1, k2⟩
    have hfV := hf.fr k1 (fun k _ => by unfold ldQ; omega)
    try dsimp only
    rw [f_X6_addCommitted_L8, o1_0 hv, hfV.1, hk.1, if_pos (le_p (Nat.le_refl _) (by omega))]
    exact ⟨V, rfl, k1, k2⟩
theorem c_room {D : Nat} (hs : stR W 0 r) (ho : okR r T) (hT : T ≤ 900000) (hD : 1 ≤ D) (hD2 : D ≤ 10000) : ∃ V, f_X6_haveRoomFor (b + ad 6 0 0) (b + ad 7 0 0) (nI D) (wd b W) = some (bI (fitB r D), wd b V) ∧ frQ (ldQ 0) W V := by
  have h12 := ho.1.1.2
  have h6 := ho.1.1.1
  obtain ⟨d1, d2, d3⟩ := ho.2.2.2.2.1.2
  have h11 : vo 11 0 0 = true := rfl
  have sf : ∀ V, frQ (ldQ 0) W V → stR V 0 r := fun V hV => hs.fr hV (fun c g k q => by unfold inS at q; unfold ldQ; omega)
  have l116 : ∀ V, frQ (ldQ 0) W V → (∀ p, V.2.1 6 0 0 0 p = nI (cmN r p (nG r) + dwN r D p (nD r)) ∨ 16 ≤ p) → ∃ V', f_X6_haveRoomFor_L116 (b + ad 6 0 0) (b + ad 7 0 0) (fun N35 => some ((0 : Int32), N35)) (fun N36 => some ((1 : Int32), N36)) FU (0 : Int32) (wd b V) = some (bI (fitB r D), wd b V') ∧ frQ (ldQ 0) W V' := by
    intro V k1 k2
    have hsV := sf V k1
    refine loopX (fun m p (_ : Unit) => f_X6_haveRoomFor_L116 (b + ad 6 0 0) (b + ad 7 0 0) (fun N35 => some ((0 : Int32), N35)) (fun N36 => some ((1 : Int32), N36)) m (nI p) (wd b V)) 16 (fun p _ => ∀ q, q < p → cmN r q (nG r) + dwN r D q (nD r) ≤ vN (capR r q)) (fun y => ∃ V', y = some (bI (fitB r D), wd b V') ∧ frQ (ldQ 0) W V') ?_ ?_ FU 0 () (by omega) (by have := FUgt; omega) (fun q hq => absurd hq (Nat.not_lt_zero q))
    · intro m p _ hp hI
      have l1 := cmN_le (p := p) ho.1.2.1 h12
      have l2 := dwN_le (p := p) ho.2.2.2.2.1.2 (show 0 < D by omega)
      obtain ⟨c1, c2⟩ := ho.ck p hp
      have ecap : V.2.1 7 0 0 7 p = nI (vN (capR r p)) := by rw [(hsV.2.1 p hp).1]; exact c1
      have el : V.2.1 6 0 0 0 p = nI (cmN r p (nG r) + dwN r D p (nD r)) := (k2 p).elim id (fun z => by omega)
      try dsimp only
      rw [f_X6_haveRoomFor_L116, li 16, if_neg (le_n hp (by omega)), o6_0 h60, oa6_0 h60 hp, el, o7_7 h70, oa7_7 h70 hp, ecap]
      rcases Nat.lt_or_ge (vN (capR r p)) (cmN r p (nG r) + dwN r D p (nD r)) with z | z
      · right
        rw [if_neg (le_n z (by omega))]
        refine ⟨V, ?_, k1⟩
        have : fitB r D = false := by
          cases hf : fitB r D with
          | false => rfl
          | true =>
            have := allB_iff.mp hf p hp
            simp only [decide_eq_true_eq] at this
            omega
        rw [this]
        rfl
      · left
        rw [if_pos (le_p z (by omega)), nI_1]
        refine ⟨(), fun q hq => ?_, rfl⟩
        rcases Nat.lt_or_ge q p with y | y
        · exact hI q y
        · rw [show q = p by omega]; exact z
    · intro m _ hI
      try dsimp only
      rw [f_X6_haveRoomFor_L116, li 16, if_pos (le_p (Nat.le_refl _) (by omega))]
      refine ⟨V, ?_, k1⟩
      have : fitB r D = true := allB_iff.mpr (fun q hq => by rw [decide_eq_true_eq]; exact hI q hq)
      rw [this]
      rfl
  have l80 : ∀ V, frQ (ldQ 0) W V → (∀ p, V.2.1 6 0 0 0 p = nI (cmN r p (nG r)) ∨ 16 ≤ p) → ∃ V', f_X6_haveRoomFor_L80 (b + ad 6 0 0) (b + ad 7 0 0) (nI D) (b + ad 11 0 0) (fun N28 => f_X6_haveRoomFor_L116 (b + ad 6 0 0) (b + ad 7 0 0) (fun N35 => some ((0 : Int32), N35)) (fun N36 => some ((1 : Int32), N36)) FU (0 : Int32) N28) FU (0 : Int32) (wd b V) = some (bI (fitB r D), wd b V') ∧ frQ (ldQ 0) W V' := by
    intro V0 k1 k2
    refine loopE (fun m j (V : WD) => f_X6_haveRoomFor_L80 (b + ad 6 0 0) (b + ad 7 0 0) (nI D) (b + ad 11 0 0) (fun N28 => f_X6_haveRoomFor_L116 (b + ad 6 0 0) (b + ad 7 0 0) (fun N35 => some ((0 : Int32), N35)) (fun N36 => some ((1 : Int32), N36)) FU (0 : Int32) N28) m (nI j) (wd b V)) (nD r) (fun j V => frQ (ldQ 0) W V ∧ ∀ p, V.2.1 6 0 0 0 p = nI (cmN r p (nG r) + dwN r D p j) ∨ 16 ≤ p) (fun y => ∃ V', y = some (bI (fitB r D), wd b V') ∧ frQ (ldQ 0) W V') ?_ ?_ FU 0 V0 (by omega) (by have := FUgt; omega) ⟨k1, k2⟩
    · intro m j V hj ⟨k1, k2⟩
      have hsV := sf V k1
      obtain ⟨⟨s1, s2⟩, ⟨t1, t2⟩, q1, q0, q2⟩ := d3 j hj
      obtain ⟨x1, x2, x3, -⟩ := hsV.2.2.1.2 j hj
      have e1 : ∀ p, dwN r D p (j + 1) = dwN r D p j + (if vN (r (42 + 3 * j)) = p ∨ 8 + vN (r (42 + 3 * j + 1)) = p then cdiv (vN (r (42 + 3 * j + 2))) D else 0) := fun p => rfl
      try dsimp only
      rw [f_X6_haveRoomFor_L80, o11_0 h11, hsV.2.2.1.1, d1, if_neg (le_n hj (by omega)), o11_3 h11, oa11_3 h11 (by omega), x3.trans q1, ob2_i (c_upN (by omega) (by omega)), ob2_i (c_add6 (b := b) h60 (isF_11 hz8) (by omega) (by omega) (x1.trans s1) (x2.trans t1) s2 t2), nI_1]
      refine ⟨_, ⟨k1.tr (frQ.A ⟨rfl, rfl, rfl⟩), fun p => (k2 p).imp (fun z => ?_) id⟩, rfl⟩
      rw [wsA_r, z, e1, ← Nat.add_assoc]
      split
      · rw [nI_add]
      · rw [Int32.add_zero, Nat.add_zero]
    · intro m V ⟨k1, k2⟩
      have hsV := sf V k1
      try dsimp only
      rw [f_X6_haveRoomFor_L80, o11_0 h11, hsV.2.2.1.1, d1, if_pos (le_p (Nat.le_refl _) (by omega))]
      exact l116 V k1 k2
  unfold f_X6_haveRoomFor
  rw [oO_6 h60, o6_0 h60, ob2_i (gA_fill (isA_6_0 h60))]
  refine loopE (fun m g (V : WD) => f_X6_haveRoomFor_L10 (b + ad 6 0 0) (b + ad 7 0 0) (nI D) (fun N19 => ob (hR N19 (b + ad 7 0 0) 7 9) (fun x20 => f_X6_haveRoomFor_L80 (b + ad 6 0 0) (b + ad 7 0 0) (nI D) x20 (fun N28 => f_X6_haveRoomFor_L116 (b + ad 6 0 0) (b + ad 7 0 0) (fun N35 => some ((0 : Int32), N35)) (fun N36 => some ((1 : Int32), N36)) FU (0 : Int32) N28) FU (0 : Int32) N19)) m (nI g) (wd b V)) (nG r) (fun g V => frQ (ldQ 0) W V ∧ ∀ p, V.2.1 6 0 0 0 p = nI (cmN r p g) ∨ 16 ≤ p) (fun y => ∃ V', y = some (bI (fitB r D), wd b V') ∧ frQ (ldQ 0) W V') ?_ ?_ FU 0 _ (by omega) (by have := FUgt; omega) ⟨frQ.A ⟨rfl, rfl, rfl⟩, fun p => ?_⟩
  · intro m g V hg ⟨k1, k2⟩
    have hsV := sf V k1
    have hv4 := vo4 (i := 0) (g := g) hz8 (by omega)
    obtain ⟨⟨c1, c1'⟩, -, ⟨c3, c3'⟩, -⟩ := ho.2.2.2.2.2.2.2 g hg
    obtain ⟨c0, c0'⟩ := ho.2.1
    have e1 : ∀ p, cmN r p (g + 1) = cmN r p g + (if opB r g = true ∧ 0 < vN (gO r g 2) then cmG r g (lfN r g) p (nF r g) else 0) := fun p => rfl
    have hgr := (hsV.2.2.2.1 g hg)
    try dsimp only
    rw [f_X6_haveRoomFor_L10, o7_6 h70, hsV.1 6 (by omega), h6, if_neg (le_n hg (by omega)), o7_10 h70, oa7_10 h70 (by omega), ob2_i (c_isOpen (b := b) hv4 hgr.1)]
    have skip : ¬ (opB r g = true ∧ 0 < vN (gO r g 2)) → ∀ p, V.2.1 6 0 0 0 p = nI (cmN r p (g + 1)) ∨ 16 ≤ p := fun hn p => (k2 p).imp (fun z => by rw [z, e1, if_neg hn]; rfl) id
    cases hop : opB r g with
    | false =>
      rw [if_pos (by decide), nI_1]
      exact ⟨V, ⟨k1, skip (fun z => by rw [hop] at z; cases z.1)⟩, rfl⟩
    | true =>
      rw [if_neg (by decide), o4_2 hv4, (hgr.1 2 (by omega)).trans c3]
      rcases Nat.eq_zero_or_pos (vN (gO r g 2)) with z | z
      · rw [if_pos (by rw [z]; decide), nI_1]
        exact ⟨V, ⟨k1, skip (fun y => by omega)⟩, rfl⟩
      · have hlf := lf_cases (a := vN (gO r g 0)) (d := vN (gO r g 2)) (τ := vN (r 0)) (by omega) c3' (by omega)
        obtain ⟨V', a1, a2, a3⟩ := c_addCom (b := b) (W := V) (g := g) h60 hz8 (by omega) hgr.2.1 (ho.1.2.1 g hg) hlf
        have ed := c_deadlineEnd (b := b) hv4 hgr.1
        rw [c1, c3, nI_add] at ed
        rw [if_neg (show ¬ nI (vN (gO r g 2)) ≤ 0 from le_n (b := 0) z (by omega)), ob2_i ed, o7_0 h70, (hsV.1 0 (by omega)).trans c0, o4_0 hv4, (hgr.1 0 (by omega)).trans c1, ob2_i (c_maxN (vN_lt _) (vN_lt _)), ob2_i a1, nI_1]
        refine ⟨V', ⟨k1.tr a2, fun p => (k2 p).imp (fun y => ?_) id⟩, rfl⟩
        rw [a3 p, y, e1, if_pos ⟨hop, z⟩, nI_add]
        rfl
  · intro m V ⟨k1, k2⟩
    have hsV := sf V k1
    try dsimp only
    rw [f_X6_haveRoomFor_L10, o7_6 h70, hsV.1 6 (by omega), h6, if_pos (le_p (Nat.le_refl _) (by omega)), o7_9 h70]
    exact l80 V k1 k2
  · rcases Nat.lt_or_ge p 16 with q | q
    · left
      rw [wsA_r, filI_lt q]
      rfl
    · exact Or.inr q
end
