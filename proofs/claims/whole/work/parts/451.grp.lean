/-! addGroup -/
section
variable {b : Nat} {W : WD} {T : Nat}
theorem q_addGroup {x y z : Int32} (h : inv T W) (hT : T ≤ 900000) : both T (T + 500) b W (f_X9_addGroup (b + ad 9 0 0) x y z) (f_X10_addGroup (b + ad 10 0 0) x y z) := by
  have i1 : f_X10_in x.toInt64 (0 : Int64) (1000 : Int64) (wd b W) = some (if x < 0 then 0 else if 1000 < x then 0 else 1, wd b W) := m_in32 (lo := 0) (hi := 1000)
  have i2 : f_X10_in y.toInt64 (1 : Int64) (100 : Int64) (wd b W) = some (if y < 1 then 0 else if 100 < y then 0 else 1, wd b W) := m_in32 (lo := 1) (hi := 100)
  have i3 : f_X10_in z.toInt64 (0 : Int64) (10000 : Int64) (wd b W) = some (if z < 0 then 0 else if 10000 < z then 0 else 1, wd b W) := m_in32 (lo := 0) (hi := 10000)
  have h11 : vo 11 0 0 = true := rfl
  by_cases a1 : x < 0
  · rw [if_pos a1] at i1
    refine both_mono (both_0 h (v := -3) ?_ ?_)
    · unfold f_X9_addGroup
      rw [oO_9 h9, if_pos a1]
    · unfold f_X10_addGroup
      rw [oO_10 h10, ob2_i i1, if_pos rfl]
  by_cases a2 : 1000 < x
  · rw [if_neg a1, if_pos a2] at i1
    refine both_mono (both_0 h (v := -3) ?_ ?_)
    · unfold f_X9_addGroup
      rw [oO_9 h9, if_neg a1, if_pos a2]
    · unfold f_X10_addGroup
      rw [oO_10 h10, ob2_i i1, if_pos rfl]
  rw [if_neg a1, if_neg a2] at i1
  by_cases b1 : y < 1
  · rw [if_pos b1] at i2
    refine both_mono (both_0 h (v := -3) ?_ ?_)
    · unfold f_X9_addGroup
      rw [oO_9 h9, if_neg a1, if_neg a2, if_pos b1]
    · unfold f_X10_addGroup
      rw [oO_10 h10, ob2_i i1, if_neg (by decide), ob2_i i2, if_pos rfl]
  by_cases b2 : 100 < y
  · rw [if_neg b1, if_pos b2] at i2
    refine both_mono (both_0 h (v := -3) ?_ ?_)
    · unfold f_X9_addGroup
      rw [oO_9 h9, if_neg a1, if_neg a2, if_neg b1, if_pos b2]
    · unfold f_X10_addGroup
      rw [oO_10 h10, ob2_i i1, if_neg (by decide), ob2_i i2, if_pos rfl]
  rw [if_neg b1, if_neg b2] at i2
  by_cases c1 : z < 0
  · rw [if_pos c1] at i3
    refine both_mono (both_0 h (v := -3) ?_ ?_)
    · unfold f_X9_addGroup
      rw [oO_9 h9, if_neg a1, if_neg a2, if_neg b1, if_neg b2, if_pos c1]
    · unfold f_X10_addGroup
      rw [oO_10 h10, ob2_i i1, if_neg (by decide), ob2_i i2, if_neg (by decide), ob2_i i3, if_neg (by decide)]
  by_cases c2 : z ≤ 10000
  · rw [if_neg c1, if_neg (Int32.not_lt.mpr c2)] at i3
    have b0 : ¬ y < 0 := fun q => b1 (by
      rw [Int32.lt_iff_toInt_lt] at q ⊢
      have a0 : (0 : Int32).toInt = 0 := rfl
      have a1 : (1 : Int32).toInt = 1 := rfl
      omega)
    obtain ⟨δ, hδ, rfl⟩ := nI_of2 (M := 1000) (n := 1000) rfl a1 (Int32.not_lt.mp a2)
    obtain ⟨w, hw, rfl⟩ := nI_of2 (M := 100) (n := 100) rfl b0 (Int32.not_lt.mp b2)
    obtain ⟨D, hD, rfl⟩ := nI_of2 (M := 10000) (n := 10000) rfl c1 c2
    have hw1 : 1 ≤ w := by
      rcases Nat.lt_or_ge w 1 with q | q
      · exact absurd (show nI w < 1 from lt_p (b := 1) q (by omega)) b1
      · exact q
    obtain ⟨s, V, s6, e1, e2, e3, e4, e5, e6, e7⟩ := q_save (b := b) h
    have hs0 := h.2.1
    have hok := h.1.1
    have h61 := h.1.2
    generalize hr : W.2.1 10 0 0 0 = r at *
    obtain ⟨d1, d2, -⟩ := hok.2.2.2.2.1.2
    obtain ⟨g1, g2⟩ := hok.1.1
    rcases Nat.eq_zero_or_pos (nD r) with hd | hd
    · refine both_mono (both_0 h (v := -4) ?_ ?_)
      · unfold f_X9_addGroup
        rw [oO_9 h9, if_neg a1, if_neg a2, if_neg b1, if_neg b2, if_neg c1, if_pos c2, o9_1 h9, o7_9 h70, o11_0 h11, hs0.2.2.1.1, d1, hd, if_neg (fun q => q rfl)]
      · unfold f_X10_addGroup
        rw [oO_10 h10, ob2_i i1, if_neg (by decide), ob2_i i2, if_neg (by decide), ob2_i i3, if_pos (by decide), o10_0 h10, oR0 7 7 rfl (by omega), hr, d1, hd, if_neg (fun q => q rfl)]
    have nd0 : ¬ nI (nD r) = 0 := ne_p (b := 0) (by omega) (by omega) (by omega)
    rcases Nat.lt_or_ge (nG r) 12 with hg | hg
    · have pre : f_X9_addGroup (b + ad 9 0 0) (nI δ) (nI w) (nI D) (wd b W) = (if r 3 = 0 then f_X9_addGroup_J104 (b + ad 9 0 0) (nI δ) (nI w) (nI D) (wd b V) else if nI D ≤ 0 then f_X9_addGroup_J104 (b + ad 9 0 0) (nI δ) (nI w) (nI D) (wd b V) else ob2 (f_X6_haveRoomFor (b + ad 6 0 0) (b + ad 7 0 0) (nI D) (wd b V)) (fun x25 N24 => if ¬ x25 = 0 then f_X9_addGroup_J104 (b + ad 9 0 0) (nI δ) (nI w) (nI D) N24 else f_X9_addGroup_J105 (b + ad 9 0 0) (nI δ) (nI w) (nI D) (1 : Int32) N24)) := by
        unfold f_X9_addGroup
        rw [oO_9 h9, if_neg a1, if_neg a2, if_neg b1, if_neg b2, if_neg c1, if_pos c2, o9_1 h9, o7_9 h70, o11_0 h11, hs0.2.2.1.1, d1, if_pos nd0, o9_1 h9, o7_6 h70, hs0.1 6 (by omega), g1, if_pos (show nI (nG r) < 12 from lt_p (b := 12) hg (by omega)), ob2_i e1, o9_1 h9, o7_3 h70, e6.1 3 (by omega), o9_4 h9, o9_1 h9]
      have fin : ∀ (U : WD) (rej : Bool), stR U 0 r → frQ qsQ V U → ∃ V2, f_X9_addGroup_J105 (b + ad 9 0 0) (nI δ) (nI w) (nI D) (bI rej) (wd b U) = some (nI (nG r), wd b V2) ∧ frQ (fun c i g k => (inS c ∧ i = 0) ∨ qsQ c i g k) V V2 ∧ ∀ R, ngP r R (nI δ) (nI w) (nI D) rej → stR V2 0 R := by
        intro U rej hU fU
        obtain ⟨V2, z1, z2, z3⟩ := c_make (b := b) (W := U) (dl := nI δ) (wt := nI w) (dd := nI D) rej hU hok hg
        refine ⟨V2, ?_, (fU.mono (fun c i g k q => Or.inr q)).tr (z2.mono (fun c i g k q => Or.inl q)), z3⟩
        unfold f_X9_addGroup_J105
        rw [o9_1 h9, ob2_i z1]
      have cls : ∃ V2, f_X9_addGroup (b + ad 9 0 0) (nI δ) (nI w) (nI D) (wd b W) = some (nI (nG r), wd b V2) ∧ frQ (fun c i g k => (inS c ∧ i = 0) ∨ qsQ c i g k) V V2 ∧ ∀ R, ngP r R (nI δ) (nI w) (nI D) (rejB r D) → stR V2 0 R := by
        rw [pre]
        rcases hok.2.2.2.2.2.1.2 with q3 | q3
        · have hrej : rejB r D = false := by
            unfold rejB
            rw [q3]
            rfl
          rw [if_pos q3, hrej]
          exact fin V false e6 frQ.rf
        · rw [if_neg (by rw [q3]; decide)]
          rcases Nat.eq_zero_or_pos D with z0 | z0
          · have hrej : rejB r D = false := by
              unfold rejB
              rw [z0, q3]
              rfl
            rw [if_pos (by rw [z0]; decide), hrej]
            exact fin V false e6 frQ.rf
          · obtain ⟨U, u1, u2⟩ := c_room (b := b) (W := V) e6 hok hT z0 hD
            have hrej : rejB r D = !fitB r D := by
              unfold rejB
              rw [decide_eq_true q3, decide_eq_true z0]
              rfl
            have sU : stR U 0 r := e6.fr u2 (fun c g k q => by unfold inS at q; unfold ldQ; omega)
            have fU : frQ qsQ V U := u2.mono (fun c i g k q => Or.inr (Or.inr (Or.inl ⟨q.1, q.2.1⟩)))
            rw [if_neg (show ¬ nI D ≤ 0 from le_n (b := 0) z0 (by omega)), ob2_i u1, hrej]
            cases hf : fitB r D with
            | true =>
              rw [if_pos (by decide)]
              exact fin U false sU fU
            | false =>
              rw [if_neg (by decide)]
              exact fin U true sU fU
      obtain ⟨V2, v1, v2, v3⟩ := cls
      have er2 : V2.2.1 10 0 0 0 = r := by rw [v2.2.1 10 0 0 0 (by unfold qsQ fnQ inS; omega)]; exact e4
      have es2 : V2.1 10 0 0 1 = nI s := by rw [v2.1 10 0 0 1 (by unfold qsQ fnQ inS; omega)]; exact e5
      obtain ⟨R, r', s', W3, m1, m2, m3, m4, m5, m6, m7⟩ := m_addG (b := b) (V := V2) er2 es2 s6 hok hT hg hd hδ hw1 hw hD
      have okN := okR_ng hok hg hd hδ hw1 hw hD hT m4
      refine ⟨nI (nG r), V2, W3, v1, m1, inv_mut (r' := r') (s' := s') h (by omega) ?_ ?_ (sav6 m2) ((e7 r' s' m2).fr v2 (fun k => by unfold qsQ fnQ inS; omega) (fun c i g k hc i1 i2 => by unfold inS at hc; unfold qsQ fnQ inS; omega)) (frM_Q m6) m7 ⟨m6.mi 3 (by decide), m6.mi 8 (by decide), m6.ma 2 (by decide)⟩ ?_ ?_ ?_⟩
      · exact (e2.mono (fun c i g k q => Or.inl q)).tr (v2.mono (fun c i g k q => Or.inr q))
      · rw [v2.1 3 0 0 5 (by unfold qsQ fnQ inS; omega)]; exact e3
      · intro q q1 _
        rw [m3]
        exact m5 q q1
      · rw [m3]
        refine okS_mono ⟨okN, ?_⟩ (by omega)
        rw [m4.2.2.2.1 1 (by omega) (by omega) (by omega) (by omega) (by omega)]
        exact h61
      · rw [m3]
        exact v3 R m4
    · have hg12 : nG r = 12 := by omega
      refine both_mono (both_0 h (v := -5) ?_ ?_)
      · unfold f_X9_addGroup
        rw [oO_9 h9, if_neg a1, if_neg a2, if_neg b1, if_neg b2, if_neg c1, if_pos c2, o9_1 h9, o7_9 h70, o11_0 h11, hs0.2.2.1.1, d1, if_pos nd0, o9_1 h9, o7_6 h70, hs0.1 6 (by omega), g1, if_neg (show ¬ nI (nG r) < 12 from lt_n (b := 12) hg (by omega))]
      · unfold f_X10_addGroup
        rw [oO_10 h10, ob2_i i1, if_neg (by decide), ob2_i i2, if_neg (by decide), ob2_i i3, if_pos (by decide), o10_0 h10, oR0 7 7 rfl (by omega), hr, d1, if_pos nd0, o10_0 h10, oR0 6 6 rfl (by omega), hr, g1, hg12, if_neg (fun q => q rfl)]
  · rw [if_neg c1, if_pos (Int32.not_le.mp c2)] at i3
    refine both_mono (both_0 h (v := -3) ?_ ?_)
    · unfold f_X9_addGroup
      rw [oO_9 h9, if_neg a1, if_neg a2, if_neg b1, if_neg b2, if_neg c1, if_neg c2]
    · unfold f_X10_addGroup
      rw [oO_10 h10, ob2_i i1, if_neg (by decide), ob2_i i2, if_neg (by decide), ob2_i i3, if_neg (by decide)]
end
