/-! events -/
def nE (r : Nat → Int32) : Nat := vN (r 8)
def ev1 (r : Nat → Int32) (k : Nat) : Int32 × Int32 × Int32 := (r (1122 + 3 * k), r (1122 + 3 * k + 1), r (1122 + 3 * k + 2))
def evs (r : Nat → Int32) : List (Int32 × Int32 × Int32) := (List.range (nE r)).map (ev1 r)
def okE (r : Nat → Int32) : Prop := r 8 = nI (nE r) ∧ nE r ≤ 20
def push1 (l : List (Int32 × Int32 × Int32)) (x : Int32 × Int32 × Int32) : List (Int32 × Int32 × Int32) := if l.length = 20 then l.tail ++ [x] else l ++ [x]
theorem evs_len (r : Nat → Int32) : (evs r).length = nE r := by simp [evs]
theorem evs_cg {r r' : Nat → Int32} (h8 : r' 8 = r 8) (h : ∀ q, 1122 ≤ q → q < 1182 → r' q = r q) (hE : nE r ≤ 20) : evs r' = evs r := by
  unfold evs
  rw [show nE r' = nE r by unfold nE; rw [h8]]
  refine List.map_congr_left (fun k hk => ?_)
  have hk := List.mem_range.mp hk
  unfold ev1
  rw [h _ (by omega) (by omega), h _ (by omega) (by omega), h _ (by omega) (by omega)]
theorem evs_add {r r' : Nat → Int32} {n : Nat} (h8 : r 8 = nI n) (hn : n < 20) (h8' : r' 8 = nI (n + 1)) {x y z : Int32} (h : ∀ q, 1122 ≤ q → q < 1122 + 3 * n → r' q = r q) (hx : r' (1122 + 3 * n) = x) (hy : r' (1122 + 3 * n + 1) = y) (hz : r' (1122 + 3 * n + 2) = z) : evs r' = evs r ++ [(x, y, z)] := by
  unfold evs
  rw [show nE r' = n + 1 by unfold nE; rw [h8', vN_nI (by omega)], show nE r = n by unfold nE; rw [h8, vN_nI (by omega)], List.range_succ, List.map_append]
  congr 1
  · refine List.map_congr_left (fun k hk => ?_)
    have hk := List.mem_range.mp hk
    unfold ev1
    rw [h _ (by omega) (by omega), h _ (by omega) (by omega), h _ (by omega) (by omega)]
  · simp [ev1, hx, hy, hz]
theorem evs_shift {r r' : Nat → Int32} (h8 : nE r = 20) (h8' : nE r' = 19) (h : ∀ q, 1122 ≤ q → q < 1179 → r' q = r (q + 3)) : evs r' = (evs r).tail := by
  unfold evs
  rw [h8, h8', show List.range 20 = 0 :: (List.range 19).map Nat.succ from List.range_succ_eq_map, List.map_cons, List.tail_cons, List.map_map]
  refine List.map_congr_left (fun k hk => ?_)
  have hk := List.mem_range.mp hk
  show ev1 r' k = ev1 r (k + 1)
  unfold ev1
  rw [h _ (by omega) (by omega), h _ (by omega) (by omega), h _ (by omega) (by omega), show 1122 + 3 * k + 3 = 1122 + 3 * (k + 1) by omega, show 1122 + 3 * k + 1 + 3 = 1122 + 3 * (k + 1) + 1 by omega, show 1122 + 3 * k + 2 + 3 = 1122 + 3 * (k + 1) + 2 by omega]
section
variable {b : Nat} {W : WD}
theorem m_notesJ {x y z : Int32} {n : Nat} {r : Nat → Int32} (hr : W.2.1 10 0 0 0 = r) (h8 : r 8 = nI n) (hn : n < 20) : ∃ r', f_X10_notes_J63 (b + ad 10 0 0) x y z (wd b W) = some ((), wd b (wsA W 10 0 0 0 r')) ∧ (∀ q, q ≠ 8 → q < 1122 + 3 * n ∨ 1182 ≤ q → r' q = r q) ∧ r' 8 = nI (n + 1) ∧ evs r' = evs r ++ [(x, y, z)] := by
  unfold f_X10_notes_J63
  rw [o10_0 h10, oR0 8 8 rfl (by omega), hr, h8, o10_0 h10, li 1122, li 3, pk_mul, nI_add, ot10_0 h10 (by omega), hr, o10_0 h10, li 1, nI_add, ot10_0 h10 (by omega), wsA_r, wsA_2, o10_0 h10, li 2, nI_add, ot10_0 h10 (by omega), wsA_r, wsA_2, o10_0 h10, oR0 8 8 rfl (by omega), wsA_r, oS0 8 8 rfl (by omega), wsA_r, wsA_2]
  refine ⟨_, rfl, ?_, ?_, ?_⟩
  · intro q h1 h2
    rw [pk_un h1, pk_un (by omega), pk_un (by omega), pk_un (by omega)]
  · rw [pk_us, pk_un (by omega), pk_un (by omega), pk_un (by omega), h8, nI_add]
  · refine evs_add h8 hn ?_ ?_ ?_ ?_ ?_
    · rw [pk_us, pk_un (by omega), pk_un (by omega), pk_un (by omega), h8, nI_add]
    · intro q h1 h2
      rw [pk_un (by omega), pk_un (by omega), pk_un (by omega), pk_un (by omega)]
    · rw [pk_un (by omega), pk_un (by omega), pk_un (by omega), pk_us]
    · rw [pk_un (by omega), pk_un (by omega), pk_us]
    · rw [pk_un (by omega), pk_us]
theorem m_notes {x y z : Int32} {r : Nat → Int32} (hr : W.2.1 10 0 0 0 = r) (hE : okE r) : ∃ r', f_X10_notes (b + ad 10 0 0) x y z (wd b W) = some ((), wd b (wsA W 10 0 0 0 r')) ∧ (∀ q, q ≠ 8 → q < 1122 ∨ 1182 ≤ q → r' q = r q) ∧ okE r' ∧ evs r' = push1 (evs r) (x, y, z) := by
  obtain ⟨h8, hn⟩ := hE
  have hlen := evs_len r
  unfold f_X10_notes
  rw [oO_10 h10, o10_0 h10, oR0 8 8 rfl (by omega), hr, h8]
  rcases Nat.lt_or_ge (nE r) 20 with h | h
  · rw [if_pos (by rw [li 20]; exact ne_p (by omega) (by omega) (by omega))]
    obtain ⟨r', e1, e2, e3, e4⟩ := m_notesJ (b := b) (x := x) (y := y) (z := z) hr h8 h
    refine ⟨r', e1, fun q h1 h2 => e2 q h1 (by omega), ⟨?_, ?_⟩, ?_⟩
    · unfold nE
      rw [e3, vN_nI (by omega)]
    · unfold nE
      rw [e3, vN_nI (by omega)]
      omega
    · rw [e4]
      unfold push1
      rw [if_neg (by omega)]
  · have h20 : nE r = 20 := by omega
    rw [if_neg (by rw [h20]; exact fun q => q rfl)]
    have z1 : ∀ k, f_X10_notes_L15 (b + ad 10 0 0) x y z k FU (0 : Int32) (wd b W) = k (wd b (wsA W 10 0 0 0 (fun q => if 1122 ≤ q ∧ q < 1122 + 57 then r (q + 3) else r q))) := by
      intro k
      have e := loopN (fun m i => f_X10_notes_L15 (b + ad 10 0 0) x y z k m (nI i) (wd b (wsA W 10 0 0 0 (fun q => if 1122 ≤ q ∧ q < 1122 + i then r (q + 3) else r q)))) 57 (y := k (wd b (wsA W 10 0 0 0 (fun q => if 1122 ≤ q ∧ q < 1122 + 57 then r (q + 3) else r q)))) ?_ ?_ FU 0 (by omega) (by have := FUgt; omega)
      · rw [show (fun q => if 1122 ≤ q ∧ q < 1122 + 0 then r (q + 3) else r q) = r by funext q; rw [if_neg (by omega)], ← hr, wsA_s, hr] at e
        exact e
      · intro m i hi
        try dsimp only
        rw [f_X10_notes_L15, li 57, if_neg (le_n hi (by omega)), o10_0 h10, o10_0 h10, li 1122, li 3, nI_add, nI_add, oa10_0 h10 (by omega), ot10_0 h10 (by omega), wsA_r, wsA_2, nI_1]
        congr 3
        funext q
        by_cases h : q = 1122 + i
        · subst h
          rw [pk_us, if_neg (by omega), if_pos (by omega)]
        · rw [pk_un h]
          by_cases h2 : 1122 ≤ q ∧ q < 1122 + i
          · rw [if_pos h2, if_pos (by omega)]
          · rw [if_neg h2, if_neg (by omega)]
      · intro m
        try dsimp only
        rw [f_X10_notes_L15, li 57, if_pos (le_p (Nat.le_refl _) (by omega))]
    rw [z1, o10_0 h10, oR0 8 8 rfl (by omega), wsA_r, if_neg (by omega), h8, h20, oS0 8 8 rfl (by omega), wsA_r, wsA_2, show nI 20 - 1 = nI 19 from rfl]
    generalize hr1 : upd (fun q => if 1122 ≤ q ∧ q < 1122 + 57 then r (q + 3) else r q) 8 (nI 19) = r1
    have h81 : r1 8 = nI 19 := by rw [← hr1, pk_us]
    obtain ⟨r', e1, e2, e3, e4⟩ := m_notesJ (b := b) (W := wsA W 10 0 0 0 r1) (x := x) (y := y) (z := z) (by rw [wsA_r]) h81 (by omega)
    rw [wsA_2] at e1
    refine ⟨r', e1, fun q h1 h2 => ?_, ⟨?_, ?_⟩, ?_⟩
    · rw [e2 q h1 (by omega), ← hr1, pk_un h1, if_neg (by omega)]
    · unfold nE
      rw [e3, vN_nI (by omega)]
    · unfold nE
      rw [e3, vN_nI (by omega)]
      omega
    · rw [e4]
      unfold push1
      rw [if_pos (by omega), evs_shift (r := r) (r' := r1) h20 (by unfold nE; rw [h81]; rfl) (fun q q1 q2 => by rw [← hr1, pk_un (by omega), if_pos (by omega)])]
/-- a preemption -/
def preB (r : Nat → Int32) (M : Nat) (O : Nat → Nat) : Bool := decide (M ≠ 0) && (decide (r 5 ≠ -1) && (decide (r 5 ≠ nI (O 0)) && decide (stO r (vN (r 5)) = 1)))
def leadK (r : Nat → Int32) : Prop := r 5 = -1 ∨ (r 5 = nI (vN (r 5)) ∧ vN (r 5) < 12)
theorem m_preempts {M : Nat} {O : Nat → Nat} {r : Nat → Int32} (hr : W.2.1 10 0 0 0 = r) (hE : okE r) (hL : leadK r) (hM : M ≤ 12) (h7 : W.1 10 0 0 7 = nI M) (h6 : ∀ x, x < M → W.2.1 10 0 0 6 x = nI (O x)) : ∃ r', f_X10_preempts (b + ad 10 0 0) (wd b W) = some ((), wd b (wsA W 10 0 0 0 r')) ∧ (∀ q, q ≠ 4 → q ≠ 5 → q ≠ 8 → q < 1122 ∨ 1182 ≤ q → r' q = r q) ∧ r' 4 = (if preB r M O = true then r 4 + 1 else r 4) ∧ r' 5 = (if M = 0 then r 5 else nI (O 0)) ∧ okE r' ∧ evs r' = (if preB r M O = true then push1 (evs r) (2, r 5, r 0) else evs r) := by
  have hJ : ∀ (r1 : Nat → Int32) (c : Bool), ¬ M = 0 → okE r1 → (∀ q, q ≠ 4 → q ≠ 8 → q < 1122 ∨ 1182 ≤ q → r1 q = r q) → r1 4 = (if c = true then r 4 + 1 else r 4) → evs r1 = (if c = true then push1 (evs r) (2, r 5, r 0) else evs r) → c = preB r M O → ∃ r', f_X10_preempts_J61 (b + ad 10 0 0) (wd b (wsA W 10 0 0 0 r1)) = some ((), wd b (wsA W 10 0 0 0 r')) ∧ (∀ q, q ≠ 4 → q ≠ 5 → q ≠ 8 → q < 1122 ∨ 1182 ≤ q → r' q = r q) ∧ r' 4 = (if preB r M O = true then r 4 + 1 else r 4) ∧ r' 5 = (if M = 0 then r 5 else nI (O 0)) ∧ okE r' ∧ evs r' = (if preB r M O = true then push1 (evs r) (2, r 5, r 0) else evs r) := by
    intro r1 c hM0 e1 e2 e3 e4 e5
    unfold f_X10_preempts_J61
    rw [o10_0 h10, o10_6 h10, li 0, oa10_6 h10 (by omega), wsA_k _ (by decide), h6 0 (by omega), oS0 5 5 rfl (by omega), wsA_r, wsA_2]
    refine ⟨_, rfl, ?_, ?_, ?_, ?_, ?_⟩
    · intro q q1 q2 q3 q4
      rw [pk_un q2]
      exact e2 q q1 q3 q4
    · rw [pk_un (by omega), e3, e5]
    · rw [pk_us, if_neg hM0]
    · refine ⟨?_, ?_⟩
      · unfold nE
        rw [pk_un (by omega)]
        exact e1.1
      · unfold nE
        rw [pk_un (by omega)]
        exact e1.2
    · rw [← e5, ← e4]
      exact evs_cg (pk_un (by omega)) (fun q q1 q2 => pk_un (by omega)) e1.2
  have hJ0 : ¬ M = 0 → preB r M O = false → ∃ r', f_X10_preempts_J61 (b + ad 10 0 0) (wd b W) = some ((), wd b (wsA W 10 0 0 0 r')) ∧ (∀ q, q ≠ 4 → q ≠ 5 → q ≠ 8 → q < 1122 ∨ 1182 ≤ q → r' q = r q) ∧ r' 4 = (if preB r M O = true then r 4 + 1 else r 4) ∧ r' 5 = (if M = 0 then r 5 else nI (O 0)) ∧ okE r' ∧ evs r' = (if preB r M O = true then push1 (evs r) (2, r 5, r 0) else evs r) := by
    intro h1 h2
    have e := hJ r false h1 hE (fun _ _ _ _ => rfl) (by simp) (by simp) h2.symm
    rw [← hr, wsA_s] at e
    rw [hr] at e
    exact e
  unfold f_X10_preempts
  rw [oO_10 h10, o10_7 h10, h7]
  by_cases hM0 : M = 0
  · subst hM0
    rw [if_neg (fun q => q rfl)]
    have hp : preB r 0 O = false := by simp [preB]
    refine ⟨r, by rw [← hr, wsA_s], fun _ _ _ _ _ => rfl, by rw [hp]; simp, by simp, hE, by rw [hp]; simp⟩
  · rw [if_pos (show ¬ nI M = 0 from ne_p (b := 0) hM0 (by omega) (by omega)), o10_0 h10, oR0 5 5 rfl (by omega), hr]
    by_cases h1 : r 5 = -1
    · rw [if_pos h1]
      exact hJ0 hM0 (by simp [preB, h1])
    · rw [if_neg h1, o10_6 h10, li 0, oa10_6 h10 (by omega), h6 0 (by omega)]
      by_cases h2 : r 5 = nI (O 0)
      · rw [if_pos h2]
        exact hJ0 hM0 (by simp [preB, h2])
      · obtain ⟨l1, l2⟩ := hL.resolve_left h1
        have est : f_X10_stateOf (b + ad 10 0 0) (r 5) (wd b W) = some (stO r (vN (r 5)), wd b W) := by
          rw [l1, m_stateOf l2, ← l1, hr]
        rw [if_neg h2, ob2_i est]
        by_cases h3 : stO r (vN (r 5)) = 1
        · have hp : preB r M O = true := by simp [preB, hM0, h1, h2, h3]
          rw [if_neg (fun q => q h3), o10_0 h10, oR0 4 4 rfl (by omega), hr, oS0 4 4 rfl (by omega), hr, o10_0 h10, ← li 0, oR0 0 0 rfl (by omega), wsA_r, pk_un (by omega)]
          have hE1 : okE (upd r 4 (r 4 + 1)) := by
            refine ⟨?_, ?_⟩
            · unfold nE
              rw [pk_un (by omega)]
              exact hE.1
            · unfold nE
              rw [pk_un (by omega)]
              exact hE.2
          obtain ⟨r1, n1, n2, n3, n4⟩ := m_notes (b := b) (W := wsA W 10 0 0 0 (upd r 4 (r 4 + 1))) (x := 2) (y := r 5) (z := r 0) (by rw [wsA_r]) hE1
          rw [wsA_2] at n1
          rw [ob2_i n1]
          refine hJ r1 true hM0 n3 (fun q q1 q2 q3 => by rw [n2 q q2 q3, pk_un q1]) ?_ ?_ hp.symm
          · rw [n2 4 (by omega) (by omega), pk_us, if_pos rfl]
          · rw [n4, if_pos rfl]
            congr 1
            exact evs_cg (pk_un (by omega)) (fun q q1 q2 => pk_un (by omega)) hE.2
        · rw [if_pos h3]
          exact hJ0 hM0 (by simp [preB, h3])
end
