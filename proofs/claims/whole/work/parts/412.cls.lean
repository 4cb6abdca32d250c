/-! the class's order is the reference's -/
theorem posS_cg {bf bf' : Nat → Nat → Bool} {o : Nat → Nat} {h : Nat} : ∀ a, (∀ x, x < a → bf (o x) h = bf' (o x) h) → posS bf o h a = posS bf' o h a
  | 0, _ => rfl
  | a + 1, hb => by
    rw [posS, posS, hb a (by omega), posS_cg a (fun x hx => hb x (by omega))]
theorem ordS_cg {r : Nat → Int32} {bf bf' : Nat → Nat → Bool} : ∀ n, (∀ o h, o < h → h < n → stO r o = 1 → stO r h = 1 → bf o h = bf' o h) → ordS r bf n = ordS r bf' n
  | 0, _ => rfl
  | n + 1, hb => by
    have ih := ordS_cg (r := r) n (fun o h h1 h2 h3 h4 => hb o h h1 (by omega) h3 h4)
    have ha := ordS_act r bf' n
    rw [ordS, ordS, ih]
    by_cases hs : stO r n = 1
    · rw [if_pos hs, if_pos hs]
      unfold insO
      rw [posS_cg (bf := bf) (bf' := bf') (ordS r bf' n).1 (fun x hx => hb _ n (ha x hx).1 (by omega) (ha x hx).2 hs)]
    · rw [if_neg hs, if_neg hs]
theorem t64_lt {x y : Int32} : x.toInt64 < y.toInt64 ↔ x < y := by
  rw [Int64.lt_iff_toInt_lt, Int32.lt_iff_toInt_lt, Int32.toInt_toInt64, Int32.toInt_toInt64]
theorem t64_eq {x y : Int32} : x.toInt64 = y.toInt64 ↔ x = y := by
  rw [← Int64.toInt_inj, ← Int32.toInt_inj, Int32.toInt_toInt64, Int32.toInt_toInt64]
theorem spn_cases {r : Nat → Int32} {g : Nat} {A : Nat → Int32} : spn r g A = -1 ∨ ∃ y, 1 ≤ y ∧ y ≤ 100000 ∧ spn r g A = nI y := by
  rcases isSpan_ex (r := r) (g := g) (A := A) with ⟨h, -⟩ | ⟨y, y1, y2, y3, -⟩
  · exact Or.inl h
  · exact Or.inr ⟨y, y1, y2, y3⟩
theorem nI64 {y : Nat} (h : y < 2147483648) : (nI y).toInt64.toInt = (y : Int) := by rw [Int32.toInt_toInt64, nI_toInt (by omega)]
theorem lev_le {r : Nat → Int32} {g : Nat} : ∃ v, v ≤ 4 ∧ levO r g = nI v := by
  unfold levO
  repeat' split
  · exact ⟨0, by omega, rfl⟩
  · exact ⟨1, by omega, rfl⟩
  · exact ⟨2, by omega, rfl⟩
  · exact ⟨3, by omega, rfl⟩
  · exact ⟨4, by omega, rfl⟩
theorem lev64 {v a : Nat} (hv : v ≤ 4) (ha : a ≤ 3000000) : ((nI v).toInt64 * 1000000000 + (nI a).toInt64).toInt = (v : Int) * 1000000000 + a := by
  have e1 : ((1000000000 : Int64)).toInt = 1000000000 := rfl
  rw [Int64.toInt_add, Int64.toInt_mul, nI64 (by omega), nI64 (by omega), e1]
  have h1 : ((v : Int) * 1000000000).bmod (2 ^ 64) = (v : Int) * 1000000000 := by
    rw [Int.bmod_def]
    omega
  rw [h1, Int.bmod_def]
  omega
theorem key_lt {r : Nat → Int32} {g : Nat} (h : r 1 = 0 ∨ r 1 = 5) : keyS r g < 1000000000 ↔ ¬ spn r g (capR r) = -1 := by
  unfold keyS
  rw [if_pos h]
  rcases spn_cases (r := r) (g := g) (A := capR r) with q | ⟨y, y1, y2, q⟩
  · rw [if_pos q]
    exact ⟨fun z => absurd z (by decide), fun z => absurd q z⟩
  · rw [if_neg (by rw [q]; exact nI_ne_m1 (by omega)), q]
    refine ⟨fun _ => nI_ne_m1 (by omega), fun _ => ?_⟩
    rw [Int64.lt_iff_toInt_lt, nI64 (by omega)]
    have e1 : ((1000000000 : Int64)).toInt = 1000000000 := rfl
    omega
theorem bf_eq {r F : Nat → Int32} {T : Nat} (ho : okR r T) (hT : T ≤ 900000) (h6 : ¬ r 1 = 6) {o h : Nat} (hoh : o < h) (hh : h < nG r) : bfK r F o h = bfS r o h := by
  have gk := ho.2.2.2.2.2.2.2
  unfold bfK bfC bfS
  cases d1 : hdS r o with
  | true =>
    have t1 : tierS r o = 0 := by unfold tierS; rw [if_pos d1]
    cases d2 : hdS r h with
    | true =>
      have t2 : tierS r h = 0 := by unfold tierS; rw [if_pos d2]
      rw [t1, t2, if_pos rfl, if_pos (show (true || true) = true from rfl), if_pos (show (true && true) = true from rfl)]
      unfold numS divS
      rw [if_pos d1, if_pos d2, if_pos d1, if_pos d2]
      have e1 : (1 : Int32).toInt64 = 1 := rfl
      rw [e1, Int64.mul_one, Int64.mul_one]
      simp only [t64_lt]
    | false =>
      have t2 : tierS r h = 1 ∨ tierS r h = 2 := by
        unfold tierS
        rw [if_neg (by rw [d2]; decide)]
        repeat' split
        all_goals simp
      rw [t1]
      rcases t2 with t2 | t2 <;> rw [t2, if_neg (by decide)] <;> rfl
  | false =>
    have t1 : tierS r o = 1 ∨ tierS r o = 2 := by
      unfold tierS
      rw [if_neg (by rw [d1]; decide)]
      repeat' split
      all_goals simp
    cases d2 : hdS r h with
    | true =>
      have t2 : tierS r h = 0 := by unfold tierS; rw [if_pos d2]
      rw [t2]
      rcases t1 with t1 | t1 <;> rw [t1, if_neg (by decide)] <;> rfl
    | false =>
      rw [if_neg (show ¬ (false || false) = true by decide)]
      have e1 : (1 : Int32).toInt64 = 1 := rfl
      by_cases h0 : r 1 = 0 ∨ r 1 = 5
      · have tS : ∀ g, hdS r g = false → tierS r g = if spn r g (capR r) = -1 then 2 else 1 := fun g hg => by unfold tierS; rw [if_neg (by rw [hg]; decide), if_pos h0]
        have nS : ∀ g, hdS r g = false → numS r F g = if spn r g (capR r) = -1 then 0 else (spn r g (capR r)).toInt64 := fun g hg => by unfold numS; rw [if_neg (by rw [hg]; decide), if_pos h0]
        have dS : ∀ g, hdS r g = false → divS r g = if spn r g (capR r) = -1 then 1 else if r 1 = 0 then 1 else gO r g 1 := fun g hg => by unfold divS; rw [if_neg (by rw [hg]; decide), if_pos h0]
        have kS : ∀ g, keyS r g = if spn r g (capR r) = -1 then 1000000000 else (spn r g (capR r)).toInt64 := fun g => by unfold keyS; rw [if_pos h0]
        have sS : ∀ g, secS r g = 0 := fun g => by
          unfold secS
          rw [if_neg]
          intro q
          rcases h0 with z | z <;> rw [z] at q <;> exact absurd q (by decide)
        rw [tS o d1, tS h d2, nS o d1, nS h d2, dS o d1, dS h d2]
        by_cases so : spn r o (capR r) = -1
        · by_cases sh : spn r h (capR r) = -1
          · have nk : ¬ (r 1 = 5 ∧ keyS r o < 1000000000 ∧ keyS r h < 1000000000) := fun q => (key_lt h0).mp q.2.1 so
            rw [if_neg nk, kS o, kS h, sS o, sS h]
            simp only [if_pos so, if_pos sh]
            decide
          · have nk : ¬ (r 1 = 5 ∧ keyS r o < 1000000000 ∧ keyS r h < 1000000000) := fun q => (key_lt h0).mp q.2.1 so
            have kl := (key_lt (r := r) (g := h) h0).mpr sh
            have ke : keyS r o = 1000000000 := by rw [kS o, if_pos so]
            have kne : ¬ (1000000000 : Int64) = keyS r h := fun q => by rw [← q] at kl; exact Int64.lt_irrefl kl
            rw [if_neg nk, ke, if_neg kne]
            simp only [if_pos so, if_neg sh]
            have : ¬ (1000000000 : Int64) < keyS r h := fun q => Int64.lt_irrefl (Int64.lt_trans q kl)
            simp [this]
        · by_cases sh : spn r h (capR r) = -1
          · have nk : ¬ (r 1 = 5 ∧ keyS r o < 1000000000 ∧ keyS r h < 1000000000) := fun q => (key_lt h0).mp q.2.2 sh
            have kl := (key_lt (r := r) (g := o) h0).mpr so
            have ke : keyS r h = 1000000000 := by rw [kS h, if_pos sh]
            have kne : ¬ keyS r o = (1000000000 : Int64) := fun q => by rw [q] at kl; exact Int64.lt_irrefl kl
            rw [if_neg nk, ke, if_neg kne]
            simp only [if_neg so, if_pos sh]
            simp [kl]
          · rw [if_pos (show (if spn r h (capR r) = -1 then (2 : Int32) else 1) = if spn r o (capR r) = -1 then 2 else 1 by rw [if_neg so, if_neg sh])]
            simp only [if_neg so, if_neg sh]
            by_cases h5 : r 1 = 5
            · have yk : r 1 = 5 ∧ keyS r o < 1000000000 ∧ keyS r h < 1000000000 := ⟨h5, (key_lt h0).mpr so, (key_lt h0).mpr sh⟩
              rw [if_pos yk, kS o, kS h, if_neg so, if_neg sh]
              simp only [if_neg (show ¬ r 1 = 0 by rw [h5]; decide)]
            · have hz := h0.resolve_right h5
              have nk : ¬ (r 1 = 5 ∧ keyS r o < 1000000000 ∧ keyS r h < 1000000000) := fun q => h5 q.1
              rw [if_neg nk, kS o, kS h, if_neg so, if_neg sh, sS o, sS h]
              simp only [if_pos hz, e1, Int64.mul_one, t64_lt, t64_eq]
              by_cases heq : spn r o (capR r) = spn r h (capR r)
              · rw [if_pos heq, heq]
                simp [Int32.lt_irrefl, Int64.lt_irrefl]
              · rw [if_neg heq]
                by_cases hl : spn r h (capR r) < spn r o (capR r)
                · have : ¬ spn r o (capR r) < spn r h (capR r) := fun q => Int32.lt_irrefl (Int32.lt_trans q hl)
                  simp [hl, this]
                · have : spn r o (capR r) < spn r h (capR r) := by
                    rw [Int32.lt_iff_toInt_lt] at hl ⊢
                    have : (spn r o (capR r)).toInt ≠ (spn r h (capR r)).toInt := fun q => heq (Int32.toInt_inj.mp q)
                    omega
                  simp [hl, this]
      · have t1' : tierS r o = 1 := by unfold tierS; rw [if_neg (by rw [d1]; decide), if_neg h0]
        have t2' : tierS r h = 1 := by unfold tierS; rw [if_neg (by rw [d2]; decide), if_neg h0]
        have v1 : divS r o = 1 := by unfold divS; rw [if_neg (by rw [d1]; decide), if_neg h0]
        have v2 : divS r h = 1 := by unfold divS; rw [if_neg (by rw [d2]; decide), if_neg h0]
        have nk : ¬ (r 1 = 5 ∧ keyS r o < 1000000000 ∧ keyS r h < 1000000000) := fun q => h0 (Or.inr q.1)
        rw [t1', t2', v1, v2, if_pos rfl, if_neg nk, e1, Int64.mul_one, Int64.mul_one]
        by_cases h4 : r 1 = 4
        · have n4 : ∀ g, hdS r g = false → numS r F g = (levO r g).toInt64 * 1000000000 + (gO r g 0).toInt64 := fun g hg => by
            unfold numS
            rw [if_neg (by rw [hg]; decide), if_neg h0, if_neg (by rw [h4]; decide), if_neg (by rw [h4]; decide), if_neg (by rw [h4]; decide), if_pos h4]
          have k4 : ∀ g, keyS r g = (levO r g).toInt64 := fun g => by
            unfold keyS
            rw [if_neg h0, if_neg (by rw [h4]; decide), if_neg (by rw [h4]; decide), if_neg (by rw [h4]; decide)]
          have s4 : ∀ g, secS r g = (gO r g 0).toInt64 := fun g => by unfold secS; rw [if_pos h4]
          obtain ⟨lo, lo1, lo2⟩ := lev_le (r := r) (g := o)
          obtain ⟨lh, lh1, lh2⟩ := lev_le (r := r) (g := h)
          have ao := (gk o (by omega)).1
          have ah := (gk h hh).1
          rw [n4 o d1, n4 h d2, k4 o, k4 h, s4 o, s4 h, lo2, lh2, ao.1, ah.1]
          have neq : nI lo = nI lh ↔ lo = lh := nI_eq (by omega) (by omega)
          simp only [t64_eq, Int64.lt_iff_toInt_lt, lev64 lo1 (show vN (gO r o 0) ≤ 3000000 by omega), lev64 lh1 (show vN (gO r h 0) ≤ 3000000 by omega), nI64 (show lo < 2147483648 by omega), nI64 (show lh < 2147483648 by omega), nI64 (show vN (gO r o 0) < 2147483648 by omega), nI64 (show vN (gO r h 0) < 2147483648 by omega), neq]
          generalize vN (gO r o 0) = x at *
          generalize vN (gO r h 0) = y at *
          by_cases heq : lo = lh
          · rw [if_pos heq]
            have e2 : ((lh : Int) * 1000000000 + y < lo * 1000000000 + x) ↔ (y : Int) < x := by omega
            simp only [e2]
          · rw [if_neg heq]
            by_cases hl : lo < lh
            · have : ¬ ((lh : Int) * 1000000000 + y < lo * 1000000000 + x) := by omega
              have hl2 : (lo : Int) < lh := by omega
              simp [hl2, this]
            · have : (lh : Int) * 1000000000 + y < lo * 1000000000 + x := by omega
              have hl2 : ¬ (lo : Int) < lh := by omega
              simp [hl2, this]
        · have nk : ∀ g, hdS r g = false → numS r F g = keyS r g := fun g hg => by
            unfold numS keyS
            rw [if_neg (by rw [hg]; decide), if_neg h0, if_neg h0]
            by_cases q1 : r 1 = 1
            · rw [if_pos q1, if_pos q1]
            · rw [if_neg q1, if_neg q1]
              by_cases q2 : r 1 = 2
              · rw [if_pos q2, if_pos q2]
              · rw [if_neg q2, if_neg q2]
                by_cases q3 : r 1 = 3
                · rw [if_pos q3, if_pos q3]
                · exfalso
                  obtain ⟨p1, p2⟩ := ho.2.2.2.2.1.1
                  have hp : vN (r 1) = 0 ∨ vN (r 1) = 1 ∨ vN (r 1) = 2 ∨ vN (r 1) = 3 ∨ vN (r 1) = 4 ∨ vN (r 1) = 5 ∨ vN (r 1) = 6 := by omega
                  rcases hp with z | z | z | z | z | z | z <;> rw [z] at p1
                  · exact h0 (Or.inl p1)
                  · exact q1 p1
                  · exact q2 p1
                  · exact q3 p1
                  · exact h4 p1
                  · exact h0 (Or.inr p1)
                  · exact h6 p1
          have s0 : ∀ g, secS r g = 0 := fun g => by unfold secS; rw [if_neg h4]
          rw [nk o d1, nk h d2, s0 o, s0 h]
          by_cases heq : keyS r o = keyS r h
          · rw [if_pos heq, heq]
            simp [Int64.lt_irrefl]
          · rw [if_neg heq]
            by_cases hl : keyS r h < keyS r o
            · have : ¬ keyS r o < keyS r h := fun q => Int64.lt_irrefl (Int64.lt_trans q hl)
              simp [hl, this]
            · have : keyS r o < keyS r h := by
                rw [Int64.lt_iff_toInt_lt] at hl ⊢
                have : (keyS r o).toInt ≠ (keyS r h).toInt := fun q => heq (Int64.toInt_inj.mp q)
                omega
              simp [hl, this]
theorem ord_eq {r F : Nat → Int32} {T : Nat} (ho : okR r T) (hT : T ≤ 900000) (h6 : ¬ r 1 = 6) : ordS r (bfK r F) (nG r) = ordS r (bfS r) (nG r) := ordS_cg _ (fun o h h1 h2 _ _ => bf_eq ho hT h6 h1 h2)
