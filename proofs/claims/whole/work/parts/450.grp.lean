/-! a new group, reference; addGroup -/
def rejB (r : Nat → Int32) (D : Nat) : Bool := decide (r 3 = 1) && (decide (0 < D) && !fitB r D)
def agK (v0 : Nat) (x18 : Int32) (N45 : AH) : Option (Int32 × AH) := ob (hR N45 v0 10 0) (fun x46 => ob (sI N45 x46 (7 : Int32) (0 : Int32)) (fun N47 => ob (hR N47 v0 10 0) (fun x48 => ob (aI N47 x48 (6 : Int32)) (fun x49 => ob (sI N47 x48 (6 : Int32) (x49 + (1 : Int32))) (fun N50 => ob2 (f_X10_hasDeadline v0 x18 N50) (fun x52 N51 => if x52 = 0 then some (x18, N51) else ob2 (f_X10_isAdmitted v0 x18 N51) (fun x55 N54 => if ¬ x55 = 0 then some (x18, N54) else ob2 (f_X10_sets v0 x18 (4 : Int32) (1 : Int32) N54) (fun _ N57 => ob (hR N57 v0 10 0) (fun x58 => ob (aI N57 x58 (0 : Int32)) (fun x59 => ob2 (f_X10_notes v0 (3 : Int32) x18 x59 N57) (fun _ N60 => some (x18, N60))))))))))))
section
variable {b : Nat} {W : WD} {T : Nat} {r R : Nat → Int32}
theorem fit_eq {δ w D : Nat} {rej : Bool} (ho : okR r T) (hg : nG r < 12) (h : ngP r R (nI δ) (nI w) (nI D) rej) : fitM R (nG r) D = fitB r D := by
  obtain ⟨⟨n7, n6⟩, ⟨a0, a1, a2, a3, a4, a5⟩, nf, no, nE1, nE2⟩ := h
  have lo : ∀ q, q < 42 → q ≠ 6 → q ≠ 7 → q ≠ 8 → R q = r q := fun q q1 q2 q3 q4 => no q (by omega) q2 q3 q4 (by omega)
  have eg : ∀ g k, g < nG r → k < 6 → gO R g k = gO r g k := fun g k hg' hk => no _ (by omega) (by omega) (by omega) (by omega) (by omega)
  have ef : ∀ g f k, g < nG r → f < 16 → k < 5 → fO R g f k = fO r g f k := fun g f k hg' hf hk => no _ (by omega) (by omega) (by omega) (by omega) (by omega)
  have eFn : nF R (nG r) = nD r := by
    show vN (gO R (nG r) 5) = nD r
    rw [a5]
    rfl
  have e1 : ∀ p, cmN R p (nG r) = cmN r p (nG r) := by
    intro p
    refine sumN_cg (fun h hh => ?_)
    have h16 := (ho.1.2.1 h hh).2.1
    have eo : opB R h = opB r h := by unfold opB; rw [eg h 4 hh (by omega), eg h 3 hh (by omega)]
    have el : lfN R h = lfN r h := by unfold lfN; rw [eg h 0 hh (by omega), eg h 2 hh (by omega), lo 0 (by omega) (by omega) (by omega) (by omega)]
    have eF : nF R h = nF r h := nF_cg (eg h 5 hh (by omega))
    have ec : cmG R h (lfN R h) p (nF R h) = cmG r h (lfN r h) p (nF r h) := by
      rw [el, eF]
      exact sumN_cg (fun f hf => by rw [ef h f 0 hh (by omega) (by omega), ef h f 1 hh (by omega) (by omega), ef h f 3 hh (by omega) (by omega)])
    rw [eo, eg h 2 hh (by omega), ec]
  have e2 : ∀ p, nwN R (nG r) D p (nF R (nG r)) = dwN r D p (nD r) := by
    intro p
    rw [eFn]
    refine sumN_cg (fun f hf => ?_)
    obtain ⟨f0, f1, f2, f3, f4⟩ := nf f hf
    rw [f0, f1, f2]
  have ecap : ∀ p, p < 16 → capR R p = capR r p := fun p hp => lo _ (by omega) (by omega) (by omega) (by omega)
  have key : ∀ p, p < 16 → (cmN R p (nG r) + nwN R (nG r) D p (nF R (nG r)) ≤ vN (capR R p) ↔ cmN r p (nG r) + dwN r D p (nD r) ≤ vN (capR r p)) := fun p hp => by rw [e1, e2, ecap p hp]
  unfold fitM fitB
  rw [Bool.eq_iff_iff, allB_iff, allB_iff]
  constructor
  · intro w p hp
    have := w p hp
    rw [decide_eq_true_eq] at this ⊢
    exact (key p hp).mp this
  · intro w p hp
    have := w p hp
    rw [decide_eq_true_eq] at this ⊢
    exact (key p hp).mpr this
theorem m_ag {δ w D : Nat} (hr : W.2.1 10 0 0 0 = r) (ho : okR r T) (hT : T ≤ 900000) (hg : nG r < 12) (hd : 0 < nD r) (h1 : δ ≤ 1000) (h2 : 1 ≤ w) (h2' : w ≤ 100) (h3 : D ≤ 10000) {ρ : Nat → Int32} (i1 : ∀ q, ¬ (90 + 86 * nG r ≤ q ∧ q < 90 + 86 * nG r + 86) → ρ q = r q) (i2 : gO ρ (nG r) 0 = r 0 + nI δ ∧ gO ρ (nG r) 1 = nI w ∧ gO ρ (nG r) 2 = nI D ∧ gO ρ (nG r) 3 = -1 ∧ gO ρ (nG r) 4 = 0 ∧ gO ρ (nG r) 5 = r 7) (i3 : ∀ f, f < nD r → fO ρ (nG r) f 0 = r (42 + 3 * f) ∧ fO ρ (nG r) f 1 = r (42 + 3 * f + 1) ∧ fO ρ (nG r) f 2 = r (42 + 3 * f + 2) ∧ fO ρ (nG r) f 3 = r (42 + 3 * f + 2) ∧ fO ρ (nG r) f 4 = 0) : ∃ R, agK (b + ad 10 0 0) (nI (nG r)) (wd b (wsA W 10 0 0 0 ρ)) = some (nI (nG r), wd b (wsA W 10 0 0 0 R)) ∧ ngP r R (nI δ) (nI w) (nI D) (rejB r D) ∧ ∀ q, 1182 ≤ q → R q = r q := by
  obtain ⟨d1, d2, d3⟩ := ho.2.2.2.2.1.2
  have g1 := ho.1.1.1
  have hE := ho.2.2.1
  generalize hR0 : upd (upd ρ 7 0) 6 (nI (nG r + 1)) = R0
  have r0 : ∀ q, q ≠ 6 → q ≠ 7 → R0 q = ρ q := fun q q6 q7 => by rw [← hR0, pk_un q6, pk_un q7]
  have rg : ∀ k, gO R0 (nG r) k = gO ρ (nG r) k := fun k => r0 _ (by omega) (by omega)
  have rf : ∀ f k, fO R0 (nG r) f k = fO ρ (nG r) f k := fun f k => r0 _ (by omega) (by omega)
  have rE : ∀ q, q ≠ 6 → q ≠ 7 → ¬ (90 + 86 * nG r ≤ q ∧ q < 90 + 86 * nG r + 86) → R0 q = r q := fun q a1 a2 a3 => by rw [r0 q a1 a2, i1 q a3]
  have oE : okE R0 := by
    unfold okE nE
    rw [rE 8 (by omega) (by omega) (by omega)]
    exact hE
  have eE : evs R0 = evs r := evs_cg (rE 8 (by omega) (by omega) (by omega)) (fun q a1 a2 => rE q (by omega) (by omega) (by omega)) hE.2
  have ng0 : ngP r R0 (nI δ) (nI w) (nI D) false := by
    refine ⟨⟨by rw [← hR0, pk_un (by omega), pk_us], by rw [← hR0, pk_us]⟩, ?_, fun f hf => ?_, fun q a1 a2 a3 a4 a5 => rE q a2 a3 a5, oE, by rw [if_neg (by decide)]; exact eE⟩
    · rw [rg, rg, rg, rg, rg, rg]
      exact i2
    · rw [rf, rf, rf, rf, rf]
      exact i3 f hf
  have ok0 : okR R0 T := okR_ng ho hg hd h1 h2 h2' h3 hT ng0
  have hi0 : ∀ q, 1182 ≤ q → R0 q = r q := fun q hq => rE q (by omega) (by omega) (by omega)
  have start : agK (b + ad 10 0 0) (nI (nG r)) (wd b (wsA W 10 0 0 0 ρ)) = ob2 (f_X10_hasDeadline (b + ad 10 0 0) (nI (nG r)) (wd b (wsA W 10 0 0 0 R0))) (fun x52 N51 => if x52 = 0 then some (nI (nG r), N51) else ob2 (f_X10_isAdmitted (b + ad 10 0 0) (nI (nG r)) N51) (fun x55 N54 => if ¬ x55 = 0 then some (nI (nG r), N54) else ob2 (f_X10_sets (b + ad 10 0 0) (nI (nG r)) (4 : Int32) (1 : Int32) N54) (fun _ N57 => ob (hR N57 (b + ad 10 0 0) 10 0) (fun x58 => ob (aI N57 x58 (0 : Int32)) (fun x59 => ob2 (f_X10_notes (b + ad 10 0 0) (3 : Int32) (nI (nG r)) x59 N57) (fun _ N60 => some (nI (nG r), N60))))))) := by
    unfold agK
    rw [o10_0 h10, oS0 7 7 rfl (by omega), wsA_r, wsA_2, o10_0 h10, oR0 6 6 rfl (by omega), wsA_r, pk_un (by omega), i1 6 (by omega), g1, oS0 6 6 rfl (by omega), wsA_r, wsA_2, nI_1, hR0]
  have hdl := m_hasD (b := b) (W := wsA W 10 0 0 0 R0) (g := nG r) hg
  rw [wsA_r] at hdl
  have e3 : R0 3 = r 3 := rE 3 (by omega) (by omega) (by omega)
  have hh : hdS R0 (nG r) = (decide (r 3 = 1) && decide (0 < D)) := by
    unfold hdS
    rw [e3, rg, i2.2.2.1]
    congr 1
    rcases Nat.eq_zero_or_pos D with z | z
    · rw [z]; rfl
    · rw [decide_eq_false (show ¬ nI D ≤ 0 from le_n (b := 0) z (by omega)), decide_eq_true z]
      rfl
  rw [start, ob2_i hdl, hh]
  by_cases hc : r 3 = 1 ∧ 0 < D
  · rw [decide_eq_true hc.1, decide_eq_true hc.2, if_neg (by decide)]
    have had := m_isAdm (b := b) (W := wsA W 10 0 0 0 R0) (r := R0) (g := nG r) (D := D) (by rw [wsA_r]) ok0 hT (by have : nG R0 = nG r + 1 := (by show vN (R0 6) = nG r + 1; rw [← hR0, pk_us]; exact vN_nI (by omega)); omega) (by rw [rg]; exact i2.2.2.1) hc.2 h3
    rw [fit_eq ho hg ng0] at had
    rw [ob2_i had]
    have hrej : rejB r D = !fitB r D := by
      unfold rejB
      rw [decide_eq_true hc.1, decide_eq_true hc.2]
      rfl
    rw [hrej]
    cases hf : fitB r D with
    | true =>
      rw [if_pos (by decide)]
      exact ⟨R0, rfl, ng0, hi0⟩
    | false =>
      have es := m_sets (b := b) (W := wsA W 10 0 0 0 R0) (g := nG r) (k := 4) (v := 1) (by omega)
      rw [wsA_r, wsA_2] at es
      have es' : f_X10_sets (b + ad 10 0 0) (nI (nG r)) (4 : Int32) (1 : Int32) (wd b (wsA W 10 0 0 0 R0)) = some ((), wd b (wsA W 10 0 0 0 (upd R0 (90 + 86 * nG r + 4) 1))) := es
      generalize hR1 : upd R0 (90 + 86 * nG r + 4) 1 = R1 at *
      have r1 : ∀ q, q ≠ 90 + 86 * nG r + 4 → R1 q = R0 q := fun q hq => by rw [← hR1, pk_un hq]
      have oE1 : okE R1 := by
        unfold okE nE
        rw [r1 8 (by omega)]
        exact oE
      have eE1 : evs R1 = evs r := (evs_cg (r1 8 (by omega)) (fun q a1 a2 => r1 q (by omega)) oE.2).trans eE
      obtain ⟨R2, n1, n2, n3, n4⟩ := m_notes (b := b) (W := wsA W 10 0 0 0 R1) (r := R1) (x := 3) (y := nI (nG r)) (z := r 0) (by rw [wsA_r]) oE1
      rw [wsA_2] at n1
      rw [if_neg (by decide), ob2_i es', o10_0 h10, oR0 0 0 rfl (by omega), wsA_r, r1 0 (by omega), rE 0 (by omega) (by omega) (by omega), ob2_i n1]
      refine ⟨R2, rfl, ?_, fun q hq => by rw [n2 q (by omega) (by omega), r1 q (by omega), hi0 q hq]⟩
      obtain ⟨⟨m7, m6⟩, ⟨a0, a1, a2, a3, a4, a5⟩, nf, no, -, -⟩ := ng0
      have lo : ∀ q, q < 1122 → q ≠ 8 → q ≠ 90 + 86 * nG r + 4 → R2 q = R0 q := fun q b1 b2 b3 => by rw [n2 q b2 (Or.inl b1), r1 q b3]
      have lg : ∀ k, k < 86 → k ≠ 4 → gO R2 (nG r) k = gO R0 (nG r) k := fun k hk hk4 => lo _ (by omega) (by omega) (by omega)
      have lf : ∀ f k, f < 16 → k < 5 → fO R2 (nG r) f k = fO R0 (nG r) f k := fun f k hf hk => lo _ (by omega) (by omega) (by omega)
      refine ⟨⟨by rw [lo 7 (by omega) (by omega) (by omega)]; exact m7, by rw [lo 6 (by omega) (by omega) (by omega)]; exact m6⟩, ⟨by rw [lg 0 (by omega) (by omega)]; exact a0, by rw [lg 1 (by omega) (by omega)]; exact a1, by rw [lg 2 (by omega) (by omega)]; exact a2, by rw [lg 3 (by omega) (by omega)]; exact a3, ?_, by rw [lg 5 (by omega) (by omega)]; exact a5⟩, fun f hf' => ?_, fun q b1 b2 b3 b4 b5 => by rw [lo q b1 b4 (by omega)]; exact no q b1 b2 b3 b4 b5, n3, ?_⟩
      · show R2 (90 + 86 * nG r + 4) = 1
        rw [n2 _ (by omega) (by omega), ← hR1, pk_us]
      · rw [lf f 0 (by omega) (by omega), lf f 1 (by omega) (by omega), lf f 2 (by omega) (by omega), lf f 3 (by omega) (by omega), lf f 4 (by omega) (by omega)]
        exact nf f hf'
      · rw [n4, eE1]
        rfl
  · have hb : (decide (r 3 = 1) && decide (0 < D)) = false := by
      cases hx : (decide (r 3 = 1) && decide (0 < D)) with
      | false => rfl
      | true =>
        rw [Bool.and_eq_true, decide_eq_true_eq, decide_eq_true_eq] at hx
        exact absurd hx hc
    have hrej : rejB r D = false := by
      unfold rejB
      rw [← Bool.and_assoc, hb]
      rfl
    rw [hb, hrej, if_pos (by decide)]
    exact ⟨R0, rfl, ng0, hi0⟩
theorem m_ag144 {ρ0 : Nat → Int32} (ho : okR r T) (hg : nG r < 12) (i1 : ∀ q, ¬ (90 + 86 * nG r ≤ q ∧ q < 90 + 86 * nG r + 86) → ρ0 q = r q) {k : AH → Option (Int32 × AH)} : ∃ ρ, f_X10_addGroup_L144 (b + ad 10 0 0) (nI (nG r)) k FU (0 : Int32) (wd b (wsA W 10 0 0 0 ρ0)) = k (wd b (wsA W 10 0 0 0 ρ)) ∧ (∀ q, ¬ (90 + 86 * nG r + 6 ≤ q ∧ q < 90 + 86 * nG r + 86) → ρ q = ρ0 q) ∧ ∀ f, f < nD r → fO ρ (nG r) f 0 = r (42 + 3 * f) ∧ fO ρ (nG r) f 1 = r (42 + 3 * f + 1) ∧ fO ρ (nG r) f 2 = r (42 + 3 * f + 2) ∧ fO ρ (nG r) f 3 = r (42 + 3 * f + 2) ∧ fO ρ (nG r) f 4 = 0 := by
  obtain ⟨d1, d2, d3⟩ := ho.2.2.2.2.1.2
  refine loopE (fun m j (ρ : Nat → Int32) => f_X10_addGroup_L144 (b + ad 10 0 0) (nI (nG r)) k m (nI j) (wd b (wsA W 10 0 0 0 ρ))) (nD r) (fun j ρ => (∀ q, ¬ (90 + 86 * nG r + 6 ≤ q ∧ q < 90 + 86 * nG r + 86) → ρ q = ρ0 q) ∧ ∀ f, f < j → fO ρ (nG r) f 0 = r (42 + 3 * f) ∧ fO ρ (nG r) f 1 = r (42 + 3 * f + 1) ∧ fO ρ (nG r) f 2 = r (42 + 3 * f + 2) ∧ fO ρ (nG r) f 3 = r (42 + 3 * f + 2) ∧ fO ρ (nG r) f 4 = 0) (fun y => ∃ ρ, y = k (wd b (wsA W 10 0 0 0 ρ)) ∧ (∀ q, ¬ (90 + 86 * nG r + 6 ≤ q ∧ q < 90 + 86 * nG r + 86) → ρ q = ρ0 q) ∧ ∀ f, f < nD r → fO ρ (nG r) f 0 = r (42 + 3 * f) ∧ fO ρ (nG r) f 1 = r (42 + 3 * f + 1) ∧ fO ρ (nG r) f 2 = r (42 + 3 * f + 2) ∧ fO ρ (nG r) f 3 = r (42 + 3 * f + 2) ∧ fO ρ (nG r) f 4 = 0) ?_ ?_ FU 0 ρ0 (by omega) (by have := FUgt; omega) ⟨fun _ _ => rfl, fun f hf => absurd hf (Nat.not_lt_zero f)⟩
  · intro m j ρ hj ⟨k1, k2⟩
    have es : ∀ (σ : Nat → Int32) (kk : Int32) (c : Nat) (v : Int32), kk = nI c → c < 5 → f_X10_setsFlow (b + ad 10 0 0) (nI (nG r)) (nI j) kk v (wd b (wsA W 10 0 0 0 σ)) = some ((), wd b (wsA W 10 0 0 0 (upd σ (90 + 86 * nG r + (6 + 5 * j + c)) v))) := by
      intro σ kk c v hk hc
      rw [hk, m_setsFlow (by omega), wsA_r, wsA_2]
    have lo : ∀ q, q < 90 → ρ q = r q := fun q hq => by rw [k1 q (by omega), i1 q (by omega)]
    try dsimp only
    rw [f_X10_addGroup_L144, o10_0 h10, oR0 7 7 rfl (by omega), wsA_r, lo 7 (by omega), d1, if_neg (le_n hj (by omega)), li 3, pk_mul, li 42, nI_add, nI_1, li 2, nI_add, nI_1, o10_0 h10, oa10_0 h10 (by omega), wsA_r, lo _ (by omega), ob2_i (es _ 0 0 _ rfl (by omega)), o10_0 h10, oa10_0 h10 (by omega), wsA_r, pk_un (by omega), lo _ (by omega), ob2_i (es _ 1 1 _ rfl (by omega)), o10_0 h10, oa10_0 h10 (by omega), wsA_r, pk_un (by omega), pk_un (by omega), lo _ (by omega), ob2_i (es _ _ 2 _ rfl (by omega)), o10_0 h10, oa10_0 h10 (by omega), wsA_r, pk_un (by omega), pk_un (by omega), pk_un (by omega), lo _ (by omega), ob2_i (es _ _ 3 _ rfl (by omega)), ob2_i (es _ 4 4 _ rfl (by omega))]
    refine ⟨_, ⟨fun q hq => ?_, fun f hf => ?_⟩, rfl⟩
    · rw [pk_un (by omega), pk_un (by omega), pk_un (by omega), pk_un (by omega), pk_un (by omega)]
      exact k1 q hq
    · unfold fO
      rcases Nat.lt_or_ge f j with z | z
      · have w := k2 f z
        unfold fO at w
        rw [pk_un (by omega), pk_un (by omega), pk_un (by omega), pk_un (by omega), pk_un (by omega), pk_un (by omega), pk_un (by omega), pk_un (by omega), pk_un (by omega), pk_un (by omega), pk_un (by omega), pk_un (by omega), pk_un (by omega), pk_un (by omega), pk_un (by omega), pk_un (by omega), pk_un (by omega), pk_un (by omega), pk_un (by omega), pk_un (by omega), pk_un (by omega), pk_un (by omega), pk_un (by omega), pk_un (by omega), pk_un (by omega)]
        exact w
      · rw [show f = j by omega]
        refine ⟨?_, ?_, ?_, ?_, ?_⟩
        · rw [pk_un (by omega), pk_un (by omega), pk_un (by omega), pk_un (by omega), pk_us]
        · rw [pk_un (by omega), pk_un (by omega), pk_un (by omega), pk_us]
        · rw [pk_un (by omega), pk_un (by omega), pk_us]
        · rw [pk_un (by omega), pk_us]
        · rw [pk_us]
  · intro m ρ ⟨k1, k2⟩
    try dsimp only
    rw [f_X10_addGroup_L144, o10_0 h10, oR0 7 7 rfl (by omega), wsA_r, k1 7 (by omega), i1 7 (by omega), d1, if_pos (le_p (Nat.le_refl _) (by omega))]
    exact ⟨ρ, rfl, k1, k2⟩
theorem m_addG {V : WD} {s δ w D : Nat} (hr : V.2.1 10 0 0 0 = r) (hs : V.1 10 0 0 1 = nI s) (s6 : s ≤ 6) (ho : okR r T) (hT : T ≤ 900000) (hg : nG r < 12) (hd : 0 < nD r) (h1 : δ ≤ 1000) (h2 : 1 ≤ w) (h2' : w ≤ 100) (h3 : D ≤ 10000) : ∃ R r' s' W3, f_X10_addGroup (b + ad 10 0 0) (nI δ) (nI w) (nI D) (wd b V) = some (nI (nG r), wd b W3) ∧ savP r s r' s' ∧ W3.2.1 10 0 0 0 = R ∧ ngP r R (nI δ) (nI w) (nI D) (rejB r D) ∧ (∀ q, 1182 ≤ q → R q = r' q) ∧ frM [1] [0] [] V W3 ∧ W3.1 10 0 0 1 = nI s' := by
  obtain ⟨d1, d2, d3⟩ := ho.2.2.2.2.1.2
  obtain ⟨r', s', m1, m2⟩ := m_saves (b := b) (W := V) hr hs s6
  generalize hU : wsI (wsA V 10 0 0 0 r') 10 0 0 1 (nI s') = U at *
  have rU : U.2.1 10 0 0 0 = r' := by rw [← hU, wsI_A, wsA_r]
  have eU : wsA U 10 0 0 0 r' = U := by rw [← rU, wsA_s]
  have fU : frM [1] [0] [] V U := by rw [← hU]; exact (frM.A (by decide)).tr (frM.I (by decide))
  have sU : U.1 10 0 0 1 = nI s' := by rw [← hU, wsI_r]
  rw [← eU] at m1
  have ho' : okR r' T := okR_cg ho m2.2.1
  have eG : nG r' = nG r := nG_q m2.2.1
  have eD : nD r' = nD r := by unfold nD; rw [m2.2.1 7 (by omega)]
  have eR : rejB r' D = rejB r D := by
    have ecap : ∀ p, p < 16 → capR r' p = capR r p := fun p hp => m2.2.1 _ (by omega)
    have e1 : ∀ p, cmN r' p (nG r) = cmN r p (nG r) := by
      intro p
      refine sumN_cg (fun h hh => ?_)
      have h16 := (ho.1.2.1 h hh).2.1
      have eg : ∀ k, k < 6 → gO r' h k = gO r h k := fun k hk => m2.2.1 _ (by omega)
      have ef : ∀ f k, f < 16 → k < 5 → fO r' h f k = fO r h f k := fun f k hf hk => m2.2.1 _ (by omega)
      have eo : opB r' h = opB r h := by unfold opB; rw [eg 4 (by omega), eg 3 (by omega)]
      have el : lfN r' h = lfN r h := by unfold lfN; rw [eg 0 (by omega), eg 2 (by omega), m2.2.1 0 (by omega)]
      have eF : nF r' h = nF r h := nF_cg (eg 5 (by omega))
      have ec : cmG r' h (lfN r' h) p (nF r' h) = cmG r h (lfN r h) p (nF r h) := by
        rw [el, eF]
        exact sumN_cg (fun f hf => by rw [ef f 0 (by omega) (by omega), ef f 1 (by omega) (by omega), ef f 3 (by omega) (by omega)])
      rw [eo, eg 2 (by omega), ec]
    have e2 : ∀ p, dwN r' D p (nD r) = dwN r D p (nD r) := by
      intro p
      exact sumN_cg (fun f hf => by rw [m2.2.1 (42 + 3 * f) (by omega), m2.2.1 (42 + 3 * f + 1) (by omega), m2.2.1 (42 + 3 * f + 2) (by omega)])
    have eF : fitB r' D = fitB r D := by
      unfold fitB
      rw [Bool.eq_iff_iff, allB_iff, allB_iff, eG, eD]
      constructor
      · intro w p hp
        have := w p hp
        rw [e1, e2, ecap p hp] at this
        exact this
      · intro w p hp
        have := w p hp
        rw [e1, e2, ecap p hp]
        exact this
    unfold rejB
    rw [m2.2.1 3 (by omega), eF]
  have es : ∀ (σ : Nat → Int32) (kk : Int32) (c : Nat) (v : Int32), kk = nI c → c < 6 → f_X10_sets (b + ad 10 0 0) (nI (nG r)) kk v (wd b (wsA U 10 0 0 0 σ)) = some ((), wd b (wsA U 10 0 0 0 (upd σ (90 + 86 * nG r + c) v))) := by
    intro σ kk c v hk hc
    rw [hk, m_sets (by omega), wsA_r, wsA_2]
  generalize hρ0 : upd (upd (upd (upd (upd (upd r' (90 + 86 * nG r + 0) (r' 0 + nI δ)) (90 + 86 * nG r + 1) (nI w)) (90 + 86 * nG r + 2) (nI D)) (90 + 86 * nG r + 3) (-1)) (90 + 86 * nG r + 4) 0) (90 + 86 * nG r + 5) (r' 7) = ρ0
  have i1 : ∀ q, ¬ (90 + 86 * nG r' ≤ q ∧ q < 90 + 86 * nG r' + 86) → ρ0 q = r' q := fun q hq => by
    rw [eG] at hq
    rw [← hρ0, pk_un (by omega), pk_un (by omega), pk_un (by omega), pk_un (by omega), pk_un (by omega), pk_un (by omega)]
  obtain ⟨ρ, l1, l2, l3⟩ := m_ag144 (b := b) (W := U) ho' (by omega) i1 (k := agK (b + ad 10 0 0) (nI (nG r)))
  rw [eG] at l1 l2
  have i2 : gO ρ (nG r') 0 = r' 0 + nI δ ∧ gO ρ (nG r') 1 = nI w ∧ gO ρ (nG r') 2 = nI D ∧ gO ρ (nG r') 3 = -1 ∧ gO ρ (nG r') 4 = 0 ∧ gO ρ (nG r') 5 = r' 7 := by
    rw [eG]
    unfold gO
    rw [l2 _ (by omega), l2 _ (by omega), l2 _ (by omega), l2 _ (by omega), l2 _ (by omega), l2 _ (by omega), ← hρ0]
    refine ⟨?_, ?_, ?_, ?_, ?_, ?_⟩
    · rw [pk_un (by omega), pk_un (by omega), pk_un (by omega), pk_un (by omega), pk_un (by omega), pk_us]
    · rw [pk_un (by omega), pk_un (by omega), pk_un (by omega), pk_un (by omega), pk_us]
    · rw [pk_un (by omega), pk_un (by omega), pk_un (by omega), pk_us]
    · rw [pk_un (by omega), pk_un (by omega), pk_us]
    · rw [pk_un (by omega), pk_us]
    · rw [pk_us]
  obtain ⟨R, z1, z2, z3⟩ := m_ag (b := b) (W := U) (r := r') rU ho' hT (by omega) (by omega) h1 h2 h2' h3 (ρ := ρ) (fun q hq => by rw [l2 q (by rw [eG] at hq; omega), i1 q hq]) i2 l3
  rw [eG] at z1
  rw [eR] at z2
  have q1 : f_X10_in (nI δ).toInt64 (0 : Int64) (1000 : Int64) (wd b V) = some (1, wd b V) := by
    have e := m_inN (b := b) (W := V) (v := nI δ) (n := 1001) (by omega)
    rw [inR_nI (by omega) (by omega)] at e
    exact e
  have q3 : f_X10_in (nI D).toInt64 (0 : Int64) (10000 : Int64) (wd b V) = some (1, wd b V) := by
    have e := m_inN (b := b) (W := V) (v := nI D) (n := 10001) (by omega)
    rw [inR_nI (by omega) (by omega)] at e
    exact e
  have q2 : f_X10_in (nI w).toInt64 (1 : Int64) (100 : Int64) (wd b V) = some (1, wd b V) := by
    have e := m_in32 (b := b) (W := V) (x := nI w) (lo := 1) (hi := 100)
    rw [if_neg (show ¬ nI w < 1 from lt_n (b := 1) h2 (by omega)), if_neg (show ¬ (100 : Int32) < nI w from lt_n (a := 100) h2' (by omega))] at e
    exact e
  refine ⟨R, r', s', wsA U 10 0 0 0 R, ?_, m2, by rw [wsA_r], ngP_cg d2 ho.2.2.1.2 m2.2.1 z2, z3, fU.tr (frM.A (by decide)), by rw [wsA_1]; exact sU⟩
  unfold f_X10_addGroup
  rw [oO_10 h10, ob2_i q1, if_neg (by decide), ob2_i q2, if_neg (by decide), ob2_i q3, if_pos (by decide), o10_0 h10, oR0 7 7 rfl (by omega), hr, d1, if_pos (show ¬ nI (nD r) = 0 from ne_p (b := 0) (by omega) (by omega) (by omega)), o10_0 h10, oR0 6 6 rfl (by omega), hr, ho.1.1.1, if_pos (show ¬ nI (nG r) = 12 from ne_p (b := 12) (by omega) (by omega) (by omega)), ob2_i m1, o10_0 h10, oR0 6 6 rfl (by omega), wsA_r, ho'.1.1.1, eG, o10_0 h10, oR0 0 0 rfl (by omega), wsA_r, ob2_i (es _ 0 0 _ rfl (by omega)), ob2_i (es _ 1 1 _ rfl (by omega)), ob2_i (es _ 2 2 _ rfl (by omega)), ob2_i (es _ 3 3 _ rfl (by omega)), ob2_i (es _ 4 4 _ rfl (by omega)), o10_0 h10, oR0 7 7 rfl (by omega), wsA_r, pk_un (by omega), pk_un (by omega), pk_un (by omega), pk_un (by omega), pk_un (by omega), ob2_i (es _ 5 5 _ rfl (by omega)), hρ0]
  exact l1.trans z1
end
