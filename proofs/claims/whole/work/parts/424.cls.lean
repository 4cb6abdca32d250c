/-! the bound, on both sides -/
def mxB (r : Nat → Int32) : Nat → Nat
  | 0 => 0
  | p + 1 => max (mxB r p) (if vN (capR r p) = 0 then 0 else cdiv (ldN r p (nG r)) (vN (capR r p)))
def noB (r : Nat → Int32) : Nat → Bool
  | 0 => false
  | p + 1 => noB r p || (decide (0 < ldN r p (nG r)) && decide (vN (capR r p) = 0))
def bndS (r : Nat → Int32) : Int32 := if noB r 16 = true then -1 else nI (mxB r 16)
theorem ld_le {r : Nat → Int32} (hG : okG r) (p : Nat) : ldN r p (nG r) ≤ 19200000 := by
  have h := sumN_le (f := fun g => if opB r g = true then unN r g (nF r g) p else 0) (B := 1600000) (n := nG r) (fun g hg => by
    try dsimp only
    have hk := hG.2.1 g hg
    have h1 := un_us (r := r) (g := g) (p := p) (nF r g) (fun f hf => (hk.2.2 f hf).2.2.2)
    have h2 := us_le (r := r) (g := g) (p := p) (nF r g)
    have h3 := hk.2.1
    split <;> omega)
  have h12 := hG.1.2
  unfold ldN
  omega
theorem mxB_le {r : Nat → Int32} (hG : okG r) : ∀ p, mxB r p ≤ 19200000
  | 0 => Nat.zero_le _
  | p + 1 => by
    have ih := mxB_le hG p
    have h := ld_le hG p
    rw [mxB]
    split
    · omega
    · have := cdiv_le (a := ldN r p (nG r)) (n := vN (capR r p)) (by omega)
      omega
theorem noB_iff {r : Nat → Int32} : ∀ {p : Nat}, noB r p = true ↔ ∃ q, q < p ∧ 0 < ldN r q (nG r) ∧ vN (capR r q) = 0
  | 0 => ⟨fun h => (by cases h), fun ⟨q, h, _⟩ => absurd h (Nat.not_lt_zero q)⟩
  | p + 1 => by
    rw [noB, Bool.or_eq_true, noB_iff]
    simp only [Bool.and_eq_true, decide_eq_true_eq]
    constructor
    · rintro (⟨q, h1, h2⟩ | h)
      · exact ⟨q, by omega, h2⟩
      · exact ⟨p, by omega, h⟩
    · rintro ⟨q, h1, h2⟩
      rcases Nat.lt_or_ge q p with h | h
      · exact Or.inl ⟨q, h, h2⟩
      · rw [show q = p by omega] at h2
        exact Or.inr h2
theorem mxB_at {r : Nat → Int32} {m : Nat} : ∀ {p : Nat}, m < mxB r p → ∃ q, q < p ∧ vN (capR r q) ≠ 0 ∧ m < cdiv (ldN r q (nG r)) (vN (capR r q))
  | 0, h => absurd h (Nat.not_lt_zero m)
  | p + 1, h => by
    rw [mxB] at h
    rcases Nat.lt_or_ge m (mxB r p) with q | q
    · obtain ⟨x, x1, x2⟩ := mxB_at q
      exact ⟨x, by omega, x2⟩
    · by_cases hz : vN (capR r p) = 0
      · rw [if_pos hz] at h; omega
      · rw [if_neg hz] at h
        exact ⟨p, by omega, hz, by omega⟩
/-- where the bound says so, 300 ticks don't do -/
theorem bnd_big {r : Nat → Int32} (h : bndS r = -1 ∨ (noB r 16 = false ∧ 300 < mxB r 16)) (hG : okG r) : ∃ p, p < 16 ∧ 300 * vN (capR r p) < ldN r p (nG r) := by
  have hm := mxB_le hG 16
  have key : noB r 16 = true ∨ 300 < mxB r 16 := by
    rcases h with h | h
    · unfold bndS at h
      by_cases q : noB r 16 = true
      · exact Or.inl q
      · rw [if_neg q] at h
        exact absurd h (nI_ne_m1 (by omega))
    · exact Or.inr h.2
  rcases key with h | h
  · obtain ⟨q, q1, q2, q3⟩ := noB_iff.mp h
    exact ⟨q, q1, by rw [q3]; omega⟩
  · obtain ⟨q, q1, q2, q3⟩ := mxB_at h
    refine ⟨q, q1, ?_⟩
    unfold cdiv at q3
    have h2 := (Nat.le_div_iff_mul_le (by omega)).mp q3
    rw [Nat.succ_mul] at h2
    omega
section
variable {b : Nat} {W : WD} {u i T : Nat} {r : Nat → Int32}
theorem c_add6 {c g f s t : Nat} (hu : vo 6 u 0 = true) (hF : isF c i g) (hc : c ≠ 6) (hf : f < 16) (h1 : W.2.1 c i g 1 f = nI s) (h2 : W.2.1 c i g 2 f = nI t) (hs : s < 8) (ht : t < 8) {x : Int32} : f_X6_add (b + ad 6 u 0) (b + ad c i g) (nI f) x (wd b W) = some ((), wd b (wsA W 6 u 0 0 (fun p => W.2.1 6 u 0 0 p + if s = p ∨ 8 + t = p then x else 0))) := by
  obtain ⟨a1, a2, a3, a4, a5⟩ := hF
  have hne : ∀ k k' : Nat, ¬ (c = 6 ∧ i = u ∧ g = 0 ∧ k' = k) := fun k k' q => hc q.1
  unfold f_X6_add
  rw [oO_6 hu, o6_0 hu, ob_i (a4 b W 1 (by omega) (by omega)), ob_i (gA_read (a5 1 (by omega) (by omega)) hf), h1, oa6_0 hu (by omega), ot6_0 hu (by omega), o6_0 hu, ob_i (a4 b _ 2 (by omega) (by omega)), ob_i (gA_read (a5 2 (by omega) (by omega)) hf), wsA_n _ (hne _ _), h2, li 8, nI_add, oa6_0 hu (by omega), wsA_r, ot6_0 hu (by omega), wsA_r, wsA_2, upd_add2 (by omega)]
def ldQ (u : Nat) : Nat → Nat → Nat → Nat → Prop := fun c i _ k => c = 6 ∧ i = u ∧ k = 0
theorem c_addRests {g : Nat} (hu : vo 6 u 0 = true) (hi : i < 8) (hg : g < 12) (hf : flR W i g r) (hk : flK r g (nF r g)) : ∃ V, f_X6_addRests (b + ad 6 u 0) (b + ad 1 i g) (wd b W) = some ((), wd b V) ∧ frQ (ldQ u) W V ∧ ∀ p, V.2.1 6 u 0 0 p = W.2.1 6 u 0 0 p + nI (unN r g (nF r g) p) := by
  have hv := vo1 hi hg
  have h16 := hk.2.1
  unfold f_X6_addRests
  rw [oO_6 hu]
  refine loopE (fun m j (V : WD) => f_X6_addRests_L2 (b + ad 6 u 0) (b + ad 1 i g) (fun N6 => some ((), N6)) m (nI j) (wd b V)) (nF r g) (fun j V => frQ (ldQ u) W V ∧ ∀ p, V.2.1 6 u 0 0 p = W.2.1 6 u 0 0 p + nI (unN r g j p)) (fun y => ∃ V, y = some ((), wd b V) ∧ frQ (ldQ u) W V ∧ ∀ p, V.2.1 6 u 0 0 p = W.2.1 6 u 0 0 p + nI (unN r g (nF r g) p)) ?_ ?_ FU 0 W (by omega) (by have := FUgt; omega) ⟨frQ.rf, fun p => by rw [show unN r g 0 p = 0 from rfl]; exact (Int32.add_zero _).symm⟩
  · intro m j V hj ⟨k1, k2⟩
    have hfV := hf.fr k1 (fun k _ => by unfold ldQ; omega)
    obtain ⟨⟨s1, s2⟩, ⟨t1, t2⟩, q1, q2⟩ := hk.2.2 j hj
    obtain ⟨x1, x2, x3, x4⟩ := hfV.2 j hj
    have e1 : ∀ p, unN r g (j + 1) p = unN r g j p + (if vN (fO r g j 0) = p ∨ 8 + vN (fO r g j 1) = p then vN (fO r g j 3) else 0) := fun p => rfl
    try dsimp only
    rw [f_X6_addRests_L2, o1_0 hv, hfV.1, hk.1, if_neg (le_n hj (by omega)), o1_4 hv, oa1_4 hv (by omega), x4, ob2_i (c_add6 (b := b) hu (isF_1 hi hg) (by omega) (by omega) (x1.trans s1) (x2.trans t1) s2 t2), nI_1]
    refine ⟨_, ⟨k1.tr (frQ.A ⟨rfl, rfl, rfl⟩), fun p => ?_⟩, rfl⟩
    rw [wsA_r, k2 p, e1]
    split
    · rw [q1, Int32.add_assoc, nI_add, ← q1]
    · rw [Int32.add_zero, Nat.add_zero]
  · intro m V ⟨k1, k2⟩
    have hfV := hf.fr k1 (fun k _ => by unfold ldQ; omega)
    try dsimp only
    rw [f_X6_addRests_L2, o1_0 hv, hfV.1, hk.1, if_pos (le_p (Nat.le_refl _) (by omega))]
    exact ⟨V, rfl, k1, k2⟩
theorem c_boundOf (hu : vo 6 u 0 = true) (hi : i < 8) (hs : stA W i r) (ho : okR r T) : ∃ V, f_X6_boundOf (b + ad 6 u 0) (b + ad 7 i 0) (wd b W) = some (bndS r, wd b V) ∧ frQ (ldQ u) W V := by
  have h12 := ho.1.1.2
  have h6 := ho.1.1.1
  have hv7 := vo7 hi
  have sf : ∀ V, frQ (ldQ u) W V → stA V i r := fun V hV => hs.fr hV (fun c g k q => by unfold ldQ; omega)
  unfold f_X6_boundOf
  rw [oO_6 hu, o6_0 hu, ob2_i (gA_fill (isA_6_0 hu))]
  -- the ports
  have ports : ∀ V, frQ (ldQ u) W V → (∀ p, p < 16 → V.2.1 6 u 0 0 p = nI (ldN r p (nG r))) → ∃ V', f_X6_boundOf_L50 (b + ad 6 u 0) (b + ad 7 i 0) (fun N28 => some ((-1 : Int32), N28)) (fun v29 N30 => some (v29, N30)) FU (0 : Int32) (0 : Int32) (wd b V) = some (bndS r, wd b V') ∧ frQ (ldQ u) W V' := by
    intro V k1 k2
    have hsV := sf V k1
    refine loopX (fun m p (_ : Unit) => f_X6_boundOf_L50 (b + ad 6 u 0) (b + ad 7 i 0) (fun N28 => some ((-1 : Int32), N28)) (fun v29 N30 => some (v29, N30)) m (nI (mxB r p)) (nI p) (wd b V)) 16 (fun p _ => noB r p = false) (fun y => ∃ V', y = some (bndS r, wd b V') ∧ frQ (ldQ u) W V') ?_ ?_ FU 0 () (by omega) (by have := FUgt; omega) rfl
    · intro m p _ hp hI
      have hle := ld_le ho.1 p
      obtain ⟨c1, c2⟩ := ho.ck p hp
      have ecap : V.2.1 7 i 0 7 p = nI (vN (capR r p)) := by rw [hsV.2.1 p hp]; exact c1
      have emx : mxB r (p + 1) = max (mxB r p) (if vN (capR r p) = 0 then 0 else cdiv (ldN r p (nG r)) (vN (capR r p))) := rfl
      have eno : noB r (p + 1) = (noB r p || (decide (0 < ldN r p (nG r)) && decide (vN (capR r p) = 0))) := rfl
      have hmx := mxB_le ho.1 p
      have j76 : ¬ (0 < ldN r p (nG r) ∧ vN (capR r p) = 0) → ∃ s', noB r (p + 1) = false ∧ f_X6_boundOf_J76 (f_X6_boundOf_L50 (b + ad 6 u 0) (b + ad 7 i 0) (fun N28 => some ((-1 : Int32), N28)) (fun v29 N30 => some (v29, N30)) m) (b + ad 6 u 0) (b + ad 7 i 0) (nI (mxB r p)) (nI p) (wd b V) = (fun m p (_ : Unit) => f_X6_boundOf_L50 (b + ad 6 u 0) (b + ad 7 i 0) (fun N28 => some ((-1 : Int32), N28)) (fun v29 N30 => some (v29, N30)) m (nI (mxB r p)) (nI p) (wd b V)) m (p + 1) s' := by
        intro hn
        refine ⟨(), ?_, ?_⟩
        · rw [eno, hI]
          by_cases q1 : 0 < ldN r p (nG r)
          · have q2 : ¬ vN (capR r p) = 0 := fun z => hn ⟨q1, z⟩
            simp [q2]
          · simp [q1]
        · unfold f_X6_boundOf_J76
          rw [o6_0 hu, oa6_0 hu hp, k2 p hp, o7_7 hv7, oa7_7 hv7 hp, ecap]
          have eup : f_X9_roundedUp (nI (ldN r p (nG r))) (nI (vN (capR r p))) (wd b V) = some (nI (if vN (capR r p) = 0 then 0 else cdiv (ldN r p (nG r)) (vN (capR r p))), wd b V) := by
            by_cases q : vN (capR r p) = 0
            · rw [if_pos q, q]
              unfold f_X9_roundedUp
              rw [if_neg (by decide)]
              rfl
            · rw [if_neg q]
              exact c_upN (by omega) (by omega)
          have hcd : (if vN (capR r p) = 0 then 0 else cdiv (ldN r p (nG r)) (vN (capR r p))) ≤ 19200000 := by
            split
            · omega
            · exact Nat.le_trans (cdiv_le (by omega)) hle
          rw [ob2_i eup, ob2_i (c_maxN (by omega) (by omega)), nI_1]
          rfl
      try dsimp only
      rw [f_X6_boundOf_L50, li 16, if_neg (le_n hp (by omega)), o6_0 hu, oa6_0 hu hp, k2 p hp]
      rcases Nat.eq_zero_or_pos (ldN r p (nG r)) with hz | hz
      · left
        rw [if_pos (by rw [hz]; decide)]
        obtain ⟨s', q1, q2⟩ := j76 (fun z => by omega)
        exact ⟨s', q1, q2⟩
      · rw [if_neg (show ¬ nI (ldN r p (nG r)) ≤ 0 from le_n (b := 0) hz (by omega)), o7_7 hv7, oa7_7 hv7 hp, ecap]
        by_cases hc : vN (capR r p) = 0
        · right
          have hno : noB r 16 = true := noB_iff.mpr ⟨p, hp, hz, hc⟩
          rw [if_neg (fun q => q (by rw [hc]; rfl))]
          refine ⟨V, ?_, k1⟩
          unfold bndS
          rw [if_pos hno]
        · left
          rw [if_pos (show ¬ nI (vN (capR r p)) = 0 from ne_p (b := 0) hc (by omega) (by omega))]
          obtain ⟨s', q1, q2⟩ := j76 (fun z => hc z.2)
          exact ⟨s', q1, q2⟩
    · intro m _ hI
      try dsimp only
      rw [f_X6_boundOf_L50, li 16, if_pos (le_p (Nat.le_refl _) (by omega))]
      refine ⟨V, ?_, k1⟩
      unfold bndS
      rw [if_neg (by rw [hI]; decide)]
  refine loopE (fun m g (V : WD) => f_X6_boundOf_L10 (b + ad 6 u 0) (b + ad 7 i 0) (fun N12 => f_X6_boundOf_L50 (b + ad 6 u 0) (b + ad 7 i 0) (fun N28 => some ((-1 : Int32), N28)) (fun v29 N30 => some (v29, N30)) FU (0 : Int32) (0 : Int32) N12) m (nI g) (wd b V)) (nG r) (fun g V => frQ (ldQ u) W V ∧ ∀ p, p < 16 → V.2.1 6 u 0 0 p = nI (ldN r p g)) (fun y => ∃ V', y = some (bndS r, wd b V') ∧ frQ (ldQ u) W V') ?_ ?_ FU 0 _ (by omega) (by have := FUgt; omega) ⟨frQ.A ⟨rfl, rfl, rfl⟩, fun p hp => by rw [wsA_r, filI_lt hp]; rfl⟩
  · intro m g V hg ⟨k1, k2⟩
    have hsV := sf V k1
    have hv4 := vo4 (g := g) hi (by omega)
    have e1 : ∀ p, ldN r p (g + 1) = ldN r p g + (if opB r g = true then unN r g (nF r g) p else 0) := fun p => rfl
    try dsimp only
    rw [f_X6_boundOf_L10, o7_6 hv7, hsV.1 6 (by omega), h6, if_neg (le_n hg (by omega)), o7_10 hv7, oa7_10 hv7 (by omega), ob2_i (c_isOpen (b := b) hv4 (hsV.2.2 g hg).1), nI_1]
    cases hop : opB r g with
    | false =>
      rw [if_pos (by decide)]
      refine ⟨V, ⟨k1, fun p hp => ?_⟩, rfl⟩
      rw [e1, hop, k2 p hp]
      rfl
    | true =>
      obtain ⟨V', a1, a2, a3⟩ := c_addRests (b := b) (W := V) hu hi (by omega) (hsV.2.2 g hg).2 (ho.1.2.1 g hg)
      rw [if_neg (by decide), o4_5 hv4, ob2_i a1]
      refine ⟨V', ⟨k1.tr a2, fun p hp => ?_⟩, rfl⟩
      rw [e1, hop, a3 p, k2 p hp, if_pos rfl, nI_add]
  · intro m V ⟨k1, k2⟩
    have hsV := sf V k1
    try dsimp only
    rw [f_X6_boundOf_L10, o7_6 hv7, hsV.1 6 (by omega), h6, if_pos (le_p (Nat.le_refl _) (by omega))]
    exact ports V k1 k2
theorem c_needMore (hu : vo 6 u 0 = true) (hi : i < 8) (hs : stA W i r) (ho : okR r T) : ∃ (c : Bool) (V : WD), f_X6_needMoreThan (b + ad 6 u 0) (b + ad 7 i 0) (300 : Int32) (wd b W) = some (bI c, wd b V) ∧ frQ (ldQ u) W V ∧ (c = true → ∃ p, p < 16 ∧ 300 * vN (capR r p) < ldN r p (nG r)) := by
  obtain ⟨V, e1, e2⟩ := c_boundOf (b := b) hu hi hs ho
  have hm := mxB_le ho.1 16
  unfold f_X6_needMoreThan
  rw [oO_6 hu, ob2_i e1]
  by_cases q : bndS r = -1
  · rw [if_pos q]
    exact ⟨true, V, rfl, e2, fun _ => bnd_big (Or.inl q) ho.1⟩
  · rw [if_neg q]
    have hno : noB r 16 = false := by
      cases hb : noB r 16 with
      | false => rfl
      | true => exact absurd (by unfold bndS; rw [if_pos hb]) q
    have eb : bndS r = nI (mxB r 16) := by unfold bndS; rw [if_neg (by rw [hno]; decide)]
    rw [eb]
    rcases Nat.lt_or_ge 300 (mxB r 16) with z | z
    · rw [if_neg (show ¬ nI (mxB r 16) ≤ 300 from le_n (b := 300) z (by omega))]
      exact ⟨true, V, rfl, e2, fun _ => bnd_big (Or.inr ⟨hno, z⟩) ho.1⟩
    · rw [if_pos (show nI (mxB r 16) ≤ 300 from le_p (b := 300) z (by omega))]
      exact ⟨false, V, rfl, e2, fun h => (by cases h)⟩
/-! the reference's -/
theorem m_boundF {p g : Nat} (hr : W.2.1 10 0 0 0 = r) (ho : okR r T) (hp : p < 16) (hg : g < nG r) {v1 v2 : Int32} {x : Nat} {k : Int32 → AH → Option (Int32 × AH)} : f_X10_bound_L33 (b + ad 10 0 0) v1 v2 (nI p) (nI g) k FU (nI x) (0 : Int32) (wd b W) = k (nI (x + if opB r g = true then unN r g (nF r g) p else 0)) (wd b W) := by
  have h12 := ho.1.1.2
  have hk := ho.1.2.1 g hg
  have h16 := hk.2.1
  have hst := st_lt2 (ho.2.2.2.2.2.2.2 g hg)
  cases hop : opB r g with
  | false =>
    rw [if_neg (by decide)]
    obtain ⟨m, hm⟩ : ∃ m, FU = m + 1 := ⟨4095, rfl⟩
    rw [hm, f_X10_bound_L33, ob2_i (m_ofk 5 5 rfl (by omega)), hr, hk.1]
    by_cases hz : nI (nF r g) ≤ (0 : Int32)
    · rw [if_pos hz]
      rfl
    · rw [if_neg hz, ob2_i (m_stateOf (by omega)), hr, if_pos (hst.mpr hop)]
      rfl
  | true =>
    rw [if_pos rfl]
    refine loopN (fun m f => f_X10_bound_L33 (b + ad 10 0 0) v1 v2 (nI p) (nI g) k m (nI (x + unN r g f p)) (nI f) (wd b W)) (nF r g) ?_ ?_ FU 0 (by omega) (by have := FUgt; omega)
    · intro m f hf
      obtain ⟨⟨s1, s2⟩, ⟨t1, t2⟩, q1, q2⟩ := hk.2.2 f hf
      have e1 : unN r g (f + 1) p = unN r g f p + (if vN (fO r g f 0) = p ∨ 8 + vN (fO r g f 1) = p then vN (fO r g f 3) else 0) := rfl
      have j0 : ¬ (vN (fO r g f 0) = p ∨ 8 + vN (fO r g f 1) = p) → f_X10_bound_J103 (f_X10_bound_L33 (b + ad 10 0 0) v1 v2 (nI p) (nI g) k m) (b + ad 10 0 0) v1 v2 (nI p) (nI (x + unN r g f p)) (nI g) (nI f) (0 : Int32) (wd b W) = f_X10_bound_L33 (b + ad 10 0 0) v1 v2 (nI p) (nI g) k m (nI (x + unN r g (f + 1) p)) (nI (f + 1)) (wd b W) := by
        intro h
        unfold f_X10_bound_J103
        rw [if_pos rfl, Int32.add_zero, nI_1, e1, if_neg h]
        rfl
      have j1 : (vN (fO r g f 0) = p ∨ 8 + vN (fO r g f 1) = p) → f_X10_bound_J103 (f_X10_bound_L33 (b + ad 10 0 0) v1 v2 (nI p) (nI g) k m) (b + ad 10 0 0) v1 v2 (nI p) (nI (x + unN r g f p)) (nI g) (nI f) (1 : Int32) (wd b W) = f_X10_bound_L33 (b + ad 10 0 0) v1 v2 (nI p) (nI g) k m (nI (x + unN r g (f + 1) p)) (nI (f + 1)) (wd b W) := by
        intro h
        unfold f_X10_bound_J103
        rw [if_neg (by decide), ob2_i (m_flowOfk 3 3 rfl (by omega)), hr, nI_1, e1, if_pos h, q1, nI_add, ← q1, Nat.add_assoc]
      try dsimp only
      rw [f_X10_bound_L33, ob2_i (m_ofk 5 5 rfl (by omega)), hr, hk.1, if_neg (le_n hf (by omega)), ob2_i (m_stateOf (by omega)), hr, if_neg (fun z => by rw [hst.mp z] at hop; cases hop)]
      rcases Nat.lt_or_ge p 8 with hp8 | hp8
      · rw [if_neg (show ¬ (8 : Int32) ≤ nI p from le_n (a := 8) hp8 (by omega)), ob2_i (m_flowOfk 0 0 rfl (by omega)), hr, s1]
        by_cases q : vN (fO r g f 0) = p
        · rw [if_neg (fun z => z (by rw [q])), ← j1 (Or.inl q)]
        · rw [if_pos (ne_p q (by omega) (by omega)), ← j0 (by omega)]
      · rw [if_pos (show (8 : Int32) ≤ nI p from le_p (a := 8) hp8 (by omega)), ob2_i (m_flowOfk 1 1 rfl (by omega)), hr, t1, show nI p - 8 = nI (p - 8) from pk_sub (b := 8) hp8]
        by_cases q : 8 + vN (fO r g f 1) = p
        · rw [if_neg (fun z => z (by rw [← q, Nat.add_sub_cancel_left])), ← j1 (Or.inr q)]
        · rw [if_pos (ne_p (by omega) (by omega) (by omega)), ← j0 (by omega)]
    · intro m
      try dsimp only
      rw [f_X10_bound_L33, ob2_i (m_ofk 5 5 rfl (by omega)), hr, hk.1, if_pos (le_p (Nat.le_refl _) (by omega))]
theorem m_boundP {p : Nat} (hr : W.2.1 10 0 0 0 = r) (ho : okR r T) (hp : p < 16) {v1 v2 : Int32} {k : Int32 → AH → Option (Int32 × AH)} : f_X10_bound_L18 (b + ad 10 0 0) v1 v2 (nI p) k FU (0 : Int32) (0 : Int32) (wd b W) = k (nI (ldN r p (nG r))) (wd b W) := by
  have h12 := ho.1.1.2
  refine loopN (fun m g => f_X10_bound_L18 (b + ad 10 0 0) v1 v2 (nI p) k m (nI (ldN r p g)) (nI g) (wd b W)) (nG r) ?_ ?_ FU 0 (by omega) (by have := FUgt; omega)
  · intro m g hg
    try dsimp only
    rw [f_X10_bound_L18, o10_0 h10, oR0 6 6 rfl (by omega), hr, ho.1.1.1, if_neg (le_n hg (by omega)), m_boundF hr ho hp hg, nI_1]
    rfl
  · intro m
    try dsimp only
    rw [f_X10_bound_L18, o10_0 h10, oR0 6 6 rfl (by omega), hr, ho.1.1.1, if_pos (le_p (Nat.le_refl _) (by omega))]
theorem m_bound (hr : W.2.1 10 0 0 0 = r) (ho : okR r T) : f_X10_bound (b + ad 10 0 0) (wd b W) = some (bndS r, wd b W) := by
  unfold f_X10_bound
  rw [oO_10 h10]
  refine loopN (fun m p => f_X10_bound_L6 (b + ad 10 0 0) (fun v34 v35 N36 => if v35 = 0 then some (v34, N36) else some ((-1 : Int32), N36)) m (nI (mxB r p)) (bI (noB r p)) (nI p) (wd b W)) 16 ?_ ?_ FU 0 (by omega) (by have := FUgt; omega)
  · intro m p hp
    have hle := ld_le ho.1 p
    have hmx := mxB_le ho.1 p
    obtain ⟨c1, c2⟩ := ho.ck p hp
    have ecap : r (10 + p) = nI (vN (capR r p)) := c1
    have emx : mxB r (p + 1) = max (mxB r p) (if vN (capR r p) = 0 then 0 else cdiv (ldN r p (nG r)) (vN (capR r p))) := rfl
    have eno : noB r (p + 1) = (noB r p || (decide (0 < ldN r p (nG r)) && decide (vN (capR r p) = 0))) := rfl
    have j170 : ∀ c : Bool, c = noB r (p + 1) → f_X10_bound_J170 (f_X10_bound_L6 (b + ad 10 0 0) (fun v34 v35 N36 => if v35 = 0 then some (v34, N36) else some ((-1 : Int32), N36)) m) (b + ad 10 0 0) (nI (mxB r p)) (nI p) (nI (ldN r p (nG r))) (nI (vN (capR r p))) (bI c) (wd b W) = f_X10_bound_L6 (b + ad 10 0 0) (fun v34 v35 N36 => if v35 = 0 then some (v34, N36) else some ((-1 : Int32), N36)) m (nI (mxB r (p + 1))) (bI (noB r (p + 1))) (nI (p + 1)) (wd b W) := by
      intro c hc
      have j187 : ∀ y : Nat, y = (if vN (capR r p) = 0 then 0 else cdiv (ldN r p (nG r)) (vN (capR r p))) → y ≤ 19200000 → f_X10_bound_J187 (f_X10_bound_L6 (b + ad 10 0 0) (fun v34 v35 N36 => if v35 = 0 then some (v34, N36) else some ((-1 : Int32), N36)) m) (b + ad 10 0 0) (nI (mxB r p)) (bI c) (nI p) (nI y) (wd b W) = f_X10_bound_L6 (b + ad 10 0 0) (fun v34 v35 N36 => if v35 = 0 then some (v34, N36) else some ((-1 : Int32), N36)) m (nI (mxB r (p + 1))) (bI (noB r (p + 1))) (nI (p + 1)) (wd b W) := by
        intro y hy hy2
        unfold f_X10_bound_J187
        rw [nI_1, emx, ← hy, hc]
        rcases Nat.lt_or_ge (mxB r p) y with z | z
        · rw [if_neg (le_n z (by omega)), Nat.max_eq_right (by omega)]
        · rw [if_pos (le_p z (by omega)), Nat.max_eq_left z]
      unfold f_X10_bound_J170
      by_cases q : vN (capR r p) = 0
      · rw [if_neg (fun z => z (by rw [q]; rfl))]
        exact j187 0 (by rw [if_pos q]) (by omega)
      · rw [if_pos (show ¬ nI (vN (capR r p)) = 0 from ne_p (b := 0) q (by omega) (by omega)), ob2_i (m_up (ne_p (b := 0) q (by omega) (by omega))), upI_nI (by omega) (by omega)]
        exact j187 _ (by rw [if_neg q]) (Nat.le_trans (cdiv_le (by omega)) hle)
    try dsimp only
    rw [f_X10_bound_L6, li 16, if_neg (le_n hp (by omega)), m_boundP hr ho hp, o10_0 h10, li 10, nI_add, oa10_0 h10 (by omega), hr, ecap]
    cases hno : noB r p with
    | true =>
      rw [if_pos (by decide)]
      unfold f_X10_bound_J165
      exact j170 true (by rw [eno, hno]; rfl)
    | false =>
      rw [if_neg (by decide)]
      rcases Nat.eq_zero_or_pos (ldN r p (nG r)) with hz | hz
      · rw [if_pos (by rw [hz]; decide)]
        unfold f_X10_bound_J169
        exact j170 false (by rw [eno, hno, hz]; rfl)
      · rw [if_neg (show ¬ nI (ldN r p (nG r)) ≤ 0 from le_n (b := 0) hz (by omega))]
        by_cases q : vN (capR r p) = 0
        · rw [if_neg (fun z => z (by rw [q]; rfl))]
          unfold f_X10_bound_J165
          exact j170 true (by rw [eno, hno]; simp [hz, q])
        · rw [if_pos (show ¬ nI (vN (capR r p)) = 0 from ne_p (b := 0) q (by omega) (by omega))]
          unfold f_X10_bound_J169
          exact j170 false (by rw [eno, hno]; simp [q])
  · intro m
    try dsimp only
    rw [f_X10_bound_L6, li 16, if_pos (le_p (Nat.le_refl _) (by omega))]
    unfold bndS
    cases hno : noB r 16 with
    | true => rw [if_neg (by decide), if_pos rfl]
    | false => rw [if_pos (by decide), if_neg (by decide)]
end
