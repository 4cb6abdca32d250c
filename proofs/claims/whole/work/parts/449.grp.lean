/-! a new group -/
def ngP (r R : Nat → Int32) (dl wt dd : Int32) (rej : Bool) : Prop := (R 7 = 0 ∧ R 6 = nI (nG r + 1)) ∧ (gO R (nG r) 0 = r 0 + dl ∧ gO R (nG r) 1 = wt ∧ gO R (nG r) 2 = dd ∧ gO R (nG r) 3 = -1 ∧ gO R (nG r) 4 = bI rej ∧ gO R (nG r) 5 = r 7) ∧ (∀ f, f < nD r → fO R (nG r) f 0 = r (42 + 3 * f) ∧ fO R (nG r) f 1 = r (42 + 3 * f + 1) ∧ fO R (nG r) f 2 = r (42 + 3 * f + 2) ∧ fO R (nG r) f 3 = r (42 + 3 * f + 2) ∧ fO R (nG r) f 4 = 0) ∧ (∀ q, q < 1122 → q ≠ 6 → q ≠ 7 → q ≠ 8 → ¬ (90 + 86 * nG r ≤ q ∧ q < 90 + 86 * nG r + 86) → R q = r q) ∧ okE R ∧ evs R = if rej = true then push1 (evs r) (3, nI (nG r), r 0) else evs r
theorem ngP_cg {r r' R : Nat → Int32} {dl wt dd : Int32} {rej : Bool} (hD : nD r ≤ 16) (hE : nE r ≤ 20) (hq : ∀ q, q < 1182 → r' q = r q) (h : ngP r' R dl wt dd rej) : ngP r R dl wt dd rej := by
  obtain ⟨n1, n2, n3, n4, n5, n6⟩ := h
  have eG : nG r' = nG r := nG_q hq
  have eD : nD r' = nD r := by unfold nD; rw [hq 7 (by omega)]
  have eE : evs r' = evs r := evs_cg (hq 8 (by omega)) (fun q _ h2 => hq q h2) hE
  rw [eG] at n1 n2 n3 n4 n6
  rw [eD] at n3
  rw [hq 0 (by omega), hq 7 (by omega)] at n2
  rw [hq 0 (by omega), eE] at n6
  refine ⟨n1, n2, fun f hf => ?_, fun q q1 q2 q3 q4 q5 => by rw [n4 q q1 q2 q3 q4 q5, hq q (by omega)], n5, n6⟩
  have w := n3 f hf
  rw [hq (42 + 3 * f) (by omega), hq (42 + 3 * f + 1) (by omega), hq (42 + 3 * f + 2) (by omega)] at w
  exact w
section
variable {b : Nat} {W : WD} {T : Nat} {r R : Nat → Int32}
theorem okR_ng {δ w D : Nat} {rej : Bool} (ho : okR r T) (hg : nG r < 12) (hd : 0 < nD r) (h1 : δ ≤ 1000) (h2 : 1 ≤ w) (h2' : w ≤ 100) (h3 : D ≤ 10000) (hT : T ≤ 900000) (h : ngP r R (nI δ) (nI w) (nI D) rej) : okR R T := by
  obtain ⟨⟨n7, n6⟩, ⟨a0, a1, a2, a3, a4, a5⟩, nf, no, nE1, nE2⟩ := h
  obtain ⟨⟨⟨g1, g2⟩, g3, g4⟩, k2, k3, k4, ⟨k5, ⟨d1, d2, d3⟩⟩, k6, k7, k8⟩ := ho
  have eG : nG R = nG r + 1 := by
    show vN (R 6) = nG r + 1
    rw [n6]
    exact vN_nI (by omega)
  have eD : nD R = 0 := by
    show vN (R 7) = 0
    rw [n7]
    exact vN_nI (n := 0) (by omega)
  have lo : ∀ q, q < 42 → q ≠ 6 → q ≠ 7 → q ≠ 8 → R q = r q := fun q q1 q2 q3 q4 => no q (by omega) q2 q3 q4 (by omega)
  have eg : ∀ g k, g < nG r → k < 6 → gO R g k = gO r g k := fun g k hg' hk => no _ (by omega) (by omega) (by omega) (by omega) (by omega)
  have ef : ∀ g f k, g < nG r → f < 16 → k < 5 → fO R g f k = fO r g f k := fun g f k hg' hf hk => no _ (by omega) (by omega) (by omega) (by omega) (by omega)
  have eF : ∀ g, g < nG r → nF R g = nF r g := fun g hg' => nF_cg (eg g 5 hg' (by omega))
  have eFn : nF R (nG r) = nD r := by
    show vN (gO R (nG r) 5) = nD r
    rw [a5]
    rfl
  have ec : ∀ p, p < 16 → capR R p = capR r p := fun p hp => lo _ (by omega) (by omega) (by omega) (by omega)
  have ea : r 0 + nI δ = nI (vN (r 0) + δ) := by rw [← nI_add, ← k2.1]
  have k22 := k2.2
  refine ⟨⟨⟨by rw [eG]; exact n6, by omega⟩, fun g hg' => ?_, fun p hp => by rw [ec p hp]; exact g4 p hp⟩, by rw [lo 0 (by omega) (by omega) (by omega) (by omega)]; exact k2, nE1, ?_, ⟨by rw [lo 1 (by omega) (by omega) (by omega) (by omega)]; exact k5, ⟨by rw [n7, eD]; rfl, by omega, fun f hf => by omega⟩⟩, by rw [lo 2 (by omega) (by omega) (by omega) (by omega), lo 3 (by omega) (by omega) (by omega) (by omega)]; exact k6, fun p hp => by rw [ec p hp]; exact k7 p hp, fun g hg' => ?_⟩
  · rw [eG] at hg'
    rcases Nat.lt_or_ge g (nG r) with q | q
    · have hk := g3 g q
      have h16 := hk.2.1
      rw [eF g q]
      refine ⟨by rw [eg g 5 q (by omega)]; exact hk.1, h16, fun f hf => ?_⟩
      rw [ef g f 0 q (by omega) (by omega), ef g f 1 q (by omega) (by omega), ef g f 3 q (by omega) (by omega)]
      exact hk.2.2 f hf
    · rw [show g = nG r by omega, eFn]
      refine ⟨by rw [a5]; exact d1, d2, fun f hf => ?_⟩
      obtain ⟨f0, f1, f2, f3, f4⟩ := nf f hf
      obtain ⟨x, y, z1, z2, z3⟩ := d3 f hf
      rw [f0, f1, f3]
      exact ⟨x, y, z1, z3⟩
  · rw [lo 5 (by omega) (by omega) (by omega) (by omega), eG]
    rcases k4 with q | q
    · exact Or.inl q
    · exact Or.inr ⟨q.1, by omega⟩
  · rw [eG] at hg'
    rcases Nat.lt_or_ge g (nG r) with q | q
    · have h16 := (g3 g q).2.1
      obtain ⟨c1, c2, c3, c4, c5, c6⟩ := k8 g q
      unfold grK
      rw [eF g q, eg g 0 q (by omega), eg g 1 q (by omega), eg g 2 q (by omega), eg g 3 q (by omega), eg g 4 q (by omega)]
      refine ⟨c1, c2, c3, c4, fun f hf => ?_, ?_⟩
      · rw [ef g f 2 q (by omega) (by omega), ef g f 3 q (by omega) (by omega)]
        exact c5 f hf
      · rcases c6 with ⟨q1, f, f1, f2⟩ | ⟨q1, q2, q3⟩
        · exact Or.inl ⟨q1, f, f1, by rw [ef g f 3 q (by omega) (by omega)]; exact f2⟩
        · exact Or.inr ⟨q1, q2, fun f hf => by rw [ef g f 3 q (by omega) (by omega)]; exact q3 f hf⟩
    · rw [show g = nG r by omega]
      unfold grK
      rw [eFn, a0, a1, a2, a3, a4, ea, vN_nI (by omega), vN_nI (by omega), vN_nI (by omega)]
      refine ⟨⟨rfl, by omega⟩, ⟨rfl, h2, h2'⟩, ⟨rfl, h3⟩, ?_, fun f hf => ?_, Or.inl ⟨rfl, 0, hd, ?_⟩⟩
      · cases rej
        · exact Or.inl rfl
        · exact Or.inr ⟨rfl, rfl⟩
      · obtain ⟨f0, f1, f2, f3, f4⟩ := nf f hf
        obtain ⟨x, y, z1, z2, z3⟩ := d3 f hf
        rw [f2, f3]
        exact ⟨z1, z3, Nat.le_refl _⟩
      · obtain ⟨f0, f1, f2, f3, f4⟩ := nf 0 hd
        obtain ⟨x, y, z1, z2, z3⟩ := d3 0 hd
        rw [f3]
        omega
theorem st_ng {V : WD} {dl wt dd : Int32} {rej : Bool} (ho : okR r T) (hg : nG r < 12) (hs : stR W 0 r) (hf : frQ (fun c i g' k => i = 0 ∧ ((c = 4 ∧ g' = nG r) ∨ (c = 1 ∧ g' = nG r) ∨ c = 11 ∨ (c = 7 ∧ k = 6) ∨ c = 0)) W V) (v76 : V.1 7 0 0 6 = nI (nG r + 1)) (v11 : V.1 11 0 0 0 = 0) (v4 : V.1 4 0 (nG r) 0 = r 0 + dl ∧ V.1 4 0 (nG r) 1 = wt ∧ V.1 4 0 (nG r) 2 = dd ∧ V.1 4 0 (nG r) 3 = -1 ∧ V.1 4 0 (nG r) 4 = bI rej) (v1 : V.1 1 0 (nG r) 0 = nI (nD r)) (va : ∀ k f, 1 ≤ k → k ≤ 5 → f < nD r → V.2.1 1 0 (nG r) k f = W.2.1 11 0 0 k f) (hl : lgV V 0 (if rej = true then push1 (evs r) (3, nI (nG r), r 0) else evs r)) (h : ngP r R dl wt dd rej) : stR V 0 R := by
  obtain ⟨⟨n7, n6⟩, ⟨a0, a1, a2, a3, a4, a5⟩, nf, no, nE1, nE2⟩ := h
  obtain ⟨d1, d2, d3⟩ := ho.2.2.2.2.1.2
  have eG : nG R = nG r + 1 := by
    show vN (R 6) = nG r + 1
    rw [n6]
    exact vN_nI (by omega)
  have eD : nD R = 0 := by
    show vN (R 7) = 0
    rw [n7]
    exact vN_nI (n := 0) (by omega)
  have lo : ∀ q, q < 42 → q ≠ 6 → q ≠ 7 → q ≠ 8 → R q = r q := fun q q1 q2 q3 q4 => no q (by omega) q2 q3 q4 (by omega)
  have eg : ∀ g k, g < nG r → k < 6 → gO R g k = gO r g k := fun g k hg' hk => no _ (by omega) (by omega) (by omega) (by omega) (by omega)
  have ef : ∀ g f k, g < nG r → f < 16 → k < 5 → fO R g f k = fO r g f k := fun g f k hg' hf hk => no _ (by omega) (by omega) (by omega) (by omega) (by omega)
  have eF : ∀ g, g < nG r → nF R g = nF r g := fun g hg' => nF_cg (eg g 5 hg' (by omega))
  have eFn : nF R (nG r) = nD r := by
    show vN (gO R (nG r) 5) = nD r
    rw [a5]
    rfl
  rw [← nE2] at hl
  refine ⟨fun k hk => ?_, fun p hp => ?_, ⟨by rw [v11, n7], fun f hf' => by omega⟩, fun g hg' => ?_, (lgR_V nE1).mpr hl⟩
  · by_cases q : k = 6
    · rw [q, v76, n6]
    · rw [hf.1 7 0 0 k (by omega), lo k (by omega) (by omega) (by omega) (by omega)]
      exact hs.1 k hk
  · rw [hf.2.1 7 0 0 7 (by omega), hf.2.1 7 0 0 8 (by omega), lo (10 + p) (by omega) (by omega) (by omega) (by omega), lo (26 + p) (by omega) (by omega) (by omega) (by omega)]
    exact hs.2.1 p hp
  · rw [eG] at hg'
    rcases Nat.lt_or_ge g (nG r) with q | q
    · have h16 := (ho.1.2.1 g q).2.1
      obtain ⟨b1, b2, b3⟩ := (hs.2.2.2.1 g q).fr hf (fun c k hc => by omega)
      refine ⟨fun j hj => by rw [eg g j q (by omega)]; exact b1 j hj, ⟨by rw [eg g 5 q (by omega)]; exact b2.1, fun f hf2 => ?_⟩, fun f hf2 => ?_⟩
      · rw [eF g q] at hf2
        rw [ef g f 0 q (by omega) (by omega), ef g f 1 q (by omega) (by omega), ef g f 2 q (by omega) (by omega), ef g f 3 q (by omega) (by omega)]
        exact b2.2 f hf2
      · rw [eF g q] at hf2
        rw [ef g f 4 q (by omega) (by omega)]
        exact b3 f hf2
    · rw [show g = nG r by omega]
      refine ⟨fun k hk => ?_, ⟨by rw [v1, a5, d1], fun f hf2 => ?_⟩, fun f hf2 => ?_⟩
      · have : k = 0 ∨ k = 1 ∨ k = 2 ∨ k = 3 ∨ k = 4 := by omega
        rcases this with rfl | rfl | rfl | rfl | rfl
        · rw [v4.1, a0]
        · rw [v4.2.1, a1]
        · rw [v4.2.2.1, a2]
        · rw [v4.2.2.2.1, a3]
        · rw [v4.2.2.2.2, a4]
      · rw [eFn] at hf2
        obtain ⟨f0, f1, f2, f3, f4⟩ := nf f hf2
        obtain ⟨x1, x2, x3, x4, x5⟩ := hs.2.2.1.2 f hf2
        rw [va 1 f (by omega) (by omega) hf2, va 2 f (by omega) (by omega) hf2, va 3 f (by omega) (by omega) hf2, va 4 f (by omega) (by omega) hf2, f0, f1, f2, f3]
        exact ⟨x1, x2, x3, x4⟩
      · rw [eFn] at hf2
        obtain ⟨f0, f1, f2, f3, f4⟩ := nf f hf2
        obtain ⟨x1, x2, x3, x4, x5⟩ := hs.2.2.1.2 f hf2
        rw [va 5 f (by omega) (by omega) hf2, f4]
        exact x5
theorem c_make {dl wt dd : Int32} (rej : Bool) (hs : stR W 0 r) (ho : okR r T) (hg : nG r < 12) : ∃ V, f_X7_makeGroup (b + ad 7 0 0) dl wt dd (bI rej) (wd b W) = some (nI (nG r), wd b V) ∧ frQ (fun c i _ _ => inS c ∧ i = 0) W V ∧ ∀ R, ngP r R dl wt dd rej → stR V 0 R := by
  obtain ⟨d1, d2, d3⟩ := ho.2.2.2.2.1.2
  have h11 : vo 11 0 0 = true := rfl
  have hv4 := vo4 (i := 0) (g := nG r) hz8 hg
  have e12 : ∀ N, f_X9_isOneOf (nI (nG r)) (12 : Int32) N = some (1, N) := fun N => by
    have e := c_oneN (v := nI (nG r)) (n := 12) (N := N)
    rw [inR_nI (by omega) hg] at e
    exact e
  have hb : bI rej = 0 ∨ bI rej = 1 := by cases rej; exact Or.inl rfl; exact Or.inr rfl
  generalize hW1 : wsI (wsI (wsI (wsI (wsI W 4 0 (nG r) 0 (r 0 + dl)) 4 0 (nG r) 1 wt) 4 0 (nG r) 2 dd) 4 0 (nG r) 3 (-1)) 4 0 (nG r) 4 (bI rej) = W1
  have f1 : frQ (fun c i g' k => i = 0 ∧ ((c = 4 ∧ g' = nG r) ∨ (c = 1 ∧ g' = nG r) ∨ c = 11 ∨ (c = 7 ∧ k = 6) ∨ c = 0)) W W1 := by
    rw [← hW1]
    exact ((((frQ.I ⟨rfl, Or.inl ⟨rfl, rfl⟩⟩).tr (frQ.I ⟨rfl, Or.inl ⟨rfl, rfl⟩⟩)).tr (frQ.I ⟨rfl, Or.inl ⟨rfl, rfl⟩⟩)).tr (frQ.I ⟨rfl, Or.inl ⟨rfl, rfl⟩⟩)).tr (frQ.I ⟨rfl, Or.inl ⟨rfl, rfl⟩⟩)
  have w4 : W1.1 4 0 (nG r) 0 = r 0 + dl ∧ W1.1 4 0 (nG r) 1 = wt ∧ W1.1 4 0 (nG r) 2 = dd ∧ W1.1 4 0 (nG r) 3 = -1 ∧ W1.1 4 0 (nG r) 4 = bI rej := by
    rw [← hW1]
    refine ⟨?_, ?_, ?_, ?_, ?_⟩
    · rw [wsI_k _ (by decide), wsI_k _ (by decide), wsI_k _ (by decide), wsI_k _ (by decide), wsI_r]
    · rw [wsI_k _ (by decide), wsI_k _ (by decide), wsI_k _ (by decide), wsI_r]
    · rw [wsI_k _ (by decide), wsI_k _ (by decide), wsI_r]
    · rw [wsI_k _ (by decide), wsI_r]
    · rw [wsI_r]
  have wA : W1.2.1 = W.2.1 := by rw [← hW1]; rfl
  have wI : ∀ c k, c ≠ 4 → W1.1 c 0 0 k = W.1 c 0 0 k := by
    intro c k hc
    rw [← hW1, wsI_n _ (by omega), wsI_n _ (by omega), wsI_n _ (by omega), wsI_n _ (by omega), wsI_n _ (by omega)]
  have w11 : W1.1 11 0 0 0 = nI (nD r) := by rw [wI 11 0 (by omega), hs.2.2.1.1]; exact d1
  obtain ⟨V1, c1, c2, c3, c4⟩ := c_flCopy (b := b) (W := W1) (isF_1 (i := 0) (g := nG r) hz8 hg) (isF_11 (i := 0) hz8) (by omega) d2 w11
  have c2' : frQ (fun c i g' k => i = 0 ∧ ((c = 4 ∧ g' = nG r) ∨ (c = 1 ∧ g' = nG r) ∨ c = 11 ∨ (c = 7 ∧ k = 6) ∨ c = 0)) W1 V1 := c2.mono (fun c i g k q => ⟨q.2.1, Or.inr (Or.inl ⟨q.1, q.2.2⟩)⟩)
  generalize hV3 : wsI (wsI V1 11 0 0 0 0) 7 0 0 6 (nI (nG r + 1)) = V3
  have f3 : frQ (fun c i g' k => i = 0 ∧ ((c = 4 ∧ g' = nG r) ∨ (c = 1 ∧ g' = nG r) ∨ c = 11 ∨ (c = 7 ∧ k = 6) ∨ c = 0)) W V3 := by
    refine (f1.tr c2').tr ?_
    rw [← hV3]
    exact (frQ.I ⟨rfl, Or.inr (Or.inr (Or.inl rfl))⟩).tr (frQ.I ⟨rfl, Or.inr (Or.inr (Or.inr (Or.inl ⟨rfl, rfl⟩)))⟩)
  have v76 : V3.1 7 0 0 6 = nI (nG r + 1) := by rw [← hV3, wsI_r]
  have v11 : V3.1 11 0 0 0 = 0 := by rw [← hV3, wsI_n _ (by omega), wsI_r]
  have v4k : ∀ k, V3.1 4 0 (nG r) k = W1.1 4 0 (nG r) k := fun k => by rw [← hV3, wsI_n _ (by omega), wsI_n _ (by omega), c2.1 4 0 (nG r) k (by unfold atQ; omega)]
  have v4 : V3.1 4 0 (nG r) 0 = r 0 + dl ∧ V3.1 4 0 (nG r) 1 = wt ∧ V3.1 4 0 (nG r) 2 = dd ∧ V3.1 4 0 (nG r) 3 = -1 ∧ V3.1 4 0 (nG r) 4 = bI rej := by
    rw [v4k, v4k, v4k, v4k, v4k]
    exact w4
  have v1 : V3.1 1 0 (nG r) 0 = nI (nD r) := by rw [← hV3, wsI_n _ (by omega), wsI_n _ (by omega)]; exact c3
  have va : ∀ k f, 1 ≤ k → k ≤ 5 → f < nD r → V3.2.1 1 0 (nG r) k f = W.2.1 11 0 0 k f := fun k f k1 k2 hf => by
    rw [← hV3, wsI_A, wsI_A, c4 k f k1 k2 hf, wA]
  have lg0 : lgV V3 0 (evs r) := by
    have l0 := (lgR_V ho.2.2.1).mp hs.2.2.2.2
    refine (((l0.fr (Q := fun c _ _ _ => c = 4) (V := W1) ?_ (fun k => by omega)).fr c2 (fun k => by unfold atQ; omega)).fr (Q := fun c _ _ _ => c = 11 ∨ c = 7) (V := V3) ?_ (fun k => by omega))
    · rw [← hW1]
      exact ((((frQ.I rfl).tr (frQ.I rfl)).tr (frQ.I rfl)).tr (frQ.I rfl)).tr (frQ.I rfl)
    · rw [← hV3]
      exact (frQ.I (Or.inl rfl)).tr (frQ.I (Or.inr rfl))
  have start : f_X7_makeGroup (b + ad 7 0 0) dl wt dd (bI rej) (wd b W) = (if bI rej = 0 then some (nI (nG r), wd b V3) else ob (hR (wd b V3) (b + ad 7 0 0) 7 11) (fun x21 => ob (hI (wd b V3) (b + ad 7 0 0) 7 0) (fun x22 => ob2 (f_X0_add x21 (3 : Int32) (nI (nG r)) x22 (wd b V3)) (fun _ N23 => some (nI (nG r), N23))))) := by
    unfold f_X7_makeGroup
    rw [oO_7 h70, o7_6 h70, (hs.1 6 (by omega)).trans ho.1.1.1, ob2_i (e12 _), if_pos (by decide), o7_10 h70, oa7_10 h70 hg, o7_0 h70, hs.1 0 (by omega), p4_0 hv4, p4_1 hv4, p4_2 hv4, p4_3 hv4, p4_4 hv4 hb, hW1, o4_5 hv4, o7_9 h70, ob2_i c1, o7_9 h70, p11_0 h11, o7_6 h70, wsI_n _ (by omega), c2.1 7 0 0 6 (by unfold atQ; omega), wI 7 6 (by omega), (hs.1 6 (by omega)).trans ho.1.1.1, nI_1, p7_6 h70, hV3]
  have toS : ∀ V : WD, frQ (fun c i g' k => i = 0 ∧ ((c = 4 ∧ g' = nG r) ∨ (c = 1 ∧ g' = nG r) ∨ c = 11 ∨ (c = 7 ∧ k = 6) ∨ c = 0)) W V → frQ (fun c i _ _ => inS c ∧ i = 0) W V := fun V hV => hV.mono (fun c i g k q => ⟨by unfold inS; have := q.2; omega, q.1⟩)
  cases hrj : rej with
  | false =>
    rw [hrj] at start v4
    rw [start, if_pos (by decide)]
    refine ⟨V3, rfl, toS V3 f3, fun R hR => st_ng ho hg hs f3 v76 v11 v4 v1 va ?_ hR⟩
    rw [if_neg (by decide)]
    exact lg0
  | true =>
    rw [hrj] at start v4
    have t0 : V3.1 7 0 0 0 = r 0 := by rw [f3.1 7 0 0 0 (by omega)]; exact hs.1 0 (by omega)
    obtain ⟨V4, e1, e2, e3⟩ := c_add (b := b) hz8 lg0 (x := 3) (y := nI (nG r)) (z := r 0)
    have e2' : ∀ c i g k, (c ≠ 0 ∨ i ≠ 0) → V4.1 c i g k = V3.1 c i g k := fun c i g k hc => e2.1 c i g k (by unfold lgQ; omega)
    have f4 : frQ (fun c i g' k => i = 0 ∧ ((c = 4 ∧ g' = nG r) ∨ (c = 1 ∧ g' = nG r) ∨ c = 11 ∨ (c = 7 ∧ k = 6) ∨ c = 0)) W V4 := f3.tr (e2.mono (fun c i g k q => ⟨q.2, Or.inr (Or.inr (Or.inr (Or.inr q.1)))⟩))
    rw [start, if_neg (by decide), o7_11 h70, o7_0 h70, t0, ob2_i e1]
    refine ⟨V4, rfl, toS V4 f4, fun R hR => st_ng ho hg hs f4 (by rw [e2' _ _ _ _ (by omega)]; exact v76) (by rw [e2' _ _ _ _ (by omega)]; exact v11) (by rw [e2' _ _ _ _ (by omega), e2' _ _ _ _ (by omega), e2' _ _ _ _ (by omega), e2' _ _ _ _ (by omega), e2' _ _ _ _ (by omega)]; exact v4) (by rw [e2' _ _ _ _ (by omega)]; exact v1) (fun k f k1 k2 hf => by rw [e2.2.1 1 0 (nG r) k (by unfold lgQ; omega)]; exact va k f k1 k2 hf) ?_ hR⟩
    rw [if_pos rfl]
    exact e3
end
