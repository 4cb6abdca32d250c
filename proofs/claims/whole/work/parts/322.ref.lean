section
variable {b : Nat} {W : WD}
theorem nG_cg {r r' : Nat → Int32} (h : r' 6 = r 6) : nG r' = nG r := by unfold nG; rw [h]
theorem nF_cg {r r' : Nat → Int32} {g : Nat} (h : gO r' g 5 = gO r g 5) : nF r' g = nF r g := by unfold nF; rw [h]
/-- a tick of the reference -/
theorem m_ticks {dl : Bool} {M : Nat} {O : Nat → Nat} {r : Nat → Int32} (hr : W.2.1 10 0 0 0 = r) (hG : okG r) (hT : tmK r) (hE : okE r) (hL : leadK r) (hm : mdK W dl M O) : ∃ W', f_X10_ticks (b + ad 10 0 0) (wd b W) = some ((), wd b W') ∧ frM [7] [0, 4, 5, 6, 13, 14] [11, 12] W W' ∧ tkR dl M O r (W'.2.1 10 0 0 0) := by
  have hO := hm.ord (by rw [hr]; exact hG)
  rw [hr] at hO
  have h12 := hG.1.2
  have h12' := hO.1
  unfold f_X10_ticks
  obtain ⟨W1, e1, f1, g1, g2, g3, g4, g5⟩ := m_worksOut (b := b) hr hG hT hm
  have hr1 : W1.2.1 10 0 0 0 = r := by rw [f1.ma 0 (by decide), hr]
  obtain ⟨ra, e2, a1, a2, a3, a4, a5⟩ := m_preempts (b := b) (W := W1) hr1 hE hL h12' g1 g2
  rw [oO_10 h10, ob2_i e1, ob2_i e2]
  -- the row behind the preemption
  have aG : ∀ g k, k < 6 → g < 12 → gO ra g k = gO r g k := fun g k hk hg => a1 _ (by omega) (by omega) (by omega) (by omega)
  have aF : ∀ g f k, k < 5 → f < 16 → g < 12 → fO ra g f k = fO r g f k := fun g f k hk hf hg => a1 _ (by omega) (by omega) (by omega) (by omega)
  have anG : nG ra = nG r := nG_cg (a1 6 (by omega) (by omega) (by omega) (by omega))
  have anF : ∀ g, g < 12 → nF ra g = nF r g := fun g hg => nF_cg (aG g 5 (by omega) hg)
  have hGa : okG ra := by
    refine ⟨⟨by rw [anG, a1 6 (by omega) (by omega) (by omega) (by omega)]; exact hG.1.1, by rw [anG]; exact h12⟩, fun g hg => ?_, fun p hp => ?_⟩
    · rw [anG] at hg
      have hk := hG.2.1 g hg
      have h16 := hk.2.1
      rw [anF g (by omega)]
      refine ⟨by rw [aG g 5 (by omega) (by omega)]; exact hk.1, h16, fun f hf => ?_⟩
      rw [aF g f 0 (by omega) (by omega) (by omega), aF g f 1 (by omega) (by omega) (by omega), aF g f 3 (by omega) (by omega) (by omega)]
      exact hk.2.2 f hf
    · have e : capR ra p = capR r p := a1 _ (by omega) (by omega) (by omega) (by omega)
      rw [e]
      exact hG.2.2 p hp
  obtain ⟨rb, e3, s1, s2, s3⟩ := m_sendAll (b := b) (W := wsA W1 10 0 0 0 ra) (r := ra) (R := finR r dl M O) (by rw [wsA_r]) hGa (fun g f hg hf => by
    rw [anG] at hg
    rw [anF g (by omega)] at hf
    have h16 := (hG.2.1 g hg).2.1
    rw [wsA_k _ (by decide)]
    exact g4 g f (by omega) (by omega)) (k := fun N7 => ob (hR N7 (b + ad 10 0 0) 10 0) (fun x8 => ob (aI N7 x8 (0 : Int32)) (fun x9 => ob (sI N7 x8 (0 : Int32) (x9 + (1 : Int32))) (fun N10 => f_X10_ticks_L44 (b + ad 10 0 0) (fun N32 => f_X10_ticks_L137 (b + ad 10 0 0) (fun N52 => some ((), N52)) FU (0 : Int32) N32) FU (0 : Int32) N10))))
  have hsnt : sntP ra (finR r dl M O) (nG ra) rb := ⟨s1, s2, s3⟩
  have hFa : ∀ g, g < nG ra → nF ra g ≤ 16 := fun g hg => (hGa.2.1 g hg).2.1
  rw [wsA_2] at e3
  refine (congrArg (fun z => ∃ W', z = some ((), wd b W') ∧ frM [7] [0, 4, 5, 6, 13, 14] [11, 12] W W' ∧ tkR dl M O r (W'.2.1 10 0 0 0)) e3).mpr ?_
  try dsimp only
  rw [o10_0 h10, oR0 0 0 rfl (by omega), wsA_r, oS0 0 0 rfl (by omega), wsA_r, wsA_2]
  -- values behind step 4
  have b0 : rb 0 = r 0 := by rw [s1 0 (by omega) (fun g f _ _ => by omega), a1 0 (by omega) (by omega) (by omega) (by omega)]
  generalize hrc : upd rb 0 (rb 0 + 1) = rc
  have c0 : rc 0 = r 0 + 1 := by rw [← hrc, pk_us, b0]
  have cO : ∀ q, q ≠ 0 → rc q = rb q := fun q hq => by rw [← hrc, pk_un hq]
  have cl : ∀ q, q ≠ 0 → q < 26 ∨ (42 ≤ q ∧ q < 90) ∨ 1122 ≤ q → rc q = ra q := by
    intro q q0 q1
    rw [cO q q0]
    refine s1 q (by omega) (fun g f hg hf => ?_)
    have := hFa g hg
    omega
  have cG : ∀ g k, k < 6 → g < 12 → gO rc g k = gO r g k := fun g k hk hg => by
    rw [show gO rc g k = gO rb g k from cO _ (by omega), sntP_g hsnt hFa g k hk, aG g k hk hg]
  have cF : ∀ g f k, k < 3 → f < 16 → g < 12 → fO rc g f k = fO r g f k := fun g f k hk hf hg => by
    rw [show fO rc g f k = fO rb g f k from cO _ (by omega), sntP_f hsnt hFa g f k hf hk, aF g f k (by omega) hf hg]
  have cR : ∀ g f, g < nG r → f < nF r g → fO rc g f 3 = fO r g f 3 - finR r dl M O g f ∧ fO rc g f 4 = finR r dl M O g f := by
    intro g f hg hf
    have h16 := (hG.2.1 g hg).2.1
    obtain ⟨q1, q2⟩ := s2 g f (by rw [anG]; exact hg) (by rw [anF g (by omega)]; exact hf)
    rw [aF g f 3 (by omega) (by omega) (by omega)] at q1
    exact ⟨(cO _ (by omega)).trans q1, (cO _ (by omega)).trans q2⟩
  have cnG : nG rc = nG r := by rw [nG_cg (cl 6 (by omega) (by omega)), anG]
  have cnF : ∀ g, g < 12 → nF rc g = nF r g := fun g hg => nF_cg (cG g 5 (by omega) hg)
  have crst : ∀ g, g < nG r → rstO rc g = sumI (fun f => fO r g f 3 - finR r dl M O g f) (nF r g) := by
    intro g hg
    unfold rstO
    rw [cnF g (by omega)]
    exact sumI_cg (fun f hf => (cR g f hg hf).1)
  have hEc : okE rc := by
    refine ⟨?_, ?_⟩
    · unfold nE
      rw [cl 8 (by omega) (by omega)]
      exact a4.1
    · unfold nE
      rw [cl 8 (by omega) (by omega)]
      exact a4.2
  have evc : evs rc = evs ra := evs_cg (cl 8 (by omega) (by omega)) (fun q q1 q2 => cl q (by omega) (by omega)) a4.2
  obtain ⟨rd, e4, d1, d2, d3, d4⟩ := m_done (b := b) (W := wsA W1 10 0 0 0 rc) (M := M) (O := O) (r1 := rc) (by rw [wsA_r]) h12' (by rw [wsA_1]; exact g1) (fun x hx => ⟨by rw [wsA_k _ (by decide)]; exact g2 x hx, by have := (hO.2 x hx).1; omega⟩) (by rw [cnG, cl 6 (by omega) (by omega), a1 6 (by omega) (by omega) (by omega) (by omega)]; exact hG.1.1) (by omega) (fun g hg => by
    rw [cnG] at hg
    rw [cnF g (by omega), cG g 5 (by omega) (by omega)]
    exact ⟨(hG.2.1 g hg).1, (hG.2.1 g hg).2.1⟩) hEc (k := fun N32 => f_X10_ticks_L137 (b + ad 10 0 0) (fun N52 => some ((), N52)) FU (0 : Int32) N32)
  rw [wsA_2] at e4
  rw [e4]
  try dsimp only
  have dnG : nG rd = nG r := by rw [nG_cg (d1 6 (by omega) (by omega) (fun g _ => by omega)), cnG]
  obtain ⟨re, e5, l1, l3, l4⟩ := m_late (b := b) (W := wsA W1 10 0 0 0 rd) (r1 := rd) (by rw [wsA_r]) (by rw [dnG, d1 6 (by omega) (by omega) (fun g _ => by omega), cl 6 (by omega) (by omega), a1 6 (by omega) (by omega) (by omega) (by omega)]; exact hG.1.1) (by omega) d3 (k := fun N52 => some ((), N52))
  rw [wsA_2] at e5
  rw [e5]
  refine ⟨_, rfl, (f1.mono (by decide) (by decide) (by decide)).tr (frM.A (by decide)), ?_⟩
  rw [wsA_r]
  -- the whole
  have low : ∀ q, q ≠ 0 → q ≠ 8 → q < 26 ∨ (42 ≤ q ∧ q < 90) ∨ 1182 ≤ q → re q = ra q := by
    intro q q1 q2 q3
    rw [l1 q q2 (by omega), d1 q q2 (by omega) (fun g hg => by omega), cl q q1 (by omega)]
  have ed : ∀ g k, k < 6 → k ≠ 3 → g < 12 → gO rd g k = gO r g k := fun g k hk h3 hg => by
    rw [← cG g k hk hg]
    exact d1 _ (by omega) (by omega) (fun g' hg' => by omega)
  have ee : ∀ g k, k < 6 → g < 12 → gO re g k = gO rd g k := fun g k hk hg => l1 _ (by omega) (by omega)
  have efd : ∀ g f k, k < 5 → f < 16 → g < 12 → fO re g f k = fO rc g f k := fun g f k hk hf hg => by
    have e1 : fO re g f k = fO rd g f k := l1 _ (by omega) (by omega)
    rw [e1]
    exact d1 _ (by omega) (by omega) (fun g' hg' => Ne.symm (ix_gf (by omega) (by omega) (by omega)))
  have edn : ∀ g, g < nG r → (inB M O g && decide (rstO rc g = 0)) = dnS r dl M O g := fun g hg => by
    unfold dnS
    rw [crst g hg]
  have een : ∀ g, g < nG r → gO rd g 3 = enS r dl M O g := fun g hg => by
    rw [d2 g (by omega), edn g hg, c0, cG g 3 (by omega) (by omega)]
    rfl
  have d0 : rd 0 = r 0 + 1 := by rw [d1 0 (by omega) (by omega) (fun g _ => by omega), c0]
  refine ⟨?_, ⟨?_, ?_, ?_, ?_, ?_⟩, ?_, ?_, ?_, ?_, ?_, ?_, ⟨l3, ?_⟩, ?_⟩
  · rw [l1 0 (by omega) (by omega), d0]
  · rw [low 1 (by omega) (by omega) (by omega), a1 1 (by omega) (by omega) (by omega) (by omega)]
  · rw [low 2 (by omega) (by omega) (by omega), a1 2 (by omega) (by omega) (by omega) (by omega)]
  · rw [low 3 (by omega) (by omega) (by omega), a1 3 (by omega) (by omega) (by omega) (by omega)]
  · rw [low 6 (by omega) (by omega) (by omega), a1 6 (by omega) (by omega) (by omega) (by omega)]
  · rw [low 7 (by omega) (by omega) (by omega), a1 7 (by omega) (by omega) (by omega) (by omega)]
  · rw [low 4 (by omega) (by omega) (by omega), a2]
  · rw [low 5 (by omega) (by omega) (by omega), a3]
  · intro q q1 q2
    rw [low q (by omega) (by omega) (by omega), a1 q (by omega) (by omega) (by omega) (by omega)]
  · intro q q1 q2
    rw [low q (by omega) (by omega) (by omega), a1 q (by omega) (by omega) (by omega) (by omega)]
  · intro p hp
    rw [l1 _ (by omega) (by omega), d1 _ (by omega) (by omega) (fun g _ => by omega), cO _ (by omega), s3 p hp, a1 _ (by omega) (by omega) (by omega) (by omega), anG]
    congr 1
    refine sumI_cg (fun g hg => ?_)
    have h16 := (hG.2.1 g hg).2.1
    rw [anF g (by omega)]
    refine sumI_cg (fun f hf => ?_)
    unfold thr1
    rw [aF g f 0 (by omega) (by omega) (by omega), aF g f 1 (by omega) (by omega) (by omega)]
  · intro g hg
    refine ⟨fun k k3 k6 => by rw [ee g k k6 (by omega), ed g k k6 k3 (by omega)], by rw [ee g 3 (by omega) (by omega), een g hg], fun f hf => ?_⟩
    have h16 := (hG.2.1 g hg).2.1
    refine ⟨fun k hk => by rw [efd g f k (by omega) (by omega) (by omega), cF g f k hk (by omega) (by omega)], ?_, ?_⟩
    · rw [efd g f 3 (by omega) (by omega) (by omega), (cR g f hg hf).1]
    · rw [efd g f 4 (by omega) (by omega) (by omega), (cR g f hg hf).2]
  · rw [l4, d4, dnG, cnG, evc, a5, c0, d0]
    unfold evT
    rw [evG_cg (c := fun g => inB M O g && decide (rstO rc g = 0)) (c' := dnS r dl M O) edn]
    refine evG_cg (fun g hg => ?_)
    unfold ltS stO
    rw [ed g 2 (by omega) (by omega) (by omega), ed g 0 (by omega) (by omega) (by omega), ed g 4 (by omega) (by omega) (by omega), een g hg, d0]
  · intro q hq
    rw [low q (by omega) (by omega) (by omega), a1 q (by omega) (by omega) (by omega) (by omega)]
end
