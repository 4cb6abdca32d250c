/-! when nothing can be sent any more -/
def idle (r : Nat → Int32) : Prop := ∀ g, g < nG r → opB r g = true → stO r g = 1 ∧ spn r g (capR r) = -1 ∧ (r 2 = 1 → ∀ f, f < nF r g → vN (fO r g f 3) = 0 ∨ vN (capR r (vN (fO r g f 0))) = 0 ∨ vN (capR r (8 + vN (fO r g f 1))) = 0)
theorem moS_v {r : Nat → Int32} {g : Nat} (hk : flK r g (nF r g)) {R A : Nat → Int32} (hA : avK A) (hR : ∀ f, f < nF r g → ∃ x, R f = nI x ∧ x ≤ vN (fO r g f 3)) {i a : Nat} (hi : i < nF r g) (ha : R i = nI a) (ha2 : a ≤ vN (fO r g i 3)) : moS r g R A i = nI (min (min (vN (fO r g i 3) - a) (vN (shA r g R A i (vN (fO r g i 0))))) (vN (shA r g R A i (8 + vN (fO r g i 1))))) := by
  have ih := shA_av hk hA hR i (by omega)
  obtain ⟨⟨s1, s2⟩, ⟨t1, t2⟩, q1, q2⟩ := hk.2.2 i hi
  have hs := ih (vN (fO r g i 0)) (by omega)
  have ht := ih (8 + vN (fO r g i 1)) (by omega)
  unfold moS
  rw [q1, ha, pk_sub ha2, hs.1, ht.1, mnS_nI (by omega) hs.2 ht.2, ← hs.1, ← ht.1, ← q1]
section
variable {r r' : Nat → Int32} {T M : Nat} {O : Nat → Nat} {dl : Bool}
theorem shA_idle {g : Nat} (hk : flK r g (nF r g)) (hA : avK (capR r)) {R : Nat → Int32} (hR : ∀ f, f < nF r g → R f = 0) (hz : ∀ f, f < nF r g → vN (fO r g f 3) = 0 ∨ vN (capR r (vN (fO r g f 0))) = 0 ∨ vN (capR r (8 + vN (fO r g f 1))) = 0) : ∀ i, i ≤ nF r g → shA r g R (capR r) i = capR r ∧ (i < nF r g → moS r g R (capR r) i = 0)
  | 0, h => by
    refine ⟨rfl, fun hi => ?_⟩
    have hv := moS_v hk hA (R := R) (fun f hf => ⟨0, hR f hf, Nat.zero_le _⟩) (i := 0) (a := 0) hi (hR 0 hi) (Nat.zero_le _)
    rw [hv]
    have e0 : shA r g R (capR r) 0 = capR r := rfl
    rw [e0]
    have := hz 0 hi
    rw [show min (min (vN (fO r g 0 3) - 0) (vN (capR r (vN (fO r g 0 0))))) (vN (capR r (8 + vN (fO r g 0 1)))) = 0 by omega]
    rfl
  | i + 1, h => by
    obtain ⟨i1, i2⟩ := shA_idle hk hA hR hz i (by omega)
    have e1 : shA r g R (capR r) (i + 1) = capR r := by
      funext p
      have e : shA r g R (capR r) (i + 1) p = shA r g R (capR r) i p - thr1 r g i p (moS r g R (capR r) i) := rfl
      rw [e, i2 (by omega), i1, thr1_0, Int32.sub_zero]
    refine ⟨e1, fun hi => ?_⟩
    have hv := moS_v hk hA (R := R) (fun f hf => ⟨0, hR f hf, Nat.zero_le _⟩) (i := i + 1) (a := 0) hi (hR _ hi) (Nat.zero_le _)
    rw [hv, e1]
    have := hz (i + 1) hi
    rw [show min (min (vN (fO r g (i + 1) 3) - 0) (vN (capR r (vN (fO r g (i + 1) 0))))) (vN (capR r (8 + vN (fO r g (i + 1) 1)))) = 0 by omega]
    rfl
theorem gv_idle (hs : ∀ x, x < M → spn r (O x) (capR r) = -1) : ∀ k, k ≤ M → (gvS r dl O k).1 = capR r ∧ ∀ g f, (gvS r dl O k).2.1 g f = 0
  | 0, _ => ⟨rfl, fun _ _ => rfl⟩
  | k + 1, hk => by
    obtain ⟨i1, i2⟩ := gv_idle hs k (by omega)
    have hz : ∀ f, rtS r dl (O k) (gvS r dl O k).1 f = 0 := fun f => by unfold rtS; rw [i1, if_pos (hs k (by omega))]
    refine ⟨?_, fun g f => ?_⟩
    · rw [gvS]
      simp only
      rw [subS_z (fun f _ => hz f), i1]
    · rw [gvS]
      simp only
      by_cases h : g = O k ∧ f < nF r g
      · rw [if_pos h, h.1]
        exact hz f
      · rw [if_neg h]
        exact i2 g f
theorem idle_fin (ho : okR r T) (hO : ordC r M O) (hd : idle r) : ∀ g f, g < nG r → f < nF r g → finR r dl M O g f = 0 := by
  have hop : ∀ x, x < M → opB r (O x) = true := fun x hx => stO_op (ho.2.2.2.2.2.2.2 _ (hO.1.2 x hx).1) (hO.1.2 x hx).2
  obtain ⟨g1, g2⟩ := gv_idle (dl := dl) (fun x hx => (hd (O x) (hO.1.2 x hx).1 (hop x hx)).2.1) M (Nat.le_refl _)
  intro g f hg hf
  unfold finR
  by_cases h2 : r 2 = 1
  · rw [if_pos h2, g1]
    have key : ∀ k, k ≤ M → (shG r O (capR r) (gvS r dl O M).2.1 k).1 = capR r ∧ ∀ g f, g < nG r → f < nF r g → (shG r O (capR r) (gvS r dl O M).2.1 k).2 g f = 0 := by
      intro k
      induction k with
      | zero => exact fun _ => ⟨rfl, fun g f _ _ => g2 g f⟩
      | succ k ih =>
        intro hk
        obtain ⟨i1, i2⟩ := ih (by omega)
        obtain ⟨o1, o2⟩ := hO.1.2 k (by omega)
        have hz := (hd (O k) o1 (hop k (by omega))).2.2 h2
        have hsh := fun i hi => shA_idle (ho.1.2.1 _ o1) ho.1.2.2 (R := (shG r O (capR r) (gvS r dl O M).2.1 k).2 (O k)) (fun f hf => i2 _ f o1 hf) hz i hi
        refine ⟨?_, fun g f hg hf => ?_⟩
        · rw [shG]
          simp only
          rw [i1]
          exact (hsh _ (Nat.le_refl _)).1
        · rw [shG]
          simp only
          by_cases h : g = O k ∧ f < nF r g
          · rw [if_pos h, i2 g f hg hf, i1]
            obtain ⟨rfl, h3⟩ := h
            rw [(hsh f (by omega)).2 h3]
            rfl
          · rw [if_neg h]
            exact i2 g f hg hf
    exact (key M (Nat.le_refl _)).2 g f hg hf
  · rw [if_neg h2]
    exact g2 g f
theorem gvS_keep {g : Nat} (hO : ∀ x y, x < M → y < M → O x = O y → x = y) {k : Nat} (hk : k < M) (hg : O k = g) (f : Nat) : ∀ j, k + 1 ≤ j → j ≤ M → (gvS r dl O j).2.1 g f = (gvS r dl O (k + 1)).2.1 g f := by
  intro j
  induction j with
  | zero => exact fun h => by omega
  | succ j ih =>
    intro h1 h2
    rcases Nat.lt_or_ge k j with q | q
    · rw [gvS]
      simp only
      rw [if_neg (fun z => by have := hO k j hk (by omega) (by rw [hg]; exact z.1); omega)]
      exact ih (by omega) (by omega)
    · rw [show j = k by omega]
theorem shG_ge (ho : okR r T) (hT : T ≤ 900000) (hO : ordC r M O) {g f : Nat} (hg : g < nG r) (hf : f < nF r g) : ∀ j k, k ≤ j → j ≤ M → vN ((shG r O (gvS r dl O M).1 (gvS r dl O M).2.1 k).2 g f) ≤ vN ((shG r O (gvS r dl O M).1 (gvS r dl O M).2.1 j).2 g f) := by
  intro j
  induction j with
  | zero => intro k h1 h2; rw [show k = 0 by omega]; exact Nat.le_refl _
  | succ j ih =>
    intro k h1 h2
    rcases Nat.lt_or_ge k (j + 1) with q | q
    · refine Nat.le_trans (ih k (by omega) (by omega)) ?_
      obtain ⟨a1, a2⟩ := shG_ok ho.1 (ho.tm hT) (dl := dl) hO.1 j (by omega)
      rw [shG]
      simp only
      by_cases h : g = O j ∧ f < nF r g
      · rw [if_pos h]
        obtain ⟨x, x1, x2⟩ := a2 g hg f hf
        have hm := moS_v (ho.1.2.1 _ hg) a1 (a2 g hg) hf x1 x2
        have h100 := ((ho.1.2.1 _ hg).2.2 f hf).2.2.2
        rw [hm, x1, nI_add, vN_nI (by omega), vN_nI (by omega)]
        omega
      · rw [if_neg h]
        exact Nat.le_refl _
    · rw [show k = j + 1 by omega]
      exact Nat.le_refl _
theorem fin_ge (ho : okR r T) (hT : T ≤ 900000) (hO : ordC r M O) {g f : Nat} (hg : g < nG r) (hf : f < nF r g) : vN ((gvS r dl O M).2.1 g f) ≤ vN (finR r dl M O g f) := by
  unfold finR
  split
  · exact shG_ge ho hT hO hg hf M 0 (Nat.zero_le _) (Nat.le_refl _)
  · exact Nat.le_refl _
theorem cdiv_pos {a z : Nat} (ha : 0 < a) (hz : 0 < z) : 0 < cdiv a z := by
  unfold cdiv
  exact Nat.div_pos (by omega) hz
theorem still_idle (ho : okR r T) (hT : T ≤ 900000) (hO : ordC r M O) (hs : still r dl M O) : idle r := by
  have hop : ∀ x, x < M → opB r (O x) = true := fun x hx => stO_op (ho.2.2.2.2.2.2.2 _ (hO.1.2 x hx).1) (hO.1.2 x hx).2
  have v0 : vN (0 : Int32) = 0 := rfl
  -- spans
  have sp : ∀ k, k ≤ M → ∀ x, x < k → spn r (O x) (capR r) = -1 := by
    intro k
    induction k with
    | zero => exact fun _ x hx => absurd hx (Nat.not_lt_zero x)
    | succ k ih =>
      intro hk x hx
      rcases Nat.lt_or_ge x k with q | q
      · exact ih (by omega) x q
      · have hxk : x = k := by omega
        subst hxk
        obtain ⟨o1, o2⟩ := hO.1.2 x (by omega)
        have hA := (gv_idle (r := r) (dl := dl) (M := x) (O := O) (fun y hy => ih (by omega) y hy) x (Nat.le_refl _)).1
        rcases spn_cases (r := r) (g := O x) (A := capR r) with z | ⟨y, y1, y2, z⟩
        · exact z
        · exfalso
          have hgk := ho.2.2.2.2.2.2.2 _ o1
          have hend : gO r (O x) 3 = -1 := by
            have := hop x (by omega)
            unfold opB at this
            simp at this
            exact this.2
          rcases hgk.2.2.2.2.2 with ⟨-, f, f1, f2⟩ | ⟨w, -⟩
          · obtain ⟨w, w1, w2, w3⟩ := byS_ok (ho.tm hT) o1 (dl := dl) y1 y2
            have hfl := (ho.1.2.1 _ o1).2.2 f f1
            have hr : (gvS r dl O M).2.1 (O x) f = nI (cdiv (vN (fO r (O x) f 3)) w) := by
              rw [gvS_keep (M := M) hO.2.1 (by omega) rfl f M (by omega) (Nat.le_refl _), gvS]
              simp only
              rw [if_pos ⟨trivial, f1⟩]
              unfold rtS
              rw [hA, z, if_neg (nI_ne_m1 (by omega)), w1, hfl.2.2.1, upI_nI (by omega) (by omega), ← hfl.2.2.1]
            have h1 := fin_ge ho hT (dl := dl) hO o1 f1
            rw [hs.1 _ f o1 f1, hr, v0] at h1
            have h2 := cdiv_pos (a := vN (fO r (O x) f 3)) (z := w) f2 (by omega)
            have h3 := cdiv_le (a := vN (fO r (O x) f 3)) (n := w) (by omega)
            rw [vN_nI (by omega)] at h1
            omega
          · exact absurd hend (nI_m1 w (vN_lt _))
  obtain ⟨g1, g2⟩ := gv_idle (dl := dl) (sp M (Nat.le_refl _)) M (Nat.le_refl _)
  intro g hg hgo
  have hst := hs.2 g hg hgo
  obtain ⟨x, x1, x2⟩ := hO.2.2 g hg hst
  refine ⟨hst, by rw [← x2]; exact sp M (Nat.le_refl _) x x1, fun h2 f hf => ?_⟩
  -- sharing
  have fin : ∀ g f, g < nG r → f < nF r g → vN ((shG r O (capR r) (gvS r dl O M).2.1 M).2 g f) = 0 := fun g f hg hf => by
    have := hs.1 g f hg hf
    unfold finR at this
    rw [if_pos h2, g1] at this
    rw [this]
    rfl
  have hge : ∀ g f, g < nG r → f < nF r g → ∀ k, k ≤ M → (shG r O (capR r) (gvS r dl O M).2.1 k).2 g f = 0 := by
    intro g f hg hf k hk
    have h3 := shG_ge ho hT (dl := dl) hO hg hf M k hk (Nat.le_refl _)
    obtain ⟨-, a2⟩ := shG_ok ho.1 (ho.tm hT) (dl := dl) hO.1 k hk
    obtain ⟨y, y1, y2⟩ := a2 g hg f hf
    rw [g1] at h3 y1
    rw [fin g f hg hf] at h3
    have h100 := ((ho.1.2.1 _ hg).2.2 f hf).2.2.2
    rw [y1, vN_nI (by omega)] at h3
    rw [y1, show y = 0 by omega]
    rfl
  have key : ∀ k, k < M → (shG r O (capR r) (gvS r dl O M).2.1 k).1 = capR r → ∀ i, i ≤ nF r (O k) → shA r (O k) ((shG r O (capR r) (gvS r dl O M).2.1 k).2 (O k)) (capR r) i = capR r ∧ (i < nF r (O k) → moS r (O k) ((shG r O (capR r) (gvS r dl O M).2.1 k).2 (O k)) (capR r) i = 0) := by
    intro k hk hA i
    obtain ⟨o1, o2⟩ := hO.1.2 k hk
    have hm : ∀ i, i < nF r (O k) → moS r (O k) ((shG r O (capR r) (gvS r dl O M).2.1 k).2 (O k)) (capR r) i = 0 := by
      intro i hi
      have h3 := hge (O k) i o1 hi (k + 1) (by omega)
      rw [shG] at h3
      simp only at h3
      rw [if_pos ⟨trivial, hi⟩, hge (O k) i o1 hi k (by omega), hA, Int32.zero_add] at h3
      exact h3
    induction i with
    | zero => exact fun _ => ⟨rfl, hm 0⟩
    | succ i ih =>
      intro hi
      refine ⟨?_, hm (i + 1)⟩
      funext p
      have e : shA r (O k) ((shG r O (capR r) (gvS r dl O M).2.1 k).2 (O k)) (capR r) (i + 1) p = shA r (O k) ((shG r O (capR r) (gvS r dl O M).2.1 k).2 (O k)) (capR r) i p - thr1 r (O k) i p (moS r (O k) ((shG r O (capR r) (gvS r dl O M).2.1 k).2 (O k)) (capR r) i) := rfl
      rw [e, hm i (by omega), (ih (by omega)).1, thr1_0, Int32.sub_zero]
  have cap : ∀ k, k ≤ M → (shG r O (capR r) (gvS r dl O M).2.1 k).1 = capR r := by
    intro k
    induction k with
    | zero => exact fun _ => rfl
    | succ k ih =>
      intro hk
      have h3 := ih (by omega)
      rw [shG]
      simp only
      rw [h3]
      exact (key k (by omega) h3 _ (Nat.le_refl _)).1
  subst x2
  have h3 := key x x1 (cap x (by omega)) f (by omega)
  have h4 := h3.2 hf
  rw [moS_v (ho.1.2.1 _ hg) ho.1.2.2 (fun f hf => ⟨0, hge _ f hg hf x (by omega), Nat.zero_le _⟩) hf (hge _ f hg hf x (by omega)) (Nat.zero_le _), h3.1] at h4
  have h100 := ((ho.1.2.1 _ hg).2.2 f hf).2.2.2
  have h5 := (nI_eq (by omega) (by omega)).mp (show nI (min (min (vN (fO r (O x) f 3) - 0) (vN (capR r (vN (fO r (O x) f 0))))) (vN (capR r (8 + vN (fO r (O x) f 1))))) = nI 0 from h4)
  omega
/-- an idle row stays as it is, but for time, leader and log -/
theorem idle_tick (ho : okR r T) (hT : T ≤ 900000) (hO : ordC r M O) (hd : idle r) (h : tkR dl M O r r') : idle r' ∧ ∀ g, g < nG r → gO r' g 3 = gO r g 3 ∧ opB r' g = opB r g := by
  have hz := idle_fin ho hO hd (dl := dl)
  have hnd : ∀ g, g < nG r → dnS r dl M O g = false := by
    intro g hg
    cases hb : dnS r dl M O g with
    | false => rfl
    | true =>
      exfalso
      obtain ⟨q1, q2⟩ := (dn_iff ho hT hO hg).mp hb
      have hend : gO r g 3 = -1 := by
        unfold opB at q1
        simp at q1
        exact q1.2
      rcases (ho.2.2.2.2.2.2.2 g hg).2.2.2.2.2 with ⟨-, f, f1, f2⟩ | ⟨w, -⟩
      · have := q2 f f1
        rw [hz g f hg f1] at this
        have v0 : vN (0 : Int32) = 0 := rfl
        omega
      · exact absurd hend (nI_m1 w (vN_lt _))
  have eG := tk_nG h
  have eF := fun g hg => tk_nF h (g := g) hg
  obtain ⟨a0, ⟨a1, a2, a3, a6, a7⟩, a4, a5, a10, a42, am, ag, ⟨ae, al⟩, ax⟩ := id h
  have hen : ∀ g, g < nG r → gO r' g 3 = gO r g 3 := fun g hg => by
    rw [(ag g hg).2.1]
    unfold enS
    rw [hnd g hg, if_neg (by decide)]
  have hop : ∀ g, g < nG r → opB r' g = opB r g := fun g hg => by
    unfold opB
    rw [hen g hg, (ag g hg).1 4 (by omega) (by omega)]
  have hrest : ∀ g f, g < nG r → f < nF r g → fO r' g f 3 = fO r g f 3 := fun g f hg hf => by
    rw [((ag g hg).2.2 f hf).2.1, hz g f hg hf, Int32.sub_zero]
  have hcap : ∀ p, p < 16 → capR r' p = capR r p := fun p hp => a10 _ (by omega) (by omega)
  refine ⟨?_, fun g hg => ⟨hen g hg, hop g hg⟩⟩
  intro g hg hgo
  rw [eG] at hg
  rw [hop g hg] at hgo
  obtain ⟨d1, d2, d3⟩ := hd g hg hgo
  have hk := ho.1.2.1 g hg
  refine ⟨?_, ?_, ?_⟩
  · unfold stO at d1 ⊢
    rw [(ag g hg).1 4 (by omega) (by omega), hen g hg, (ag g hg).1 0 (by omega) (by omega), a0]
    by_cases w4 : gO r g 4 = 1
    · rw [if_pos w4] at d1
      exact absurd d1 (by decide)
    · rw [if_neg w4] at d1 ⊢
      by_cases w3 : gO r g 3 = -1
      · rw [if_pos w3] at d1 ⊢
        by_cases w0 : gO r g 0 ≤ r 0
        · have h1 := (ho.2.2.2.2.2.2.2 g hg).1
          have h2 := ho.2.1
          rw [if_pos]
          rw [h1.1, h2.1, nI_1]
          rw [h1.1, h2.1] at w0
          refine le_p ?_ (by omega)
          rcases Nat.lt_or_ge (vN (r 0)) (vN (gO r g 0)) with z | z
          · exact absurd w0 (le_n z (by omega))
          · omega
        · rw [if_neg w0] at d1
          exact absurd d1 (by decide)
      · rw [if_neg w3] at d1
        exact absurd d1 (by decide)
  · have efit : ∀ y, fitN r' g (capR r') y ↔ fitN r g (capR r) y := by
      intro y
      have en : ∀ p, needN r' g y p = needN r g y p := fun p => by
        unfold needN
        rw [eF g hg]
        refine sumN_cg (fun f hf => ?_)
        rw [((ag g hg).2.2 f hf).1 0 (by omega), ((ag g hg).2.2 f hf).1 1 (by omega), hrest g f hg hf]
      unfold fitN
      constructor
      · intro q p hp
        rw [← en p, ← hcap p hp]
        exact q p hp
      · intro q p hp
        rw [en p, hcap p hp]
        exact q p hp
    have e : isSpan r' g (capR r') = isSpan r g (capR r) := by
      funext x
      unfold isSpan
      simp only [efit]
    have e2 : spn r' g (capR r') = spn r g (capR r) := by unfold spn; rw [e]
    rw [e2]
    exact d2
  · intro h2 f hf
    rw [eF g hg] at hf
    obtain ⟨⟨s1, s2⟩, ⟨t1, t2⟩, -⟩ := hk.2.2 f hf
    rw [hrest g f hg hf, ((ag g hg).2.2 f hf).1 0 (by omega), ((ag g hg).2.2 f hf).1 1 (by omega), hcap _ (by omega), hcap _ (by omega)]
    exact d3 (by rw [← a2]; exact h2) f hf
end
