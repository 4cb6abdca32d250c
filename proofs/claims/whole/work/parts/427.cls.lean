/-! foretelling of the class -/
def foQ : Nat → Nat → Nat → Nat → Prop := fun c i _ k => (c = 3 ∧ k ≠ 5) ∨ (c = 8 ∧ i = 1) ∨ (c = 6 ∧ i = 1) ∨ (i = 7 ∧ inS c)
theorem tk_fo {c i g k : Nat} (h : tkQ 1 7 c i g k) : foQ c i g k := by
  rcases h with ⟨h1, h2, -⟩ | ⟨h1, h2, -⟩
  · exact Or.inr (Or.inl ⟨h1, h2⟩)
  · exact Or.inr (Or.inr (Or.inr ⟨h1, h2⟩))
theorem cp_fo {c i g k : Nat} (h : cpQ 7 c i g k) : foQ c i g k := Or.inr (Or.inr (Or.inr h))
theorem ld_fo {c i g k : Nat} (h : ldQ 1 c i g k) : foQ c i g k := Or.inr (Or.inr (Or.inl ⟨h.1, h.2.1⟩))
theorem h61 : vo 6 1 0 = true := rfl
theorem h60 : vo 6 0 0 = true := rfl
theorem foQ_S {i : Nat} (hi : i ≠ 7) : ∀ c g k, inS c → ¬ foQ c i g k := by
  intro c g k h q
  unfold inS at h
  rcases q with q | q | q | q
  · omega
  · omega
  · omega
  · exact hi q.1
/-- what queries that look ahead change -/
def fnQ : Nat → Nat → Nat → Nat → Prop := fun c i _ _ => (c = 8 ∧ i = 1) ∨ (c = 6 ∧ i = 1) ∨ (i = 7 ∧ inS c)
theorem tk_fn {c i g k : Nat} (h : tkQ 1 7 c i g k) : fnQ c i g k := by
  rcases h with ⟨h1, h2, -⟩ | ⟨h1, h2, -⟩
  · exact Or.inl ⟨h1, h2⟩
  · exact Or.inr (Or.inr ⟨h1, h2⟩)
theorem cp_fn {c i g k : Nat} (h : cpQ 7 c i g k) : fnQ c i g k := Or.inr (Or.inr h)
theorem ld_fn {c i g k : Nat} (h : ldQ 1 c i g k) : fnQ c i g k := Or.inr (Or.inl ⟨h.1, h.2.1⟩)
theorem fnQ_S {i : Nat} (hi : i ≠ 7) : ∀ c g k, inS c → ¬ fnQ c i g k := by
  intro c g k h q
  unfold inS at h
  rcases q with q | q | q
  · omega
  · omega
  · exact hi q.1
theorem stR_set {W : WD} {i k : Nat} {r : Nat → Int32} {v : Int32} (hk : k < 6) (h : stR W i r) : stR (wsI W 7 i 0 k v) i (upd r k v) := by
  obtain ⟨a1, a2, a3, a4, a5⟩ := h
  have hf : frQ (fun c _ _ _ => c = 7) W (wsI W 7 i 0 k v) := frQ.I rfl
  have eG : nG (upd r k v) = nG r := nG_cg (pk_un (by omega))
  have eD : nD (upd r k v) = nD r := by unfold nD; rw [pk_un (by omega)]
  have eE : nE (upd r k v) = nE r := by unfold nE; rw [pk_un (by omega)]
  have eg : ∀ g j, gO (upd r k v) g j = gO r g j := fun g j => pk_un (by omega)
  have ef : ∀ g f j, fO (upd r k v) g f j = fO r g f j := fun g f j => pk_un (by omega)
  have eF : ∀ g, nF (upd r k v) g = nF r g := fun g => nF_cg (eg g 5)
  refine ⟨fun j hj => ?_, fun p hp => by rw [pk_un (by omega), pk_un (by omega)]; exact a2 p hp, ?_, fun g hg => ?_, ?_⟩
  · by_cases q : j = k
    · rw [q, wsI_r, pk_us]
    · rw [wsI_k _ q, pk_un q]
      exact a1 j hj
  · have := a3.fr hf (fun k => by omega)
    refine ⟨by rw [pk_un (by omega)]; exact this.1, fun f hf2 => ?_⟩
    rw [eD] at hf2
    rw [pk_un (by omega), pk_un (by omega), pk_un (by omega)]
    exact this.2 f hf2
  · rw [eG] at hg
    obtain ⟨b1, b2, b3⟩ := (a4 g hg).fr hf (fun c k hc => by omega)
    refine ⟨fun j hj => by rw [eg]; exact b1 j hj, ⟨by rw [eg]; exact b2.1, fun f hf2 => ?_⟩, fun f hf2 => ?_⟩
    · rw [eF] at hf2
      rw [ef, ef, ef, ef]
      exact b2.2 f hf2
    · rw [eF] at hf2
      rw [ef]
      exact b3 f hf2
  · obtain ⟨l1, n, l2, l3, l4⟩ := a5.fr hf (fun k => by omega)
    refine ⟨by rw [pk_un (by omega)]; exact l1, n, l2, l3, fun q hq => ?_⟩
    rw [eE] at hq ⊢
    rw [l4 q hq]
    unfold ev1
    rw [pk_un (by omega), pk_un (by omega), pk_un (by omega)]
theorem mdf_upd (r : Nat → Int32) : upd (upd r 3 0) 1 6 = mdf r := by
  funext q
  unfold mdf
  by_cases h1 : q = 1
  · rw [if_pos h1, h1, pk_us]
  · rw [if_neg h1, pk_un h1]
    by_cases h3 : q = 3
    · rw [if_pos h3, h3, pk_us]
    · rw [if_neg h3, pk_un h3]
section
variable {b : Nat} {W : WD} {T : Nat} {r : Nat → Int32}
/-- the total by a policy -/
theorem c_totalOf {ρ : Nat → Nat → Int32} {n p : Nat} {v : Int32} (hs : stR W 0 r) (ho : okR r T) (hT : T + 300 ≤ 900000) (hp5 : p ≤ 5) (h0 : ∀ q, q < 1182 → ρ 0 q = upd r 1 (nI p) q) (hc : chn none ρ n) (hp : totP v ρ n) : ∃ V, f_X3_totalOf (b + ad 3 0 0) (b + ad 7 0 0) (nI p) (wd b W) = some (v, wd b V) ∧ frQ fnQ W V := by
  have ho1 : okR (upd r 1 (nI p)) T := by
    refine okR_w ho (fun q _ h1 _ _ _ => pk_un h1) ?_ (by rw [pk_un (by omega)]; exact ho.2.2.2.2.2.1.1) (by rw [pk_un (by omega)]; exact ho.2.2.2.2.2.1.2) (fun q hq => ?_)
    · rw [pk_us, vN_nI (by omega)]
      exact ⟨rfl, by omega⟩
    · have e : capR (upd r 1 (nI p)) q = capR r q := pk_un (by omega)
      rw [e]
      exact ho.ck q hq
  have hok0 : okR (ρ 0) T := okR_cg ho1 h0
  have h12 := ho.1.1.2
  unfold f_X3_totalOf
  obtain ⟨c, V1, e1, e2, e3⟩ := c_needMore (b := b) (W := W) (i := 0) (r := r) h61 (by omega) hs.a ho
  have e2' : frQ fnQ W V1 := e2.mono (fun c i g k q => ld_fn q)
  rw [oO_3 h3, o3_2 h3, ob2_i e1]
  cases c with
  | true =>
    rw [if_neg (by decide)]
    refine ⟨V1, ?_, e2'⟩
    obtain ⟨p', p1, p2⟩ := e3 rfl
    have ecap : capR (ρ 0) p' = capR r p' := by
      have e : capR (ρ 0) p' = ρ 0 (10 + p') := rfl
      rw [e, h0 _ (by omega), pk_un (by omega)]
      rfl
    have eld : ldN (ρ 0) p' (nG (ρ 0)) = ldN r p' (nG r) := by
      have hq : ∀ q, q < 1182 → q ≠ 1 → ρ 0 q = r q := fun q h1 h2 => by rw [h0 q h1, pk_un h2]
      have eG : nG (ρ 0) = nG r := nG_cg (hq 6 (by omega) (by omega))
      rw [eG]
      refine sumN_cg (fun g hg => ?_)
      have h16 := (ho.1.2.1 g hg).2.1
      have eg : ∀ k, k < 6 → gO (ρ 0) g k = gO r g k := fun k hk => hq _ (by omega) (by omega)
      have ef : ∀ f k, f < 16 → k < 5 → fO (ρ 0) g f k = fO r g f k := fun f k hf hk => hq _ (by omega) (by omega)
      have eF : nF (ρ 0) g = nF r g := nF_cg (eg 5 (by omega))
      have eo : opB (ρ 0) g = opB r g := by unfold opB; rw [eg 3 (by omega), eg 4 (by omega)]
      rw [eo, eF]
      have eu : unN (ρ 0) g (nF r g) p' = unN r g (nF r g) p' := sumN_cg (fun f hf => by rw [ef f 0 (by omega) (by omega), ef f 1 (by omega) (by omega), ef f 3 (by omega) (by omega)])
      rw [eu]
    have hopen := bound_open hok0 (md := none) trivial (by have := hp.1; omega) hc p1 (by
      have := hp.1
      rw [ecap, eld]
      have := Nat.mul_le_mul_right (vN (capR r p')) this
      omega) n (Nat.le_refl _)
    rcases hp.2.2 with ⟨q1, -⟩ | ⟨-, -, q3⟩
    · omega
    · rw [q3]
  | false =>
    rw [if_pos (by decide), o3_0 h3]
    obtain ⟨V2, g1, g2, g3⟩ := c_stCopy (b := b) (W := V1) (i := 7) (j := 0) (by omega) (by omega) (by omega) (hs.fr e2' (fnQ_S (by omega))) ho
    have h77 : vo 7 7 0 = true := rfl
    rw [ob2_i g1, o3_0 h3, p7_1 h77]
    have s1 := stR_ok ho1 (stR_set (k := 1) (v := nI p) (by omega) g3) h0
    obtain ⟨V3, r1, r2⟩ := c_runL (b := b) (W := wsI V2 7 7 0 1 (nI p)) (md := none) (F := V2.2.1 8 1 0 4) hok0 trivial hT hc hp rfl (show ¬ ρ 0 1 = 6 by
      rw [h0 1 (by omega), pk_us]
      exact ne_p (b := 6) (by omega) (by omega) (by omega)) s1
    rw [ob2_i r1]
    refine ⟨V3, rfl, ((e2'.tr (g2.mono (fun c i g k q => cp_fn q))).tr (frQ.I (Or.inr (Or.inr ⟨rfl, by unfold inS; omega⟩)))).tr (r2.mono (fun c i g k q => tk_fn q))⟩
/-- the end of a group -/
theorem c_endOf {ρ : Nat → Nat → Int32} {n g : Nat} (hs : stR W 0 r) (ho : okR r T) (hT : T + 1000 ≤ 900000) (h6 : ¬ r 1 = 6) (hg : g < nG r) (h0 : ∀ q, q < 1182 → ρ 0 q = r q) (hc : chn none ρ n) (hp : outP g ρ n) : ∃ V, f_X3_endOf (b + ad 3 0 0) (b + ad 7 0 0) (nI g) (wd b W) = some (gO (ρ n) g 3, wd b V) ∧ frQ fnQ W V := by
  have h12 := ho.1.1.2
  have h77 : vo 7 7 0 = true := rfl
  have hok0 : okR (ρ 0) T := okR_cg ho h0
  have hv4 := vo4 (i := 7) (g := g) (by omega) (by omega)
  unfold f_X3_endOf
  obtain ⟨V2, g1, g2, g3⟩ := c_stCopy (b := b) (W := W) (i := 7) (j := 0) (by omega) (by omega) (by omega) hs ho
  have s1 := stR_ok ho g3 h0
  have eG := nG_q h0
  rw [oO_3 h3, o3_0 h3, ob2_i g1, o3_0 h3, o7_10 h77, oa7_10 h77 (by omega), ob2_i (c_isOpen (b := b) (r := ρ 0) hv4 (s1.2.2.2.1 g (by omega)).1)]
  obtain ⟨V3, r1, r2⟩ := c_endL (b := b) (W := V2) hok0 hT hc hp (by omega) (by rw [h0 1 (by omega)]; exact h6) s1
  refine ⟨V3, r1, (g2.mono (fun c i g k q => cp_fn q)).tr (r2.mono (fun c i g k q => tk_fn q))⟩
/-- the next tick's plan -/
theorem c_planTick (hs : stR W 0 r) (ho : okR r T) (hT : T ≤ 900000) (h6 : ¬ r 1 = 6) : ∃ V, f_X3_planTick (b + ad 3 0 0) (b + ad 7 0 0) (wd b W) = some ((), wd b V) ∧ frQ fnQ W V ∧ V.1 8 1 0 0 = nI (ordOf none r).1 ∧ (∀ x, x < (ordOf none r).1 → V.2.1 8 1 0 1 x = nI ((ordOf none r).2 x)) ∧ (∀ p, p < 16 → V.2.1 8 1 0 3 p = finA r true (ordOf none r).1 (ordOf none r).2 p) ∧ (∀ g f, g < nG r → f < nF r g → V.2.1 1 7 g 5 f = finR r true (ordOf none r).1 (ordOf none r).2 g f) ∧ ∀ x, x < (ordOf none r).1 → V.2.1 8 1 0 2 ((ordOf none r).2 x) = (gvS r true (ordOf none r).2 (ordOf none r).1).2.2 ((ordOf none r).2 x) := by
  have hC := ordOf_C (md := none) ho trivial
  unfold f_X3_planTick
  obtain ⟨V2, g1, g2, g3⟩ := c_stCopy (b := b) (W := W) (i := 7) (j := 0) (by omega) (by omega) (by omega) hs ho
  obtain ⟨V3, e1, e2, e3, e4, -⟩ := c_putInOrder (b := b) (W := V2) (t := 1) (i := 7) (F := V2.2.1 8 1 0 4) h8 (by omega) g3 ho rfl
  rw [ord_eq ho hT h6] at e3 e4
  have s3 : stR V3 7 r := g3.fr e2 ordQ_S
  have o0 : V3.1 8 1 0 0 = nI (ordOf none r).1 := e3
  have o1 : ∀ x, x < (ordOf none r).1 → V3.2.1 8 1 0 1 x = nI ((ordOf none r).2 x) := e4
  obtain ⟨V4, p1, p2⟩ := c_give (b := b) (W := V3) (t := 1) (i := 7) h8 (by omega) s3.a ho hT hC o0 o1
  obtain ⟨V5, q1, q2, q3, q4, q5⟩ := c_share (b := b) (W := V4) (t := 1) (i := 7) (W0 := V3) h8 (by omega) s3.a ho hT hC o0 o1 p2
  rw [oO_3 h3, o3_0 h3, ob2_i g1, o3_1 h3, o3_0 h3, ob2_i e1, o3_1 h3, o3_0 h3, ob2_i p1, o3_1 h3, o3_0 h3, ob2_i q1]
  refine ⟨V5, rfl, ((g2.mono (fun c i g k q => cp_fn q)).tr (e2.mono (fun c i g k q => Or.inl ⟨q.1, q.2.1⟩))).tr (q2.mono (fun c i g k q => ?_)), by rw [q2.1 8 1 0 0 (by unfold raQ; omega)]; exact o0, fun x hx => by rw [q2.2.1 8 1 0 1 (by unfold raQ; omega)]; exact o1 x hx, q3, q4, q5⟩
  rcases q with ⟨w1, w2, w3⟩ | ⟨w1, w2, w3⟩
  · exact Or.inl ⟨w1, w2⟩
  · exact Or.inr (Or.inr ⟨w2, by unfold inS; omega⟩)
theorem c_listOpen (hs : stA W 0 r) (ho : okR r T) (h4 : opN r (nG r) ≤ 4) : ∃ V, f_X3_listOpen (b + ad 3 0 0) (b + ad 7 0 0) (wd b W) = some (nI (opN r (nG r)), wd b V) ∧ frQ (fun c _ _ k => c = 3 ∧ k = 6) W V ∧ ∀ x, x < opN r (nG r) → V.2.1 3 0 0 6 x = nI ((opl r (nG r)).2 x) := by
  have h12 := ho.1.1.2
  have hv7 : vo 7 0 0 = true := rfl
  have e1 := opl_1 r
  unfold f_X3_listOpen
  rw [oO_3 h3]
  refine loopX (fun m g (V : WD) => f_X3_listOpen_L4 (b + ad 3 0 0) (b + ad 7 0 0) (fun v11 N12 => some (v11, N12)) m (nI (opl r g).1) (nI g) (wd b V)) (nG r) (fun g V => frQ (fun c _ _ k => c = 3 ∧ k = 6) W V ∧ ∀ x, x < (opl r g).1 → V.2.1 3 0 0 6 x = nI ((opl r g).2 x)) (fun y => ∃ V, y = some (nI (opN r (nG r)), wd b V) ∧ frQ (fun c _ _ k => c = 3 ∧ k = 6) W V ∧ ∀ x, x < opN r (nG r) → V.2.1 3 0 0 6 x = nI ((opl r (nG r)).2 x)) ?_ ?_ FU 0 W (by omega) (by have := FUgt; omega) ⟨frQ.rf, fun x hx => absurd hx (Nat.not_lt_zero x)⟩
  · intro m g V hg ⟨k1, k2⟩
    have hsV : stA V 0 r := hs.fr k1 (fun c g k q => by omega)
    have hv4 := vo4 (i := 0) (g := g) (by omega) (by omega)
    obtain ⟨w1, w2⟩ := opl_keep r (g := g) (nG r) (by omega)
    rw [e1 (nG r)] at w1
    try dsimp only
    rw [f_X3_listOpen_L4, o7_6 hv7, hsV.1 6 (by omega), ho.1.1.1, if_neg (le_n hg (by omega))]
    rcases Nat.lt_or_ge (opl r g).1 4 with hl | hl
    · left
      rw [if_neg (show ¬ (4 : Int32) ≤ nI (opl r g).1 from le_n (a := 4) hl (by omega)), o7_10 hv7, oa7_10 hv7 (by omega), ob2_i (c_isOpen (b := b) hv4 (hsV.2.2 g hg).1), nI_1, opl]
      cases hop : opB r g with
      | false =>
        rw [if_pos (show bI false = 0 by decide), if_neg (show ¬ false = true by decide)]
        exact ⟨V, ⟨k1, k2⟩, rfl⟩
      | true =>
        rw [if_neg (show ¬ bI true = 0 by decide), if_pos (show true = true from rfl), o3_6 h3, ot3_6 h3 hl, nI_1]
        refine ⟨_, ⟨k1.tr (frQ.A ⟨rfl, rfl⟩), fun x hx => ?_⟩, rfl⟩
        simp only at hx ⊢
        rw [wsA_r]
        by_cases z : x = (opl r g).1
        · rw [if_pos z, z, pk_us]
        · rw [if_neg z, pk_un z]
          exact k2 x (by omega)
    · right
      have hK : (opl r g).1 = opN r (nG r) := by omega
      rw [if_pos (show (4 : Int32) ≤ nI (opl r g).1 from le_p (a := 4) hl (by omega)), hK]
      exact ⟨V, rfl, k1, fun x hx => by rw [w2 x (by omega)]; exact k2 x (by omega)⟩
  · intro m V ⟨k1, k2⟩
    have hsV : stA V 0 r := hs.fr k1 (fun c g k q => by omega)
    try dsimp only
    rw [f_X3_listOpen_L4, o7_6 hv7, hsV.1 6 (by omega), ho.1.1.1, if_pos (le_p (Nat.le_refl _) (by omega)), e1]
    exact ⟨V, rfl, k1, by rw [← e1]; exact k2⟩
theorem c_setUp {fx P : Nat → Nat} {K : Nat} (hs : stR W 0 r) (ho : okR r T) (hf : fixK r fx P K) (h6 : ∀ x, x < K → W.2.1 3 0 0 6 x = nI (fx x)) : ∃ V, f_X3_setUpTrial (b + ad 3 0 0) (b + ad 7 0 0) (nI K) (wd b W) = some ((), wd b V) ∧ frQ (fun c i g k => cpQ 7 c i g k ∨ (c = 8 ∧ i = 1 ∧ k = 4)) W V ∧ stR V 7 (mdf r) ∧ ∀ k, k < K → V.2.1 8 1 0 4 (fx k) = nI k := by
  have h12 := ho.1.1.2
  have h77 : vo 7 7 0 = true := rfl
  obtain ⟨f1, f2, f3⟩ := hf
  unfold f_X3_setUpTrial
  obtain ⟨V2, g1, g2, g3⟩ := c_stCopy (b := b) (W := W) (i := 7) (j := 0) (by omega) (by omega) (by omega) hs ho
  rw [oO_3 h3, o3_0 h3, ob2_i g1, o3_0 h3, p7_3 h77 (Or.inl rfl), o3_0 h3, p7_1 h77]
  generalize hV3 : wsI (wsI V2 7 7 0 3 0) 7 7 0 1 6 = V3
  have s3 : stR V3 7 (mdf r) := by
    rw [← hV3, ← mdf_upd]
    exact stR_set (by omega) (stR_set (by omega) g3)
  have f3' : frQ (fun c i g k => cpQ 7 c i g k ∨ (c = 8 ∧ i = 1 ∧ k = 4)) W V3 := by
    rw [← hV3]
    exact ((g2.mono (fun c i g k q => Or.inl q)).tr (frQ.I (Or.inl ⟨rfl, by unfold inS; omega⟩))).tr (frQ.I (Or.inl ⟨rfl, by unfold inS; omega⟩))
  have t6 : ∀ x, x < K → V3.2.1 3 0 0 6 x = nI (fx x) := fun x hx => by
    rw [f3'.2.1 3 0 0 6 (by unfold cpQ inS; omega)]
    exact h6 x hx
  have inj : ∀ x y, x < K → y < K → fx x = fx y → x = y := fun x y hx hy he => by
    rw [← (f2 x hx).2, ← (f2 y hy).2, he]
  refine loopE (fun m j (V : WD) => f_X3_setUpTrial_L27 (b + ad 3 0 0) (nI K) (fun N13 => some ((), N13)) m (nI j) (wd b V)) K (fun j V => frQ (fun c i _ k => c = 8 ∧ i = 1 ∧ k = 4) V3 V ∧ ∀ k, k < j → V.2.1 8 1 0 4 (fx k) = nI k) (fun y => ∃ V, y = some ((), wd b V) ∧ frQ (fun c i g k => cpQ 7 c i g k ∨ (c = 8 ∧ i = 1 ∧ k = 4)) W V ∧ stR V 7 (mdf r) ∧ ∀ k, k < K → V.2.1 8 1 0 4 (fx k) = nI k) ?_ ?_ FU 0 V3 (by omega) (by have := FUgt; omega) ⟨frQ.rf, fun k hk => absurd hk (Nat.not_lt_zero k)⟩
  · intro m j V hj ⟨k1, k2⟩
    have hfx := (f2 j hj).1
    try dsimp only
    rw [f_X3_setUpTrial_L27, if_neg (le_n hj (by omega)), o3_1 h3, o8_4 h8, o3_6 h3, oa3_6 h3 (by omega), k1.2.1 3 0 0 6 (by omega), t6 j hj, ot8_4 h8 (by omega), nI_1]
    refine ⟨_, ⟨k1.tr (frQ.A ⟨rfl, rfl, rfl⟩), fun k hk => ?_⟩, rfl⟩
    rw [wsA_r]
    by_cases z : k = j
    · rw [z, pk_us]
    · rw [pk_un (fun q => z (inj k j (by omega) hj q))]
      exact k2 k (by omega)
  · intro m V ⟨k1, k2⟩
    try dsimp only
    rw [f_X3_setUpTrial_L27, if_pos (le_p (Nat.le_refl _) (by omega))]
    exact ⟨V, rfl, f3'.tr (k1.mono (fun c i g k q => Or.inr q)), s3.fr k1 (fun c g k q => by unfold inS at q; omega), k2⟩
theorem c_isLess {x y : Int32} {N : AH} : f_X9_isLess x y N = some (bI (decide (¬ x = -1 ∧ (y = -1 ∨ x < y))), N) := by
  unfold f_X9_isLess
  by_cases h1 : x = -1
  · rw [if_pos h1]
    simp [h1, bI]
  · rw [if_neg h1]
    by_cases h2 : y = -1
    · rw [if_pos h2]
      simp [h1, h2, bI]
    · rw [if_neg h2]
      by_cases h3 : y ≤ x
      · have h4 : ¬ x < y := Int32.not_lt.mpr h3
        rw [if_pos h3]
        simp [h1, h2, h4, bI]
      · have h4 : x < y := Int32.not_le.mp h3
        rw [if_neg h3]
        simp [h1, h2, h4, bI]
theorem c_findBest {v : Int32} {bj : Nat} (hs : stR W 0 r) (ho : okR r T) (hT : T + 300 ≤ 900000) (h1 : 1 ≤ opN r (nG r)) (h4 : opN r (nG r) ≤ 4) (h5 : W.1 3 0 0 5 = 0) (hb : BO r v bj) : ∃ V, f_X3_findBestOrder (b + ad 3 0 0) (b + ad 7 0 0) (wd b W) = some ((), wd b V) ∧ frQ (fun c i g k => foQ c i g k ∨ c = 3) W V ∧ V.1 3 0 0 3 = v ∧ V.1 3 0 0 5 = 1 ∧ ∀ x, x < opN r (nG r) → V.2.1 3 0 0 4 x = nI (oJ r bj x) := by
  have h12 := ho.1.1.2
  obtain ⟨c1, c2⟩ := fct_le h1 h4
  obtain ⟨τ, b1, b2⟩ := hb
  unfold f_X3_findBestOrder
  obtain ⟨V1, e1, e2, e3⟩ := c_listOpen (b := b) (W := W) hs.a ho h4
  have e2' : frQ foQ W V1 := e2.mono (fun c i g k q => Or.inl ⟨q.1, by omega⟩)
  rw [oO_3 h3, o3_5 h3, h5, if_pos rfl, ob2_i e1, p3_3 h3, o3_6 h3, o3_4 h3, li 4, ob_i (gA_copy isA_3_6 isA_3_4 (Nat.le_refl _) (Nat.le_refl _)), o3_2 h3]
  generalize hV2 : wsA (wsI V1 3 0 0 3 (-1)) 3 0 0 4 (va_cpy ((wsI V1 3 0 0 3 (-1)).2.1 3 0 0 6) ((wsI V1 3 0 0 3 (-1)).2.1 3 0 0 4) 0 0 4) = V2
  have f2 : frQ foQ W V2 := by
    rw [← hV2]
    exact (e2'.tr (frQ.I (Or.inl ⟨rfl, by omega⟩))).tr (frQ.A (Or.inl ⟨rfl, by omega⟩))
  have s2 : stR V2 0 r := hs.fr f2 (foQ_S (by omega))
  have t3 : V2.1 3 0 0 3 = -1 := by rw [← hV2, wsA_1, wsI_r]
  have t6 : ∀ x, x < opN r (nG r) → V2.2.1 3 0 0 6 x = nI (oJ r 0 x) := fun x hx => by
    rw [← hV2, wsA_k _ (by decide), wsI_A, e3 x hx]
    unfold oJ
    rw [pS_0 h1 h4 x hx]
  have t4 : ∀ x, x < opN r (nG r) → V2.2.1 3 0 0 4 x = nI (oJ r 0 x) := fun x hx => by
    rw [← t6 x hx, ← hV2, wsA_r, wsA_k _ (by decide), pk_cpy_in (by omega) (by omega), show 0 + (x - 0) = x by omega]
  obtain ⟨c, V3, n1, n2, n3⟩ := c_needMore (b := b) (W := V2) (i := 0) (r := r) h61 (by omega) s2.a ho
  have f3 : frQ foQ W V3 := f2.tr (n2.mono (fun c i g k q => ld_fo q))
  have w3 : V3.1 3 0 0 3 = -1 := by rw [n2.1 3 0 0 3 (by unfold ldQ; omega), t3]
  have w6 : ∀ x, x < opN r (nG r) → V3.2.1 3 0 0 6 x = nI (oJ r 0 x) := fun x hx => by rw [n2.2.1 3 0 0 6 (by unfold ldQ; omega)]; exact t6 x hx
  have w4 : ∀ x, x < opN r (nG r) → V3.2.1 3 0 0 4 x = nI (oJ r 0 x) := fun x hx => by rw [n2.2.1 3 0 0 4 (by unfold ldQ; omega)]; exact t4 x hx
  rw [ob2_i n1]
  have fin : ∀ (V : WD), frQ foQ W V → V.1 3 0 0 3 = v → (∀ x, x < opN r (nG r) → V.2.1 3 0 0 4 x = nI (oJ r bj x)) → ∃ V', (ob (pZ (wd b V) (b + ad 3 0 0) 3 5 (1 : Int32)) fun N31 => some ((), N31)) = some ((), wd b V') ∧ frQ (fun c i g k => foQ c i g k ∨ c = 3) W V' ∧ V'.1 3 0 0 3 = v ∧ V'.1 3 0 0 5 = 1 ∧ ∀ x, x < opN r (nG r) → V'.2.1 3 0 0 4 x = nI (oJ r bj x) := by
    intro V q1 q2 q3
    rw [p3_5 h3 (Or.inr rfl)]
    exact ⟨_, rfl, (q1.mono (fun c i g k q => Or.inl q)).tr (frQ.I (Or.inr rfl)), by rw [wsI_k _ (by decide)]; exact q2, by rw [wsI_r], q3⟩
  cases c with
  | true =>
    rw [if_pos (by decide)]
    obtain ⟨p, p1, p2⟩ := n3 rfl
    have hnone : ∀ j, j < fct (opN r (nG r)) → τ j = -1 := by
      intro j hj
      obtain ⟨ρ, n, a1, a2, a3⟩ := b1 j hj
      obtain ⟨P, hP⟩ := oJ_fix h1 h4 hj
      have eG : nG (ρ 0) = nG r := nG_q a1
      have hv : mdV (some (oJ r j, opN r (nG r))) (ρ 0) := ⟨P, hP.1, fun k hk => by rw [eG]; exact hP.2.1 k hk, fun g hg hop => by
        rw [eG] at hg
        rw [opB_cg a1 (by omega)] at hop
        exact hP.2.2 g hg hop⟩
      have eld : ldN (ρ 0) p (nG (ρ 0)) = ldN r p (nG r) := by
        rw [eG]
        refine sumN_cg (fun g hg => ?_)
        have h16 := (ho.1.2.1 g hg).2.1
        have ef : ∀ f k, f < 16 → k < 5 → fO (ρ 0) g f k = fO r g f k := fun f k hf hk => a1 _ (by omega)
        have eF : nF (ρ 0) g = nF r g := nF_cg (a1 _ (by omega))
        rw [opB_cg a1 (by omega), eF]
        have eu : unN (ρ 0) g (nF r g) p = unN r g (nF r g) p := sumN_cg (fun f hf => by rw [ef f 0 (by omega) (by omega), ef f 1 (by omega) (by omega), ef f 3 (by omega) (by omega)])
        rw [eu]
      have ecap : capR (ρ 0) p = capR r p := a1 _ (by omega)
      have hopen := bound_open (okR_cg ho a1) hv (by have := a3.1; omega) a2 p1 (by
        have := a3.1
        rw [ecap, eld]
        have := Nat.mul_le_mul_right (vN (capR r p)) this
        omega) n (Nat.le_refl _)
      rcases a3.2.2 with ⟨q1, -⟩ | ⟨-, -, q3⟩
      · omega
      · exact q3
    rw [bsF_none _ hnone] at b2
    obtain ⟨rfl, rfl⟩ := Prod.mk.inj b2
    obtain ⟨m, hm⟩ : ∃ m, FU = m + 1 := ⟨4095, rfl⟩
    rw [hm, f_X3_findBestOrder_L56, if_neg (by decide), if_pos rfl]
    exact fin V3 f3 w3 w4
  | false =>
    rw [if_neg (by decide)]
    have key := loopX (fun m j (V : WD) => f_X3_findBestOrder_L56 (b + ad 3 0 0) (b + ad 7 0 0) (nI (opN r (nG r))) (fun N32 => ob (pZ N32 (b + ad 3 0 0) 3 5 (1 : Int32)) (fun N33 => some ((), N33))) m (bI (decide (j < fct (opN r (nG r))))) (nI j) (wd b V)) (fct (opN r (nG r))) (fun j V => frQ foQ W V ∧ V.1 3 0 0 3 = (bsF τ j).1 ∧ (j < fct (opN r (nG r)) → ∀ x, x < opN r (nG r) → V.2.1 3 0 0 6 x = nI (oJ r j x)) ∧ ∀ x, x < opN r (nG r) → V.2.1 3 0 0 4 x = nI (oJ r (bsF τ j).2 x)) (fun y => ∃ V', y = some ((), wd b V') ∧ frQ (fun c i g k => foQ c i g k ∨ c = 3) W V' ∧ V'.1 3 0 0 3 = v ∧ V'.1 3 0 0 5 = 1 ∧ ∀ x, x < opN r (nG r) → V'.2.1 3 0 0 4 x = nI (oJ r bj x)) ?_ ?_ FU 0 V3 (by omega) (by have := FUgt; omega) ⟨f3, w3, fun _ => w6, w4⟩
    · have e : decide (0 < fct (opN r (nG r))) = true := by simp; omega
      try dsimp only at key
      rw [e] at key
      exact key
    · intro m j V hj ⟨k1, k2, k3, k4⟩
      left
      have k3' := k3 hj
      have sV : stR V 0 r := hs.fr k1 (foQ_S (by omega))
      obtain ⟨P, hP⟩ := oJ_fix h1 h4 hj
      obtain ⟨ρ, n, a1, a2, a3⟩ := b1 j hj
      obtain ⟨V4, u1, u2, u3, u4⟩ := c_setUp (b := b) (W := V) sV ho hP k3'
      have eG : nG (ρ 0) = nG r := nG_q a1
      have hv : mdV (some (oJ r j, opN r (nG r))) (ρ 0) := ⟨P, hP.1, fun k hk => by rw [eG]; exact hP.2.1 k hk, fun g hg hop => by
        rw [eG] at hg
        rw [opB_cg a1 (by omega)] at hop
        exact hP.2.2 g hg hop⟩
      have s4 : stR V4 7 (mdf (ρ 0)) := stR_ok (mdf_okR ho) u3 (fun q hq => by
        unfold mdf
        split
        · rfl
        · split
          · rfl
          · exact a1 q hq)
      obtain ⟨V5, x1, x2⟩ := c_runL (b := b) (W := V4) (md := some (oJ r j, opN r (nG r))) (F := V4.2.1 8 1 0 4) (okR_cg ho a1) hv hT a2 a3 rfl u4 s4
      have u2' : frQ foQ V V4 := u2.mono (fun c i g k q => by
        rcases q with q | q
        · exact cp_fo q
        · exact Or.inr (Or.inl ⟨q.1, q.2.1⟩))
      have f5 : frQ foQ W V5 := (k1.tr u2').tr (x2.mono (fun c i g k q => tk_fo q))
      have v3 : V5.1 3 0 0 3 = (bsF τ j).1 := by rw [x2.1 3 0 0 3 (by unfold tkQ inS; omega), u2.1 3 0 0 3 (by unfold cpQ inS; omega), k2]
      have v6 : ∀ x, x < opN r (nG r) → V5.2.1 3 0 0 6 x = nI (oJ r j x) := fun x hx => by rw [x2.2.1 3 0 0 6 (by unfold tkQ inS; omega), u2.2.1 3 0 0 6 (by unfold cpQ inS; omega)]; exact k3' x hx
      have v4 : ∀ x, x < opN r (nG r) → V5.2.1 3 0 0 4 x = nI (oJ r (bsF τ j).2 x) := fun x hx => by rw [x2.2.1 3 0 0 4 (by unfold tkQ inS; omega), u2.2.1 3 0 0 4 (by unfold cpQ inS; omega)]; exact k4 x hx
      obtain ⟨n1', n2'⟩ := oJ_nx h1 h4 hj
      have e24 : ¬ (24 : Int32) ≤ nI j := le_n (a := 24) (by omega) (by omega)
      have stepE : bsF τ (j + 1) = if ¬ τ j = -1 ∧ ((bsF τ j).1 = -1 ∨ τ j < (bsF τ j).1) then (τ j, j) else bsF τ j := rfl
      try dsimp only
      rw [f_X3_findBestOrder_L56, if_neg e24, show decide (j < fct (opN r (nG r))) = true by simp [hj], if_neg (show ¬ bI true = 0 by decide), ob2_i u1, ob2_i x1, o3_3 h3, v3, ob2_i c_isLess]
      by_cases hbt : ¬ τ j = -1 ∧ ((bsF τ j).1 = -1 ∨ τ j < (bsF τ j).1)
      · rw [show decide (¬ τ j = -1 ∧ ((bsF τ j).1 = -1 ∨ τ j < (bsF τ j).1)) = true by rw [decide_eq_true_eq]; exact hbt, if_neg (show ¬ bI true = 0 by decide), p3_3 h3, o3_6 h3, o3_4 h3, li 4, ob_i (gA_copy isA_3_6 isA_3_4 (Nat.le_refl _) (Nat.le_refl _))]
        generalize hV6 : wsA (wsI V5 3 0 0 3 (τ j)) 3 0 0 4 (va_cpy ((wsI V5 3 0 0 3 (τ j)).2.1 3 0 0 6) ((wsI V5 3 0 0 3 (τ j)).2.1 3 0 0 4) 0 0 4) = V6
        have g6 : ∀ x, x < opN r (nG r) → V6.2.1 3 0 0 6 x = nI (oJ r j x) := fun x hx => by rw [← hV6, wsA_k _ (by decide), wsI_A]; exact v6 x hx
        obtain ⟨A, z1, z2⟩ := c_next (b := b) (W := V6) (fx := oJ r j) h1 h4 (oJ_lt h1 h4 h12 hj) g6
        rw [ob2_i z1, n1', nI_1]
        refine ⟨wsA V6 3 0 0 6 A, ⟨?_, ?_, fun hj2 x hx => ?_, fun x hx => ?_⟩, rfl⟩
        · rw [← hV6]
          exact ((f5.tr (frQ.I (Or.inl ⟨rfl, by omega⟩))).tr (frQ.A (Or.inl ⟨rfl, by omega⟩))).tr (frQ.A (Or.inl ⟨rfl, by omega⟩))
        · rw [stepE, if_pos hbt, wsA_1, ← hV6, wsA_1, wsI_r]
        · rw [wsA_r, z2 x hx, n2' hj2 x hx]
        · rw [stepE, if_pos hbt, wsA_k _ (by decide), ← hV6, wsA_r, wsI_A, pk_cpy_in (by omega) (by omega), show 0 + (x - 0) = x by omega]
          exact v6 x hx
      · rw [show decide (¬ τ j = -1 ∧ ((bsF τ j).1 = -1 ∨ τ j < (bsF τ j).1)) = false by rw [decide_eq_false_iff_not]; exact hbt, if_pos (show bI false = 0 by decide)]
        obtain ⟨A, z1, z2⟩ := c_next (b := b) (W := V5) (fx := oJ r j) h1 h4 (oJ_lt h1 h4 h12 hj) v6
        rw [ob2_i z1, n1', nI_1]
        refine ⟨wsA V5 3 0 0 6 A, ⟨f5.tr (frQ.A (Or.inl ⟨rfl, by omega⟩)), ?_, fun hj2 x hx => ?_, fun x hx => ?_⟩, rfl⟩
        · rw [stepE, if_neg hbt]; exact v3
        · rw [wsA_r, z2 x hx, n2' hj2 x hx]
        · rw [stepE, if_neg hbt, wsA_k _ (by decide)]
          exact v4 x hx
    · intro m V ⟨k1, k2, k3, k4⟩
      try dsimp only
      rw [← b2] at k2 k4
      rw [f_X3_findBestOrder_L56, show decide (fct (opN r (nG r)) < fct (opN r (nG r))) = false by simp]
      by_cases h24 : (24 : Int32) ≤ nI (fct (opN r (nG r)))
      · rw [if_pos h24]
        exact fin V k1 k2 k4
      · rw [if_neg h24, if_pos (show bI false = 0 by decide)]
        exact fin V k1 k2 k4
end
