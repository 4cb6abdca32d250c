/-! rules, draft, flows -/
theorem upd_lo {r r' : Nat → Int32} {k n : Nat} {v : Int32} (h : ∀ q, q < n → r' q = r q) : ∀ q, q < n → upd r' k v q = upd r k v q := by
  intro q hq
  by_cases w : q = k
  · rw [w, pk_us, pk_us]
  · rw [pk_un w, pk_un w, h q hq]
theorem okR_d {r r' : Nat → Int32} {T : Nat} (h : okR r T) (hq : ∀ q, q < 1182 → q ≠ 7 → ¬ (42 ≤ q ∧ q < 90) → r' q = r q) (hd : dfK r') : okR r' T := by
  obtain ⟨⟨⟨g1, g2⟩, g3, g4⟩, k2, k3, k4, ⟨k5, k5'⟩, k6, k7, k8⟩ := h
  have eq' : ∀ q, q < 42 → q ≠ 7 → r' q = r q := fun q h1 h2 => hq q (by omega) h2 (by omega)
  have eG : nG r' = nG r := nG_cg (eq' 6 (by omega) (by omega))
  have eg : ∀ g k, g < 12 → k < 6 → gO r' g k = gO r g k := fun g k hg hk => hq _ (by omega) (by omega) (by omega)
  have ef : ∀ g f k, g < 12 → f < 16 → k < 5 → fO r' g f k = fO r g f k := fun g f k hg hf hk => hq _ (by omega) (by omega) (by omega)
  have eF : ∀ g, g < 12 → nF r' g = nF r g := fun g hg => nF_cg (eg g 5 hg (by omega))
  have ec : ∀ p, p < 16 → capR r' p = capR r p := fun p hp => eq' _ (by omega) (by omega)
  refine ⟨⟨⟨by rw [eG, eq' 6 (by omega) (by omega)]; exact g1, by rw [eG]; exact g2⟩, fun g hg => ?_, fun p hp => by rw [ec p hp]; exact g4 p hp⟩, by rw [eq' 0 (by omega) (by omega)]; exact k2, ?_, by rw [eG, eq' 5 (by omega) (by omega)]; exact k4, ⟨by rw [eq' 1 (by omega) (by omega)]; exact k5, hd⟩, by rw [eq' 2 (by omega) (by omega), eq' 3 (by omega) (by omega)]; exact k6, fun p hp => by rw [ec p hp]; exact k7 p hp, fun g hg => ?_⟩
  · rw [eG] at hg
    have hk := g3 g hg
    have h16 := hk.2.1
    rw [eF g (by omega)]
    refine ⟨by rw [eg g 5 (by omega) (by omega)]; exact hk.1, h16, fun f hf => ?_⟩
    rw [ef g f 0 (by omega) (by omega) (by omega), ef g f 1 (by omega) (by omega) (by omega), ef g f 3 (by omega) (by omega) (by omega)]
    exact hk.2.2 f hf
  · unfold okE nE
    rw [eq' 8 (by omega) (by omega)]
    exact k3
  · rw [eG] at hg
    have h16 := (g3 g hg).2.1
    obtain ⟨c1, c2, c3, c4, c5, c6⟩ := k8 g hg
    unfold grK
    rw [eF g (by omega), eg g 0 (by omega) (by omega), eg g 1 (by omega) (by omega), eg g 2 (by omega) (by omega), eg g 3 (by omega) (by omega), eg g 4 (by omega) (by omega)]
    refine ⟨c1, c2, c3, c4, fun f hf => ?_, ?_⟩
    · rw [ef g f 2 (by omega) (by omega) (by omega), ef g f 3 (by omega) (by omega) (by omega)]
      exact c5 f hf
    · rcases c6 with ⟨q1, f, f1, f2⟩ | ⟨q1, q2, q3⟩
      · exact Or.inl ⟨q1, f, f1, by rw [ef g f 3 (by omega) (by omega) (by omega)]; exact f2⟩
      · exact Or.inr ⟨q1, q2, fun f hf => by rw [ef g f 3 (by omega) (by omega) (by omega)]; exact q3 f hf⟩
theorem stR_d {W V : WD} {i T : Nat} {r r' : Nat → Int32} (ho : okR r T) (h : stR W i r) (hf : frQ (fun c i' _ _ => c = 11 ∧ i' = i) W V) (hq : ∀ q, q < 1182 → q ≠ 7 → ¬ (42 ≤ q ∧ q < 90) → r' q = r q) (hd : dfR V i r') : stR V i r' := by
  obtain ⟨a1, a2, a3, a4, a5⟩ := h
  have h12 := ho.1.1.2
  have hE := ho.2.2.1.2
  have eq' : ∀ q, q < 42 → q ≠ 7 → r' q = r q := fun q h1 h2 => hq q (by omega) h2 (by omega)
  have eG : nG r' = nG r := nG_cg (eq' 6 (by omega) (by omega))
  have eE : nE r' = nE r := by unfold nE; rw [eq' 8 (by omega) (by omega)]
  have eg : ∀ g k, g < 12 → k < 6 → gO r' g k = gO r g k := fun g k hg hk => hq _ (by omega) (by omega) (by omega)
  have ef : ∀ g f k, g < 12 → f < 16 → k < 5 → fO r' g f k = fO r g f k := fun g f k hg hf hk => hq _ (by omega) (by omega) (by omega)
  have eF : ∀ g, g < 12 → nF r' g = nF r g := fun g hg => nF_cg (eg g 5 hg (by omega))
  refine ⟨fun j hj => ?_, fun p hp => ?_, hd, fun g hg => ?_, ?_⟩
  · rw [hf.1 7 i 0 j (by omega), eq' j (by omega) (by omega)]
    exact a1 j hj
  · rw [hf.2.1 7 i 0 7 (by omega), hf.2.1 7 i 0 8 (by omega), eq' (10 + p) (by omega) (by omega), eq' (26 + p) (by omega) (by omega)]
    exact a2 p hp
  · rw [eG] at hg
    have h16 := (ho.1.2.1 g hg).2.1
    obtain ⟨b1, b2, b3⟩ := (a4 g hg).fr hf (fun c k hc => by omega)
    refine ⟨fun j hj => by rw [eg g j (by omega) (by omega)]; exact b1 j hj, ⟨by rw [eg g 5 (by omega) (by omega)]; exact b2.1, fun f hf2 => ?_⟩, fun f hf2 => ?_⟩
    · rw [eF g (by omega)] at hf2
      rw [ef g f 0 (by omega) (by omega) (by omega), ef g f 1 (by omega) (by omega) (by omega), ef g f 2 (by omega) (by omega) (by omega), ef g f 3 (by omega) (by omega) (by omega)]
      exact b2.2 f hf2
    · rw [eF g (by omega)] at hf2
      rw [ef g f 4 (by omega) (by omega) (by omega)]
      exact b3 f hf2
  · obtain ⟨l1, n, l2, l3, l4⟩ := a5.fr hf (fun k => by omega)
    refine ⟨by rw [eq' 8 (by omega) (by omega)]; exact l1, n, l2, l3, fun q hq2 => ?_⟩
    rw [eE] at hq2 ⊢
    rw [l4 q hq2]
    unfold ev1
    rw [hq (1122 + 3 * q) (by omega) (by omega) (by omega), hq (1122 + 3 * q + 1) (by omega) (by omega) (by omega), hq (1122 + 3 * q + 2) (by omega) (by omega) (by omega)]
/-- a flow at the end of the draft -/
def drw (r : Nat → Int32) (n : Nat) (x y z : Int32) : Nat → Int32 := upd (upd (upd (upd r (42 + 3 * n) x) (42 + 3 * n + 1) y) (42 + 3 * n + 2) z) 7 (nI (n + 1))
theorem drw_7 {r : Nat → Int32} {n : Nat} {x y z : Int32} : drw r n x y z 7 = nI (n + 1) := pk_us
theorem drw_o {r : Nat → Int32} {n q : Nat} {x y z : Int32} (h7 : q ≠ 7) (h : q < 42 + 3 * n ∨ 42 + 3 * n + 3 ≤ q) : drw r n x y z q = r q := by
  unfold drw
  rw [pk_un h7, pk_un (by omega), pk_un (by omega), pk_un (by omega)]
theorem drw_0 {r : Nat → Int32} {n : Nat} {x y z : Int32} : drw r n x y z (42 + 3 * n) = x := by
  unfold drw
  rw [pk_un (by omega), pk_un (by omega), pk_un (by omega), pk_us]
theorem drw_1 {r : Nat → Int32} {n : Nat} {x y z : Int32} : drw r n x y z (42 + 3 * n + 1) = y := by
  unfold drw
  rw [pk_un (by omega), pk_un (by omega), pk_us]
theorem drw_2 {r : Nat → Int32} {n : Nat} {x y z : Int32} : drw r n x y z (42 + 3 * n + 2) = z := by
  unfold drw
  rw [pk_un (by omega), pk_us]
theorem drw_nD {r : Nat → Int32} {n : Nat} {x y z : Int32} (hn : n < 16) : nD (drw r n x y z) = n + 1 := by
  unfold nD
  rw [drw_7]
  exact vN_nI (by omega)
theorem drw_lo {r r' : Nat → Int32} {n : Nat} {x y z : Int32} (h : ∀ q, q < 1182 → r' q = r q) : ∀ q, q < 1182 → drw r' n x y z q = drw r n x y z q := upd_lo (upd_lo (upd_lo (upd_lo h)))
section
variable {b : Nat} {W : WD} {T : Nat}
theorem c_append {c i g n : Nat} (h : isF c i g) (hn : n < 16) (h0 : W.1 c i g 0 = nI n) {x y z : Int32} : ∃ V, f_X1_append (b + ad c i g) x y z (wd b W) = some ((), wd b V) ∧ frQ (atQ c i g) W V ∧ V.1 c i g 0 = nI (n + 1) ∧ V.2.1 c i g 1 = upd (W.2.1 c i g 1) n x ∧ V.2.1 c i g 2 = upd (W.2.1 c i g 2) n y ∧ V.2.1 c i g 3 = upd (W.2.1 c i g 3) n z ∧ V.2.1 c i g 4 = upd (W.2.1 c i g 4) n z ∧ V.2.1 c i g 5 = upd (W.2.1 c i g 5) n 0 := by
  obtain ⟨i1, i2, i3, i4, i5⟩ := h
  have e16 : ∀ N, f_X9_isOneOf (nI n) (16 : Int32) N = some (1, N) := fun N => by
    have e := c_oneN (v := nI n) (n := 16) (N := N)
    rw [inR_nI (by omega) hn] at e
    exact e
  have step : ∀ (V : WD) (k : Nat) (v : Int32), 1 ≤ k → k ≤ 5 → V.1 c i g 0 = nI n → ∀ (f : AH → Option (Unit × AH)), (ob (hR (wd b V) (b + ad c i g) 1 k) fun x3 => ob (hI (wd b V) (b + ad c i g) 1 0) fun x4 => ob (sI (wd b V) x3 x4 v) f) = f (wd b (wsA V c i g k (upd (V.2.1 c i g k) n v))) := by
    intro V k v k1 k2 hV f
    rw [ob_i (i4 b V k k1 k2), ob_i (i2 b V), hV, ob_i (gA_write (i5 k k1 k2) hn)]
  unfold f_X1_append
  rw [ob_i (i1 b W), ob_i (i2 b W), h0, ob2_i (e16 _), if_pos (by decide), step _ 1 _ (by omega) (by omega) h0, step _ 2 _ (by omega) (by omega) (by rw [wsA_1]; exact h0), step _ 3 _ (by omega) (by omega) (by rw [wsA_1, wsA_1]; exact h0), step _ 4 _ (by omega) (by omega) (by rw [wsA_1, wsA_1, wsA_1]; exact h0), step _ 5 _ (by omega) (by omega) (by rw [wsA_1, wsA_1, wsA_1, wsA_1]; exact h0), ob_i (i2 b _), wsA_1, wsA_1, wsA_1, wsA_1, wsA_1, h0, ob_i (i3 b _ _), nI_1]
  refine ⟨_, rfl, (((((frQ.A ⟨rfl, rfl, rfl⟩).tr (frQ.A ⟨rfl, rfl, rfl⟩)).tr (frQ.A ⟨rfl, rfl, rfl⟩)).tr (frQ.A ⟨rfl, rfl, rfl⟩)).tr (frQ.A ⟨rfl, rfl, rfl⟩)).tr (frQ.I ⟨rfl, rfl, rfl⟩), by rw [wsI_r], ?_, ?_, ?_, ?_, ?_⟩
  · rw [wsI_A, wsA_k _ (by decide), wsA_k _ (by decide), wsA_k _ (by decide), wsA_k _ (by decide), wsA_r]
  · rw [wsI_A, wsA_k _ (by decide), wsA_k _ (by decide), wsA_k _ (by decide), wsA_r, wsA_k _ (by decide)]
  · rw [wsI_A, wsA_k _ (by decide), wsA_k _ (by decide), wsA_r, wsA_k _ (by decide), wsA_k _ (by decide)]
  · rw [wsI_A, wsA_k _ (by decide), wsA_r, wsA_k _ (by decide), wsA_k _ (by decide), wsA_k _ (by decide)]
  · rw [wsI_A, wsA_r, wsA_k _ (by decide), wsA_k _ (by decide), wsA_k _ (by decide), wsA_k _ (by decide)]
theorem m_drafts {n : Nat} {r : Nat → Int32} {x y z : Int32} (hr : W.2.1 10 0 0 0 = r) (h7 : r 7 = nI n) (hn : n < 16) : f_X10_drafts (b + ad 10 0 0) x y z (wd b W) = some ((), wd b (wsA W 10 0 0 0 (drw r n x y z))) := by
  unfold f_X10_drafts
  rw [oO_10 h10, o10_0 h10, oR0 7 7 rfl (by omega), hr, h7, li 3, pk_mul, li 42, nI_add, nI_1, li 2, nI_add, o10_0 h10, ot10_0 h10 (by omega), hr, o10_0 h10, ot10_0 h10 (by omega), wsA_r, wsA_2, o10_0 h10, ot10_0 h10 (by omega), wsA_r, wsA_2, o10_0 h10, oR0 7 7 rfl (by omega), wsA_r, pk_un (by omega), pk_un (by omega), pk_un (by omega), h7, oS0 7 7 rfl (by omega), wsA_r, wsA_2, nI_1]
  rfl
theorem ok_drw {r : Nat → Int32} (ho : okR r T) (hn : nD r < 16) {x y z : Nat} (hx : x < 8) (hy : y < 8) (hz : 1 ≤ z) (hz2 : z ≤ 100000) : okR (drw r (nD r) (nI x) (nI y) (nI z)) T := by
  obtain ⟨d1, d2, d3⟩ := ho.2.2.2.2.1.2
  refine okR_d ho (fun q _ h7 hq => drw_o h7 (by omega)) ⟨by rw [drw_7, drw_nD hn], by rw [drw_nD hn]; omega, fun f hf => ?_⟩
  rw [drw_nD hn] at hf
  rcases Nat.lt_or_ge f (nD r) with q | q
  · rw [drw_o (by omega) (by omega), drw_o (by omega) (by omega), drw_o (by omega) (by omega)]
    exact d3 f q
  · rw [show f = nD r by omega, drw_0, drw_1, drw_2, vN_nI (by omega), vN_nI (by omega), vN_nI (by omega)]
    exact ⟨⟨rfl, hx⟩, ⟨rfl, hy⟩, rfl, hz, hz2⟩
theorem st_drw {r : Nat → Int32} (ho : okR r T) (hs : stR W 0 r) (hn : nD r < 16) {x y z : Nat} : ∃ V, f_X1_append (b + ad 11 0 0) (nI x) (nI y) (nI z) (wd b W) = some ((), wd b V) ∧ frQ (atQ 11 0 0) W V ∧ V.1 11 0 0 0 = nI (nD r + 1) ∧ stR V 0 (drw r (nD r) (nI x) (nI y) (nI z)) := by
  obtain ⟨d1, d2, d3⟩ := ho.2.2.2.2.1.2
  obtain ⟨b1, b2⟩ := hs.2.2.1
  obtain ⟨V, e1, e2, e3, a1, a2, a3, a4, a5⟩ := c_append (b := b) (W := W) (isF_11 hz8) hn (by rw [b1]; exact d1) (x := nI x) (y := nI y) (z := nI z)
  refine ⟨V, e1, e2, e3, stR_d ho hs (e2.mono (fun c i g k q => ⟨q.1, q.2.1⟩)) (fun q _ h7 hq => drw_o h7 (by omega)) ⟨by rw [e3, drw_7], fun f hf => ?_⟩⟩
  rw [drw_nD hn] at hf
  rw [a1, a2, a3, a4, a5]
  rcases Nat.lt_or_ge f (nD r) with q | q
  · rw [pk_un (by omega), pk_un (by omega), pk_un (by omega), pk_un (by omega), pk_un (by omega), drw_o (by omega) (by omega), drw_o (by omega) (by omega), drw_o (by omega) (by omega)]
    exact b2 f q
  · rw [show f = nD r by omega, drw_0, drw_1, drw_2, pk_us, pk_us, pk_us, pk_us, pk_us]
    exact ⟨rfl, rfl, rfl, rfl, rfl⟩
theorem q_setRules {v w : Int32} (hv : v = 0 ∨ v = 1) (hw : w = 0 ∨ w = 1) (h : inv T W) : both T (T + 500) b W (f_X9_setRules (b + ad 9 0 0) v w) (f_X10_setRules (b + ad 10 0 0) v w) := by
  obtain ⟨s, V, s6, e1, e2, e3, e4, e5, e6, e7⟩ := q_save (b := b) h
  generalize hr : W.2.1 10 0 0 0 = r at *
  have hok : okR r T := by have := h.1.1; rw [hr] at this; exact this
  have h61 : ¬ r 1 = 6 := by have := h.1.2; rw [hr] at this; exact this
  have k2 := hok.2.2.2.2.2.1.1
  have k3 := hok.2.2.2.2.2.1.2
  generalize hV2 : wsI (wsI V 7 0 0 2 v) 7 0 0 3 w = V2
  have f2 : frQ (fun c i _ _ => inS c ∧ i = 0) V V2 := by
    rw [← hV2]
    exact (frQ.I ⟨by unfold inS; omega, rfl⟩).tr (frQ.I ⟨by unfold inS; omega, rfl⟩)
  have er2 : V2.2.1 10 0 0 0 = r := by rw [← hV2, wsI_A, wsI_A]; exact e4
  have es2 : V2.1 10 0 0 1 = nI s := by rw [← hV2, wsI_n _ (by omega), wsI_n _ (by omega)]; exact e5
  obtain ⟨r', s', m1, m2⟩ := m_saves (b := b) (W := V2) er2 es2 s6
  have lo : ∀ q, q < 1182 → upd (upd r' 2 v) 3 w q = upd (upd r 2 v) 3 w q := upd_lo (upd_lo m2.2.1)
  have ho1 : okR (upd (upd r 2 v) 3 w) T := by
    refine okR_w hok (fun q _ _ q2 q3 _ => by rw [pk_un q3, pk_un q2]) ?_ ?_ ?_ (fun q hq => ?_)
    · rw [pk_un (by omega), pk_un (by omega)]; exact hok.2.2.2.2.1.1
    · rw [pk_un (by omega), pk_us]; exact hv
    · rw [pk_us]; exact hw
    · have e : capR (upd (upd r 2 v) 3 w) q = capR r q := by
        unfold capR
        rw [pk_un (by omega), pk_un (by omega)]
      rw [e]
      exact hok.ck q hq
  have st3 : stR V2 0 (upd (upd r' 2 v) 3 w) := by
    rw [← hV2]
    exact stR_ok ho1 (stR_set (by omega) (stR_set (by omega) e6)) lo
  have j34 : ∀ w0 w1, f_X9_setRules_J34 (b + ad 9 0 0) v w w0 w1 (wd b V) = some (w0 + w1, wd b V2) := by
    intro w0 w1
    unfold f_X9_setRules_J34
    rw [o9_1 h9, p7_2 h70 hv, o9_1 h9, p7_3 h70 hw, hV2]
  have j19 : ∀ w0, f_X9_setRules_J19 (b + ad 9 0 0) v w w0 (wd b V) = some (w0 + 2 * r 3, wd b V2) := by
    intro w0
    unfold f_X9_setRules_J19
    rw [o9_1 h9, o7_3 h70, e6.1 3 (by omega)]
    rcases k3 with q | q
    · rw [q, if_pos rfl, j34]
      rfl
    · rw [q, if_neg (by decide), j34]
      rfl
  have ew : (wsI (wsA V2 10 0 0 0 r') 10 0 0 1 (nI s')).2.1 10 0 0 0 = r' := by rw [wsI_A, wsA_r]
  have mj : ∀ x y, x = v → f_X10_setRules_J34 (b + ad 10 0 0) w y (b + aa 10 0 0 0) (2 : Int32) x (wd b (wsI (wsA V2 10 0 0 0 r') 10 0 0 1 (nI s'))) = some (y, wd b (wsA (wsI (wsA V2 10 0 0 0 r') 10 0 0 1 (nI s')) 10 0 0 0 (upd (upd r' 2 v) 3 w))) := by
    intro x y hx
    unfold f_X10_setRules_J34
    rw [hx, oS0 2 2 rfl (by omega), ew, o10_0 h10]
    rcases hw with q | q
    · rw [if_pos q, oS0 3 3 rfl (by omega), wsA_r, wsA_2, q]
    · rw [if_neg (by rw [q]; decide), oS0 3 3 rfl (by omega), wsA_r, wsA_2, q]
  refine ⟨r 2 + 2 * r 3, V2, _, ?_, ?_, inv_mut (r' := r') (s' := s') (W3 := wsA (wsI (wsA V2 10 0 0 0 r') 10 0 0 1 (nI s')) 10 0 0 0 (upd (upd r' 2 v) 3 w)) h (by omega) (sv_mu e2 f2) ?_ (sav6 m2) ((e7 r' s' m2).fr f2 (fun k => by unfold inS; omega) (fun c i g k hc i1 i2 => by omega)) (((frQ.A rfl).tr (frQ.I rfl)).tr (frQ.A rfl)) ?_ ⟨?_, ?_, ?_⟩ ?_ ?_ ?_⟩
  · unfold f_X9_setRules
    rw [oO_9 h9, ob2_i e1, o9_1 h9, o7_2 h70, e6.1 2 (by omega)]
    rcases k2 with q | q
    · rw [q, if_pos rfl, j19]
    · rw [q, if_neg (by decide), j19]
  · unfold f_X10_setRules
    rw [oO_10 h10, o10_0 h10, oR0 2 2 rfl (by omega), er2, o10_0 h10, oR0 3 3 rfl (by omega), er2, ob2_i m1, o10_0 h10]
    rcases hv with q | q
    · rw [if_pos q, mj _ _ q.symm]
    · rw [if_neg (by rw [q]; decide), mj _ _ q.symm]
  · rw [f2.1 3 0 0 5 (by unfold inS; omega)]; exact e3
  · rw [wsA_1, wsI_r]
  · rw [wsA_1, wsI_k _ (by decide), wsA_1]
  · rw [wsA_1, wsI_k _ (by decide), wsA_1]
  · rw [wsA_k _ (by decide), wsI_A, wsA_k _ (by decide)]
  · intro q q1 q2
    rw [wsA_r, pk_un (by omega), pk_un (by omega)]
  · rw [wsA_r]
    refine okS_mono (okS_cg ⟨ho1, ?_⟩ lo) (by omega)
    rw [pk_un (by omega), pk_un (by omega)]
    exact h61
  · rw [wsA_r]; exact st3
theorem q_dropDraft (h : inv T W) : both T (T + 500) b W (f_X9_dropDraft (b + ad 9 0 0)) (f_X10_dropDraft (b + ad 10 0 0)) := by
  obtain ⟨s, V, s6, e1, e2, e3, e4, e5, e6, e7⟩ := q_save (b := b) h
  generalize hr : W.2.1 10 0 0 0 = r at *
  have hok : okR r T := by have := h.1.1; rw [hr] at this; exact this
  have h61 : ¬ r 1 = 6 := by have := h.1.2; rw [hr] at this; exact this
  have h11 : vo 11 0 0 = true := rfl
  generalize hV2 : wsI V 11 0 0 0 0 = V2
  have f11 : frQ (fun c i' _ _ => c = 11 ∧ i' = 0) V V2 := by rw [← hV2]; exact frQ.I ⟨rfl, rfl⟩
  have f2 : frQ (fun c i _ _ => inS c ∧ i = 0) V V2 := f11.mono (fun c i g k q => ⟨by unfold inS; omega, q.2⟩)
  have er2 : V2.2.1 10 0 0 0 = r := by rw [← hV2, wsI_A]; exact e4
  have es2 : V2.1 10 0 0 1 = nI s := by rw [← hV2, wsI_n _ (by omega)]; exact e5
  obtain ⟨r', s', m1, m2⟩ := m_saves (b := b) (W := V2) er2 es2 s6
  have lo : ∀ q, q < 1182 → upd r' 7 0 q = upd r 7 0 q := upd_lo m2.2.1
  have eD : nD (upd r 7 0) = 0 := by
    unfold nD
    rw [pk_us]
    exact vN_nI (n := 0) (by omega)
  have ho1 : okR (upd r 7 0) T := okR_d hok (fun q _ h7 _ => pk_un h7) ⟨by rw [pk_us, eD]; rfl, by omega, fun f hf => by omega⟩
  have st3 : stR V2 0 (upd r' 7 0) := stR_ok ho1 (stR_d hok e6 f11 (fun q _ h7 _ => pk_un h7) ⟨by rw [← hV2, wsI_r, pk_us], fun f hf => by omega⟩) lo
  refine ⟨r 7, V2, _, ?_, ?_, inv_mut (r' := r') (s' := s') (W3 := wsA (wsI (wsA V2 10 0 0 0 r') 10 0 0 1 (nI s')) 10 0 0 0 (upd r' 7 0)) h (by omega) (sv_mu e2 f2) ?_ (sav6 m2) ((e7 r' s' m2).fr f2 (fun k => by unfold inS; omega) (fun c i g k hc i1 i2 => by omega)) (((frQ.A rfl).tr (frQ.I rfl)).tr (frQ.A rfl)) ?_ ⟨?_, ?_, ?_⟩ ?_ ?_ ?_⟩
  · unfold f_X9_dropDraft
    rw [oO_9 h9, ob2_i e1, o9_1 h9, o7_9 h70, o11_0 h11, e6.2.2.1.1, o9_1 h9, o7_9 h70, p11_0 h11, hV2]
  · unfold f_X10_dropDraft
    rw [oO_10 h10, ob2_i m1, o10_0 h10, oR0 7 7 rfl (by omega), wsI_A, wsA_r, o10_0 h10, oS0 7 7 rfl (by omega), wsI_A, wsA_r, m2.2.1 7 (by omega)]
  · rw [f2.1 3 0 0 5 (by unfold inS; omega)]; exact e3
  · rw [wsA_1, wsI_r]
  · rw [wsA_1, wsI_k _ (by decide), wsA_1]
  · rw [wsA_1, wsI_k _ (by decide), wsA_1]
  · rw [wsA_k _ (by decide), wsI_A, wsA_k _ (by decide)]
  · intro q q1 q2
    rw [wsA_r, pk_un (by omega)]
  · rw [wsA_r]
    refine okS_mono (okS_cg ⟨ho1, ?_⟩ lo) (by omega)
    rw [pk_un (by omega)]
    exact h61
  · rw [wsA_r]; exact st3
theorem q_flow {x y z : Int32} (h : inv T W) : both T (T + 500) b W (f_X9_flow (b + ad 9 0 0) x y z) (f_X10_flow (b + ad 10 0 0) x y z) := by
  have ex : ∀ N, f_X9_isOneOf x (8 : Int32) N = some (bI (inR x 8), N) := fun N => c_oneN (n := 8)
  have ey : ∀ N, f_X9_isOneOf y (8 : Int32) N = some (bI (inR y 8), N) := fun N => c_oneN (n := 8)
  have mx' : ∀ V : WD, f_X10_in x.toInt64 (0 : Int64) (7 : Int64) (wd b V) = some (bI (inR x 8), wd b V) := fun V => m_inN (n := 8) (by omega)
  have my' : ∀ V : WD, f_X10_in y.toInt64 (0 : Int64) (7 : Int64) (wd b V) = some (bI (inR y 8), wd b V) := fun V => m_inN (n := 8) (by omega)
  have mz' : ∀ V : WD, f_X10_in z.toInt64 (1 : Int64) (100000 : Int64) (wd b V) = some (if z < 1 then 0 else if 100000 < z then 0 else 1, wd b V) := fun V => m_in32 (lo := 1) (hi := 100000)
  have h11 : vo 11 0 0 = true := rfl
  cases hb : inR x 8 with
  | false =>
    refine both_mono (both_0 h (v := -2) ?_ ?_)
    · unfold f_X9_flow
      rw [oO_9 h9, ob2_i (ex _), hb, if_pos (by decide)]
    · unfold f_X10_flow
      rw [oO_10 h10, ob2_i (mx' _), hb, if_pos (by decide)]
  | true =>
  cases hc : inR y 8 with
  | false =>
    refine both_mono (both_0 h (v := -2) ?_ ?_)
    · unfold f_X9_flow
      rw [oO_9 h9, ob2_i (ex _), hb, if_neg (by decide), ob2_i (ey _), hc, if_neg (by decide)]
    · unfold f_X10_flow
      rw [oO_10 h10, ob2_i (mx' _), hb, if_neg (by decide), ob2_i (my' _), hc, if_neg (by decide)]
  | true =>
  by_cases z1 : z < 1
  · refine both_mono (both_0 h (v := -3) ?_ ?_)
    · unfold f_X9_flow
      rw [oO_9 h9, ob2_i (ex _), hb, if_neg (by decide), ob2_i (ey _), hc, if_pos (by decide), if_pos z1]
    · have e := mz' W
      rw [if_pos z1] at e
      unfold f_X10_flow
      rw [oO_10 h10, ob2_i (mx' _), hb, if_neg (by decide), ob2_i (my' _), hc, if_pos (by decide), ob2_i e, if_neg (by decide)]
  by_cases z2 : z ≤ 100000
  · have e : ∀ V : WD, f_X10_in z.toInt64 (1 : Int64) (100000 : Int64) (wd b V) = some (1, wd b V) := by
      intro V
      have e := mz' V
      rw [if_neg z1, if_neg (Int32.not_lt.mpr z2)] at e
      exact e
    obtain ⟨xn, xl, rfl⟩ := inR_ex (by omega) hb
    obtain ⟨yn, yl, rfl⟩ := inR_ex (by omega) hc
    have z0 : ¬ z < 0 := fun q => z1 (by
      rw [Int32.lt_iff_toInt_lt] at q ⊢
      have a0 : (0 : Int32).toInt = 0 := rfl
      have a1 : (1 : Int32).toInt = 1 := rfl
      omega)
    obtain ⟨zn, zl, rfl⟩ := nI_of2 (M := 100000) (n := 100000) rfl z0 z2
    have zp : 1 ≤ zn := by
      rcases Nat.lt_or_ge zn 1 with q | q
      · exact absurd (show nI zn < 1 from lt_p (b := 1) q (by omega)) z1
      · exact q
    obtain ⟨s, V, s6, e1, e2, e3, e4, e5, e6, e7⟩ := q_save (b := b) h
    have hs0 := h.2.1
    generalize hr : W.2.1 10 0 0 0 = r at *
    have hok : okR r T := by have := h.1.1; rw [hr] at this; exact this
    have h61 : ¬ r 1 = 6 := by have := h.1.2; rw [hr] at this; exact this
    obtain ⟨d1, d2, -⟩ := hok.2.2.2.2.1.2
    rcases Nat.lt_or_ge (nD r) 16 with hn | hn
    · obtain ⟨V2, a1, a2, a3, a4⟩ := st_drw (b := b) (W := V) hok e6 hn (x := xn) (y := yn) (z := zn)
      have f2 : frQ (fun c i _ _ => inS c ∧ i = 0) V V2 := a2.mono (fun c i g k q => ⟨by unfold inS; have := q.1; omega, q.2.1⟩)
      have er2 : V2.2.1 10 0 0 0 = r := by rw [a2.2.1 10 0 0 0 (by unfold atQ; omega)]; exact e4
      have es2 : V2.1 10 0 0 1 = nI s := by rw [a2.1 10 0 0 1 (by unfold atQ; omega)]; exact e5
      obtain ⟨r', s', m1, m2⟩ := m_saves (b := b) (W := V2) er2 es2 s6
      have lo : ∀ q, q < 1182 → drw r' (nD r) (nI xn) (nI yn) (nI zn) q = drw r (nD r) (nI xn) (nI yn) (nI zn) q := drw_lo m2.2.1
      have ho1 := ok_drw hok hn xl yl zp zl
      have ed := m_drafts (b := b) (W := wsI (wsA V2 10 0 0 0 r') 10 0 0 1 (nI s')) (n := nD r) (r := r') (x := nI xn) (y := nI yn) (z := nI zn) (by rw [wsI_A, wsA_r]) (by rw [m2.2.1 7 (by omega)]; exact d1) hn
      refine ⟨nI (nD r + 1), V2, _, ?_, ?_, inv_mut (r' := r') (s' := s') (W3 := wsA (wsI (wsA V2 10 0 0 0 r') 10 0 0 1 (nI s')) 10 0 0 0 (drw r' (nD r) (nI xn) (nI yn) (nI zn))) h (by omega) (sv_mu e2 f2) ?_ (sav6 m2) ((e7 r' s' m2).fr f2 (fun k => by unfold inS; omega) (fun c i g k hc i1 i2 => by omega)) (((frQ.A rfl).tr (frQ.I rfl)).tr (frQ.A rfl)) ?_ ⟨?_, ?_, ?_⟩ ?_ ?_ ?_⟩
      · unfold f_X9_flow
        rw [oO_9 h9, ob2_i (ex _), hb, if_neg (by decide), ob2_i (ey _), hc, if_pos (by decide), if_neg z1, if_pos z2, o9_1 h9, o7_9 h70, o11_0 h11, hs0.2.2.1.1, d1, if_pos (show nI (nD r) < 16 from lt_p (b := 16) hn (by omega)), ob2_i e1, o9_1 h9, o7_9 h70, ob2_i a1, o9_1 h9, o7_9 h70, o11_0 h11, a3]
      · unfold f_X10_flow
        rw [oO_10 h10, ob2_i (mx' _), hb, if_neg (by decide), ob2_i (my' _), hc, if_pos (by decide), ob2_i (e _), if_pos (by decide), o10_0 h10, oR0 7 7 rfl (by omega), er2, d1, if_pos (show ¬ nI (nD r) = 16 from ne_p (b := 16) (by omega) (by omega) (by omega)), ob2_i m1, ob2_i ed, o10_0 h10, oR0 7 7 rfl (by omega), wsA_r, drw_7]
      · rw [f2.1 3 0 0 5 (by unfold inS; omega)]; exact e3
      · rw [wsA_1, wsI_r]
      · rw [wsA_1, wsI_k _ (by decide), wsA_1]
      · rw [wsA_1, wsI_k _ (by decide), wsA_1]
      · rw [wsA_k _ (by decide), wsI_A, wsA_k _ (by decide)]
      · intro q q1 q2
        rw [wsA_r, drw_o (by omega) (by omega)]
      · rw [wsA_r]
        refine okS_mono (okS_cg ⟨ho1, ?_⟩ lo) (by omega)
        rw [drw_o (by omega) (by omega)]
        exact h61
      · rw [wsA_r]; exact stR_ok ho1 a4 lo
    · have hn16 : nD r = 16 := by omega
      refine both_mono (both_0 h (v := -5) ?_ ?_)
      · unfold f_X9_flow
        rw [oO_9 h9, ob2_i (ex _), hb, if_neg (by decide), ob2_i (ey _), hc, if_pos (by decide), if_neg z1, if_pos z2, o9_1 h9, o7_9 h70, o11_0 h11, hs0.2.2.1.1, d1, if_neg (show ¬ nI (nD r) < 16 from lt_n (b := 16) hn (by omega))]
      · unfold f_X10_flow
        rw [oO_10 h10, ob2_i (mx' _), hb, if_neg (by decide), ob2_i (my' _), hc, if_pos (by decide), ob2_i (e _), if_pos (by decide), o10_0 h10, oR0 7 7 rfl (by omega), hr, d1, hn16, if_neg (fun q => q rfl)]
  · refine both_mono (both_0 h (v := -3) ?_ ?_)
    · unfold f_X9_flow
      rw [oO_9 h9, ob2_i (ex _), hb, if_neg (by decide), ob2_i (ey _), hc, if_pos (by decide), if_neg z1, if_neg z2]
    · have e := mz' W
      rw [if_neg z1, if_pos (Int32.not_le.mp z2)] at e
      unfold f_X10_flow
      rw [oO_10 h10, ob2_i (mx' _), hb, if_neg (by decide), ob2_i (my' _), hc, if_pos (by decide), ob2_i e, if_neg (by decide)]
end
