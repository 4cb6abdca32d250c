/-! calls that change the state -/
def svQ : Nat → Nat → Nat → Nat → Prop := fun c i _ k => c = 5 ∨ (c = 3 ∧ k = 5) ∨ (inS c ∧ 1 ≤ i ∧ i ≤ 6)
theorem h5 : vo 5 0 0 = true := rfl
section
variable {b : Nat} {W : WD} {T : Nat}
theorem c_save {s : Nat} (h : inv T W) (hs : s ≤ 6) (hh : hisR W (W.2.1 10 0 0 0) s T) : ∃ V, f_X9_save (b + ad 9 0 0) (wd b W) = some ((), wd b V) ∧ frQ svQ W V ∧ V.1 3 0 0 5 = 0 ∧ ∀ r', savP (W.2.1 10 0 0 0) s r' (min (s + 1) 6) → hisR V r' (min (s + 1) 6) T := by
  obtain ⟨h1, x, h2, hx3, h4⟩ := hh
  obtain ⟨V1, e1, e2, e3⟩ := c_stCopy (b := b) (W := W) (i := x + 1) (j := 0) (by omega) (by omega) (by omega) h.2.1 h.1.1
  have e2' : frQ svQ W V1 := e2.mono (fun c i g k q => Or.inr (Or.inr ⟨q.2, by have : i = x + 1 := q.1; omega, by have : i = x + 1 := q.1; omega⟩))
  unfold f_X9_save f_X5_keep
  rw [oO_9 h9, o9_2 h9, o9_1 h9, oO_5 h5, o5_2 h5, o5_1 h5, hx3, oa5_2 h5 h2, ob2_i e1, o5_1 h5, e2.1 5 0 0 1 (by unfold cpQ inS; omega), hx3, nI_1, li 6, ob_i (dM_nI (by omega) (by omega) (by omega)), p5_1 h5, o5_0 h5, wsI_k _ (by decide), e2.1 5 0 0 0 (by unfold cpQ inS; omega), h1]
  have fin : ∀ V : WD, frQ svQ W V → V.1 5 0 0 0 = nI (min (s + 1) 6) → V.1 5 0 0 1 = nI ((x + 1) % 6) → frQ (fun c _ _ _ => c = 5) V1 V → ∃ V', (ob2 (some ((), wd b V)) fun _ N3 => ob (hR N3 (b + ad 9 0 0) 9 5) fun x4 => ob2 (f_X3_forget x4 N3) fun _ N5 => some ((), N5)) = some ((), wd b V') ∧ frQ svQ W V' ∧ V'.1 3 0 0 5 = 0 ∧ ∀ r', savP (W.2.1 10 0 0 0) s r' (min (s + 1) 6) → hisR V' r' (min (s + 1) 6) T := by
    intro V q1 q2 q3 q4
    have ef : f_X3_forget (b + ad 3 0 0) (wd b V) = some ((), wd b (wsI V 3 0 0 5 0)) := by
      unfold f_X3_forget
      rw [oO_3 h3, p3_5 h3 (Or.inl rfl)]
    rw [ob2_i rfl, o9_5 h9, ob2_i ef]
    refine ⟨_, rfl, q1.tr (frQ.I (Or.inr (Or.inl ⟨rfl, rfl⟩))), by rw [wsI_r], fun r' hp => ?_⟩
    have f5 : frQ (fun c _ _ _ => c = 5 ∨ c = 3) V1 (wsI V 3 0 0 5 0) := (q4.mono (fun c i g k q => Or.inl q)).tr (frQ.I (Or.inr rfl))
    obtain ⟨p1, p2, p3, p4⟩ := hp
    refine ⟨by rw [wsI_n _ (by omega)]; exact q2, (x + 1) % 6, Nat.mod_lt _ (by omega), by rw [wsI_n _ (by omega)]; exact q3, fun j j1 j2 => ?_⟩
    rcases Nat.lt_or_ge j (min (s + 1) 6) with z | z
    · have hidx : ((x + 1) % 6 + 5 - (min (s + 1) 6 - j)) % 6 = (x + 5 - (s - (j + (s + 1 - min (s + 1) 6)))) % 6 := by omega
      have hne : 1 + (x + 5 - (s - (j + (s + 1 - min (s + 1) 6)))) % 6 ≠ x + 1 := by omega
      have hb : (x + 5 - (s - (j + (s + 1 - min (s + 1) 6)))) % 6 < 6 := Nat.mod_lt _ (by omega)
      obtain ⟨a1, a2⟩ := h4 (j + (s + 1 - min (s + 1) 6)) (by omega) (by omega)
      have hp : ∀ q, q < 1182 → prt r' j q = prt (W.2.1 10 0 0 0) (j + (s + 1 - min (s + 1) 6)) q := fun q hq => p3 j q j1 z hq
      rw [hidx]
      refine ⟨stR_ok a2.1 ((a1.fr e2 (fun c g k hc => ?_)).fr f5 (fun c g k hc => by unfold inS at hc; omega)) hp, okS_cg a2 hp⟩
      intro q
      exact hne q.1
    · have hj : j = min (s + 1) 6 := by omega
      have hidx : 1 + ((x + 1) % 6 + 5 - (min (s + 1) 6 - j)) % 6 = x + 1 := by omega
      have hp : ∀ q, q < 1182 → prt r' j q = W.2.1 10 0 0 0 q := fun q hq => by rw [hj]; exact p4 q hq
      rw [hidx]
      exact ⟨stR_ok h.1.1 (e3.fr f5 (fun c g k hc => by unfold inS at hc; omega)) hp, okS_cg h.1 hp⟩
  rcases Nat.lt_or_ge s 6 with hl | hl
  · rw [if_neg (le_n hl (by omega)), o5_0 h5, wsI_k _ (by decide), e2.1 5 0 0 0 (by unfold cpQ inS; omega), h1, p5_0 h5, nI_1]
    refine fin _ ((e2'.tr (frQ.I (Or.inl rfl))).tr (frQ.I (Or.inl rfl))) ?_ ?_ ((frQ.I rfl).tr (frQ.I rfl))
    · rw [wsI_r, show min (s + 1) 6 = s + 1 by omega]
    · rw [wsI_k _ (by decide), wsI_r]
  · rw [if_pos (le_p hl (by omega))]
    refine fin _ (e2'.tr (frQ.I (Or.inl rfl))) ?_ ?_ (frQ.I rfl)
    · rw [wsI_k _ (by decide), e2.1 5 0 0 0 (by unfold cpQ inS; omega), h1, show min (s + 1) 6 = s by omega]
    · rw [wsI_r]
/-- what a changing call of the class changes -/
def muQ : Nat → Nat → Nat → Nat → Prop := fun c i g k => svQ c i g k ∨ (inS c ∧ i = 0) ∨ qsQ c i g k
theorem inv_mut {T' s' : Nat} {V W3 : WD} {r' : Nat → Int32} (h : inv T W) (hT : T ≤ T') (hV : frQ muQ W V) (h35 : V.1 3 0 0 5 = 0) (hs' : s' ≤ 6) (hh : hisR V r' s' T) (h3 : frQ (fun c _ _ _ => c = 10) V W3) (h1 : W3.1 10 0 0 1 = nI s') (hr : W3.1 10 0 0 3 = V.1 10 0 0 3 ∧ W3.1 10 0 0 8 = V.1 10 0 0 8 ∧ W3.2.1 10 0 0 2 = V.2.1 10 0 0 2) (hq : ∀ q, 1182 ≤ q → q < 8274 → W3.2.1 10 0 0 0 q = r' q) (ho : okS (W3.2.1 10 0 0 0) T') (hst : stR V 0 (W3.2.1 10 0 0 0)) : inv T' W3 := by
  obtain ⟨-, -, -, ⟨ℓ, t1, t2, t3, t4⟩, h7, -⟩ := h
  have nq : ∀ c i g k, c = 10 ∨ (c = 2 ∧ k ≠ 1) → ¬ muQ c i g k := by
    intro c i g k hc
    unfold muQ svQ qsQ fnQ inS
    omega
  refine ⟨ho, hst.fr h3 (fun c g k hc => by unfold inS at hc; omega), ⟨s', hs', h1, hisR_mono (hisR_cg hs' (hh.fr h3 (fun k => by omega) (fun c i g k hc _ _ => by unfold inS at hc; omega)) hq) hT⟩, ⟨ℓ, t1, ?_, ?_, ?_⟩, ?_, Or.inl ?_⟩
  · rw [hr.1, hV.1 10 0 0 3 (nq _ _ _ _ (by omega))]; exact t2
  · rw [h3.1 2 0 0 0 (by omega), hV.1 2 0 0 0 (nq _ _ _ _ (by omega))]; exact t3
  · rw [hr.2.2, h3.2.1 2 0 0 2 (by omega), hV.2.1 10 0 0 2 (nq _ _ _ _ (by omega)), hV.2.1 2 0 0 2 (nq _ _ _ _ (by omega))]
    exact t4
  · rw [hr.2.1, hV.1 10 0 0 8 (nq _ _ _ _ (by omega))]; exact h7
  · rw [h3.1 3 0 0 5 (by omega)]; exact h35
/-- the saves of both sides -/
theorem q_save (h : inv T W) : ∃ s V, s ≤ 6 ∧ f_X9_save (b + ad 9 0 0) (wd b W) = some ((), wd b V) ∧ frQ svQ W V ∧ V.1 3 0 0 5 = 0 ∧ V.2.1 10 0 0 0 = W.2.1 10 0 0 0 ∧ V.1 10 0 0 1 = nI s ∧ stR V 0 (W.2.1 10 0 0 0) ∧ ∀ r' s', savP (W.2.1 10 0 0 0) s r' s' → hisR V r' s' T := by
  obtain ⟨s, h3, h4, h5⟩ := h.2.2.1
  obtain ⟨V, e1, e2, e3, e4⟩ := c_save (b := b) h h3 h5
  refine ⟨s, V, h3, e1, e2, e3, e2.2.1 10 0 0 0 (by unfold svQ inS; omega), by rw [e2.1 10 0 0 1 (by unfold svQ inS; omega)]; exact h4, h.2.1.fr e2 (fun c g k hc => by unfold inS at hc; unfold svQ inS; omega), fun r' s' hp => ?_⟩
  have hs' := hp.1
  rw [hs'] at hp ⊢
  exact e4 r' hp
theorem stR_cap {i p : Nat} {r : Nat → Int32} {v : Int32} (hp : p < 16) (h : stR W i r) : stR (wsA W 7 i 0 7 (upd (W.2.1 7 i 0 7) p v)) i (upd r (10 + p) v) := by
  obtain ⟨a1, a2, a3, a4, a5⟩ := h
  have hf : frQ (fun c _ _ k => c = 7 ∧ k = 7) W (wsA W 7 i 0 7 (upd (W.2.1 7 i 0 7) p v)) := frQ.A ⟨rfl, rfl⟩
  have eG : nG (upd r (10 + p) v) = nG r := nG_cg (pk_un (by omega))
  have eD : nD (upd r (10 + p) v) = nD r := by unfold nD; rw [pk_un (by omega)]
  have eE : nE (upd r (10 + p) v) = nE r := by unfold nE; rw [pk_un (by omega)]
  have eg : ∀ g j, gO (upd r (10 + p) v) g j = gO r g j := fun g j => pk_un (by omega)
  have ef : ∀ g f j, fO (upd r (10 + p) v) g f j = fO r g f j := fun g f j => pk_un (by omega)
  have eF : ∀ g, nF (upd r (10 + p) v) g = nF r g := fun g => nF_cg (eg g 5)
  refine ⟨fun j hj => by rw [wsA_1, pk_un (by omega)]; exact a1 j hj, fun q hq => ?_, ?_, fun g hg => ?_, ?_⟩
  · rw [wsA_r, wsA_k _ (by decide)]
    refine ⟨?_, by rw [pk_un (by omega)]; exact (a2 q hq).2⟩
    by_cases z : q = p
    · rw [z, pk_us, pk_us]
    · rw [pk_un z, pk_un (by omega)]
      exact (a2 q hq).1
  · have := a3.fr hf (fun k => by omega)
    refine ⟨by rw [pk_un (by omega)]; exact this.1, fun f hf2 => ?_⟩
    rw [eD] at hf2
    rw [pk_un (by omega), pk_un (by omega), pk_un (by omega)]
    exact this.2 f hf2
  · rw [eG] at hg
    obtain ⟨b1, b2, b3⟩ := (a4 g hg).fr hf (fun c k hc => by omega)
    refine ⟨fun j hj => by rw [eg]; exact b1 j hj, ⟨by rw [eg]; exact b2.1, fun f hf2 => ?_⟩, fun f hf2 => ?_⟩
    · rw [eF] at hf2
      rw [ef, ef, ef, ef]
      exact b2.2 f hf2
    · rw [eF] at hf2
      rw [ef]
      exact b3 f hf2
  · obtain ⟨l1, n, l2, l3, l4⟩ := a5.fr hf (fun k => by omega)
    refine ⟨by rw [pk_un (by omega)]; exact l1, n, l2, l3, fun q hq => ?_⟩
    rw [eE] at hq ⊢
    rw [l4 q hq]
    unfold ev1
    rw [pk_un (by omega), pk_un (by omega), pk_un (by omega)]
/-- a change of one cell of the row on the side of the reference -/
theorem m_becomes {V : WD} {s q : Nat} {r : Nat → Int32} {v : Int32} (hr : V.2.1 10 0 0 0 = r) (hs : V.1 10 0 0 1 = nI s) (h6 : s ≤ 6) (hq : q < 1182) : ∃ r' s' W3, f_X10_becomes (b + ad 10 0 0) (nI q) v (wd b V) = some (r q, wd b W3) ∧ savP r s r' s' ∧ W3.2.1 10 0 0 0 = upd r' q v ∧ frQ (fun c _ _ _ => c = 10) V W3 ∧ W3.1 10 0 0 1 = nI s' ∧ W3.1 10 0 0 3 = V.1 10 0 0 3 ∧ W3.1 10 0 0 8 = V.1 10 0 0 8 ∧ W3.2.1 10 0 0 2 = V.2.1 10 0 0 2 := by
  obtain ⟨r', s', e1, e2⟩ := m_saves (b := b) (W := V) hr hs h6
  have e0 : (wsI (wsA V 10 0 0 0 r') 10 0 0 1 (nI s')).2.1 10 0 0 0 = r' := by rw [wsI_A, wsA_r]
  unfold f_X10_becomes
  rw [oO_10 h10, ob2_i e1, o10_0 h10, oa10_0 h10 (by omega), e0, o10_0 h10, ot10_0 h10 (by omega), e0, e2.2.1 q hq]
  refine ⟨r', s', _, rfl, e2, by rw [wsA_r], ((frQ.A rfl).tr (frQ.I rfl)).tr (frQ.A rfl), by rw [wsA_1, wsI_r], by rw [wsA_1, wsI_k _ (by decide), wsA_1], by rw [wsA_1, wsI_k _ (by decide), wsA_1], by rw [wsA_k _ (by decide), wsI_A, wsA_k _ (by decide)]⟩
theorem sav_hi {r r' : Nat → Int32} {s s' q : Nat} {v : Int32} (hq : q < 1182) (h : savP r s r' s') : (∀ z, 1182 ≤ z → z < 8274 → upd r' q v z = r' z) ∧ ∀ z, z < 1182 → upd r' q v z = upd r q v z := by
  refine ⟨fun z h1 h2 => pk_un (by omega), fun z hz => ?_⟩
  by_cases w : z = q
  · rw [w, pk_us, pk_us]
  · rw [pk_un w, pk_un w, h.2.1 z hz]
theorem sav6 {r r' : Nat → Int32} {s s' : Nat} (h : savP r s r' s') : s' ≤ 6 := by rw [h.1]; omega
theorem sv_mu {V V2 : WD} (h : frQ svQ W V) (h2 : frQ (fun c i _ _ => inS c ∧ i = 0) V V2) : frQ muQ W V2 := (h.mono (fun c i g k q => Or.inl q)).tr (h2.mono (fun c i g k q => Or.inr (Or.inl q)))
theorem q_setPolicy {v : Int32} (h : inv T W) : both T (T + 500) b W (f_X9_setPolicy (b + ad 9 0 0) v) (f_X10_setPolicy (b + ad 10 0 0) v) := by
  have eg : f_X9_isOneOf v (6 : Int32) (wd b W) = some (bI (inR v 6), wd b W) := c_oneN (n := 6)
  have em : ∀ V : WD, f_X10_in v.toInt64 (0 : Int64) (5 : Int64) (wd b V) = some (bI (inR v 6), wd b V) := fun V => m_inN (n := 6) (by omega)
  have mono : ∀ {fx fm}, both T T b W fx fm → both T (T + 500) b W fx fm := fun ⟨v, W1, W2, h1, h2, h3⟩ => ⟨v, W1, W2, h1, h2, by
    obtain ⟨a1, a2, ⟨s, a3, a4, a5⟩, a6, a7, a8⟩ := h3
    exact ⟨okS_mono a1 (by omega), a2, ⟨s, a3, a4, hisR_mono a5 (by omega)⟩, a6, a7, a8⟩⟩
  cases hb : inR v 6 with
  | false =>
    have em := em W
    rw [hb] at eg em
    refine mono (both_0 h (v := -3) ?_ ?_)
    · unfold f_X9_setPolicy
      rw [oO_9 h9, ob2_i eg, if_neg (by decide)]
    · unfold f_X10_setPolicy
      rw [oO_10 h10, ob2_i em, if_pos (by decide)]
  | true =>
    rw [hb] at eg
    obtain ⟨p, pl, rfl⟩ := inR_ex (by omega) hb
    obtain ⟨s, V, s6, e1, e2, e3, e4, e5, e6, e7⟩ := q_save (b := b) h
    generalize hr : W.2.1 10 0 0 0 = r at *
    have f2 : frQ (fun c i _ _ => inS c ∧ i = 0) V (wsI V 7 0 0 1 (nI p)) := frQ.I ⟨by unfold inS; omega, rfl⟩
    obtain ⟨r', s', W3, m1, m2, m3, m4, m5, m6, m7, m8⟩ := m_becomes (b := b) (V := wsI V 7 0 0 1 (nI p)) (s := s) (q := 1) (v := nI p) (r := r) e4 (by rw [wsI_n _ (by omega)]; exact e5) s6 (by omega)
    obtain ⟨g1, g2⟩ := sav_hi (q := 1) (v := nI p) (by omega) m2
    have hok : okR r T := by have := h.1.1; rw [hr] at this; exact this
    have ho1 : okR (upd r 1 (nI p)) T := by
      refine okR_w hok (fun q _ h1 _ _ _ => pk_un h1) ?_ (by rw [pk_un (by omega)]; exact hok.2.2.2.2.2.1.1) (by rw [pk_un (by omega)]; exact hok.2.2.2.2.2.1.2) (fun q hq => ?_)
      · rw [pk_us, vN_nI (by omega)]
        exact ⟨rfl, by omega⟩
      · have e : capR (upd r 1 (nI p)) q = capR r q := pk_un (by omega)
        rw [e]
        exact hok.ck q hq
    have st3 : stR (wsI V 7 0 0 1 (nI p)) 0 (upd r' 1 (nI p)) := stR_ok ho1 (stR_set (by omega) e6) g2
    refine ⟨r 1, wsI V 7 0 0 1 (nI p), W3, ?_, ?_, ?_⟩
    · unfold f_X9_setPolicy
      rw [oO_9 h9, ob2_i eg, if_pos (by decide), ob2_i e1, o9_1 h9, o7_1 h70, e6.1 1 (by omega), o9_1 h9, p7_1 h70]
    · have em := em (wsI V 7 0 0 1 (nI p))
      rw [hb] at em
      unfold f_X10_setPolicy
      have m1' : f_X10_becomes (b + ad 10 0 0) (1 : Int32) (nI p) (wd b (wsI V 7 0 0 1 (nI p))) = some (r 1, wd b W3) := m1
      rw [oO_10 h10, ob2_i em, if_neg (by decide), ob2_i m1']
    · refine inv_mut h (by omega) (sv_mu e2 f2) (by rw [wsI_n _ (by omega)]; exact e3) (sav6 m2) ((e7 r' s' m2).fr f2 (fun k => by unfold inS; omega) (fun c i g k hc i1 i2 => by omega)) m4 m5 ⟨m6, m7, m8⟩ (by rw [m3]; exact g1) (by rw [m3]; exact okS_mono (okS_cg ⟨ho1, by rw [pk_us]; exact ne_p (b := 6) (by omega) (by omega) (by omega)⟩ g2) (by omega)) (by rw [m3]; exact st3)
theorem both_mono {T : Nat} {fx fm : AH → Option (Int32 × AH)} (h : both T T b W fx fm) : both T (T + 500) b W fx fm := by
  obtain ⟨v, W1, W2, h1, h2, a1, a2, ⟨s, a3, a4, a5⟩, a6, a7, a8⟩ := h
  exact ⟨v, W1, W2, h1, h2, okS_mono a1 (by omega), a2, ⟨s, a3, a4, hisR_mono a5 (by omega)⟩, a6, a7, a8⟩
theorem q_setCapacity {v w : Int32} (h : inv T W) : both T (T + 500) b W (f_X9_setCapacity (b + ad 9 0 0) v w) (f_X10_setCapacity (b + ad 10 0 0) v w) := by
  have eg : f_X9_isOneOf v (16 : Int32) (wd b W) = some (bI (inR v 16), wd b W) := c_oneN (n := 16)
  have em : ∀ V : WD, f_X10_in v.toInt64 (0 : Int64) (15 : Int64) (wd b V) = some (bI (inR v 16), wd b V) := fun V => m_inN (n := 16) (by omega)
  have ew : ∀ V : WD, f_X10_in w.toInt64 (0 : Int64) (1000 : Int64) (wd b V) = some (bI (inR w 1001), wd b V) := fun V => m_inN (n := 1001) (by omega)
  cases hb : inR v 16 with
  | false =>
    have em := em W
    rw [hb] at eg em
    refine both_mono (both_0 h (v := -2) ?_ ?_)
    · unfold f_X9_setCapacity
      rw [oO_9 h9, ob2_i eg, if_neg (by decide)]
    · unfold f_X10_setCapacity
      rw [oO_10 h10, ob2_i em, if_neg (by decide)]
  | true =>
    rw [hb] at eg em
    obtain ⟨p, pl, rfl⟩ := inR_ex (by omega) hb
    cases hw : inR w 1001 with
    | false =>
      have ew := ew W
      rw [hw] at ew
      refine both_mono (both_0 h (v := -3) ?_ ?_)
      · unfold f_X9_setCapacity
        rw [oO_9 h9, ob2_i eg, if_pos (by decide)]
        by_cases q : w < 0
        · rw [if_pos q]
        · rw [if_neg q, if_neg (fun z => ?_)]
          obtain ⟨c, c1, c2⟩ := nI_of q
          rw [c2] at hw z
          rcases Nat.lt_or_ge c 1001 with y | y
          · rw [inR_nI (by omega) y] at hw; cases hw
          · exact absurd z (le_n (b := 1000) (by omega) (by omega))
      · unfold f_X10_setCapacity
        rw [oO_10 h10, ob2_i (em W), if_pos (by decide), ob2_i ew, if_pos (by decide)]
    | true =>
      rw [hw] at ew
      obtain ⟨c, cl, rfl⟩ := inR_ex (by omega) hw
      obtain ⟨s, V, s6, e1, e2, e3, e4, e5, e6, e7⟩ := q_save (b := b) h
      generalize hr : W.2.1 10 0 0 0 = r at *
      generalize hV2 : wsA V 7 0 0 7 (upd (V.2.1 7 0 0 7) p (nI c)) = V2
      have f2 : frQ (fun c i _ _ => inS c ∧ i = 0) V V2 := by rw [← hV2]; exact frQ.A ⟨by unfold inS; omega, rfl⟩
      obtain ⟨r', s', W3, m1, m2, m3, m4, m5, m6, m7, m8⟩ := m_becomes (b := b) (V := V2) (s := s) (q := 10 + p) (v := nI c) (r := r) (by rw [← hV2, wsA_n _ (by omega)]; exact e4) (by rw [← hV2, wsA_1]; exact e5) s6 (by omega)
      obtain ⟨g1, g2⟩ := sav_hi (q := 10 + p) (v := nI c) (by omega) m2
      have hok : okR r T := by have := h.1.1; rw [hr] at this; exact this
      have h61 : ¬ r 1 = 6 := by have := h.1.2; rw [hr] at this; exact this
      have ho1 : okR (upd r (10 + p) (nI c)) T := by
        refine okR_w hok (fun q _ _ _ _ h1 => pk_un (by omega)) ?_ ?_ ?_ (fun q hq => ?_)
        · rw [pk_un (by omega)]; exact hok.2.2.2.2.1.1
        · rw [pk_un (by omega)]; exact hok.2.2.2.2.2.1.1
        · rw [pk_un (by omega)]; exact hok.2.2.2.2.2.1.2
        · by_cases z : q = p
          · have e : capR (upd r (10 + p) (nI c)) q = nI c := by rw [z]; exact pk_us
            rw [e, vN_nI (by omega)]
            exact ⟨rfl, by omega⟩
          · have e : capR (upd r (10 + p) (nI c)) q = capR r q := pk_un (by omega)
            rw [e]
            exact hok.ck q hq
      have st3 : stR V2 0 (upd r' (10 + p) (nI c)) := by
        rw [← hV2]
        exact stR_ok ho1 (stR_cap pl e6) g2
      refine ⟨r (10 + p), V2, W3, ?_, ?_, ?_⟩
      · unfold f_X9_setCapacity
        rw [oO_9 h9, ob2_i eg, if_pos (by decide), if_neg (show ¬ nI c < 0 from lt_n (b := 0) (by omega) (by omega)), if_pos (show nI c ≤ 1000 from le_p (b := 1000) (by omega) (by omega)), ob2_i e1, o9_1 h9, o7_7 h70, oa7_7 h70 pl, (e6.2.1 p pl).1, o9_1 h9, o7_7 h70, ot7_7 h70 pl, hV2]
      · unfold f_X10_setCapacity
        rw [oO_10 h10, ob2_i (em V2), if_pos (by decide), ob2_i (ew V2), if_neg (by decide), li 10, nI_add, ob2_i m1]
      · refine inv_mut h (by omega) (sv_mu e2 f2) (by rw [← hV2, wsA_1]; exact e3) (sav6 m2) ((e7 r' s' m2).fr f2 (fun k => by unfold inS; omega) (fun c i g k hc i1 i2 => by omega)) m4 m5 ⟨m6, m7, m8⟩ (by rw [m3]; exact g1) (by rw [m3]; exact okS_mono (okS_cg ⟨ho1, by rw [pk_un (by omega)]; exact h61⟩ g2) (by omega)) (by rw [m3]; exact st3)
end
