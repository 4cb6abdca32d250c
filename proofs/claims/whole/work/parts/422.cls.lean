/-! copies -/
section
variable {b : Nat} {W : WD} {c i g k n : Nat}
theorem gA_read (h : isA c i g k n) {x : Nat} (hx : x < n) : aI (wd b W) (b + aa c i g k) (nI x) = some (W.2.1 c i g k x) := by
  have hn := h.2.2.1
  have e1 : (nI x).toNatClampNeg = x := nI_clamp (by omega)
  have e2 : ¬ (nI x < 0 ∨ n ≤ (nI x).toNatClampNeg) := nI_in hx (by omega)
  rw [e1] at e2
  simp only [aI, gA_q h, if_neg e2, e1]
theorem gA_write (h : isA c i g k n) {x : Nat} (hx : x < n) {v : Int32} : sI (wd b W) (b + aa c i g k) (nI x) v = some (wd b (wsA W c i g k (upd (W.2.1 c i g k) x v))) := by
  have hn := h.2.2.1
  have e1 : (nI x).toNatClampNeg = x := nI_clamp (by omega)
  have e2 : ¬ (nI x < 0 ∨ n ≤ (nI x).toNatClampNeg) := nI_in hx (by omega)
  rw [e1] at e2
  simp only [sI, gA_q h, if_neg e2, e1]
  rw [gA_up h]
end
/-- a list of flows, wherever it stands -/
def isF (c i g : Nat) : Prop := (∀ b W, iO (wd b W) (b + ad c i g) 1 = some ()) ∧ (∀ b W, hI (wd b W) (b + ad c i g) 1 0 = some (W.1 c i g 0)) ∧ (∀ b W v, pI (wd b W) (b + ad c i g) 1 0 v = some (wd b (wsI W c i g 0 v))) ∧ (∀ b W k, 1 ≤ k → k ≤ 5 → hR (wd b W) (b + ad c i g) 1 k = some (b + aa c i g k)) ∧ ∀ k, 1 ≤ k → k ≤ 5 → isA c i g k 16
theorem isF_1 {i g : Nat} (hi : i < 8) (hg : g < 12) : isF 1 i g := by
  have hv := vo1 hi hg
  refine ⟨fun b W => iO_1 hv, fun b W => r1_0 hv, fun b W v => s1_0 hv, fun b W k h1 h2 => ?_, fun k h1 h2 => ?_⟩
  · have : k = 1 ∨ k = 2 ∨ k = 3 ∨ k = 4 ∨ k = 5 := by omega
    rcases this with rfl | rfl | rfl | rfl | rfl
    · exact r1_1 hv
    · exact r1_2 hv
    · exact r1_3 hv
    · exact r1_4 hv
    · exact r1_5 hv
  · have : k = 1 ∨ k = 2 ∨ k = 3 ∨ k = 4 ∨ k = 5 := by omega
    rcases this with rfl | rfl | rfl | rfl | rfl
    · exact isA_1_1 hi hg
    · exact isA_1_2 hi hg
    · exact isA_1_3 hi hg
    · exact isA_1_4 hi hg
    · exact isA_1_5 hi hg
theorem isF_11 {i : Nat} (hi : i < 8) : isF 11 i 0 := by
  have hv := vo11 hi
  refine ⟨fun b W => iO_11 hv, fun b W => r11_0 hv, fun b W v => s11_0 hv, fun b W k h1 h2 => ?_, fun k h1 h2 => ?_⟩
  · have : k = 1 ∨ k = 2 ∨ k = 3 ∨ k = 4 ∨ k = 5 := by omega
    rcases this with rfl | rfl | rfl | rfl | rfl
    · exact r11_1 hv
    · exact r11_2 hv
    · exact r11_3 hv
    · exact r11_4 hv
    · exact r11_5 hv
  · have : k = 1 ∨ k = 2 ∨ k = 3 ∨ k = 4 ∨ k = 5 := by omega
    rcases this with rfl | rfl | rfl | rfl | rfl
    · exact isA_11_1 hi
    · exact isA_11_2 hi
    · exact isA_11_3 hi
    · exact isA_11_4 hi
    · exact isA_11_5 hi
theorem isF_12 : isF 12 0 0 := by
  have hv : vo 12 0 0 = true := rfl
  refine ⟨fun b W => iO_12 hv, fun b W => r12_0 hv, fun b W v => s12_0 hv, fun b W k h1 h2 => ?_, fun k h1 h2 => ?_⟩
  · have : k = 1 ∨ k = 2 ∨ k = 3 ∨ k = 4 ∨ k = 5 := by omega
    rcases this with rfl | rfl | rfl | rfl | rfl
    · exact r12_1 hv
    · exact r12_2 hv
    · exact r12_3 hv
    · exact r12_4 hv
    · exact r12_5 hv
  · have : k = 1 ∨ k = 2 ∨ k = 3 ∨ k = 4 ∨ k = 5 := by omega
    rcases this with rfl | rfl | rfl | rfl | rfl
    · exact ⟨(aa_12_1 hv).1, (aa_12_1 hv).2, by omega, fun _ _ => rfl⟩
    · exact ⟨(aa_12_2 hv).1, (aa_12_2 hv).2, by omega, fun _ _ => rfl⟩
    · exact ⟨(aa_12_3 hv).1, (aa_12_3 hv).2, by omega, fun _ _ => rfl⟩
    · exact ⟨(aa_12_4 hv).1, (aa_12_4 hv).2, by omega, fun _ _ => rfl⟩
    · exact ⟨(aa_12_5 hv).1, (aa_12_5 hv).2, by omega, fun _ _ => rfl⟩
def atQ (c i g : Nat) : Nat → Nat → Nat → Nat → Prop := fun c' i' g' _ => c' = c ∧ i' = i ∧ g' = g
section
variable {b : Nat} {W : WD} {c i g c' i' g' n : Nat}
theorem c_flCopy (h : isF c i g) (h' : isF c' i' g') (hne : ¬ (c' = c ∧ i' = i ∧ g' = g)) (hn : n ≤ 16) (h0 : W.1 c' i' g' 0 = nI n) : ∃ V, f_X1_copyFrom (b + ad c i g) (b + ad c' i' g') (wd b W) = some ((), wd b V) ∧ frQ (atQ c i g) W V ∧ V.1 c i g 0 = nI n ∧ ∀ k f, 1 ≤ k → k ≤ 5 → f < n → V.2.1 c i g k f = W.2.1 c' i' g' k f := by
  obtain ⟨a1, a2, a3, a4, a5⟩ := h
  obtain ⟨z1, z2, z3, z4, z5⟩ := h'
  unfold f_X1_copyFrom
  rw [ob_i (a1 b W), ob_i (z2 b W), h0, ob_i (a3 b W _)]
  have step : ∀ (V : WD) (k : Nat), 1 ≤ k → k ≤ 5 → V.1 c i g 0 = nI n → ∀ (f : AH → Option (Unit × AH)), (ob (hR (wd b V) (b + ad c' i' g') 1 k) fun x3 => ob (hR (wd b V) (b + ad c i g) 1 k) fun x4 => ob (hI (wd b V) (b + ad c i g) 1 0) fun x5 => ob (cI (wd b V) x3 (0 : Int32) x4 (0 : Int32) x5) f) = f (wd b (wsA V c i g k (va_cpy (V.2.1 c' i' g' k) (V.2.1 c i g k) 0 0 n))) := by
    intro V k k1 k2 hV f
    rw [ob_i (z4 b V k k1 k2), ob_i (a4 b V k k1 k2), ob_i (a2 b V), hV, ob_i (gA_copy (z5 k k1 k2) (a5 k k1 k2) hn hn)]
  rw [step _ 1 (by omega) (by omega) (by rw [wsI_r]), step _ 2 (by omega) (by omega) (by rw [wsA_1, wsI_r]), step _ 3 (by omega) (by omega) (by rw [wsA_1, wsA_1, wsI_r]), step _ 4 (by omega) (by omega) (by rw [wsA_1, wsA_1, wsA_1, wsI_r]), step _ 5 (by omega) (by omega) (by rw [wsA_1, wsA_1, wsA_1, wsA_1, wsI_r])]
  have hn' : ∀ k k' : Nat, ¬ (c' = c ∧ i' = i ∧ g' = g ∧ k' = k) := fun k k' q => hne ⟨q.1, q.2.1, q.2.2.1⟩
  refine ⟨_, rfl, (((((frQ.I ⟨rfl, rfl, rfl⟩).tr (frQ.A ⟨rfl, rfl, rfl⟩)).tr (frQ.A ⟨rfl, rfl, rfl⟩)).tr (frQ.A ⟨rfl, rfl, rfl⟩)).tr (frQ.A ⟨rfl, rfl, rfl⟩)).tr (frQ.A ⟨rfl, rfl, rfl⟩), by rw [wsA_1, wsA_1, wsA_1, wsA_1, wsA_1, wsI_r], fun k f k1 k2 hf => ?_⟩
  have : k = 1 ∨ k = 2 ∨ k = 3 ∨ k = 4 ∨ k = 5 := by omega
  have hz : 0 + (f - 0) = f := by omega
  rcases this with rfl | rfl | rfl | rfl | rfl
  · rw [wsA_k _ (by decide), wsA_k _ (by decide), wsA_k _ (by decide), wsA_k _ (by decide), wsA_r, pk_cpy_in (by omega) (by omega), hz, wsI_A]
  · rw [wsA_k _ (by decide), wsA_k _ (by decide), wsA_k _ (by decide), wsA_r, pk_cpy_in (by omega) (by omega), hz, wsA_n _ (hn' _ _), wsI_A]
  · rw [wsA_k _ (by decide), wsA_k _ (by decide), wsA_r, pk_cpy_in (by omega) (by omega), hz, wsA_n _ (hn' _ _), wsA_n _ (hn' _ _), wsI_A]
  · rw [wsA_k _ (by decide), wsA_r, pk_cpy_in (by omega) (by omega), hz, wsA_n _ (hn' _ _), wsA_n _ (hn' _ _), wsA_n _ (hn' _ _), wsI_A]
  · rw [wsA_r, pk_cpy_in (by omega) (by omega), hz, wsA_n _ (hn' _ _), wsA_n _ (hn' _ _), wsA_n _ (hn' _ _), wsA_n _ (hn' _ _), wsI_A]
end
def cpQ (s : Nat) : Nat → Nat → Nat → Nat → Prop := fun c i _ _ => i = s ∧ inS c
section
variable {b : Nat} {W : WD} {i j T : Nat} {r : Nat → Int32}
theorem c_grCopy {g : Nat} (hi : i < 8) (hj : j < 8) (hij : j ≠ i) (hg : g < 12) (h : grR W j g r) (hk : flK r g (nF r g)) (h4 : gO r g 4 = 0 ∨ gO r g 4 = 1) : ∃ V, f_X4_copyFrom (b + ad 4 i g) (b + ad 4 j g) (wd b W) = some ((), wd b V) ∧ frQ (fun c i' g' _ => (c = 1 ∨ c = 4) ∧ i' = i ∧ g' = g) W V ∧ grR V i g r := by
  have vi := vo4 hi hg
  have vj := vo4 hj hg
  obtain ⟨a1, ⟨a2, a3⟩, a4⟩ := h
  unfold f_X4_copyFrom
  rw [oO_4 vi, o4_0 vj, p4_0 vi, o4_1 vj, wsI_n _ (by omega), p4_1 vi, o4_2 vj, wsI_n _ (by omega), wsI_n _ (by omega), p4_2 vi, o4_3 vj, wsI_n _ (by omega), wsI_n _ (by omega), wsI_n _ (by omega), p4_3 vi, o4_4 vj, wsI_n _ (by omega), wsI_n _ (by omega), wsI_n _ (by omega), wsI_n _ (by omega), p4_4 vi (by rw [a1 4 (by omega)]; exact h4), o4_5 vi, o4_5 vj]
  generalize hV : wsI (wsI (wsI (wsI (wsI W 4 i g 0 (W.1 4 j g 0)) 4 i g 1 (W.1 4 j g 1)) 4 i g 2 (W.1 4 j g 2)) 4 i g 3 (W.1 4 j g 3)) 4 i g 4 (W.1 4 j g 4) = V
  have f1 : frQ (fun c i' g' _ => c = 4 ∧ i' = i ∧ g' = g) W V := by
    rw [← hV]
    exact ((((frQ.I ⟨rfl, rfl, rfl⟩).tr (frQ.I ⟨rfl, rfl, rfl⟩)).tr (frQ.I ⟨rfl, rfl, rfl⟩)).tr (frQ.I ⟨rfl, rfl, rfl⟩)).tr (frQ.I ⟨rfl, rfl, rfl⟩)
  have v4 : ∀ k, k < 5 → V.1 4 i g k = gO r g k := by
    intro k hk5
    rw [← a1 k hk5, ← hV]
    have : k = 0 ∨ k = 1 ∨ k = 2 ∨ k = 3 ∨ k = 4 := by omega
    rcases this with rfl | rfl | rfl | rfl | rfl
    · rw [wsI_k _ (by decide), wsI_k _ (by decide), wsI_k _ (by decide), wsI_k _ (by decide), wsI_r]
    · rw [wsI_k _ (by decide), wsI_k _ (by decide), wsI_k _ (by decide), wsI_r]
    · rw [wsI_k _ (by decide), wsI_k _ (by decide), wsI_r]
    · rw [wsI_k _ (by decide), wsI_r]
    · rw [wsI_r]
  obtain ⟨V2, e1, e2, e3, e4⟩ := c_flCopy (b := b) (W := V) (isF_1 hi hg) (isF_1 hj hg) (by omega) hk.2.1 (by rw [f1.1 1 j g 0 (by omega), a2, hk.1])
  rw [ob2_i e1]
  refine ⟨V2, rfl, (f1.mono (fun c i g k q => ⟨Or.inr q.1, q.2⟩)).tr (e2.mono (fun c i g k q => ⟨Or.inl q.1, q.2⟩)), fun k hk5 => by rw [e2.1 4 i g k (by unfold atQ; omega)]; exact v4 k hk5, ⟨by rw [e3, hk.1], fun f hf => ?_⟩, fun f hf => ?_⟩
  · rw [e4 1 f (by omega) (by omega) hf, e4 2 f (by omega) (by omega) hf, e4 3 f (by omega) (by omega) hf, e4 4 f (by omega) (by omega) hf, f1.2.1 1 j g 1 (by omega), f1.2.1 1 j g 2 (by omega), f1.2.1 1 j g 3 (by omega), f1.2.1 1 j g 4 (by omega)]
    exact a3 f hf
  · rw [e4 5 f (by omega) (by omega) hf, f1.2.1 1 j g 5 (by omega)]
    exact a4 f hf
theorem c_lgCopy (hi : i < 8) (hj : j < 8) (hij : j ≠ i) (h : lgR W j r) : ∃ V, f_X0_copyFrom (b + ad 0 i 0) (b + ad 0 j 0) (wd b W) = some ((), wd b V) ∧ frQ (lgQ i) W V ∧ lgR V i r := by
  have vi := vo0 hi
  have vj := vo0 hj
  obtain ⟨a1, n, a2, a3, a4⟩ := h
  unfold f_X0_copyFrom
  rw [oO_0 vi, o0_0 vj, p0_0 vi, o0_1 vj, wsI_n _ (by omega), p0_1 vi, o0_2 vj, o0_2 vi, li 20, ob_i (gA_copy (isA_0_2 hj) (isA_0_2 hi) (Nat.le_refl _) (Nat.le_refl _)), o0_3 vj, o0_3 vi, ob_i (gA_copy (isA_0_3 hj) (isA_0_3 hi) (Nat.le_refl _) (Nat.le_refl _)), o0_4 vj, o0_4 vi, ob_i (gA_copy (isA_0_4 hj) (isA_0_4 hi) (Nat.le_refl _) (Nat.le_refl _))]
  refine ⟨_, rfl, ((((frQ.I ⟨rfl, rfl⟩).tr (frQ.I ⟨rfl, rfl⟩)).tr (frQ.A ⟨rfl, rfl⟩)).tr (frQ.A ⟨rfl, rfl⟩)).tr (frQ.A ⟨rfl, rfl⟩), ?_, n, a2, ?_, fun k hk => ?_⟩
  · rw [wsA_1, wsA_1, wsA_1, wsI_k _ (by decide), wsI_r, a1]
  · rw [wsA_1, wsA_1, wsA_1, wsI_r, a3]
  · rw [← a4 k hk]
    have hm : (n + 20 - nE r + k) % 20 < 20 := Nat.mod_lt _ (by omega)
    generalize (n + 20 - nE r + k) % 20 = x at *
    rw [wsA_k _ (by decide), wsA_k _ (by decide), wsA_r, wsA_k _ (by decide), wsA_r, wsA_r, pk_cpy_in (by omega) (by omega), pk_cpy_in (by omega) (by omega), pk_cpy_in (by omega) (by omega), show 0 + (x - 0) = x by omega, wsA_n _ (by omega), wsA_n _ (by omega), wsA_n _ (by omega), wsI_A, wsI_A]
theorem c_stCopy (hi : i < 8) (hj : j < 8) (hij : j ≠ i) (hs : stR W j r) (ho : okR r T) : ∃ V, f_X7_copyFrom (b + ad 7 i 0) (b + ad 7 j 0) (wd b W) = some ((), wd b V) ∧ frQ (cpQ i) W V ∧ stR V i r := by
  have vi := vo7 hi
  have vj := vo7 hj
  have h12 := ho.1.1.2
  obtain ⟨a1, a2, a3, a4, a5⟩ := hs
  unfold f_X7_copyFrom
  rw [oO_7 vi, o7_0 vj, a1 0 (by omega), p7_0 vi, o7_1 vj, wsI_n _ (by omega), a1 1 (by omega), p7_1 vi, o7_2 vj, wsI_n _ (by omega), wsI_n _ (by omega), a1 2 (by omega), p7_2 vi ho.2.2.2.2.2.1.1, o7_3 vj, wsI_n _ (by omega), wsI_n _ (by omega), wsI_n _ (by omega), a1 3 (by omega), p7_3 vi ho.2.2.2.2.2.1.2, o7_4 vj, wsI_n _ (by omega), wsI_n _ (by omega), wsI_n _ (by omega), wsI_n _ (by omega), a1 4 (by omega), p7_4 vi, o7_5 vj, wsI_n _ (by omega), wsI_n _ (by omega), wsI_n _ (by omega), wsI_n _ (by omega), wsI_n _ (by omega), a1 5 (by omega), p7_5 vi, o7_6 vj, wsI_n _ (by omega), wsI_n _ (by omega), wsI_n _ (by omega), wsI_n _ (by omega), wsI_n _ (by omega), wsI_n _ (by omega), a1 6 (by omega), p7_6 vi, o7_7 vj, o7_7 vi, li 16, ob_i (gA_copy (isA_7_7 hj) (isA_7_7 hi) (Nat.le_refl _) (Nat.le_refl _)), o7_8 vj, o7_8 vi, ob_i (gA_copy (isA_7_8 hj) (isA_7_8 hi) (Nat.le_refl _) (Nat.le_refl _)), o7_9 vi, o7_9 vj]
  generalize hV0 : wsI (wsI (wsI (wsI (wsI (wsI (wsI W 7 i 0 0 (r 0)) 7 i 0 1 (r 1)) 7 i 0 2 (r 2)) 7 i 0 3 (r 3)) 7 i 0 4 (r 4)) 7 i 0 5 (r 5)) 7 i 0 6 (r 6) = V0
  have f0 : frQ (fun c i' _ _ => c = 7 ∧ i' = i) W V0 := by
    rw [← hV0]
    exact ((((((frQ.I ⟨rfl, rfl⟩).tr (frQ.I ⟨rfl, rfl⟩)).tr (frQ.I ⟨rfl, rfl⟩)).tr (frQ.I ⟨rfl, rfl⟩)).tr (frQ.I ⟨rfl, rfl⟩)).tr (frQ.I ⟨rfl, rfl⟩)).tr (frQ.I ⟨rfl, rfl⟩)
  have v0 : ∀ k, k < 7 → V0.1 7 i 0 k = r k := by
    intro k hk
    rw [← hV0]
    have : k = 0 ∨ k = 1 ∨ k = 2 ∨ k = 3 ∨ k = 4 ∨ k = 5 ∨ k = 6 := by omega
    rcases this with rfl | rfl | rfl | rfl | rfl | rfl | rfl
    · rw [wsI_k _ (by decide), wsI_k _ (by decide), wsI_k _ (by decide), wsI_k _ (by decide), wsI_k _ (by decide), wsI_k _ (by decide), wsI_r]
    · rw [wsI_k _ (by decide), wsI_k _ (by decide), wsI_k _ (by decide), wsI_k _ (by decide), wsI_k _ (by decide), wsI_r]
    · rw [wsI_k _ (by decide), wsI_k _ (by decide), wsI_k _ (by decide), wsI_k _ (by decide), wsI_r]
    · rw [wsI_k _ (by decide), wsI_k _ (by decide), wsI_k _ (by decide), wsI_r]
    · rw [wsI_k _ (by decide), wsI_k _ (by decide), wsI_r]
    · rw [wsI_k _ (by decide), wsI_r]
    · rw [wsI_r]
  have eA : V0.2.1 = W.2.1 := by rw [← hV0]; rfl
  generalize hV1 : wsA (wsA V0 7 i 0 7 (va_cpy (V0.2.1 7 j 0 7) (V0.2.1 7 i 0 7) 0 0 16)) 7 i 0 8 (va_cpy ((wsA V0 7 i 0 7 (va_cpy (V0.2.1 7 j 0 7) (V0.2.1 7 i 0 7) 0 0 16)).2.1 7 j 0 8) ((wsA V0 7 i 0 7 (va_cpy (V0.2.1 7 j 0 7) (V0.2.1 7 i 0 7) 0 0 16)).2.1 7 i 0 8) 0 0 16) = V1
  have f1 : frQ (fun c i' _ _ => c = 7 ∧ i' = i) W V1 := by
    rw [← hV1]
    exact (f0.tr (frQ.A ⟨rfl, rfl⟩)).tr (frQ.A ⟨rfl, rfl⟩)
  have v1 : ∀ k, k < 7 → V1.1 7 i 0 k = r k := fun k hk => by rw [← hV1, wsA_1, wsA_1]; exact v0 k hk
  have c1 : ∀ p, p < 16 → V1.2.1 7 i 0 7 p = r (10 + p) ∧ V1.2.1 7 i 0 8 p = r (26 + p) := by
    intro p hp
    rw [← hV1, wsA_r, wsA_k _ (by decide), wsA_r, pk_cpy_in (by omega) (by omega), pk_cpy_in (by omega) (by omega), show 0 + (p - 0) = p by omega, wsA_n _ (by omega), eA]
    exact a2 p hp
  obtain ⟨V2, e2, g2, g3, g4⟩ := c_flCopy (b := b) (W := V1) (isF_11 hi) (isF_11 hj) (by omega) ho.2.2.2.2.1.2.2.1 (by rw [f1.1 11 j 0 0 (by omega), a3.1]; exact ho.2.2.2.2.1.2.1)
  rw [ob2_i e2]
  have f2 : frQ (cpQ i) W V2 := (f1.mono (fun c i g k q => ⟨q.2, by unfold inS; omega⟩)).tr (g2.mono (fun c i g k q => ⟨q.2.1, by have h : c = 11 := q.1; unfold inS; omega⟩))
  have s7 : ∀ V, frQ (fun c i' _ _ => (c = 1 ∨ c = 4) ∧ i' = i) V2 V → (∀ k, k < 7 → V.1 7 i 0 k = r k) ∧ (∀ p, p < 16 → V.2.1 7 i 0 7 p = r (10 + p) ∧ V.2.1 7 i 0 8 p = r (26 + p)) ∧ dfR V i r := by
    intro V hV
    refine ⟨fun k hk => by rw [hV.1 7 i 0 k (by omega), g2.1 7 i 0 k (by unfold atQ; omega)]; exact v1 k hk, ?_, ?_⟩
    · rw [hV.2.1 7 i 0 7 (by omega), hV.2.1 7 i 0 8 (by omega), g2.2.1 7 i 0 7 (by unfold atQ; omega), g2.2.1 7 i 0 8 (by unfold atQ; omega)]
      exact c1
    · refine ⟨by rw [hV.1 11 i 0 0 (by omega), g3]; exact ho.2.2.2.2.1.2.1.symm, fun f hf => ?_⟩
      rw [hV.2.1 11 i 0 1 (by omega), hV.2.1 11 i 0 2 (by omega), hV.2.1 11 i 0 3 (by omega), hV.2.1 11 i 0 4 (by omega), hV.2.1 11 i 0 5 (by omega), g4 1 f (by omega) (by omega) hf, g4 2 f (by omega) (by omega) hf, g4 3 f (by omega) (by omega) hf, g4 4 f (by omega) (by omega) hf, g4 5 f (by omega) (by omega) hf, f1.2.1 11 j 0 1 (by omega), f1.2.1 11 j 0 2 (by omega), f1.2.1 11 j 0 3 (by omega), f1.2.1 11 j 0 4 (by omega), f1.2.1 11 j 0 5 (by omega)]
      exact a3.2 f hf
  refine loopE (fun m g (V : WD) => f_X7_copyFrom_L99 (b + ad 7 i 0) (b + ad 7 j 0) (fun N31 => ob (hR N31 (b + ad 7 i 0) 7 11) (fun x32 => ob (hR N31 (b + ad 7 j 0) 7 11) (fun x33 => ob2 (f_X0_copyFrom x32 x33 N31) (fun _ N34 => some ((), N34))))) m (nI g) (wd b V)) (nG r) (fun g V => frQ (fun c i' _ _ => (c = 1 ∨ c = 4) ∧ i' = i) V2 V ∧ ∀ q, q < g → grR V i q r) (fun y => ∃ V, y = some ((), wd b V) ∧ frQ (cpQ i) W V ∧ stR V i r) ?_ ?_ FU 0 V2 (by omega) (by have := FUgt; omega) ⟨frQ.rf, fun q hq => absurd hq (Nat.not_lt_zero q)⟩
  · intro m g V hg ⟨k1, k2⟩
    have hgk := ho.2.2.2.2.2.2.2 g hg
    have hgr : grR V j g r := ((a4 g hg).fr f2 (fun c k hc => by unfold cpQ; omega)).fr k1 (fun c k hc => by omega)
    obtain ⟨V', e3, h3, h4⟩ := c_grCopy (b := b) (W := V) hi hj hij (by omega) hgr (ho.1.2.1 g hg) (hgk.2.2.2.1.imp id And.left)
    try dsimp only
    rw [f_X7_copyFrom_L99, o7_6 vi, (s7 V k1).1 6 (by omega), ho.1.1.1, if_neg (le_n hg (by omega)), o7_10 vi, oa7_10 vi (by omega), o7_10 vj, oa7_10 vj (by omega), ob2_i e3, nI_1]
    refine ⟨V', ⟨k1.tr (h3.mono (fun c i g k q => ⟨q.1, q.2.1⟩)), fun q hq => ?_⟩, rfl⟩
    rcases Nat.lt_or_ge q g with z | z
    · exact (k2 q z).fr h3 (fun c k hc => by omega)
    · rw [show q = g by omega]; exact h4
  · intro m V ⟨k1, k2⟩
    obtain ⟨z1, z2, z3⟩ := s7 V k1
    have hlg : lgR V j r := (a5.fr f2 (fun k => by unfold cpQ; omega)).fr k1 (fun k => by omega)
    obtain ⟨V', e3, h3, h4⟩ := c_lgCopy (b := b) (W := V) hi hj hij hlg
    try dsimp only
    rw [f_X7_copyFrom_L99, o7_6 vi, z1 6 (by omega), ho.1.1.1, if_pos (le_p (Nat.le_refl _) (by omega)), o7_11 vi, o7_11 vj, ob2_i e3]
    refine ⟨V', rfl, (f2.tr (k1.mono (fun c i g k q => ⟨q.2, by unfold inS; omega⟩))).tr (h3.mono (fun c i g k q => ⟨q.2, by have h : c = 0 := q.1; unfold inS; omega⟩)), fun k hk => by rw [h3.1 7 i 0 k (by unfold lgQ; omega)]; exact z1 k hk, ?_, z3.fr h3 (fun k => by unfold lgQ; omega), fun g hg => (k2 g hg).fr h3 (fun c k hc => by unfold lgQ; omega), h4⟩
    rw [h3.2.1 7 i 0 7 (by unfold lgQ; omega), h3.2.1 7 i 0 8 (by unfold lgQ; omega)]
    exact z2
end
