/-! step 1 of the class -/
noncomputable def tierS (r : Nat → Int32) (g : Nat) : Int32 := if hdS r g = true then 0 else if r 1 = 0 ∨ r 1 = 5 then (if spn r g (capR r) = -1 then 2 else 1) else 1
noncomputable def numS (r F : Nat → Int32) (g : Nat) : Int64 := if hdS r g = true then (gO r g 0 + gO r g 2).toInt64 else if r 1 = 0 ∨ r 1 = 5 then (if spn r g (capR r) = -1 then 0 else (spn r g (capR r)).toInt64) else if r 1 = 1 then (gO r g 0).toInt64 else if r 1 = 2 then (rstO r g).toInt64 else if r 1 = 3 then (undO r g).toInt64 else if r 1 = 4 then (levO r g).toInt64 * 1000000000 + (gO r g 0).toInt64 else (F g).toInt64
noncomputable def divS (r : Nat → Int32) (g : Nat) : Int32 := if hdS r g = true then 1 else if r 1 = 0 ∨ r 1 = 5 then (if spn r g (capR r) = -1 then 1 else if r 1 = 0 then 1 else gO r g 1) else 1
/-- the group h goes before o, which has the smaller number -/
noncomputable def bfC (r F : Nat → Int32) (h o : Nat) : Bool := if tierS r h = tierS r o then decide (numS r F h * (divS r o).toInt64 < numS r F o * (divS r h).toInt64) else decide (tierS r h < tierS r o)
noncomputable def bfK (r F : Nat → Int32) (o h : Nat) : Bool := !bfC r F h o
def ordQ (t : Nat) : Nat → Nat → Nat → Nat → Prop := fun c i _ k => c = 8 ∧ i = t ∧ (k = 0 ∨ k = 1 ∨ k = 5 ∨ k = 6 ∨ k = 7 ∨ k = 8 ∨ k = 9 ∨ k = 10)
theorem wsL_n (W : WD) {c i g k c' i' g' k' : Nat} {f : Nat → Int64} (h : ¬ (c' = c ∧ i' = i ∧ g' = g ∧ k' = k)) : (wsL W c i g k f).2.2 c' i' g' k' = W.2.2 c' i' g' k' := by rw [wsL_L, if_neg h]
section
variable {b : Nat} {W : WD} {t : Nat}
theorem c_isBefore {h o : Nat} (ht : vo 8 t 0 = true) (hh : h < 12) (ho : o < 12) {r F : Nat → Int32} (k1 : W.2.1 8 t 0 5 h = tierS r h ∧ W.2.2 8 t 0 6 h = numS r F h ∧ W.2.1 8 t 0 7 h = divS r h) (k2 : W.2.1 8 t 0 5 o = tierS r o ∧ W.2.2 8 t 0 6 o = numS r F o ∧ W.2.1 8 t 0 7 o = divS r o) : f_X8_isBefore (b + ad 8 t 0) (nI h) (nI o) (wd b W) = some (bI (bfC r F h o), wd b W) := by
  unfold f_X8_isBefore bfC
  rw [oO_8 ht, o8_5 ht, oa8_5 ht hh, o8_5 ht, oa8_5 ht ho, k1.1, k2.1]
  by_cases q : tierS r h = tierS r o
  · rw [if_pos q, if_pos q, o8_6 ht, oa8_6 ht hh, o8_7 ht, oa8_7 ht ho, o8_6 ht, oa8_6 ht ho, o8_7 ht, oa8_7 ht hh, k1.2.1, k1.2.2, k2.2.1, k2.2.2]
    simp only [lg_ge]
    by_cases z : numS r F h * (divS r o).toInt64 < numS r F o * (divS r h).toInt64
    · rw [if_neg (fun w => w z)]
      simp [z, bI]
    · rw [if_pos z]
      simp [z, bI]
  · rw [if_neg q, if_neg q, o8_5 ht, oa8_5 ht hh, o8_5 ht, oa8_5 ht ho, k1.1, k2.1]
    by_cases z : tierS r o ≤ tierS r h
    · rw [if_pos z]
      simp [Int32.not_lt.mpr z, bI]
    · rw [if_neg z]
      simp [Int32.not_le.mp z, bI]
theorem c_setKey {g : Nat} (ht : vo 8 t 0 = true) (hg : g < 12) {x z : Int32} {y : Int64} : ∃ W', f_X8_setKey (b + ad 8 t 0) (nI g) x y z (wd b W) = some ((), wd b W') ∧ frQ (fun c i _ k => c = 8 ∧ i = t ∧ (k = 5 ∨ k = 6 ∨ k = 7)) W W' ∧ W'.2.1 8 t 0 5 = upd (W.2.1 8 t 0 5) g x ∧ W'.2.2 8 t 0 6 = vp_updL (W.2.2 8 t 0 6) g y ∧ W'.2.1 8 t 0 7 = upd (W.2.1 8 t 0 7) g z := by
  unfold f_X8_setKey
  rw [oO_8 ht, o8_5 ht, ot8_5 ht hg, o8_6 ht, ot8_6 ht hg, o8_7 ht, ot8_7 ht hg]
  refine ⟨_, rfl, ((frQ.A (by simp)).tr (frQ.L (by simp))).tr (frQ.A (by simp)), ?_, ?_, ?_⟩
  · rw [wsA_k _ (by decide), wsL_A, wsA_r]
  · rw [wsA_L, wsL_r, wsA_L]
  · rw [wsA_r, wsL_A, wsA_k _ (by decide)]
theorem c_insL {h M : Nat} (ht : vo 8 t 0 = true) (hM : M < 12) (hh : h < 12) {r F : Nat → Int32} {o : Nat → Nat} {A : Nat → Int32} {k : Int32 → AH → Option (Unit × AH)} (hA : ∀ x, x < M → A x = nI (o x) ∧ o x < 12) (hf : ∀ x, x < M → W.2.1 8 t 0 5 (o x) = tierS r (o x) ∧ W.2.2 8 t 0 6 (o x) = numS r F (o x) ∧ W.2.1 8 t 0 7 (o x) = divS r (o x)) (hfh : W.2.1 8 t 0 5 h = tierS r h ∧ W.2.2 8 t 0 6 h = numS r F h ∧ W.2.1 8 t 0 7 h = divS r h) : ∀ a m, a ≤ M → a < m → f_X8_insert_L5 (b + ad 8 t 0) (nI h) k m (nI a) (wd b (wsA W 8 t 0 1 (shfI A a M))) = k (nI (posS (bfK r F) o h a)) (wd b (wsA W 8 t 0 1 (shfI A (posS (bfK r F) o h a) M))) := by
  intro a
  induction a with
  | zero =>
    intro m h1 h2
    obtain ⟨m, rfl⟩ : ∃ q, m = q + 1 := ⟨m - 1, by omega⟩
    rw [f_X8_insert_L5, if_pos (by decide)]
    rfl
  | succ a ih =>
    intro m h1 h2
    obtain ⟨m, rfl⟩ : ∃ q, m = q + 1 := ⟨m - 1, by omega⟩
    have ea : shfI A (a + 1) M a = nI (o a) := by
      simp only [shfI]
      rw [if_neg (by omega), (hA a (by omega)).1]
    have eb := c_isBefore (b := b) (W := wsA W 8 t 0 1 (shfI A (a + 1) M)) (h := h) (o := o a) ht hh (hA a (by omega)).2 (r := r) (F := F) (by rw [wsA_k _ (by decide), wsA_k _ (by decide), wsA_L]; exact hfh) (by rw [wsA_k _ (by decide), wsA_k _ (by decide), wsA_L]; exact hf a (by omega))
    rw [f_X8_insert_L5, if_neg (by rw [li 0]; exact le_n (by omega) (by omega)), o8_1 ht, nI_pred, oa8_1 ht (by omega), wsA_r, ea, ob2_i eb, posS]
    cases hbf : bfC r F h (o a) with
    | false =>
      rw [if_pos (by decide), if_pos (by simp [bfK, hbf])]
    | true =>
      rw [if_neg (by decide), if_neg (by simp [bfK, hbf]), o8_1 ht, o8_1 ht, oa8_1 ht (by omega), ot8_1 ht (by omega), wsA_r, wsA_2, pk_m1, shfI_s (by omega)]
      exact ih m (by omega) (by omega)
/-- what the order is behind the first n groups -/
def oinv (r F : Nat → Int32) (t : Nat) (n : Nat) (V : WD) : Prop := V.1 8 t 0 0 = nI (ordS r (bfK r F) n).1 ∧ (∀ x, x < (ordS r (bfK r F) n).1 → V.2.1 8 t 0 1 x = nI ((ordS r (bfK r F) n).2 x)) ∧ ∀ g, g < n → stO r g = 1 → V.2.1 8 t 0 5 g = tierS r g ∧ V.2.2 8 t 0 6 g = numS r F g ∧ V.2.1 8 t 0 7 g = divS r g
theorem c_insert {n : Nat} (ht : vo 8 t 0 = true) (hn : n < 12) {r F : Nat → Int32} (hs : stO r n = 1) (h0 : W.1 8 t 0 0 = nI (ordS r (bfK r F) n).1) (h1 : ∀ x, x < (ordS r (bfK r F) n).1 → W.2.1 8 t 0 1 x = nI ((ordS r (bfK r F) n).2 x)) (h2 : ∀ g, g < n + 1 → stO r g = 1 → W.2.1 8 t 0 5 g = tierS r g ∧ W.2.2 8 t 0 6 g = numS r F g ∧ W.2.1 8 t 0 7 g = divS r g) : ∃ W', f_X8_insert (b + ad 8 t 0) (nI n) (wd b W) = some ((), wd b W') ∧ frQ (fun c i _ k => c = 8 ∧ i = t ∧ (k = 0 ∨ k = 1)) W W' ∧ oinv r F t (n + 1) W' := by
  have hm := ordS_m r (bfK r F) n
  have ha := ordS_act r (bfK r F) n
  have e := c_insL (b := b) (W := W) (h := n) (M := (ordS r (bfK r F) n).1) ht (by omega) hn (r := r) (F := F) (o := (ordS r (bfK r F) n).2) (A := W.2.1 8 t 0 1) (k := fun v12 N13 => f_X8_insert_J45 (b + ad 8 t 0) (nI n) v12 N13) (fun x hx => ⟨h1 x hx, by have := (ha x hx).1; omega⟩) (fun x hx => h2 _ (by have := (ha x hx).1; omega) (ha x hx).2) (h2 n (by omega) hs) (ordS r (bfK r F) n).1 FU (Nat.le_refl _) (by have := FUgt; omega)
  have hp := posS_le (bfK r F) (ordS r (bfK r F) n).2 n (ordS r (bfK r F) n).1
  rw [shfI_m, wsA_s] at e
  unfold f_X8_insert
  rw [oO_8 ht, o8_0 ht, h0]
  refine (congrArg (fun z => ∃ W', z = some ((), wd b W') ∧ frQ (fun c i _ k => c = 8 ∧ i = t ∧ (k = 0 ∨ k = 1)) W W' ∧ oinv r F t (n + 1) W') e).mpr ?_
  try dsimp only
  unfold f_X8_insert_J45
  rw [o8_1 ht, ot8_1 ht (by omega), o8_0 ht, p8_0 ht, wsA_r, wsA_2, wsA_1, h0, nI_1]
  refine ⟨_, rfl, (frQ.A (by simp)).tr (frQ.I (by simp)), ?_, ?_, ?_⟩
  · rw [wsI_r, ordS, if_pos hs]
  · intro x hx
    rw [wsI_A, wsA_r]
    rw [ordS, if_pos hs] at hx ⊢
    simp only at hx ⊢
    unfold insO
    by_cases hxp : x = posS (bfK r F) (ordS r (bfK r F) n).2 n (ordS r (bfK r F) n).1
    · rw [if_pos hxp, hxp, pk_us]
    · rw [if_neg hxp, pk_un hxp]
      simp only [shfI]
      by_cases h3 : posS (bfK r F) (ordS r (bfK r F) n).2 n (ordS r (bfK r F) n).1 < x ∧ x ≤ (ordS r (bfK r F) n).1
      · rw [if_pos h3, if_pos h3]
        exact h1 _ (by omega)
      · rw [if_neg h3, if_neg h3]
        exact h1 _ (by omega)
  · intro g hg hsg
    rw [wsI_A, wsI_L, wsA_L, wsA_k _ (by decide), wsA_k _ (by decide)]
    exact h2 g hg hsg
/-- a key is set and the group is put in -/
theorem c_keyIns {n : Nat} (ht : vo 8 t 0 = true) (hn : n < 12) {r F : Nat → Int32} (hs : stO r n = 1) (hI : oinv r F t n W) {x z : Int32} {y : Int64} (hx : x = tierS r n) (hy : y = numS r F n) (hz : z = divS r n) : ∃ W1 W', f_X8_setKey (b + ad 8 t 0) (nI n) x y z (wd b W) = some ((), wd b W1) ∧ f_X8_insert (b + ad 8 t 0) (nI n) (wd b W1) = some ((), wd b W') ∧ frQ (ordQ t) W W' ∧ oinv r F t (n + 1) W' := by
  obtain ⟨W1, e1, e2, e3, e4, e5⟩ := c_setKey (b := b) (W := W) (t := t) (g := n) ht hn (x := x) (y := y) (z := z)
  obtain ⟨i1, i2, i3⟩ := hI
  obtain ⟨W2, g1, g2, g3⟩ := c_insert (b := b) (W := W1) (t := t) (n := n) ht hn (r := r) (F := F) hs (by rw [e2.1 8 t 0 0 (by simp), i1]) (fun q hq => by rw [e2.2.1 8 t 0 1 (by simp)]; exact i2 q hq) (fun g hg hsg => by
    rw [e3, e4, e5]
    by_cases hgn : g = n
    · subst hgn
      rw [pk_us, pk_us, pk_uLs]
      exact ⟨hx, hy, hz⟩
    · rw [pk_un hgn, pk_un hgn, pk_uLn hgn]
      exact i3 g (by omega) hsg)
  refine ⟨W1, W2, e1, g1, ?_, g3⟩
  exact (e2.mono (fun c i g k ⟨h1, h2, h3⟩ => ⟨h1, h2, by omega⟩)).tr (g2.mono (fun c i g k ⟨h1, h2, h3⟩ => ⟨h1, h2, by omega⟩))
end
