/-! the order of step 1 -/
theorem loopE {β σ : Type} (F : Nat → Nat → σ → Option β) (n : Nat) (I : Nat → σ → Prop) (P : Option β → Prop) (hs : ∀ m i s, i < n → I i s → ∃ s', I (i + 1) s' ∧ F (m + 1) i s = F m (i + 1) s') (he : ∀ m s, I n s → P (F (m + 1) n s)) : ∀ m i s, i ≤ n → n - i < m → I i s → P (F m i s) := by
  intro m
  induction m with
  | zero => intro i s h1 h2; exact absurd h2 (by omega)
  | succ m ih =>
    intro i s h1 h2 hI
    rcases Nat.lt_or_ge i n with h | h
    · obtain ⟨s', h3, h4⟩ := hs m i s h hI
      rw [h4]
      exact ih (i + 1) s' (by omega) (by omega) h3
    · have hi : i = n := by omega
      subst hi
      exact he m s hI
def posS (bf : Nat → Nat → Bool) (o : Nat → Nat) (h : Nat) : Nat → Nat
  | 0 => 0
  | a + 1 => if bf (o a) h = true then a + 1 else posS bf o h a
def insO (bf : Nat → Nat → Bool) (o : Nat → Nat) (m h : Nat) : Nat → Nat := fun x => if x = posS bf o h m then h else if posS bf o h m < x ∧ x ≤ m then o (x - 1) else o x
def ordS (r : Nat → Int32) (bf : Nat → Nat → Bool) : Nat → Nat × (Nat → Nat)
  | 0 => (0, fun _ => 0)
  | g + 1 => if stO r g = 1 then ((ordS r bf g).1 + 1, insO bf (ordS r bf g).2 (ordS r bf g).1 g) else ordS r bf g
theorem posS_le (bf : Nat → Nat → Bool) (o : Nat → Nat) (h : Nat) : ∀ a, posS bf o h a ≤ a
  | 0 => Nat.le_refl _
  | a + 1 => by
    rw [posS]
    split
    · exact Nat.le_refl _
    · exact Nat.le_succ_of_le (posS_le bf o h a)
theorem ordS_m (r : Nat → Int32) (bf : Nat → Nat → Bool) : ∀ n, (ordS r bf n).1 ≤ n
  | 0 => Nat.le_refl _
  | n + 1 => by
    have h := ordS_m r bf n
    rw [ordS]
    split
    · exact Nat.succ_le_succ h
    · omega
theorem ordS_act (r : Nat → Int32) (bf : Nat → Nat → Bool) : ∀ n x, x < (ordS r bf n).1 → (ordS r bf n).2 x < n ∧ stO r ((ordS r bf n).2 x) = 1
  | 0, x, h => absurd h (Nat.not_lt_zero x)
  | n + 1, x, h => by
    have ih := ordS_act r bf n
    rw [ordS] at h ⊢
    split
    · rename_i ha
      rw [if_pos ha] at h
      simp only at h ⊢
      unfold insO
      split
      · exact ⟨Nat.lt_succ_self n, ha⟩
      · rename_i h1
        have hp := posS_le bf (ordS r bf n).2 n (ordS r bf n).1
        split
        · rename_i h2
          have := ih (x - 1) (by omega)
          exact ⟨by omega, this.2⟩
        · rename_i h2
          have := ih x (by omega)
          exact ⟨by omega, this.2⟩
    · rename_i ha
      rw [if_neg ha] at h
      have := ih x h
      exact ⟨by omega, this.2⟩
def ofxS (r : Nat → Int32) (fx : Nat → Nat) : Nat → Nat × (Nat → Nat)
  | 0 => (0, fun _ => 0)
  | k + 1 => if stO r (fx k) = 1 then ((ofxS r fx k).1 + 1, fun x => if x = (ofxS r fx k).1 then fx k else (ofxS r fx k).2 x) else ofxS r fx k
theorem ofxS_m (r : Nat → Int32) (fx : Nat → Nat) : ∀ n, (ofxS r fx n).1 ≤ n
  | 0 => Nat.le_refl _
  | n + 1 => by
    have h := ofxS_m r fx n
    rw [ofxS]
    split
    · exact Nat.succ_le_succ h
    · omega
theorem ofxS_act (r : Nat → Int32) (fx : Nat → Nat) : ∀ n x, x < (ofxS r fx n).1 → (∃ k, k < n ∧ (ofxS r fx n).2 x = fx k) ∧ stO r ((ofxS r fx n).2 x) = 1
  | 0, x, h => absurd h (Nat.not_lt_zero x)
  | n + 1, x, h => by
    have ih := ofxS_act r fx n
    rw [ofxS] at h ⊢
    split
    · rename_i ha
      rw [if_pos ha] at h
      simp only at h ⊢
      split
      · exact ⟨⟨n, by omega, rfl⟩, ha⟩
      · obtain ⟨⟨k, h1, h2⟩, h3⟩ := ih x (by omega)
        exact ⟨⟨k, by omega, h2⟩, h3⟩
    · rename_i ha
      rw [if_neg ha] at h
      obtain ⟨⟨k, h1, h2⟩, h3⟩ := ih x h
      exact ⟨⟨k, by omega, h2⟩, h3⟩
def nG (r : Nat → Int32) : Nat := vN (r 6)
def okG (r : Nat → Int32) : Prop := (r 6 = nI (nG r) ∧ nG r ≤ 12) ∧ (∀ g, g < nG r → flK r g (nF r g)) ∧ avK (capR r)
def shfI (A : Nat → Int32) (p m : Nat) : Nat → Int32 := fun x => if p < x ∧ x ≤ m then A (x - 1) else A x
theorem shfI_s {A : Nat → Int32} {a m : Nat} (h : a < m) : upd (shfI A (a + 1) m) (a + 1) (shfI A (a + 1) m a) = shfI A a m := by
  funext x
  by_cases hx : x = a + 1
  · subst hx
    rw [pk_us]
    simp only [shfI]
    rw [if_neg (by omega), if_pos (by omega)]
    rfl
  · rw [pk_un hx]
    simp only [shfI]
    by_cases h1 : a + 1 < x ∧ x ≤ m
    · rw [if_pos h1, if_pos (by omega)]
    · rw [if_neg h1, if_neg (by omega)]
theorem shfI_m (A : Nat → Int32) (m : Nat) : shfI A m m = A := by
  funext x
  simp only [shfI]
  rw [if_neg (by omega)]
section
variable {b : Nat} {W : WD}
theorem m_ordL82 {h M : Nat} (hM : M < 12) (hh : h < 12) {r : Nat → Int32} {o : Nat → Nat} {A : Nat → Int32} {k : Int32 → AH → Option (Unit × AH)} (hr : W.2.1 10 0 0 0 = r) (hA : ∀ x, x < M → A x = nI (o x) ∧ o x < 12) (hf : ∀ x, x < M → W.2.2 10 0 0 11 (o x) = keyS r (o x) ∧ W.2.2 10 0 0 12 (o x) = secS r (o x)) (hfh : W.2.2 10 0 0 11 h = keyS r h ∧ W.2.2 10 0 0 12 h = secS r h) : ∀ a m, a ≤ M → a < m → f_X10_orders_L82 (b + ad 10 0 0) (nI h) k m (nI a) (wd b (wsA W 10 0 0 6 (shfI A a M))) = k (nI (posS (bfS r) o h a)) (wd b (wsA W 10 0 0 6 (shfI A (posS (bfS r) o h a) M))) := by
  intro a
  induction a with
  | zero =>
    intro m h1 h2
    obtain ⟨m, rfl⟩ : ∃ q, m = q + 1 := ⟨m - 1, by omega⟩
    rw [f_X10_orders_L82, if_pos (by decide)]
    rfl
  | succ a ih =>
    intro m h1 h2
    obtain ⟨m, rfl⟩ : ∃ q, m = q + 1 := ⟨m - 1, by omega⟩
    have ea : shfI A (a + 1) M a = nI (o a) := by
      simp only [shfI]
      rw [if_neg (by omega), (hA a (by omega)).1]
    have hr' : (wsA W 10 0 0 6 (shfI A (a + 1) M)).2.1 10 0 0 0 = r := by rw [wsA_k _ (by decide), hr]
    have eb := m_isBefore (b := b) (W := wsA W 10 0 0 6 (shfI A (a + 1) M)) (g := o a) (h := h) (hA a (by omega)).2 hh (by rw [hr']; exact (hf a (by omega)).1) (by rw [hr']; exact hfh.1) (by rw [hr']; exact (hf a (by omega)).2) (by rw [hr']; exact hfh.2)
    rw [hr'] at eb
    rw [f_X10_orders_L82, if_neg (by rw [li 0]; exact le_n (by omega) (by omega)), o10_6 h10, nI_pred, oa10_6 h10 (by omega), wsA_r, ea, ob2_i eb, posS]
    cases hbf : bfS r (o a) h with
    | true =>
      rw [if_pos (by decide), if_pos rfl]
    | false =>
      rw [if_neg (by decide), if_neg (by decide), o10_6 h10, o10_6 h10, oa10_6 h10 (by omega), ot10_6 h10 (by omega), wsA_r, wsA_2, pk_m1, shfI_s (by omega)]
      exact ih m (by omega) (by omega)
theorem m_orders0 (hG : okG (W.2.1 10 0 0 0)) (h8 : W.1 10 0 0 8 = 0) : ∃ W', f_X10_orders (b + ad 10 0 0) (wd b W) = some ((), wd b W') ∧ frM [7] [4, 5, 6] [11, 12] W W' ∧ W'.1 10 0 0 7 = nI (ordS (W.2.1 10 0 0 0) (bfS (W.2.1 10 0 0 0)) (nG (W.2.1 10 0 0 0))).1 ∧ ∀ x, x < (ordS (W.2.1 10 0 0 0) (bfS (W.2.1 10 0 0 0)) (nG (W.2.1 10 0 0 0))).1 → W'.2.1 10 0 0 6 x = nI ((ordS (W.2.1 10 0 0 0) (bfS (W.2.1 10 0 0 0)) (nG (W.2.1 10 0 0 0))).2 x) := by
  unfold f_X10_orders
  rw [oO_10 h10, o10_8 h10, h8, if_pos rfl, p10_7 h10]
  generalize hr : W.2.1 10 0 0 0 = r at *
  obtain ⟨⟨hG1, hG2⟩, hG3, hG4⟩ := hG
  refine loopE (fun m i (W1 : WD) => f_X10_orders_L19 (b + ad 10 0 0) (fun N42 => some ((), N42)) m (nI i) (wd b W1)) (nG r) (fun i W1 => frM [7] [4, 5, 6] [11, 12] W W1 ∧ W1.1 10 0 0 7 = nI (ordS r (bfS r) i).1 ∧ (∀ x, x < (ordS r (bfS r) i).1 → W1.2.1 10 0 0 6 x = nI ((ordS r (bfS r) i).2 x)) ∧ ∀ g, g < i → stO r g = 1 → W1.2.2 10 0 0 11 g = keyS r g ∧ W1.2.2 10 0 0 12 g = secS r g) (fun z => ∃ W', z = some ((), wd b W') ∧ frM [7] [4, 5, 6] [11, 12] W W' ∧ W'.1 10 0 0 7 = nI (ordS r (bfS r) (nG r)).1 ∧ ∀ x, x < (ordS r (bfS r) (nG r)).1 → W'.2.1 10 0 0 6 x = nI ((ordS r (bfS r) (nG r)).2 x)) ?_ ?_ FU 0 (wsI W 10 0 0 7 0) (by omega) (by have := FUgt; omega) ?_
  · intro m i W1 hi ⟨f1, f2, f3, f4⟩
    have hr1 : W1.2.1 10 0 0 0 = r := by rw [f1.ma 0 (by decide), hr]
    try dsimp only
    rw [f_X10_orders_L19, o10_0 h10, oR0 6 6 rfl (by omega), hr1, hG1, if_neg (le_n hi (by omega)), ob2_i (m_stateOf (by omega)), hr1]
    by_cases hs : stO r i = 1
    · rw [if_neg (fun q => q hs), o10_11 h10]
      obtain ⟨W2, e1, e2⟩ := m_keyOf (b := b) (W := W1) (g := i) (by omega) (by rw [hr1]; exact hG3 i hi) (by rw [hr1]; exact hG4)
      have hr2 : W2.2.1 10 0 0 0 = r := by rw [e2.ma 0 (by decide), hr1]
      have hm := ordS_m r (bfS r) i
      have ha := ordS_act r (bfS r) i
      rw [hr1] at e1
      rw [ob2_i e1, ot10_11 h10 (by omega), o10_12 h10, o10_0 h10, oR0 1 1 rfl (by omega), wsL_A, hr2]
      have key : ∀ v : Int64, v = secS r i → ∃ s', (frM [7] [4, 5, 6] [11, 12] W s' ∧ s'.1 10 0 0 7 = nI (ordS r (bfS r) (i + 1)).1 ∧ (∀ x, x < (ordS r (bfS r) (i + 1)).1 → s'.2.1 10 0 0 6 x = nI ((ordS r (bfS r) (i + 1)).2 x)) ∧ ∀ g, g < i + 1 → stO r g = 1 → s'.2.2 10 0 0 11 g = keyS r g ∧ s'.2.2 10 0 0 12 g = secS r g) ∧ (ob (sJ (wd b (wsL W2 10 0 0 11 (vp_updL (W2.2.2 10 0 0 11) i (keyS r i)))) (b + aa 10 0 0 12) (nI i) v) fun N18 => ob (hI N18 (b + ad 10 0 0) 10 7) fun x19 => f_X10_orders_L82 (b + ad 10 0 0) (nI i) (fun v30 N31 => f_X10_orders_J122 (f_X10_orders_L19 (b + ad 10 0 0) (fun N42 => some ((), N42)) m) (b + ad 10 0 0) (nI i) v30 N31) FU x19 N18) = f_X10_orders_L19 (b + ad 10 0 0) (fun N42 => some ((), N42)) m (nI (i + 1)) (wd b s') := by
        intro v hv
        rw [ot10_12 h10 (by omega), o10_7 h10, wsL_1, wsL_1, e2.mi 7 (by decide), f2]
        generalize hW3 : wsL (wsL W2 10 0 0 11 (vp_updL (W2.2.2 10 0 0 11) i (keyS r i))) 10 0 0 12 (vp_updL ((wsL W2 10 0 0 11 (vp_updL (W2.2.2 10 0 0 11) i (keyS r i))).2.2 10 0 0 12) i v) = W3
        have hf3 : frM [7] [4, 5, 6] [11, 12] W1 W3 := by
          rw [← hW3]
          exact ((e2.mono (by decide) (by decide) (by decide)).tr (frM.L (by decide))).tr (frM.L (by decide))
        have hr3 : W3.2.1 10 0 0 0 = r := by rw [hf3.ma 0 (by decide), hr1]
        have h11 : W3.2.2 10 0 0 11 = vp_updL (W1.2.2 10 0 0 11) i (keyS r i) := by
          rw [← hW3, wsL_k _ (by decide), wsL_r, e2.ml 11 (by decide)]
        have h12 : W3.2.2 10 0 0 12 = vp_updL (W1.2.2 10 0 0 12) i v := by
          rw [← hW3, wsL_r, wsL_k _ (by decide), e2.ml 12 (by decide)]
        have h6 : W3.2.1 10 0 0 6 = W1.2.1 10 0 0 6 := by
          rw [← hW3, wsL_A, wsL_A, e2.ma 6 (by decide)]
        have h7 : W3.1 10 0 0 7 = nI (ordS r (bfS r) i).1 := by
          rw [← hW3, wsL_1, wsL_1, e2.mi 7 (by decide), f2]
        have hkeys : ∀ g, g < i + 1 → stO r g = 1 → W3.2.2 10 0 0 11 g = keyS r g ∧ W3.2.2 10 0 0 12 g = secS r g := by
          intro g hg hsg
          rw [h11, h12]
          by_cases hgi : g = i
          · subst hgi
            rw [pk_uLs, pk_uLs]
            exact ⟨rfl, hv⟩
          · rw [pk_uLn hgi, pk_uLn hgi]
            exact f4 g (by omega) hsg
        have e82 := m_ordL82 (b := b) (W := W3) (h := i) (M := (ordS r (bfS r) i).1) (by omega) (by omega) (r := r) (o := (ordS r (bfS r) i).2) (A := W1.2.1 10 0 0 6) (k := fun v30 N31 => f_X10_orders_J122 (f_X10_orders_L19 (b + ad 10 0 0) (fun N42 => some ((), N42)) m) (b + ad 10 0 0) (nI i) v30 N31) hr3 (fun x hx => ⟨f3 x hx, by have := (ha x hx).1; omega⟩) (fun x hx => hkeys _ (by have := (ha x hx).1; omega) (ha x hx).2) (hkeys i (by omega) hs) (ordS r (bfS r) i).1 FU (Nat.le_refl _) (by have := FUgt; omega)
        have hp := posS_le (bfS r) (ordS r (bfS r) i).2 i (ordS r (bfS r) i).1
        rw [shfI_m, ← h6, wsA_s] at e82
        rw [e82]
        unfold f_X10_orders_J122
        rw [o10_6 h10, ot10_6 h10 (by omega), o10_7 h10, p10_7 h10, nI_1, wsA_r, wsA_2, wsA_1, h7, nI_1]
        refine ⟨_, ⟨?_, ?_, ?_, ?_⟩, rfl⟩
        · exact (f1.tr hf3).tr ((frM.A (by decide)).tr (frM.I (by decide)))
        · rw [wsI_r, ordS, if_pos hs]
        · intro x hx
          rw [wsI_A, wsA_r]
          rw [ordS, if_pos hs] at hx ⊢
          simp only at hx ⊢
          unfold insO
          by_cases hxp : x = posS (bfS r) (ordS r (bfS r) i).2 i (ordS r (bfS r) i).1
          · rw [if_pos hxp, hxp, pk_us]
          · rw [if_neg hxp, pk_un hxp]
            simp only [shfI, h6]
            by_cases h2 : posS (bfS r) (ordS r (bfS r) i).2 i (ordS r (bfS r) i).1 < x ∧ x ≤ (ordS r (bfS r) i).1
            · rw [if_pos h2, if_pos h2]
              exact f3 _ (by omega)
            · rw [if_neg h2, if_neg h2]
              exact f3 _ (by omega)
        · intro g hg hsg
          rw [wsI_L, wsA_L]
          exact hkeys g hg hsg
      by_cases hp4 : r 1 = 4
      · rw [if_neg (fun q => q hp4), ob2_i (m_ofk 0 0 rfl (by omega)), wsL_A, hr2]
        exact key _ (by unfold secS; rw [if_pos hp4])
      · rw [if_pos hp4]
        exact key _ (by unfold secS; rw [if_neg hp4])
    · rw [if_pos hs, nI_1]
      refine ⟨W1, ⟨f1, ?_, ?_, ?_⟩, rfl⟩
      · rw [f2, ordS, if_neg hs]
      · rw [ordS, if_neg hs]
        exact f3
      · intro g hg hsg
        rcases Nat.lt_or_ge g i with h | h
        · exact f4 g h hsg
        · rw [show g = i by omega] at hsg
          exact absurd hsg hs
  · intro m W1 ⟨f1, f2, f3, f4⟩
    try dsimp only
    rw [f_X10_orders_L19, o10_0 h10, oR0 6 6 rfl (by omega), f1.ma 0 (by decide), hr, hG1, if_pos (le_p (Nat.le_refl _) (by omega))]
    exact ⟨W1, rfl, f1, f2, f3⟩
  · exact ⟨frM.I (by decide), by rw [wsI_r]; rfl, fun x hx => absurd hx (Nat.not_lt_zero x), fun g hg => absurd hg (Nat.not_lt_zero g)⟩
end
