/-! the whole text on both sides -/
def fdQ : Nat → Nat → Nat → Nat → Prop := fun c _ _ k => c = 12 ∨ (c = 2 ∧ k = 1)
theorem h12v : vo 12 0 0 = true := rfl
section
variable {b : Nat} {W : WD} {t : Nat → Int32} {ℓ p : Nat}
theorem tx2.fr {V : WD} (h : tx2 W t ℓ) (hf : frQ fdQ W V) : tx2 V t ℓ := ⟨h.1, by rw [hf.1 2 0 0 0 (by unfold fdQ; omega)]; exact h.2.1, by rw [hf.2.1 2 0 0 2 (by unfold fdQ; omega)]; exact h.2.2⟩
theorem A2_fd {q : Nat} : frQ fdQ W (A2 W q) := frQ.I (Or.inr ⟨rfl, rfl⟩)
theorem A2_12 {q : Nat} : (A2 W q).1 12 0 0 0 = W.1 12 0 0 0 := wsI_n _ (by omega)
theorem c_tflow (h : tx2 W t ℓ) (hp : p ≤ ℓ) {k d : Nat} (hd : d ≤ 16) (hk : d + k ≤ 16) (h0 : W.1 12 0 0 0 = nI k) : ∃ V, f_X2_takeFlow (b + ad 2 0 0) (nI (16 - d)) (wd b (A2 W p)) = some (bI (gG t ℓ d k p).1.isSome, wd b V) ∧ frQ fdQ W V ∧ V.1 2 0 0 1 = nI (gG t ℓ d k p).2 ∧ ∀ x, (gG t ℓ d k p).1 = some x → V.1 12 0 0 0 = nI (k + 1) ∧ V.2.1 12 0 0 1 = upd (W.2.1 12 0 0 1) k (nI x.1) ∧ V.2.1 12 0 0 2 = upd (W.2.1 12 0 0 2) k (nI x.2.1) ∧ V.2.1 12 0 0 3 = upd (W.2.1 12 0 0 3) k (nI x.2.2) := by
  have hs := skp_le h.1 hp
  unfold f_X2_takeFlow gG
  rw [oO_2 h20, ob2_i (c_skip h hp), o2_3 h20, o12_0 h12v, A2_12, h0]
  rcases Nat.lt_or_ge (d + k) 16 with hl | hl
  · rw [if_pos (lt_p (by omega) (by omega)), if_neg (by omega)]
    generalize skp t ℓ p = s at *
    rcases gF_cases (t := t) (ℓ := ℓ) s with ⟨q, a1, e⟩ | ⟨a, q1, q, a1, a2, e⟩ | ⟨a, q1, q2, q, a1, a2, a3, e⟩ | ⟨a, q1, q2, c, q3, q, a1, a2, a3, a4, e⟩ | ⟨a, q1, q2, c, q3, q4, q, a1, a2, a3, a4, a5, e⟩ | ⟨a, q1, q2, c, q3, q4, z, q, a1, a2, a3, a4, a5, e⟩
    · have x1 := c_tport (b := b) h hs
      rw [a1] at x1
      dsimp only at x1
      rw [e]
      dsimp only
      rw [ob2_i x1, if_pos (show oN none = -1 from rfl)]
      exact ⟨_, rfl, A2_fd, A2_1, fun x hx => by cases hx⟩
    · have x1 := c_tport (b := b) h hs
      rw [a1] at x1
      dsimp only at x1
      have w1 := gP_ok h.1 hs a1
      have n1 := w1.2.1 a rfl
      have x2 := c_tsign (b := b) h w1.1 (c := 62)
      rw [a2] at x2
      dsimp only at x2
      rw [e]
      dsimp only
      rw [ob2_i x1, if_neg (show ¬ oN (some a) = -1 from nI_ne_m1 (by omega)), ob2_i x2, if_neg (by decide)]
      exact ⟨_, rfl, A2_fd, A2_1, fun x hx => by cases hx⟩
    · have x1 := c_tport (b := b) h hs
      rw [a1] at x1
      dsimp only at x1
      have w1 := gP_ok h.1 hs a1
      have n1 := w1.2.1 a rfl
      have x2 := c_tsign (b := b) h w1.1 (c := 62)
      rw [a2] at x2
      dsimp only at x2
      have w2 := gS_ok h.1 w1.1 a2
      have x3 := c_tport (b := b) h w2.1
      rw [a3] at x3
      dsimp only at x3
      rw [e]
      dsimp only
      rw [ob2_i x1, if_neg (show ¬ oN (some a) = -1 from nI_ne_m1 (by omega)), ob2_i x2, if_pos (by decide), ob2_i x3, if_pos (show oN none = -1 from rfl)]
      exact ⟨_, rfl, A2_fd, A2_1, fun x hx => by cases hx⟩
    · have x1 := c_tport (b := b) h hs
      rw [a1] at x1
      dsimp only at x1
      have w1 := gP_ok h.1 hs a1
      have n1 := w1.2.1 a rfl
      have x2 := c_tsign (b := b) h w1.1 (c := 62)
      rw [a2] at x2
      dsimp only at x2
      have w2 := gS_ok h.1 w1.1 a2
      have x3 := c_tport (b := b) h w2.1
      rw [a3] at x3
      dsimp only at x3
      have w3 := gP_ok h.1 w2.1 a3
      have n3 := w3.2.1 c rfl
      have x4 := c_tsign (b := b) h w3.1 (c := 58)
      rw [a4] at x4
      dsimp only at x4
      rw [e]
      dsimp only
      rw [ob2_i x1, if_neg (show ¬ oN (some a) = -1 from nI_ne_m1 (by omega)), ob2_i x2, if_pos (by decide), ob2_i x3, if_neg (show ¬ oN (some c) = -1 from nI_ne_m1 (by omega)), ob2_i x4, if_neg (by decide)]
      exact ⟨_, rfl, A2_fd, A2_1, fun x hx => by cases hx⟩
    · have x1 := c_tport (b := b) h hs
      rw [a1] at x1
      dsimp only at x1
      have w1 := gP_ok h.1 hs a1
      have n1 := w1.2.1 a rfl
      have x2 := c_tsign (b := b) h w1.1 (c := 62)
      rw [a2] at x2
      dsimp only at x2
      have w2 := gS_ok h.1 w1.1 a2
      have x3 := c_tport (b := b) h w2.1
      rw [a3] at x3
      dsimp only at x3
      have w3 := gP_ok h.1 w2.1 a3
      have n3 := w3.2.1 c rfl
      have x4 := c_tsign (b := b) h w3.1 (c := 58)
      rw [a4] at x4
      dsimp only at x4
      have w4 := gS_ok h.1 w3.1 a4
      have x5 := c_tsize (b := b) h w4.1
      rw [a5] at x5
      dsimp only at x5
      rw [e]
      dsimp only
      rw [ob2_i x1, if_neg (show ¬ oN (some a) = -1 from nI_ne_m1 (by omega)), ob2_i x2, if_pos (by decide), ob2_i x3, if_neg (show ¬ oN (some c) = -1 from nI_ne_m1 (by omega)), ob2_i x4, if_pos (by decide), ob2_i x5, if_neg (fun w => w rfl)]
      exact ⟨_, rfl, A2_fd, A2_1, fun x hx => by cases hx⟩
    · have x1 := c_tport (b := b) h hs
      rw [a1] at x1
      dsimp only at x1
      have w1 := gP_ok h.1 hs a1
      have n1 := w1.2.1 a rfl
      have x2 := c_tsign (b := b) h w1.1 (c := 62)
      rw [a2] at x2
      dsimp only at x2
      have w2 := gS_ok h.1 w1.1 a2
      have x3 := c_tport (b := b) h w2.1
      rw [a3] at x3
      dsimp only at x3
      have w3 := gP_ok h.1 w2.1 a3
      have n3 := w3.2.1 c rfl
      have x4 := c_tsign (b := b) h w3.1 (c := 58)
      rw [a4] at x4
      dsimp only at x4
      have w4 := gS_ok h.1 w3.1 a4
      have x5 := c_tsize (b := b) h w4.1
      rw [a5] at x5
      dsimp only at x5
      have w5 := (gN_ok h.1 w4.1 a5).2.1 z rfl
      obtain ⟨V, y1, y2, y3, y4, y5, y6, -, -⟩ := c_append (b := b) (W := A2 W q) (n := k) isF_12 (by omega) (by rw [A2_12]; exact h0) (x := oN (some a)) (y := oN (some c)) (z := oN (some z))
      have y2' : frQ fdQ (A2 W q) V := y2.mono (fun c i g k w => Or.inl w.1)
      rw [e]
      dsimp only
      rw [ob2_i x1, if_neg (show ¬ oN (some a) = -1 from nI_ne_m1 (by omega)), ob2_i x2, if_pos (by decide), ob2_i x3, if_neg (show ¬ oN (some c) = -1 from nI_ne_m1 (by omega)), ob2_i x4, if_pos (by decide), ob2_i x5, if_pos (show ¬ oN (some z) = -1 from nI_ne_m1 (by omega)), o2_3 h20, ob2_i y1]
      refine ⟨V, rfl, A2_fd.tr y2', by rw [y2.1 2 0 0 1 (by unfold atQ; omega)]; exact A2_1, fun x hx => ?_⟩
      cases hx
      exact ⟨y3, y4, y5, y6⟩
  · rw [if_neg (lt_n (by omega) (by omega)), if_pos (by omega)]
    exact ⟨_, rfl, A2_fd, A2_1, fun x hx => by cases hx⟩
theorem gL_lt (h : tK t ℓ) {d : Nat} : ∀ m k p, p ≤ ℓ → (gL t ℓ d m k p).1 = true → d + k < 16
  | 0, _, _, _, w => by cases w
  | m + 1, k, p, hp, w => by
    rcases gL_cases (t := t) (ℓ := ℓ) d m k p with ⟨q, a1, e⟩ | ⟨x, q, a1, a2, e⟩ | ⟨x, q, q2, a1, a2, a3, e⟩ | ⟨x, q, q2, a1, a2, a3, e⟩
    · rw [e] at w; cases w
    · exact ((gG_ok h hp a1).2.1 x rfl).2
    · exact ((gG_ok h hp a1).2.1 x rfl).2
    · exact ((gG_ok h hp a1).2.1 x rfl).2
theorem c_ffL {d : Nat} (hd : d ≤ 16) : ∀ m k p n U, tx2 U t ℓ → U.1 2 0 0 1 = nI p → p ≤ ℓ → U.1 12 0 0 0 = nI k → d + k ≤ 16 → 16 < d + k + m → 20 < n + k → ∃ V, f_X2_findFault_L17 (b + ad 2 0 0) (nI (16 - d)) (fun N17 => ob (hI N17 (b + ad 2 0 0) 2 1) (fun x18 => some (x18, N17))) (fun N19 => ob (hI N19 (b + ad 2 0 0) 2 1) (fun x20 => some (x20, N19))) (fun N21 => some ((-1 : Int32), N21)) n (1 : Int32) (nI k) (wd b U) = some (if (gL t ℓ d m k p).1 = true then -1 else nI (gL t ℓ d m k p).2.1, wd b V) ∧ frQ fdQ U V ∧ ((gL t ℓ d m k p).1 = true → V.1 12 0 0 0 = nI (k + (gL t ℓ d m k p).2.2.length) ∧ (∀ j, j < k → V.2.1 12 0 0 1 j = U.2.1 12 0 0 1 j ∧ V.2.1 12 0 0 2 j = U.2.1 12 0 0 2 j ∧ V.2.1 12 0 0 3 j = U.2.1 12 0 0 3 j) ∧ ∀ j x, (gL t ℓ d m k p).2.2[j]? = some x → V.2.1 12 0 0 1 (k + j) = nI x.1 ∧ V.2.1 12 0 0 2 (k + j) = nI x.2.1 ∧ V.2.1 12 0 0 3 (k + j) = nI x.2.2) := by
  intro m
  induction m with
  | zero => intro k p n U _ _ _ _ h1 h2; omega
  | succ m ih =>
    intro k p n U hx hat hp h0 hk hm hn
    obtain ⟨n, rfl⟩ : ∃ q, n = q + 1 := ⟨n - 1, by omega⟩
    obtain ⟨V1, e1, e2, e3, e4⟩ := c_tflow (b := b) (W := U) hx hp hd hk h0
    rw [A2_e hat] at e1
    have hV1 := hx.fr e2
    rw [f_X2_findFault_L17, if_neg (show ¬ (120 : Int32) ≤ nI k from le_n (a := 120) (by omega) (by omega)), if_neg (by decide), ob2_i e1]
    have hpos : ∀ q, (gG t ℓ d k p).2 = q → V1 = A2 V1 q := fun q hq => (A2_e (by rw [e3, hq])).symm
    rcases gL_cases (t := t) (ℓ := ℓ) d m k p with ⟨q, a1, e⟩ | ⟨x, q, a1, a2, e⟩ | ⟨x, q, q2, a1, a2, a3, e⟩ | ⟨x, q, q2, a1, a2, a3, e⟩
    · rw [a1] at e3 ⊢
      dsimp only [Option.isSome] at e3 ⊢
      rw [e]
      dsimp only
      rw [if_neg (by decide), o2_1 h20, e3]
      exact ⟨V1, rfl, e2, fun w => by cases w⟩
    all_goals
      have hq := (gG_ok hx.1 hp a1).1
      have hsq := skp_le hx.1 hq
      have sk := c_skip (b := b) hV1 hq
      rw [← hpos q (by rw [a1])] at sk
      rw [a1] at e3 e4 ⊢
      dsimp only [Option.isSome] at e3 e4 ⊢
      obtain ⟨b1, b2, b3, b4⟩ := e4 x rfl
      rw [e]
      dsimp only
      rw [if_pos (by decide), ob2_i sk, o2_1 h20, A2_1, o2_0 h20, A2_0 hV1]
    · rw [if_pos (le_p a2 (by have := hx.1.1; omega))]
      unfold f_X2_findFault_J60
      obtain ⟨n, rfl⟩ : ∃ q, n = q + 1 := ⟨n - 1, by omega⟩
      rw [if_pos rfl, nI_1, f_X2_findFault_L17, if_neg (show ¬ (120 : Int32) ≤ nI (k + 1) from le_n (a := 120) (by omega) (by omega)), if_pos rfl]
      refine ⟨A2 V1 (skp t ℓ q), rfl, e2.tr A2_fd, fun _ => ⟨by rw [A2_12, b1]; rfl, fun j hj => ?_, fun j y hy => ?_⟩⟩
      · unfold A2
        rw [wsI_A, b2, b3, b4, pk_un (by omega), pk_un (by omega), pk_un (by omega)]
        exact ⟨rfl, rfl, rfl⟩
      · have hj : j = 0 := by
          have := (List.getElem?_eq_some_iff.mp hy).1
          simp only [List.length_singleton] at this
          omega
        subst hj
        cases hy
        unfold A2
        rw [wsI_A, b2, b3, b4, Nat.add_zero, pk_us, pk_us, pk_us]
        exact ⟨rfl, rfl, rfl⟩
    · have sg := c_tsign (b := b) hV1 hsq (c := 44)
      rw [a3] at sg
      dsimp only at sg
      rw [if_neg (le_n a2 (by have := hx.1.1; omega))]
      unfold f_X2_findFault_J60
      rw [if_neg (by decide), ob2_i sg, if_neg (by decide)]
      dsimp only
      rw [o2_1 h20, A2_1]
      exact ⟨_, rfl, e2.tr A2_fd, fun w => by cases w⟩
    · have sg := c_tsign (b := b) hV1 hsq (c := 44)
      rw [a3] at sg
      dsimp only at sg
      have hq2 := (gS_ok hx.1 hsq a3).1
      have dk := ((gG_ok hx.1 hp a1).2.1 x rfl).2
      rw [if_neg (le_n a2 (by have := hx.1.1; omega))]
      unfold f_X2_findFault_J60
      rw [if_neg (by decide), ob2_i sg, if_pos (by decide), nI_1]
      obtain ⟨V, z1, z2, z3⟩ := ih (k + 1) q2 n (A2 V1 q2) (hV1.fr A2_fd) A2_1 hq2 (by rw [A2_12]; exact b1) (by omega) (by omega) (by omega)
      refine ⟨V, z1, (e2.tr A2_fd).tr z2, fun w => ?_⟩
      obtain ⟨y1, y2, y3⟩ := z3 w
      refine ⟨by rw [y1, List.length_cons, Nat.add_assoc, Nat.add_comm 1], fun j hj => ?_, fun j y hy => ?_⟩
      · obtain ⟨u1, u2, u3⟩ := y2 j (by omega)
        rw [u1, u2, u3]
        unfold A2
        rw [wsI_A, b2, b3, b4, pk_un (by omega), pk_un (by omega), pk_un (by omega)]
        exact ⟨rfl, rfl, rfl⟩
      · cases j with
        | zero =>
          cases hy
          obtain ⟨u1, u2, u3⟩ := y2 k (by omega)
          rw [Nat.add_zero, u1, u2, u3]
          unfold A2
          rw [wsI_A, b2, b3, b4, pk_us, pk_us, pk_us]
          exact ⟨rfl, rfl, rfl⟩
        | succ j =>
          have := y3 j y hy
          rw [show k + 1 + j = k + (j + 1) by omega] at this
          exact this
theorem c_findFault (h : tx2 W t ℓ) {d : Nat} (hd : d ≤ 16) : ∃ V, f_X2_findFault (b + ad 2 0 0) (nI (16 - d)) (wd b W) = some (if (gL t ℓ d 17 0 0).1 = true then -1 else nI (gL t ℓ d 17 0 0).2.1, wd b V) ∧ frQ fdQ W V ∧ ((gL t ℓ d 17 0 0).1 = true → V.1 12 0 0 0 = nI (gL t ℓ d 17 0 0).2.2.length ∧ ∀ j x, (gL t ℓ d 17 0 0).2.2[j]? = some x → V.2.1 12 0 0 1 j = nI x.1 ∧ V.2.1 12 0 0 2 j = nI x.2.1 ∧ V.2.1 12 0 0 3 j = nI x.2.2) := by
  have f0 : frQ fdQ W (wsI (wsI W 2 0 0 1 0) 12 0 0 0 0) := (frQ.I (Or.inr ⟨rfl, rfl⟩)).tr (frQ.I (Or.inl rfl))
  obtain ⟨V, e1, e2, e3⟩ := c_ffL (b := b) hd 17 0 0 FU (wsI (wsI W 2 0 0 1 0) 12 0 0 0 0) (h.fr f0) (by rw [wsI_n _ (by omega), wsI_r]; rfl) (by omega) (by rw [wsI_r]; rfl) (by omega) (by omega) (by have := FUgt; omega)
  refine ⟨V, ?_, f0.tr e2, fun w => ?_⟩
  · unfold f_X2_findFault
    rw [oO_2 h20, p2_1 h20, o2_3 h20, p12_0 h12v]
    exact e1
  · obtain ⟨y1, y2, y3⟩ := e3 w
    refine ⟨by rw [y1, Nat.zero_add], fun j x hx => ?_⟩
    have := y3 j x hx
    rw [Nat.zero_add] at this
    exact this
/-! the reference -/
def rw1 (adf : Bool) (r : Nat → Int32) (n : Nat) (o : Option (Nat × Nat × Nat)) : Nat → Int32 := match adf, o with
  | true, some x => drw r n (nI x.1) (nI x.2.1) (nI x.2.2)
  | _, _ => r
theorem M2_fr {q : Nat} : frM [15, 16] [0] [] W (M2 W q) := frM.I (by decide)
theorem txM.fr {V : WD} (h : txM W t ℓ) (hf : frM [15, 16] [0] [] W V) : txM V t ℓ := ⟨h.1, by rw [hf.mi 3 (by decide)]; exact h.2.1, by rw [hf.ma 2 (by decide)]; exact h.2.2⟩
theorem m_rF (h : txM W t ℓ) (hp : p ≤ ℓ) {k d : Nat} {r : Nat → Int32} {adf : Bool} (hk : d + k ≤ 16) (hr : W.2.1 10 0 0 0 = r) (h16 : W.1 10 0 0 16 = nI k) (h17 : W.1 10 0 0 17 = bI adf) (h7 : r 7 = nI (if adf = true then d + k else d)) (ha : adf = true → d + k < 16) : ∃ V, f_X10_readsFlow (b + ad 10 0 0) (wd b (M2 W p)) = some (bI (gG t ℓ d k p).1.isSome, wd b V) ∧ frM [15, 16] [0] [] W V ∧ V.1 10 0 0 15 = nI (gG t ℓ d k p).2 ∧ V.2.1 10 0 0 0 = rw1 adf r (d + k) (gG t ℓ d k p).1 ∧ ((gG t ℓ d k p).1.isSome = true → V.1 10 0 0 16 = nI (k + 1)) := by
  have hs := skp_le h.1 hp
  have r0 : ∀ q, (M2 W q).2.1 10 0 0 0 = r := fun q => hr
  have r16 : ∀ q, (M2 W q).1 10 0 0 16 = nI k := fun q => by unfold M2; rw [wsI_k _ (by decide)]; exact h16
  have r17 : ∀ q, (M2 W q).1 10 0 0 17 = bI adf := fun q => by unfold M2; rw [wsI_k _ (by decide)]; exact h17
  have none1 : ∀ n, rw1 adf r n none = r := fun n => by cases adf <;> rfl
  have j32 : ¬ 16 ≤ d + k → ∃ V, f_X10_readsFlow_J32 (b + ad 10 0 0) (wd b (M2 W (skp t ℓ p))) = some (bI (gF t ℓ (skp t ℓ p)).1.isSome, wd b V) ∧ frM [15, 16] [0] [] W V ∧ V.1 10 0 0 15 = nI (gF t ℓ (skp t ℓ p)).2 ∧ V.2.1 10 0 0 0 = rw1 adf r (d + k) (gF t ℓ (skp t ℓ p)).1 ∧ ((gF t ℓ (skp t ℓ p)).1.isSome = true → V.1 10 0 0 16 = nI (k + 1)) := by
    intro hl
    generalize skp t ℓ p = s at *
    unfold f_X10_readsFlow_J32
    have x1 := m_port (b := b) h hs
    have pos : ∀ a : Nat, a < 8 → ¬ oN (some a) < 0 := fun a ha => lt_n (b := 0) (by omega) (by omega)
    rcases gF_cases (t := t) (ℓ := ℓ) s with ⟨q, a1, e⟩ | ⟨a, q1, q, a1, a2, e⟩ | ⟨a, q1, q2, q, a1, a2, a3, e⟩ | ⟨a, q1, q2, c, q3, q, a1, a2, a3, a4, e⟩ | ⟨a, q1, q2, c, q3, q4, q, a1, a2, a3, a4, a5, e⟩ | ⟨a, q1, q2, c, q3, q4, z, q, a1, a2, a3, a4, a5, e⟩
    · rw [a1] at x1
      rw [e]
      dsimp only
      rw [ob2_i x1, if_pos (show oN none < 0 by decide)]
      exact ⟨_, rfl, M2_fr, M2_1, by rw [none1]; exact r0 _, fun w => by cases w⟩
    · rw [a1] at x1
      have w1 := gP_ok h.1 hs a1
      have x2 := m_sign (b := b) h w1.1 (c := 62)
      rw [a2] at x2
      dsimp only at x2
      rw [e]
      dsimp only
      rw [ob2_i x1, if_neg (pos a (w1.2.1 a rfl)), ob2_i x2, if_neg (by decide)]
      exact ⟨_, rfl, M2_fr, M2_1, by rw [none1]; exact r0 _, fun w => by cases w⟩
    · rw [a1] at x1
      have w1 := gP_ok h.1 hs a1
      have x2 := m_sign (b := b) h w1.1 (c := 62)
      rw [a2] at x2
      dsimp only at x2
      have w2 := gS_ok h.1 w1.1 a2
      have x3 := m_port (b := b) h w2.1
      rw [a3] at x3
      dsimp only at x3
      rw [e]
      dsimp only
      rw [ob2_i x1, if_neg (pos a (w1.2.1 a rfl)), ob2_i x2, if_pos (by decide), ob2_i x3, if_pos (show oN none < 0 by decide)]
      exact ⟨_, rfl, M2_fr, M2_1, by rw [none1]; exact r0 _, fun w => by cases w⟩
    · rw [a1] at x1
      have w1 := gP_ok h.1 hs a1
      have x2 := m_sign (b := b) h w1.1 (c := 62)
      rw [a2] at x2
      dsimp only at x2
      have w2 := gS_ok h.1 w1.1 a2
      have x3 := m_port (b := b) h w2.1
      rw [a3] at x3
      dsimp only at x3
      have w3 := gP_ok h.1 w2.1 a3
      have x4 := m_sign (b := b) h w3.1 (c := 58)
      rw [a4] at x4
      dsimp only at x4
      rw [e]
      dsimp only
      rw [ob2_i x1, if_neg (pos a (w1.2.1 a rfl)), ob2_i x2, if_pos (by decide), ob2_i x3, if_neg (pos c (w3.2.1 c rfl)), ob2_i x4, if_neg (by decide)]
      exact ⟨_, rfl, M2_fr, M2_1, by rw [none1]; exact r0 _, fun w => by cases w⟩
    · rw [a1] at x1
      have w1 := gP_ok h.1 hs a1
      have x2 := m_sign (b := b) h w1.1 (c := 62)
      rw [a2] at x2
      dsimp only at x2
      have w2 := gS_ok h.1 w1.1 a2
      have x3 := m_port (b := b) h w2.1
      rw [a3] at x3
      dsimp only at x3
      have w3 := gP_ok h.1 w2.1 a3
      have x4 := m_sign (b := b) h w3.1 (c := 58)
      rw [a4] at x4
      dsimp only at x4
      have w4 := gS_ok h.1 w3.1 a4
      have x5 := m_number (b := b) h w4.1
      rw [a5] at x5
      dsimp only at x5
      rw [e]
      dsimp only
      rw [ob2_i x1, if_neg (pos a (w1.2.1 a rfl)), ob2_i x2, if_pos (by decide), ob2_i x3, if_neg (pos c (w3.2.1 c rfl)), ob2_i x4, if_pos (by decide), ob2_i x5, if_neg (show ¬ 0 ≤ oN none by decide)]
      exact ⟨_, rfl, M2_fr, M2_1, by rw [none1]; exact r0 _, fun w => by cases w⟩
    · rw [a1] at x1
      have w1 := gP_ok h.1 hs a1
      have x2 := m_sign (b := b) h w1.1 (c := 62)
      rw [a2] at x2
      dsimp only at x2
      have w2 := gS_ok h.1 w1.1 a2
      have x3 := m_port (b := b) h w2.1
      rw [a3] at x3
      dsimp only at x3
      have w3 := gP_ok h.1 w2.1 a3
      have x4 := m_sign (b := b) h w3.1 (c := 58)
      rw [a4] at x4
      dsimp only at x4
      have w4 := gS_ok h.1 w3.1 a4
      have x5 := m_number (b := b) h w4.1
      rw [a5] at x5
      dsimp only at x5
      have w5 := (gN_ok h.1 w4.1 a5).2.1 z rfl
      rw [e]
      dsimp only
      rw [ob2_i x1, if_neg (pos a (w1.2.1 a rfl)), ob2_i x2, if_pos (by decide), ob2_i x3, if_neg (pos c (w3.2.1 c rfl)), ob2_i x4, if_pos (by decide), ob2_i x5, if_pos (show 0 ≤ oN (some z) from le_p (a := 0) (by omega) (by omega)), o10_17 h10, r17]
      cases adf with
      | false =>
        unfold f_X10_readsFlow_J97
        rw [if_pos (by decide), o10_16 h10, r16, nI_1, p10_16 h10]
        exact ⟨_, rfl, M2_fr.tr (frM.I (by decide)), by rw [wsI_k _ (by decide)]; exact M2_1, by rw [wsI_A]; exact r0 _, fun _ => by rw [wsI_r]⟩
      | true =>
        have ed := m_drafts (b := b) (W := M2 W q) (n := d + k) (r := r) (x := oN (some a)) (y := oN (some c)) (z := oN (some z)) (r0 _) (by rw [h7, if_pos rfl]) (by omega)
        unfold f_X10_readsFlow_J97
        rw [if_neg (by decide), ob2_i ed, o10_16 h10, wsA_1, r16, nI_1, p10_16 h10]
        exact ⟨_, rfl, (M2_fr.tr (frM.A (by decide))).tr (frM.I (by decide)), by rw [wsI_k _ (by decide), wsA_1]; exact M2_1, by rw [wsI_A, wsA_r]; rfl, fun _ => by rw [wsI_r]⟩
  unfold f_X10_readsFlow gG
  rw [oO_10 h10, ob2_i (m_here h hp), o10_17 h10, r17]
  cases adf with
  | true =>
    have := ha rfl
    rw [if_pos (by decide), if_neg (by omega)]
    exact j32 (by omega)
  | false =>
    rw [if_neg (by decide), o10_0 h10, oR0 7 7 rfl (by omega), r0, h7, if_neg (by decide), o10_16 h10, r16, nI_add]
    rcases Nat.lt_or_ge (d + k) 16 with hl | hl
    · rw [if_pos (show ¬ nI (d + k) = 16 from ne_p (b := 16) (by omega) (by omega) (by omega)), if_neg (by omega)]
      exact j32 (by omega)
    · rw [if_neg (fun w => w (by rw [show d + k = 16 by omega]; rfl)), if_pos hl]
      exact ⟨_, rfl, M2_fr, M2_1, by rw [none1]; exact r0 _, fun w => by cases w⟩
/-- flows at the end of the draft -/
def drL : (Nat → Int32) → Nat → List (Nat × Nat × Nat) → (Nat → Int32)
  | r, _, [] => r
  | r, n, x :: l => drL (drw r n (nI x.1) (nI x.2.1) (nI x.2.2)) (n + 1) l
def rwL (adf : Bool) (r : Nat → Int32) (n : Nat) (l : List (Nat × Nat × Nat)) : Nat → Int32 := if adf = true then drL r n l else r
theorem rwL_s {adf : Bool} {r : Nat → Int32} {n : Nat} {x : Nat × Nat × Nat} {l : List (Nat × Nat × Nat)} : rwL adf (rw1 adf r n (some x)) (n + 1) l = rwL adf r n (x :: l) := by cases adf <;> rfl
theorem m_raL {d : Nat} {adf : Bool} {K : Int32 → AH → Option (Int32 × AH)} : ∀ m k p n W r, txM W t ℓ → W.1 10 0 0 15 = nI p → p ≤ ℓ → d + k ≤ 16 → 16 < d + k + m → 20 < n + k → W.2.1 10 0 0 0 = r → W.1 10 0 0 16 = nI k → W.1 10 0 0 17 = bI adf → r 7 = nI (if adf = true then d + k else d) → (adf = true → (gL t ℓ d m k p).1 = true) → ∃ V, ob2 (f_X10_readsFlow (b + ad 10 0 0) (wd b W)) (fun x5 N4 => ob2 (f_X10_here (b + ad 10 0 0) (0 : Int32) N4) (fun _ N6 => f_X10_readsAll_L26 (b + ad 10 0 0) K n x5 N6)) = K (bI (gL t ℓ d m k p).1) (wd b V) ∧ frM [15, 16] [0] [] W V ∧ V.1 10 0 0 15 = nI (gL t ℓ d m k p).2.1 ∧ (adf = false → V.2.1 10 0 0 0 = r) ∧ (adf = true → V.2.1 10 0 0 0 = drL r (d + k) (gL t ℓ d m k p).2.2) := by
  intro m
  induction m with
  | zero => intro k p n W r _ _ _ h1 h2; omega
  | succ m ih =>
    intro k p n W r hx hat hp hk hm hn hr h16 h17 h7 hok
    obtain ⟨n, rfl⟩ : ∃ q, n = q + 1 := ⟨n - 1, by omega⟩
    have ha : adf = true → d + k < 16 := fun w => gL_lt hx.1 _ _ _ hp (hok w)
    obtain ⟨V1, e1, e2, e3, e4, e5⟩ := m_rF (b := b) hx hp hk hr h16 h17 h7 ha
    rw [M2_e hat] at e1
    have hV1 := hx.fr e2
    have hq := (gG_ok hx.1 hp (q := (gG t ℓ d k p).2) (o := (gG t ℓ d k p).1) rfl).1
    have sk := m_here (b := b) hV1 hq (c := 0)
    rw [M2_e e3] at sk
    rw [ob2_i e1, ob2_i sk]
    rcases gL_cases (t := t) (ℓ := ℓ) d m k p with ⟨q, a1, e⟩ | ⟨x, q, a1, a2, e⟩ | ⟨x, q, q2, a1, a2, a3, e⟩ | ⟨x, q, q2, a1, a2, a3, e⟩
    · have hfix := (gG_ok hx.1 hp a1).2.2 rfl
      rw [a1] at e3 e4 ⊢
      dsimp only [Option.isSome] at e3 e4 ⊢
      rw [e]
      dsimp only
      rw [hfix, M2_e e3, f_X10_readsAll_L26, if_pos (by decide)]
      refine ⟨V1, rfl, e2, e3, fun w => ?_, fun w => ?_⟩
      · rw [e4]; cases adf <;> rfl
      · have := hok w
        rw [e] at this
        cases this
    all_goals
      rw [a1] at hq e3 e4 e5 ⊢
      dsimp only [Option.isSome] at hq e3 e4 e5 ⊢
      have hsq := skp_le hx.1 hq
      have e5 := e5 rfl
      rw [e]
      dsimp only
      rw [f_X10_readsAll_L26, if_neg (by decide), o10_15 h10, M2_1, o10_3 h10, M2_0 hV1]
    · rw [if_pos (le_p a2 (by have := hx.1.1; omega))]
      refine ⟨_, rfl, e2.tr M2_fr, M2_1, fun w => ?_, fun w => ?_⟩
      · unfold M2; rw [wsI_A, e4, w]; rfl
      · unfold M2; rw [wsI_A, e4, w]; rfl
    · have sg := m_sign (b := b) hV1 hsq (c := 44)
      rw [a3] at sg
      dsimp only at sg
      obtain ⟨hq2, hfix⟩ := gS_ok hx.1 hsq a3
      have hfix := hfix rfl
      have sk2 := m_here (b := b) hV1 hq2 (c := 0)
      obtain ⟨n, rfl⟩ : ∃ q, n = q + 1 := ⟨n - 1, by omega⟩
      rw [if_neg (le_n a2 (by have := hx.1.1; omega)), ob2_i sg, if_pos (by decide), ob2_i sk2, hfix, f_X10_readsAll_L26, if_pos rfl]
      refine ⟨_, rfl, e2.tr M2_fr, M2_1, fun w => ?_, fun w => ?_⟩
      · unfold M2; rw [wsI_A, e4, w]; rfl
      · have := hok w
        rw [e] at this
        cases this
    · have sg := m_sign (b := b) hV1 hsq (c := 44)
      rw [a3] at sg
      dsimp only at sg
      have hq2 := (gS_ok hx.1 hsq a3).1
      have dk := ((gG_ok hx.1 hp a1).2.1 x rfl).2
      rw [if_neg (le_n a2 (by have := hx.1.1; omega)), ob2_i sg, if_neg (by decide)]
      have hok' : adf = true → (gL t ℓ d m (k + 1) q2).1 = true := fun w => by
        have := hok w
        rw [e] at this
        exact this
      have h7' : rw1 adf r (d + k) (some x) 7 = nI (if adf = true then d + (k + 1) else d) := by
        cases adf with
        | true => rw [if_pos rfl]; exact drw_7
        | false => exact h7
      obtain ⟨V, z1, z2, z3, z4, z5⟩ := ih (k + 1) q2 n (M2 V1 q2) (rw1 adf r (d + k) (some x)) (hV1.fr M2_fr) M2_1 hq2 (by omega) (by omega) (by omega) (by unfold M2; rw [wsI_A]; exact e4) (by unfold M2; rw [wsI_k _ (by decide)]; exact e5) (by unfold M2; rw [wsI_k _ (by decide), e2.mi 17 (by decide)]; exact h17) h7' hok'
      refine ⟨V, ?_, (e2.tr M2_fr).tr z2, z3, fun w => ?_, fun w => ?_⟩
      · obtain ⟨V2, f1, -⟩ := m_rF (b := b) (W := M2 V1 q2) (hV1.fr M2_fr) hq2 (d := d) (k := k + 1) (r := rw1 adf r (d + k) (some x)) (adf := adf) (by omega) (by unfold M2; rw [wsI_A]; exact e4) (by unfold M2; rw [wsI_k _ (by decide)]; exact e5) (by unfold M2; rw [wsI_k _ (by decide), e2.mi 17 (by decide)]; exact h17) h7' (fun w => gL_lt hx.1 _ _ _ hq2 (hok' w))
        rw [M2_e M2_1] at f1
        rw [ob2_i f1] at z1 ⊢
        cases hb : (gG t ℓ d (k + 1) q2).1.isSome with
        | true =>
          rw [hb] at z1
          rw [if_neg (by decide)]
          exact z1
        | false =>
          rw [hb] at z1
          rw [if_pos (by decide)]
          exact z1
      · rw [z4 w, w]; rfl
      · rw [z5 w, w]; rfl
end
