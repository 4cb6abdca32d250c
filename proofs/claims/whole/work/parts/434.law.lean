/-! the digest -/
def hW (W : WD) (h : Int64) : WD := wsL W 10 0 0 19 (fun _ => h)
def dgG (r : Nat → Int32) (g : Nat) (h : Int64) : Int64 := mxN (fun k => gO r g (6 + k)) (5 * nF r g) (mx (mx (mx (mx (mx h (stO r g)) (gO r g 0)) (gO r g 1)) (gO r g 2)) (gO r g 3))
def dgP (r : Nat → Int32) : Nat → Int64 → Int64
  | 0, h => h
  | p + 1, h => mx (mx (dgP r p h) (r (10 + p))) (r (26 + p))
def dgA (r : Nat → Int32) : Nat → Int64 → Int64
  | 0, h => h
  | g + 1, h => dgG r g (dgA r g h)
def dgS (r : Nat → Int32) : Int64 := mxN (fun k => r (1122 + k)) (3 * nE r) (dgA r (nG r) (mxN (fun k => r (42 + k)) (3 * nD r) (mx (dgP r 16 (mx (mx (mx (mx (mx 17 (r 0)) (r 1)) (r 2)) (r 3)) (r 4))) (r 7))))
theorem mxN_3 {f : Nat → Int32} {h : Int64} {n : Nat} : mxN f (3 * (n + 1)) h = mx (mx (mx (mxN f (3 * n) h) (f (3 * n))) (f (3 * n + 1))) (f (3 * n + 2)) := rfl
theorem mxN_5 {f : Nat → Int32} {h : Int64} {n : Nat} : mxN f (5 * (n + 1)) h = mx (mx (mx (mx (mx (mxN f (5 * n) h) (f (5 * n))) (f (5 * n + 1))) (f (5 * n + 2))) (f (5 * n + 3))) (f (5 * n + 4)) := rfl
section
variable {b : Nat} {W : WD} {T : Nat} {r : Nat → Int32}
theorem hW_r {h : Int64} : (hW W h).2.1 = W.2.1 := rfl
theorem m_note {h : Int64} {v : Int32} : f_X10_note (b + ad 10 0 0) v (wd b (hW W h)) = some ((), wd b (hW W (mx h v))) := by
  unfold f_X10_note hW
  rw [oO_10 h10, o10_19 h10, p10_19 h10, wsL_r, wsL_2]
  rfl
theorem m_noteGroup {g : Nat} {h : Int64} (hr : W.2.1 10 0 0 0 = r) (ho : okR r T) (hg : g < nG r) : f_X10_noteGroup (b + ad 10 0 0) (nI g) (wd b (hW W h)) = some ((), wd b (hW W (dgG r g h))) := by
  have h12 := ho.1.1.2
  have hk := ho.1.2.1 g hg
  have h16 := hk.2.1
  have hr' : ∀ h, (hW W h).2.1 10 0 0 0 = r := fun h => hr
  unfold f_X10_noteGroup
  rw [oO_10 h10, ob2_i (m_stateOf (by omega)), hr', ob2_i m_note, ob2_i (m_ofk 0 0 rfl (by omega)), hr', ob2_i m_note, ob2_i (m_ofk 1 1 rfl (by omega)), hr', ob2_i m_note, ob2_i (m_ofk 2 2 rfl (by omega)), hr', ob2_i m_note, ob2_i (m_ofk 3 3 rfl (by omega)), hr', ob2_i m_note]
  refine loopN (fun m k => f_X10_noteGroup_L51 (b + ad 10 0 0) (nI g) (fun N22 => some ((), N22)) m (nI k) (wd b (hW W (mxN (fun k => gO r g (6 + k)) k (mx (mx (mx (mx (mx h (stO r g)) (gO r g 0)) (gO r g 1)) (gO r g 2)) (gO r g 3)))))) (5 * nF r g) ?_ ?_ FU 0 (by omega) (by have := FUgt; omega)
  · intro m k hk5
    try dsimp only
    rw [f_X10_noteGroup_L51, ob2_i (m_ofk 5 5 rfl (by omega)), hr', hk.1, li 5, pk_mul, if_neg (le_n hk5 (by omega)), li 6, nI_add, ob2_i (m_of (by omega)), hr', ob2_i m_note, nI_1]
    rfl
  · intro m
    try dsimp only
    rw [f_X10_noteGroup_L51, ob2_i (m_ofk 5 5 rfl (by omega)), hr', hk.1, li 5, pk_mul, if_pos (le_p (Nat.le_refl _) (by omega))]
    rfl
theorem m_digest (hr : W.2.1 10 0 0 0 = r) (ho : okR r T) : f_X10_digest (b + ad 10 0 0) (wd b W) = some (dgS r, wd b (hW W (dgS r))) := by
  have h12 := ho.1.1.2
  have hr' : ∀ h, (hW W h).2.1 10 0 0 0 = r := fun h => hr
  obtain ⟨hD1, hD2, -⟩ := ho.2.2.2.2.1.2
  obtain ⟨hE1, hE2⟩ := ho.2.2.1
  have l9 : ∀ k, f_X10_digest_L9 (b + ad 10 0 0) k FU (0 : Int32) (wd b (hW W 17)) = k (wd b (hW W (mxN r 5 17))) := by
    intro k
    refine loopN (fun m j => f_X10_digest_L9 (b + ad 10 0 0) k m (nI j) (wd b (hW W (mxN r j 17)))) 5 ?_ ?_ FU 0 (by omega) (by have := FUgt; omega)
    · intro m j hj
      try dsimp only
      rw [f_X10_digest_L9, if_neg (show ¬ (4 : Int32) < nI j from lt_n (a := 4) (by omega) (by omega)), o10_0 h10, oa10_0 h10 (by omega), hr', ob2_i m_note, nI_1]
      rfl
    · intro m
      try dsimp only
      rw [f_X10_digest_L9, if_pos (by decide)]
  have l32 : ∀ k h, f_X10_digest_L32 (b + ad 10 0 0) k FU (0 : Int32) (wd b (hW W h)) = k (wd b (hW W (dgP r 16 h))) := by
    intro k h
    refine loopN (fun m j => f_X10_digest_L32 (b + ad 10 0 0) k m (nI j) (wd b (hW W (dgP r j h)))) 16 ?_ ?_ FU 0 (by omega) (by have := FUgt; omega)
    · intro m j hj
      try dsimp only
      rw [f_X10_digest_L32, li 16, if_neg (le_n hj (by omega)), o10_0 h10, li 10, nI_add, oa10_0 h10 (by omega), hr', ob2_i m_note, o10_0 h10, li 26, nI_add, oa10_0 h10 (by omega), hr', ob2_i m_note, nI_1]
      rfl
    · intro m
      try dsimp only
      rw [f_X10_digest_L32, li 16, if_pos (le_p (Nat.le_refl _) (by omega))]
  have l83 : ∀ k h, f_X10_digest_L83 (b + ad 10 0 0) k FU (0 : Int32) (wd b (hW W h)) = k (wd b (hW W (mxN (fun k => r (42 + k)) (3 * nD r) h))) := by
    intro k h
    refine loopN (fun m j => f_X10_digest_L83 (b + ad 10 0 0) k m (nI j) (wd b (hW W (mxN (fun k => r (42 + k)) j h)))) (3 * nD r) ?_ ?_ FU 0 (by omega) (by have := FUgt; omega)
    · intro m j hj
      try dsimp only
      rw [f_X10_digest_L83, o10_0 h10, oR0 7 7 rfl (by omega), hr', hD1, li 3, pk_mul, if_neg (le_n hj (by omega)), o10_0 h10, li 42, nI_add, oa10_0 h10 (by omega), hr', ob2_i m_note, nI_1]
      rfl
    · intro m
      try dsimp only
      rw [f_X10_digest_L83, o10_0 h10, oR0 7 7 rfl (by omega), hr', hD1, li 3, pk_mul, if_pos (le_p (Nat.le_refl _) (by omega))]
  have l117 : ∀ k h, f_X10_digest_L117 (b + ad 10 0 0) k FU (0 : Int32) (wd b (hW W h)) = k (wd b (hW W (dgA r (nG r) h))) := by
    intro k h
    refine loopN (fun m j => f_X10_digest_L117 (b + ad 10 0 0) k m (nI j) (wd b (hW W (dgA r j h)))) (nG r) ?_ ?_ FU 0 (by omega) (by have := FUgt; omega)
    · intro m j hj
      try dsimp only
      rw [f_X10_digest_L117, o10_0 h10, oR0 6 6 rfl (by omega), hr', ho.1.1.1, if_neg (le_n hj (by omega)), ob2_i (m_noteGroup hr ho hj), nI_1]
      rfl
    · intro m
      try dsimp only
      rw [f_X10_digest_L117, o10_0 h10, oR0 6 6 rfl (by omega), hr', ho.1.1.1, if_pos (le_p (Nat.le_refl _) (by omega))]
  have l141 : ∀ k h, f_X10_digest_L141 (b + ad 10 0 0) k FU (0 : Int32) (wd b (hW W h)) = k (wd b (hW W (mxN (fun k => r (1122 + k)) (3 * nE r) h))) := by
    intro k h
    refine loopN (fun m j => f_X10_digest_L141 (b + ad 10 0 0) k m (nI j) (wd b (hW W (mxN (fun k => r (1122 + k)) j h)))) (3 * nE r) ?_ ?_ FU 0 (by omega) (by have := FUgt; omega)
    · intro m j hj
      try dsimp only
      rw [f_X10_digest_L141, o10_0 h10, oR0 8 8 rfl (by omega), hr', hE1, li 3, pk_mul, if_neg (le_n hj (by omega)), o10_0 h10, li 1122, nI_add, oa10_0 h10 (by omega), hr', ob2_i m_note, nI_1]
      rfl
    · intro m
      try dsimp only
      rw [f_X10_digest_L141, o10_0 h10, oR0 8 8 rfl (by omega), hr', hE1, li 3, pk_mul, if_pos (le_p (Nat.le_refl _) (by omega))]
  unfold f_X10_digest
  rw [oO_10 h10, p10_19 h10]
  refine (l9 _).trans ?_
  refine (l32 _ _).trans ?_
  rw [o10_0 h10, oR0 7 7 rfl (by omega), hr', ob2_i m_note]
  refine (l83 _ _).trans ?_
  refine (l117 _ _).trans ?_
  refine (l141 _ _).trans ?_
  rw [o10_19 h10]
  rfl
theorem c_withDraft (h : inv T W) (hr : W.2.1 10 0 0 0 = r) {x : Int64} : f_X9_withDraft (b + ad 9 0 0) x (wd b W) = some (mxN (fun k => r (42 + k)) (3 * nD r) (mx x (r 7)), wd b W) := by
  have ho := h.1.1
  have hs := h.2.1
  rw [hr] at ho hs
  obtain ⟨hD1, hD2, -⟩ := ho.2.2.2.2.1.2
  have h11 : vo 11 0 0 = true := rfl
  unfold f_X9_withDraft
  rw [oO_9 h9, o9_1 h9, o7_9 h70, o11_0 h11, hs.2.2.1.1, ob2_i c_mixed]
  refine loopN (fun m j => f_X9_withDraft_L22 (b + ad 11 0 0) (fun v20 N21 => some (v20, N21)) m (mxN (fun k => r (42 + k)) (3 * j) (mx x (r 7))) (nI j) (wd b W)) (nD r) ?_ ?_ FU 0 (by omega) (by have := FUgt; omega)
  · intro m j hj
    obtain ⟨a1, a2, a3, -⟩ := hs.2.2.1.2 j hj
    try dsimp only
    rw [f_X9_withDraft_L22, o11_0 h11, hs.2.2.1.1, hD1, if_neg (le_n hj (by omega)), o11_1 h11, oa11_1 h11 (by omega), a1, ob2_i c_mixed, o11_2 h11, oa11_2 h11 (by omega), a2, ob2_i c_mixed, o11_3 h11, oa11_3 h11 (by omega), a3, ob2_i c_mixed, nI_1, mxN_3]
    rfl
  · intro m
    try dsimp only
    rw [f_X9_withDraft_L22, o11_0 h11, hs.2.2.1.1, hD1, if_pos (le_p (Nat.le_refl _) (by omega))]
theorem c_withGroup (h : inv T W) (hr : W.2.1 10 0 0 0 = r) {x : Int64} {g : Nat} (hg : g < nG r) : f_X9_withGroup (b + ad 9 0 0) x (b + ad 4 0 g) (wd b W) = some (dgG r g x, wd b W) := by
  have ho := h.1.1
  have hs := h.2.1
  rw [hr] at ho hs
  have h12 := ho.1.1.2
  have hk := ho.1.2.1 g hg
  have h16 := hk.2.1
  have hgk := ho.2.2.2.2.2.2.2 g hg
  obtain ⟨a1, ⟨a2, a3⟩, a4⟩ := hs.2.2.2.1 g hg
  have hv4 := vo4 (i := 0) (g := g) hz8 (by omega)
  have hv1 := vo1 (i := 0) (g := g) hz8 (by omega)
  have est : f_X4_stateAt (b + ad 4 0 g) (r 0) (wd b W) = some (stO r g, wd b W) := c_stateAt (b := b) hv4 a1 (hgk.2.2.2.1.imp id And.left)
  unfold f_X9_withGroup
  rw [oO_9 h9, o9_1 h9, o7_0 h70, hs.1 0 (by omega), ob2_i est, ob2_i c_mixed, o4_0 hv4, a1 0 (by omega), ob2_i c_mixed, o4_1 hv4, a1 1 (by omega), ob2_i c_mixed, o4_2 hv4, a1 2 (by omega), ob2_i c_mixed, o4_3 hv4, a1 3 (by omega), ob2_i c_mixed, o4_5 hv4]
  refine loopN (fun m j => f_X9_withGroup_L75 (b + ad 1 0 g) (fun v42 N43 => some (v42, N43)) m (mxN (fun k => gO r g (6 + k)) (5 * j) (mx (mx (mx (mx (mx x (stO r g)) (gO r g 0)) (gO r g 1)) (gO r g 2)) (gO r g 3))) (nI j) (wd b W)) (nF r g) ?_ ?_ FU 0 (by omega) (by have := FUgt; omega)
  · intro m j hj
    obtain ⟨c1, c2, c3, c4⟩ := a3 j hj
    have e : ∀ k, gO r g (6 + (5 * j + k)) = fO r g j k := fun k => by
      unfold gO fO
      rw [show 90 + 86 * g + (6 + (5 * j + k)) = 90 + 86 * g + (6 + 5 * j + k) by omega]
    try dsimp only
    rw [f_X9_withGroup_L75, o1_0 hv1, a2, hk.1, if_neg (le_n hj (by omega)), o1_1 hv1, oa1_1 hv1 (by omega), c1, ob2_i c_mixed, o1_2 hv1, oa1_2 hv1 (by omega), c2, ob2_i c_mixed, o1_3 hv1, oa1_3 hv1 (by omega), c3, ob2_i c_mixed, o1_4 hv1, oa1_4 hv1 (by omega), c4, ob2_i c_mixed, o1_5 hv1, oa1_5 hv1 (by omega), a4 j hj, ob2_i c_mixed, nI_1, mxN_5, ← e 0, ← e 1, ← e 2, ← e 3, ← e 4]
    rfl
  · intro m
    try dsimp only
    rw [f_X9_withGroup_L75, o1_0 hv1, a2, hk.1, if_pos (le_p (Nat.le_refl _) (by omega))]
    rfl
theorem c_withEvents (h : inv T W) (hr : W.2.1 10 0 0 0 = r) {x : Int64} : f_X9_withEvents (b + ad 9 0 0) x (wd b W) = some (mxN (fun k => r (1122 + k)) (3 * nE r) x, wd b W) := by
  have ho := h.1.1
  have hs := h.2.1
  rw [hr] at ho hs
  obtain ⟨hE1, hE2⟩ := ho.2.2.1
  obtain ⟨l1, n, l2, l3, l4⟩ := hs.2.2.2.2
  unfold f_X9_withEvents
  rw [oO_9 h9, o9_1 h9, o7_11 h70, o0_0 h00, l1, hE1]
  have key : ∀ (a m : Nat), a ≤ nE r → a < m → f_X9_withEvents_L19 (b + ad 0 0 0) (fun v19 N20 => some (v19, N20)) m (mxN (fun k => r (1122 + k)) (3 * (nE r - a)) x) (nI a - 1) (wd b W) = some (mxN (fun k => r (1122 + k)) (3 * nE r) x, wd b W) := by
    intro a
    induction a with
    | zero =>
      intro m _ hm
      obtain ⟨m, rfl⟩ : ∃ q, m = q + 1 := ⟨m - 1, by omega⟩
      rw [f_X9_withEvents_L19, if_pos m1neg]
      rfl
    | succ a ih =>
      intro m ha hm
      obtain ⟨m, rfl⟩ : ∃ q, m = q + 1 := ⟨m - 1, by omega⟩
      have hl := l4 (nE r - (a + 1)) (by omega)
      rw [show n + 20 - nE r + (nE r - (a + 1)) = n + 19 - a by omega] at hl
      have hsl := c_slotOf (b := b) (W := W) (k := a) l2 (by omega) l3
      have hm2 : (n + 19 - a) % 20 < 20 := Nat.mod_lt _ (by omega)
      generalize (n + 19 - a) % 20 = y at *
      unfold ev1 at hl
      obtain ⟨y1, y2⟩ := Prod.mk.inj hl
      obtain ⟨y2, y3⟩ := Prod.mk.inj y2
      rw [sub1s, f_X9_withEvents_L19, if_neg (show ¬ nI a < 0 from lt_n (b := 0) (by omega) (by omega)), ob2_i hsl, o0_2 h00, oa0_2 h00 hm2, y1, ob2_i c_mixed, o0_3 h00, oa0_3 h00 hm2, y2, ob2_i c_mixed, o0_4 h00, oa0_4 h00 hm2, y3, ob2_i c_mixed, sub1]
      have e := ih m (by omega) (by omega)
      rw [show nE r - a = nE r - (a + 1) + 1 by omega, mxN_3] at e
      exact e
  have e := key (nE r) FU (Nat.le_refl _) (by have := FUgt; omega)
  rw [Nat.sub_self] at e
  exact e
theorem c_digest (h : inv T W) (hr : W.2.1 10 0 0 0 = r) : f_X9_digest (b + ad 9 0 0) (wd b W) = some (dgS r, wd b W) := by
  have ho := h.1.1
  have hs := h.2.1
  rw [hr] at ho hs
  have h12 := ho.1.1.2
  have l83 : ∀ k x, f_X9_digest_L83 (b + ad 9 0 0) k FU x (0 : Int32) (wd b W) = k (dgP r 16 x) (wd b W) := by
    intro k x
    refine loopN (fun m j => f_X9_digest_L83 (b + ad 9 0 0) k m (dgP r j x) (nI j) (wd b W)) 16 ?_ ?_ FU 0 (by omega) (by have := FUgt; omega)
    · intro m j hj
      try dsimp only
      rw [f_X9_digest_L83, li 16, if_neg (le_n hj (by omega)), o9_1 h9, o7_7 h70, oa7_7 h70 hj, (hs.2.1 j hj).1, ob2_i c_mixed, o9_1 h9, o7_8 h70, oa7_8 h70 hj, (hs.2.1 j hj).2, ob2_i c_mixed, nI_1]
      rfl
    · intro m
      try dsimp only
      rw [f_X9_digest_L83, li 16, if_pos (le_p (Nat.le_refl _) (by omega))]
  have l133 : ∀ k x, f_X9_digest_L133 (b + ad 9 0 0) k FU x (0 : Int32) (wd b W) = k (dgA r (nG r) x) (wd b W) := by
    intro k x
    refine loopN (fun m j => f_X9_digest_L133 (b + ad 9 0 0) k m (dgA r j x) (nI j) (wd b W)) (nG r) ?_ ?_ FU 0 (by omega) (by have := FUgt; omega)
    · intro m j hj
      try dsimp only
      rw [f_X9_digest_L133, o9_1 h9, o7_6 h70, hs.1 6 (by omega), ho.1.1.1, if_neg (le_n hj (by omega)), o9_1 h9, o7_10 h70, oa7_10 h70 (by omega), ob2_i (c_withGroup h hr hj), nI_1]
      rfl
    · intro m
      try dsimp only
      rw [f_X9_digest_L133, o9_1 h9, o7_6 h70, hs.1 6 (by omega), ho.1.1.1, if_pos (le_p (Nat.le_refl _) (by omega))]
  have j64 : ∀ w0 w1 : Int64, f_X9_digest_J64 (b + ad 9 0 0) w0 w1 (wd b W) = some (mxN (fun k => r (1122 + k)) (3 * nE r) (dgA r (nG r) (mxN (fun k => r (42 + k)) (3 * nD r) (mx (dgP r 16 (mx (31 * w0 + w1) (r 4))) (r 7)))), wd b W) := by
    intro w0 w1
    unfold f_X9_digest_J64
    rw [ob2_i c_mixed, o9_1 h9, o7_4 h70, hs.1 4 (by omega), ob2_i c_mixed]
    refine (l83 _ _).trans ?_
    rw [ob2_i (c_withDraft h hr)]
    refine (l133 _ _).trans ?_
    rw [ob2_i (c_withEvents h hr)]
    rfl
  have j44 : ∀ w0 w1 : Int64, f_X9_digest_J44 (b + ad 9 0 0) w0 w1 (wd b W) = some (mxN (fun k => r (1122 + k)) (3 * nE r) (dgA r (nG r) (mxN (fun k => r (42 + k)) (3 * nD r) (mx (dgP r 16 (mx (mx (31 * w0 + w1) (r 3)) (r 4))) (r 7)))), wd b W) := by
    intro w0 w1
    unfold f_X9_digest_J44
    rw [ob2_i c_mixed, o9_1 h9, o7_3 h70, hs.1 3 (by omega)]
    rcases ho.2.2.2.2.2.1.2 with q | q
    · rw [q, if_pos rfl, j64]
      rfl
    · rw [q, if_neg (by decide), j64]
      rfl
  unfold f_X9_digest
  rw [oO_9 h9, o9_1 h9, o7_0 h70, hs.1 0 (by omega), ob2_i c_mixed, o9_1 h9, o7_1 h70, hs.1 1 (by omega), ob2_i c_mixed, o9_1 h9, o7_2 h70, hs.1 2 (by omega)]
  unfold dgS
  rcases ho.2.2.2.2.2.1.1 with q | q
  · rw [q, if_pos rfl, j44]
    rfl
  · rw [q, if_neg (by decide), j44]
    rfl
def bothJ (T T' b : Nat) (W : WD) (fx fm : AH → Option (Int64 × AH)) : Prop := ∃ v W1 W2, fx (wd b W) = some (v, wd b W1) ∧ fm (wd b W1) = some (v, wd b W2) ∧ inv T' W2
theorem q_digest (h : inv T W) : bothJ T T b W (f_X9_digest (b + ad 9 0 0)) (f_X10_digest (b + ad 10 0 0)) := by
  refine ⟨dgS (W.2.1 10 0 0 0), W, hW W (dgS (W.2.1 10 0 0 0)), c_digest h rfl, m_digest rfl h.1.1, inv_m h ?_⟩
  exact ⟨frQ.L rfl, rfl, rfl, rfl, rfl, fun _ _ => rfl⟩
end
