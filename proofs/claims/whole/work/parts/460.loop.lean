/-! the law's loop -/
theorem inv_mono {T T' : Nat} {W : WD} (h : inv T W) (hT : T ≤ T') : inv T' W := by
  obtain ⟨a1, a2, ⟨s, a3, a4, a5⟩, a6, a7, a8⟩ := h
  exact ⟨okS_mono a1 hT, a2, ⟨s, a3, a4, hisR_mono a5 hT⟩, a6, a7, a8⟩
theorem ob_s {α β : Type} (a : α) (f : α → Option β) : ob (some a) f = f a := rfl
theorem both_go {T T' S b : Nat} {W : WD} {fx fm : AH → Option (Int32 × AH)} {K E : AH → Option (Int32 × AH)} {P : Int32 × AH → Prop} (h : both T T' b W fx fm) (hT : T' ≤ S) (hK : ∀ W2, inv S W2 → owp (K (wd b W2)) P) : owp (ob2 (fx (wd b W)) (fun x N => ob2 (fm N) (fun y N' => if x = y then K N' else E N'))) P := by
  obtain ⟨v, W1, W2, h1, h2, h3⟩ := h
  rw [ob2_i h1, ob2_i h2, if_pos rfl]
  exact hK W2 (inv_mono h3 hT)
theorem bothJ_go {T T' S b : Nat} {W : WD} {fx fm : AH → Option (Int64 × AH)} {K E : AH → Option (Int32 × AH)} {P : Int32 × AH → Prop} (h : bothJ T T' b W fx fm) (hT : T' ≤ S) (hK : ∀ W2, inv S W2 → owp (K (wd b W2)) P) : owp (ob2 (fx (wd b W)) (fun x N => ob2 (fm N) (fun y N' => if lg_cmp x y = 0 then K N' else E N'))) P := by
  obtain ⟨v, W1, W2, h1, h2, h3⟩ := h
  rw [ob2_i h1, ob2_i h2, if_pos (lg_eq.mpr rfl)]
  exact hK W2 (inv_mono h3 hT)
theorem xs_ok {L j : Nat} {xs : Nat → Int32} (hL : L ≤ 2048) (hj : j < L) : xS L xs (nI j) = some (xs j) := by
  unfold xS
  rw [if_neg (nI_in hj (by omega)), nI_clamp (by omega)]
set_option maxHeartbeats 4000000 in
set_option maxRecDepth 100000 in
theorem law_L {L b : Nat} {xs : Nat → Int32} (hL : L ≤ 2048) {k217 k230 k243 k286 k299 k312 k355 k388 k411 k476 k499 k512 k525 k538 k561 k584 k607 k630 k673 k696 k719 k742 k765 k788 k821 k844 k867 k890 k903 k916 k939 k952 k975 k988 k1001 k1034 k1048 : AH → Option (Int32 × AH)} : ∀ (d m i : Nat) (W : WD), inv (500 * i) W → i ≤ 512 → 512 - i = d → d < m → owp (f_L_law_L18 L xs (b + ad 9 0 0) (b + ad 10 0 0) k217 k230 k243 k286 k299 k312 k355 k388 k411 k476 k499 k512 k525 k538 k561 k584 k607 k630 k673 k696 k719 k742 k765 k788 k821 k844 k867 k890 k903 k916 k939 k952 k975 k988 k1001 k1034 k1048 (fun N => some ((1 : Int32), N)) m (nI (4 * i)) (wd b W)) (fun q => q.1 = 1) := by
  intro d
  induction d with
  | zero =>
    intro m i W hI hi hd hm
    obtain ⟨m, rfl⟩ : ∃ q, m = q + 1 := ⟨m - 1, by omega⟩
    have hend : ((Int32.ofNat L) - (4 : Int32)) < nI (4 * i) := by
      rw [Int32.lt_iff_toInt_lt, show (Int32.ofNat L) - (4 : Int32) = nI L - nI 4 from rfl, pk_sub_toInt (by omega) (by omega), nI_toInt (by omega)]
      omega
    rw [f_L_law_L18, if_pos hend]
    rfl
  | succ d ih =>
    intro m i W hI hi hd hm
    obtain ⟨m, rfl⟩ : ∃ q, m = q + 1 := ⟨m - 1, by omega⟩
    by_cases hend : ((Int32.ofNat L) - (4 : Int32)) < nI (4 * i)
    · rw [f_L_law_L18, if_pos hend]
      rfl
    have hl : 4 * i + 4 ≤ L := by
      rw [Int32.lt_iff_toInt_lt, show (Int32.ofNat L) - (4 : Int32) = nI L - nI 4 from rfl, pk_sub_toInt (by omega) (by omega), nI_toInt (by omega)] at hend
      omega
    have e1 : nI (4 * i) + (1 : Int32) = nI (4 * i + 1) := nI_1 _
    have e2 : nI (4 * i) + (2 : Int32) = nI (4 * i + 2) := nI_add _ 2
    have e3 : nI (4 * i) + (3 : Int32) = nI (4 * i + 3) := nI_add _ 3
    have e4 : nI (4 * i) + (4 : Int32) = nI (4 * (i + 1)) := nI_add _ 4
    have x1 : xS L xs (nI (4 * i + 1)) = some (xs (4 * i + 1)) := xs_ok hL (by omega)
    have x2 : xS L xs (nI (4 * i + 2)) = some (xs (4 * i + 2)) := xs_ok hL (by omega)
    have x3 : xS L xs (nI (4 * i + 3)) = some (xs (4 * i + 3)) := xs_ok hL (by omega)
    have hK : ∀ W2, inv (500 * i + 500) W2 → owp (f_L_law_L18 L xs (b + ad 9 0 0) (b + ad 10 0 0) k217 k230 k243 k286 k299 k312 k355 k388 k411 k476 k499 k512 k525 k538 k561 k584 k607 k630 k673 k696 k719 k742 k765 k788 k821 k844 k867 k890 k903 k916 k939 k952 k975 k988 k1001 k1034 k1048 (fun N => some ((1 : Int32), N)) m (nI (4 * i) + (4 : Int32)) (wd b W2)) (fun q => q.1 = 1) := by
      intro W2 h2
      rw [e4]
      exact ih m (i + 1) W2 h2 (by omega) (by omega) (by omega)
    rw [f_L_law_L18, if_neg hend, ob_i (xs_ok hL (show 4 * i < L by omega))]
    generalize xs (4 * i) &&& (63 : Int32) = y
    by_cases c0 : y = 0
    · rw [if_pos c0, e1, x1]
      simp only [ob_s]
      exact both_go (q_type hI) (by omega) hK
    rw [if_neg c0]
    by_cases c1 : y = 1
    · rw [if_pos c1]
      exact both_go (q_clearText hI) (by omega) hK
    rw [if_neg c1]
    by_cases c2 : y = 2
    · rw [if_pos c2]
      exact both_go (q_textFault hI) (by omega) hK
    rw [if_neg c2]
    by_cases c3 : y = 3
    · rw [if_pos c3, e1, e2, e3, x1, x2, x3]
      simp only [ob_s]
      exact both_go (q_flow hI) (by omega) hK
    rw [if_neg c3]
    by_cases c4 : y = 4
    · rw [if_pos c4]
      exact both_go (q_read hI) (by omega) hK
    rw [if_neg c4]
    by_cases c5 : y = 5
    · rw [if_pos c5]
      exact both_go (q_dropDraft hI) (by omega) hK
    rw [if_neg c5]
    by_cases c6 : y = 6
    · rw [if_pos c6, e1, e2, e3, x1, x2, x3]
      simp only [ob_s]
      exact both_go (q_addGroup hI (by omega)) (by omega) hK
    rw [if_neg c6]
    by_cases c7 : y = 7
    · rw [if_pos c7, e1, e2, x1, x2]
      simp only [ob_s]
      exact both_go (q_setCapacity hI) (by omega) hK
    rw [if_neg c7]
    by_cases c8 : y = 8
    · rw [if_pos c8, e1, x1]
      simp only [ob_s]
      exact both_go (q_setPolicy hI) (by omega) hK
    rw [if_neg c8]
    by_cases c9 : y = 9
    · rw [if_pos c9]
      unfold f_L_law_J427 f_L_law_J440 f_L_law_J457
      rw [e1, e2, x1, x2]
      by_cases z1 : xs (4 * i + 1) = 0
      · by_cases z2 : xs (4 * i + 2) = 0
        · simp only [ob_s, if_pos z1, if_pos z2]
          exact both_go (q_setRules (Or.inl rfl) (Or.inl rfl) hI) (by omega) hK
        · simp only [ob_s, if_pos z1, if_neg z2]
          exact both_go (q_setRules (Or.inl rfl) (Or.inr rfl) hI) (by omega) hK
      · by_cases z2 : xs (4 * i + 2) = 0
        · simp only [ob_s, if_neg z1, if_pos z2]
          exact both_go (q_setRules (Or.inr rfl) (Or.inl rfl) hI) (by omega) hK
        · simp only [ob_s, if_neg z1, if_neg z2]
          exact both_go (q_setRules (Or.inr rfl) (Or.inr rfl) hI) (by omega) hK
    rw [if_neg c9]
    by_cases c10 : y = 10
    · rw [if_pos c10, e1, x1]
      simp only [ob_s]
      exact both_go (q_pass hI (by omega)) (by omega) hK
    rw [if_neg c10]
    by_cases c11 : y = 11
    · rw [if_pos c11]
      exact both_go (q_undo hI) (by omega) hK
    rw [if_neg c11]
    by_cases c12 : y = 12
    · rw [if_pos c12]
      exact both_go (q_time hI) (by omega) hK
    rw [if_neg c12]
    by_cases c13 : y = 13
    · rw [if_pos c13]
      exact both_go (q_groupCount hI) (by omega) hK
    rw [if_neg c13]
    by_cases c14 : y = 14
    · rw [if_pos c14, e1, x1]
      simp only [ob_s]
      exact both_go (q_state hI) (by omega) hK
    rw [if_neg c14]
    by_cases c15 : y = 15
    · rw [if_pos c15, e1, x1]
      simp only [ob_s]
      exact both_go (q_arrival hI) (by omega) hK
    rw [if_neg c15]
    by_cases c16 : y = 16
    · rw [if_pos c16, e1, x1]
      simp only [ob_s]
      exact both_go (q_end hI) (by omega) hK
    rw [if_neg c16]
    by_cases c17 : y = 17
    · rw [if_pos c17, e1, x1]
      simp only [ob_s]
      exact both_go (q_flowCount hI) (by omega) hK
    rw [if_neg c17]
    by_cases c18 : y = 18
    · rw [if_pos c18, e1, e2, e3, x1, x2, x3]
      simp only [ob_s]
      exact both_go (q_flowPart hI) (by omega) hK
    rw [if_neg c18]
    by_cases c19 : y = 19
    · rw [if_pos c19, e1, x1]
      simp only [ob_s]
      exact both_go (q_rest hI) (by omega) hK
    rw [if_neg c19]
    by_cases c20 : y = 20
    · rw [if_pos c20, e1, x1]
      simp only [ob_s]
      exact both_go (q_level hI) (by omega) hK
    rw [if_neg c20]
    by_cases c21 : y = 21
    · rw [if_pos c21, e1, x1]
      simp only [ob_s]
      exact both_go (q_loneSpan hI) (by omega) hK
    rw [if_neg c21]
    by_cases c22 : y = 22
    · rw [if_pos c22, e1, x1]
      simp only [ob_s]
      exact both_go (q_place hI (by omega)) (by omega) hK
    rw [if_neg c22]
    by_cases c23 : y = 23
    · rw [if_pos c23, e1, x1]
      simp only [ob_s]
      exact both_go (q_nextSpan hI (by omega)) (by omega) hK
    rw [if_neg c23]
    by_cases c24 : y = 24
    · rw [if_pos c24, e1, e2, x1, x2]
      simp only [ob_s]
      exact both_go (q_nextRate hI (by omega)) (by omega) hK
    rw [if_neg c24]
    by_cases c25 : y = 25
    · rw [if_pos c25, e1, x1]
      simp only [ob_s]
      exact both_go (q_spare hI (by omega)) (by omega) hK
    rw [if_neg c25]
    by_cases c26 : y = 26
    · rw [if_pos c26, e1, x1]
      simp only [ob_s]
      exact both_go (q_outlook hI (by omega)) (by omega) hK
    rw [if_neg c26]
    by_cases c27 : y = 27
    · rw [if_pos c27, e1, x1]
      simp only [ob_s]
      exact both_go (q_total hI (by omega)) (by omega) hK
    rw [if_neg c27]
    by_cases c28 : y = 28
    · rw [if_pos c28]
      exact both_go (q_bestPolicy hI (by omega)) (by omega) hK
    rw [if_neg c28]
    by_cases c29 : y = 29
    · rw [if_pos c29]
      exact both_go (q_bestOrder hI (by omega)) (by omega) hK
    rw [if_neg c29]
    by_cases c30 : y = 30
    · rw [if_pos c30, e1, x1]
      simp only [ob_s]
      exact both_go (q_bestOrderAt hI (by omega)) (by omega) hK
    rw [if_neg c30]
    by_cases c31 : y = 31
    · rw [if_pos c31]
      exact both_go (q_bound hI) (by omega) hK
    rw [if_neg c31]
    by_cases c32 : y = 32
    · rw [if_pos c32, e1, x1]
      simp only [ob_s]
      exact both_go (q_moved hI) (by omega) hK
    rw [if_neg c32]
    by_cases c33 : y = 33
    · rw [if_pos c33]
      exact both_go (q_preemptions hI) (by omega) hK
    rw [if_neg c33]
    by_cases c34 : y = 34
    · rw [if_pos c34]
      exact both_go (q_eventCount hI) (by omega) hK
    rw [if_neg c34]
    by_cases c35 : y = 35
    · rw [if_pos c35, e1, e2, x1, x2]
      simp only [ob_s]
      exact both_go (q_event hI) (by omega) hK
    rw [if_neg c35]
    by_cases c36 : y = 36
    · rw [if_pos c36]
      exact bothJ_go (q_digest hI) (by omega) hK
    rw [if_neg c36]
    exact hK W (inv_mono hI (by omega))
