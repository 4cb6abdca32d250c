/-! the first world is what the constructors leave -/
theorem cel_0 {b : Nat} : ∀ u, u < 836 → (if u < 824 then k9 b u else k10 (b + 824) (u - 824)) = cel b W0 (dc u) := by
  intro u hu
  by_cases h824 : u < 824
  · rw [if_pos h824]
    unfold dc
    by_cases h9 : u < 9
    · have : u = 0 ∨ u = 1 ∨ u = 2 ∨ u = 3 ∨ u = 4 ∨ u = 5 ∨ u = 6 ∨ u = 7 ∨ u = 8 := by omega
      rcases this with rfl | rfl | rfl | rfl | rfl | rfl | rfl | rfl | rfl <;> rfl
    rw [if_neg (by omega), if_neg (by omega), if_neg (by omega), if_neg (by omega), if_neg h9]
    have hk : k9 b u = A9 b u := Dob_s (by omega)
    rw [hk]
    unfold A9
    rw [if_neg h9]
    by_cases h107 : u < 107
    · rw [if_pos h107, if_pos h107]
      exact sF_cel (b := b) (i := 0) (u - 9) (by omega)
    rw [if_neg h107, if_neg h107]
    by_cases h697 : u < 697
    · rw [if_pos h697]
      by_cases e0 : u = 107
      · rw [if_pos e0, e0]
        rfl
      rw [if_neg e0]
      by_cases e1 : u = 108
      · rw [if_pos e1, e1]
        show hR6 (b + 107) 6 = .inr (3, 6, .inr (.inr (.inr (.inr (fun x => if x < 6 then some (b + ad 7 (x + 1) 0) else none)))))
        unfold hR6
        refine congrArg (fun g => (Sum.inr (3, 6, .inr (.inr (.inr (.inr g)))) : AE)) (funext fun y => ?_)
        by_cases hy : y < 6
        · rw [if_pos hy, if_pos hy]
          congr 1
          show b + 107 + (2 + 98 * y) = b + sA (y + 1)
          unfold sA
          rw [if_neg (by omega), if_neg (by omega)]
          omega
        · rw [if_neg hy, if_neg hy]
      rw [if_neg e1, if_pos h697]
      have hk5 : k5 (b + 107) (u - 107) = sF (b + 107 + (2 + 98 * ((u - 107 - 2) / 98))) ((u - 107 - 2) % 98) := by
        unfold k5
        rw [Dob_s (by omega)]
        unfold A5
        rw [if_neg (by omega)]
      rw [hk5, show u - 107 - 2 = u - 109 by omega]
      have hs : b + 107 + (2 + 98 * ((u - 109) / 98)) = b + sA (1 + (u - 109) / 98) := by
        unfold sA
        rw [if_neg (by omega), if_neg (by omega)]
        omega
      rw [hs]
      exact sF_cel _ (Nat.mod_lt _ (by omega))
    rw [if_neg h697, if_neg (show ¬ u = 107 by omega), if_neg (show ¬ u = 108 by omega), if_neg h697]
    by_cases h708 : u < 708
    · rw [if_pos h708, if_pos h708]
      exact k8_cel (b := b) (i := 0) (Or.inl rfl) (u - 697) (by omega)
    rw [if_neg h708, if_neg h708]
    by_cases h710 : u < 710
    · rw [if_pos h710]
      have : u = 708 ∨ u = 709 := by omega
      rcases this with rfl | rfl <;> rfl
    rw [if_neg h710, if_neg (show ¬ u = 708 by omega), if_neg (show ¬ u = 709 by omega)]
    by_cases e2 : u = 710
    · rw [if_pos e2, e2]
      rfl
    rw [if_neg e2]
    have hk3 : k3 (b + 710) (u - 710) = A3 (b + 710) (u - 710) := Dob_s (by omega)
    rw [hk3]
    unfold A3
    by_cases h809 : u < 809
    · rw [if_pos h809, if_pos (show u - 710 < 99 by omega), show u - 710 - 1 = u - 711 by omega]
      exact sF_cel (b := b) (i := 7) (u - 711) (by omega)
    rw [if_neg h809, if_neg (show ¬ u - 710 < 99 by omega)]
    by_cases h820 : u < 820
    · rw [if_pos h820, if_pos (show u - 710 < 110 by omega), show u - 710 - 99 = u - 809 by omega]
      exact k8_cel (b := b) (i := 1) (Or.inr rfl) (u - 809) (by omega)
    rw [if_neg h820, if_neg (show ¬ u - 710 < 110 by omega)]
    have : u = 820 ∨ u = 821 ∨ u = 822 ∨ u = 823 := by omega
    rcases this with rfl | rfl | rfl | rfl <;> rfl
  · rw [if_neg h824]
    have : u = 824 ∨ u = 825 ∨ u = 826 ∨ u = 827 ∨ u = 828 ∨ u = 829 ∨ u = 830 ∨ u = 831 ∨ u = 832 ∨ u = 833 ∨ u = 834 ∨ u = 835 := by omega
    rcases this with rfl | rfl | rfl | rfl | rfl | rfl | rfl | rfl | rfl | rfl | rfl | rfl <;> rfl
theorem wd_0 {b : Nat} : bk (bk (b, fun _ => none) 824 (k9 b)) 12 (k10 (b + 824)) = wd b W0 := by
  rw [bk_bk]
  exact bk_ext (N := (b, fun _ => none)) (m := 836) cel_0
theorem vN_0 : vN 0 = 0 := vN_nI (n := 0) (by omega)
theorem row_lo {q : Nat} (h : q < 10 ∨ 26 ≤ q) : rowJ 16 q = upd (upd (fun _ => 0) 2 1) 5 (-1) q := by
  unfold rowJ
  rw [if_neg (by omega)]
theorem row_cap {p : Nat} (h : p < 16) : rowJ 16 (10 + p) = 100 := by
  unfold rowJ
  rw [if_pos (by omega)]
theorem row_z {q : Nat} (h : q < 10 ∨ 26 ≤ q) (h2 : q ≠ 2) (h5 : q ≠ 5) : rowJ 16 q = 0 := by
  rw [row_lo h, pk_un h5, pk_un h2]
theorem ok_0 : okS (rowJ 16) 0 := by
  have z0 : rowJ 16 0 = 0 := row_z (by omega) (by omega) (by omega)
  have z1 : rowJ 16 1 = 0 := row_z (by omega) (by omega) (by omega)
  have z3 : rowJ 16 3 = 0 := row_z (by omega) (by omega) (by omega)
  have z6 : rowJ 16 6 = 0 := row_z (by omega) (by omega) (by omega)
  have z7 : rowJ 16 7 = 0 := row_z (by omega) (by omega) (by omega)
  have z8 : rowJ 16 8 = 0 := row_z (by omega) (by omega) (by omega)
  have z2 : rowJ 16 2 = 1 := by rw [row_lo (by omega), pk_un (by omega), pk_us]
  have z5 : rowJ 16 5 = -1 := by rw [row_lo (by omega), pk_us]
  have eG : nG (rowJ 16) = 0 := by unfold nG; rw [z6]; exact vN_0
  have eD : nD (rowJ 16) = 0 := by unfold nD; rw [z7]; exact vN_0
  have eE : nE (rowJ 16) = 0 := by unfold nE; rw [z8]; exact vN_0
  have cp : ∀ p, p < 16 → capR (rowJ 16) p = nI 100 := fun p hp => row_cap hp
  have v100 : vN (nI 100) = 100 := vN_nI (by omega)
  refine ⟨⟨⟨⟨by rw [z6, eG]; rfl, by omega⟩, fun g hg => by omega, fun p hp => by rw [cp p hp, v100]; exact ⟨rfl, by omega⟩⟩, by rw [z0, vN_0]; exact ⟨rfl, Nat.le_refl _⟩, ⟨by rw [z8, eE]; rfl, by omega⟩, Or.inl z5, ⟨by rw [z1, vN_0]; exact ⟨rfl, by omega⟩, ⟨by rw [z7, eD]; rfl, by omega, fun f hf => by omega⟩⟩, ⟨Or.inr z2, Or.inl z3⟩, fun p hp => by rw [cp p hp, v100]; omega, fun g hg => by omega⟩, by rw [z1]; decide⟩
theorem inv_0 : inv 0 W0 := by
  have er : W0.2.1 10 0 0 0 = rowJ 16 := rfl
  have eG : nG (rowJ 16) = 0 := by unfold nG; rw [row_z (by omega) (by omega) (by omega)]; exact vN_0
  have eD : nD (rowJ 16) = 0 := by unfold nD; rw [row_z (by omega) (by omega) (by omega)]; exact vN_0
  have eE : nE (rowJ 16) = 0 := by unfold nE; rw [row_z (by omega) (by omega) (by omega)]; exact vN_0
  unfold inv
  rw [er]
  refine ⟨ok_0, ⟨fun k hk => ?_, fun p hp => ⟨?_, ?_⟩, ⟨?_, fun f hf => by omega⟩, fun g hg => by omega, ⟨?_, 0, by omega, rfl, fun k hk => by omega⟩⟩, ⟨0, by omega, rfl, rfl, 0, by omega, rfl, fun j j1 j2 => by omega⟩, ⟨0, by omega, rfl, rfl, fun p hp => by omega⟩, rfl, Or.inl rfl⟩
  · have : k = 0 ∨ k = 1 ∨ k = 2 ∨ k = 3 ∨ k = 4 ∨ k = 5 ∨ k = 6 := by omega
    rcases this with rfl | rfl | rfl | rfl | rfl | rfl | rfl
    · rw [row_z (by omega) (by omega) (by omega)]; rfl
    · rw [row_z (by omega) (by omega) (by omega)]; rfl
    · rw [row_lo (by omega), pk_un (by omega), pk_us]; rfl
    · rw [row_z (by omega) (by omega) (by omega)]; rfl
    · rw [row_z (by omega) (by omega) (by omega)]; rfl
    · rw [row_lo (by omega), pk_us]; rfl
    · rw [row_z (by omega) (by omega) (by omega)]; rfl
  · rw [row_cap hp]
    show filI (fun _ => 0) 16 (fun _ => 100) p = 100
    rw [filI_lt hp]
  · rw [row_z (by omega) (by omega) (by omega)]
    rfl
  · rw [row_z (by omega) (by omega) (by omega)]
    rfl
  · rw [row_z (by omega) (by omega) (by omega)]
    rfl
set_option maxHeartbeats 4000000 in
set_option maxRecDepth 100000 in
theorem whole_pure {L : Nat} (hL : L ≤ 2048) (xs : Nat → Int32) (b0 : Nat) : owp (f_L_law L xs (b0, fun _ => none)) (fun q => q.1 = 1) := by
  have h : ∀ N, N = wd b0 W0 → owp (f_L_law_L18 L xs (b0 + ad 9 0 0) (b0 + ad 10 0 0) (fun N => some ((0 : Int32), N)) (fun N => some ((0 : Int32), N)) (fun N => some ((0 : Int32), N)) (fun N => some ((0 : Int32), N)) (fun N => some ((0 : Int32), N)) (fun N => some ((0 : Int32), N)) (fun N => some ((0 : Int32), N)) (fun N => some ((0 : Int32), N)) (fun N => some ((0 : Int32), N)) (fun N => some ((0 : Int32), N)) (fun N => some ((0 : Int32), N)) (fun N => some ((0 : Int32), N)) (fun N => some ((0 : Int32), N)) (fun N => some ((0 : Int32), N)) (fun N => some ((0 : Int32), N)) (fun N => some ((0 : Int32), N)) (fun N => some ((0 : Int32), N)) (fun N => some ((0 : Int32), N)) (fun N => some ((0 : Int32), N)) (fun N => some ((0 : Int32), N)) (fun N => some ((0 : Int32), N)) (fun N => some ((0 : Int32), N)) (fun N => some ((0 : Int32), N)) (fun N => some ((0 : Int32), N)) (fun N => some ((0 : Int32), N)) (fun N => some ((0 : Int32), N)) (fun N => some ((0 : Int32), N)) (fun N => some ((0 : Int32), N)) (fun N => some ((0 : Int32), N)) (fun N => some ((0 : Int32), N)) (fun N => some ((0 : Int32), N)) (fun N => some ((0 : Int32), N)) (fun N => some ((0 : Int32), N)) (fun N => some ((0 : Int32), N)) (fun N => some ((0 : Int32), N)) (fun N => some ((0 : Int32), N)) (fun N => some ((0 : Int32), N)) (fun N => some ((1 : Int32), N)) FU (nI (4 * 0)) N) (fun q => q.1 = 1) := by
    intro N hN
    rw [hN]
    exact law_L hL 512 FU 0 W0 inv_0 (by omega) (by omega) (by have := FUgt; omega)
  unfold f_L_law
  rw [ob2_i (i_9 _), ob2_i (i_10 _)]
  exact h _ wd_0
