/-! the fixed order -/
theorem posS_spec {bf : Nat → Nat → Bool} {o : Nat → Nat} {h : Nat} : ∀ a, (∀ x, posS bf o h a ≤ x → x < a → bf (o x) h = false) ∧ (posS bf o h a = 0 ∨ bf (o (posS bf o h a - 1)) h = true)
  | 0 => ⟨fun x _ h2 => absurd h2 (Nat.not_lt_zero x), Or.inl rfl⟩
  | a + 1 => by
    rw [posS]
    by_cases hb : bf (o a) h = true
    · rw [if_pos hb]
      exact ⟨fun x h1 h2 => by omega, Or.inr (by rw [Nat.add_sub_cancel]; exact hb)⟩
    · rw [if_neg hb]
      obtain ⟨i1, i2⟩ := posS_spec (bf := bf) (o := o) (h := h) a
      refine ⟨fun x h1 h2 => ?_, i2⟩
      rcases Nat.lt_or_ge x a with q | q
      · exact i1 x h1 q
      · rw [show x = a by omega]; simpa using hb
/-- an insertion by places gives rising places -/
theorem ordS_up {r : Nat → Int32} {P : Nat → Nat} : ∀ n, (∀ g h, g < n → h < n → stO r g = 1 → stO r h = 1 → P g = P h → g = h) → ∀ x y, x < y → y < (ordS r (fun o h => decide (P o ≤ P h)) n).1 → P ((ordS r (fun o h => decide (P o ≤ P h)) n).2 x) < P ((ordS r (fun o h => decide (P o ≤ P h)) n).2 y)
  | 0, _, x, y, _, h => absurd h (Nat.not_lt_zero y)
  | n + 1, hP, x, y, hxy, hy => by
    have ih := ordS_up (r := r) (P := P) n (fun g h h1 h2 => hP g h (by omega) (by omega))
    have ha := ordS_act r (fun o h => decide (P o ≤ P h)) n
    rw [ordS] at hy ⊢
    by_cases hs : stO r n = 1
    · rw [if_pos hs] at hy ⊢
      simp only at hy ⊢
      have hsp := posS_spec (bf := fun o h => decide (P o ≤ P h)) (o := (ordS r (fun o h => decide (P o ≤ P h)) n).2) (h := n) (ordS r (fun o h => decide (P o ≤ P h)) n).1
      have hp := posS_le (fun o h => decide (P o ≤ P h)) (ordS r (fun o h => decide (P o ≤ P h)) n).2 n (ordS r (fun o h => decide (P o ≤ P h)) n).1
      unfold insO
      generalize posS (fun o h => decide (P o ≤ P h)) (ordS r (fun o h => decide (P o ≤ P h)) n).2 n (ordS r (fun o h => decide (P o ≤ P h)) n).1 = p at *
      generalize (ordS r (fun o h => decide (P o ≤ P h)) n).2 = O at *
      generalize (ordS r (fun o h => decide (P o ≤ P h)) n).1 = M at *
      obtain ⟨s1, s2⟩ := hsp
      have lo : ∀ z, z < p → P (O z) < P n := by
        intro z hz
        have h1 : P (O (p - 1)) ≤ P n := by
          rcases s2 with q | q
          · omega
          · simpa using q
        have h2 : P (O z) ≤ P (O (p - 1)) := by
          rcases Nat.lt_or_ge z (p - 1) with q | q
          · exact Nat.le_of_lt (ih z (p - 1) q (by omega))
          · rw [show z = p - 1 by omega]; exact Nat.le_refl _
        have h3 := ha z (by omega)
        have h4 : P (O z) ≠ P n := fun q => by
          have := hP (O z) n (by omega) (by omega) h3.2 hs q
          omega
        omega
      have up : ∀ z, p ≤ z → z < M → P n < P (O z) := by
        intro z h1 h2
        have := s1 z h1 h2
        simp at this
        exact this
      by_cases hx1 : x = p
      · rw [if_pos hx1, if_neg (by omega), if_pos (by omega)]
        exact up _ (by omega) (by omega)
      · rw [if_neg hx1]
        by_cases hy1 : y = p
        · rw [if_pos hy1, if_neg (by omega)]
          exact lo _ (by omega)
        · rw [if_neg hy1]
          by_cases hx2 : p < x ∧ x ≤ M
          · rw [if_pos hx2, if_pos (by omega)]
            exact ih _ _ (by omega) (by omega)
          · rw [if_neg hx2]
            by_cases hy2 : p < y ∧ y ≤ M
            · rw [if_pos hy2]
              exact Nat.lt_trans (lo x (by omega)) (up (y - 1) (by omega) (by omega))
            · rw [if_neg hy2]
              exact ih _ _ hxy (by omega)
    · rw [if_neg hs] at hy ⊢
      exact ih x y hxy hy
theorem ofxS_up {r : Nat → Int32} {fx P : Nat → Nat} : ∀ n, (∀ k, k < n → P (fx k) = k) → ∀ x y, x < y → y < (ofxS r fx n).1 → P ((ofxS r fx n).2 x) < P ((ofxS r fx n).2 y)
  | 0, _, x, y, _, h => absurd h (Nat.not_lt_zero y)
  | n + 1, hP, x, y, hxy, hy => by
    have ih := ofxS_up (r := r) (fx := fx) (P := P) n (fun k hk => hP k (by omega))
    have ha := ofxS_act r fx n
    rw [ofxS] at hy ⊢
    by_cases hs : stO r (fx n) = 1
    · rw [if_pos hs] at hy ⊢
      simp only at hy ⊢
      rw [if_neg (show ¬ x = (ofxS r fx n).1 by omega)]
      by_cases hy1 : y = (ofxS r fx n).1
      · rw [if_pos hy1]
        obtain ⟨⟨k, k1, k2⟩, -⟩ := ha x (by omega)
        rw [k2, hP k (by omega), hP n (by omega)]
        exact k1
      · rw [if_neg hy1]
        exact ih x y hxy (by omega)
    · rw [if_neg hs] at hy ⊢
      exact ih x y hxy hy
theorem ofxS_mem {r : Nat → Int32} {fx : Nat → Nat} : ∀ n k, k < n → stO r (fx k) = 1 → ∃ x, x < (ofxS r fx n).1 ∧ (ofxS r fx n).2 x = fx k
  | 0, k, h, _ => absurd h (Nat.not_lt_zero k)
  | n + 1, k, h, hk => by
    have ih := ofxS_mem (r := r) (fx := fx) n
    rw [ofxS]
    by_cases hs : stO r (fx n) = 1
    · rw [if_pos hs]
      simp only
      by_cases hkn : k = n
      · exact ⟨(ofxS r fx n).1, by omega, by rw [if_pos rfl, hkn]⟩
      · obtain ⟨x, x1, x2⟩ := ih k (by omega) hk
        exact ⟨x, by omega, by rw [if_neg (by omega)]; exact x2⟩
    · rw [if_neg hs]
      have : k ≠ n := fun q => hs (by rw [← q]; exact hk)
      exact ih k (by omega) hk
/-- groups of a fixed order: fx, and the places P -/
def fixK (r : Nat → Int32) (fx P : Nat → Nat) (K : Nat) : Prop := K ≤ 4 ∧ (∀ k, k < K → fx k < nG r ∧ P (fx k) = k) ∧ ∀ g, g < nG r → opB r g = true → ∃ k, k < K ∧ fx k = g
theorem ofxS_C {r : Nat → Int32} {T K : Nat} {fx P : Nat → Nat} (ho : okR r T) (hf : fixK r fx P K) : ordC r (ofxS r fx K).1 (ofxS r fx K).2 := by
  obtain ⟨f1, f2, f3⟩ := hf
  have hup := ofxS_up (r := r) (fx := fx) (P := P) K (fun k hk => (f2 k hk).2)
  refine ⟨⟨Nat.le_trans (ofxS_m _ _ _) (by omega), fun x hx => ?_⟩, fun x y hx hy he => ?_, fun g hg hs => ?_⟩
  · obtain ⟨⟨k, k1, k2⟩, k3⟩ := ofxS_act r fx K x hx
    exact ⟨by rw [k2]; exact (f2 k k1).1, k3⟩
  · rcases Nat.lt_trichotomy x y with q | q | q
    · have := hup x y q hy
      rw [he] at this
      omega
    · exact q
    · have := hup y x q hx
      rw [he] at this
      omega
  · obtain ⟨k, k1, k2⟩ := f3 g hg (stO_op (ho.2.2.2.2.2.2.2 g hg) hs)
    obtain ⟨x, x1, x2⟩ := ofxS_mem (r := r) (fx := fx) K k k1 (by rw [k2]; exact hs)
    exact ⟨x, x1, by rw [x2, k2]⟩
/-- two orders by rising places are the same -/
theorem ord_uniq {r : Nat → Int32} {P O1 O2 : Nat → Nat} {M : Nat} (h1 : ordC r M O1) (h2 : ordC r M O2) (u1 : ∀ x y, x < y → y < M → P (O1 x) < P (O1 y)) (u2 : ∀ x y, x < y → y < M → P (O2 x) < P (O2 y)) : ∀ x, x < M → O1 x = O2 x := by
  intro x
  induction x using Nat.strongRecOn with
  | ind x ih =>
    intro hx
    obtain ⟨y, y1, y2⟩ := h2.2.2 (O1 x) (h1.1.2 x hx).1 (h1.1.2 x hx).2
    obtain ⟨z, z1, z2⟩ := h1.2.2 (O2 x) (h2.1.2 x hx).1 (h2.1.2 x hx).2
    have hy : x ≤ y := by
      rcases Nat.lt_or_ge y x with q | q
      · have e1 := ih y q y1
        have := h1.2.1 y x y1 hx (by rw [e1, y2])
        omega
      · exact q
    have hz : x ≤ z := by
      rcases Nat.lt_or_ge z x with q | q
      · have e1 := ih z q z1
        have := h2.2.1 z x z1 hx (by rw [← e1, z2])
        omega
      · exact q
    rcases Nat.lt_or_ge x y with q | q
    · have a1 := u2 x y q y1
      rw [y2] at a1
      rcases Nat.lt_or_ge x z with q2 | q2
      · have a2 := u1 x z q2 z1
        rw [z2] at a2
        omega
      · rw [show z = x by omega] at z2
        exact z2
    · rw [show y = x by omega] at y2
      exact y2.symm
/-- the row that the class's trial stands for -/
def mdf (r : Nat → Int32) : Nat → Int32 := fun q => if q = 1 then 6 else if q = 3 then 0 else r q
theorem mdf_o {r : Nat → Int32} {q : Nat} (h1 : q ≠ 1) (h3 : q ≠ 3) : mdf r q = r q := by unfold mdf; rw [if_neg h1, if_neg h3]
theorem mdf_g (r : Nat → Int32) (g k : Nat) : gO (mdf r) g k = gO r g k := mdf_o (by omega) (by omega)
theorem mdf_f (r : Nat → Int32) (g f k : Nat) : fO (mdf r) g f k = fO r g f k := mdf_o (by omega) (by omega)
theorem mdf_nG (r : Nat → Int32) : nG (mdf r) = nG r := nG_cg (mdf_o (by omega) (by omega))
theorem mdf_nF (r : Nat → Int32) (g : Nat) : nF (mdf r) g = nF r g := nF_cg (mdf_g r g 5)
theorem mdf_st (r : Nat → Int32) (g : Nat) : stO (mdf r) g = stO r g := by
  unfold stO
  rw [mdf_g, mdf_g, mdf_g, mdf_o (by omega) (by omega)]
theorem mdf_op (r : Nat → Int32) (g : Nat) : opB (mdf r) g = opB r g := by
  unfold opB
  rw [mdf_g, mdf_g]
theorem mdf_cap (r : Nat → Int32) : capR (mdf r) = capR r := by
  funext p
  exact mdf_o (by omega) (by omega)
theorem mdf_fit (r : Nat → Int32) (g : Nat) (A : Nat → Int32) (y : Nat) : fitN (mdf r) g A y ↔ fitN r g A y := by
  unfold fitN needN
  simp only [mdf_f, mdf_nF]
theorem mdf_spn (r : Nat → Int32) (g : Nat) (A : Nat → Int32) : spn (mdf r) g A = spn r g A := by
  have e : isSpan (mdf r) g A = isSpan r g A := by
    funext x
    unfold isSpan
    simp only [mdf_fit]
  unfold spn
  rw [e]
theorem mdf_hd (r : Nat → Int32) (g : Nat) : hdS (mdf r) g = false := by
  unfold hdS
  have : mdf r 3 = 0 := rfl
  rw [this]
  rfl
theorem mdf_thr (r : Nat → Int32) (g f p : Nat) (x : Int32) : thr1 (mdf r) g f p x = thr1 r g f p x := by
  unfold thr1
  rw [mdf_f, mdf_f]
theorem mdf_rt (r : Nat → Int32) (g : Nat) (A : Nat → Int32) : rtS (mdf r) true g A = rtS r false g A := by
  funext f
  unfold rtS byS
  rw [mdf_spn, mdf_hd, mdf_f]
  simp
theorem mdf_gv (r : Nat → Int32) (O : Nat → Nat) : ∀ k, gvS (mdf r) true O k = gvS r false O k
  | 0 => by rw [gvS, gvS, mdf_cap]
  | k + 1 => by
    rw [gvS, gvS, mdf_gv r O k, mdf_nF]
    refine Prod.ext ?_ (Prod.ext ?_ ?_)
    · funext p
      simp only [subS, mdf_rt, mdf_thr]
    · funext g f
      simp only [mdf_rt, mdf_nF]
    · funext g
      simp only [mdf_spn]
theorem mdf_shA (r : Nat → Int32) (g : Nat) (R A : Nat → Int32) : ∀ i, shA (mdf r) g R A i = shA r g R A i
  | 0 => rfl
  | i + 1 => by
    funext p
    rw [shA, shA, mdf_shA r g R A i]
    simp only [mdf_thr, mdf_f]
theorem mdf_shG (r : Nat → Int32) (O : Nat → Nat) (A0 : Nat → Int32) (R0 : Nat → Nat → Int32) : ∀ k, shG (mdf r) O A0 R0 k = shG r O A0 R0 k
  | 0 => rfl
  | k + 1 => by
    rw [shG, shG, mdf_shG r O A0 R0 k, mdf_nF, mdf_shA]
    refine Prod.ext rfl ?_
    funext g f
    simp only [mdf_nF, moS, mdf_shA, mdf_f]
theorem mdf_fin (r : Nat → Int32) (M : Nat) (O : Nat → Nat) : finR (mdf r) true M O = finR r false M O := by
  unfold finR
  rw [mdf_gv, mdf_shG, mdf_o (q := 2) (by omega) (by omega)]
theorem mdf_okR {r : Nat → Int32} {T : Nat} (h : okR r T) : okR (mdf r) T := by
  obtain ⟨h1, h2, h3, h4, h5, h6, h7, h8⟩ := h
  refine ⟨⟨⟨by rw [mdf_nG, mdf_o (by omega) (by omega)]; exact h1.1.1, by rw [mdf_nG]; exact h1.1.2⟩, ?_, by rw [mdf_cap]; exact h1.2.2⟩, by rw [mdf_o (by omega) (by omega)]; exact h2, ?_, by rw [mdf_o (by omega) (by omega), mdf_nG]; exact h4, ⟨⟨rfl, show vN (6 : Int32) ≤ 6 by decide⟩, h5.2.cg (mdf_o (by omega) (by omega)) (fun q h1 h2 => mdf_o (by omega) (by omega))⟩, ⟨by rw [mdf_o (by omega) (by omega)]; exact h6.1, Or.inl rfl⟩, by rw [mdf_cap]; exact h7, ?_⟩
  · intro g hg
    rw [mdf_nG] at hg
    unfold flK
    simp only [mdf_nF, mdf_g, mdf_f]
    exact h1.2.1 g hg
  · unfold okE nE
    rw [mdf_o (by omega) (by omega)]
    exact h3
  · intro g hg
    rw [mdf_nG] at hg
    unfold grK
    simp only [mdf_nF, mdf_g, mdf_f]
    exact h8 g hg
theorem mdf_evs {r : Nat → Int32} (h : okE r) : evs (mdf r) = evs r := evs_cg (mdf_o (by omega) (by omega)) (fun q h1 h2 => mdf_o (by omega) (by omega)) h.2
theorem mdf_pre (r : Nat → Int32) (M : Nat) (O : Nat → Nat) : preB (mdf r) M O = preB r M O := by
  unfold preB
  rw [mdf_o (q := 5) (by omega) (by omega), mdf_st]
theorem mdf_dn (r : Nat → Int32) (M : Nat) (O : Nat → Nat) (g : Nat) : dnS (mdf r) true M O g = dnS r false M O g := by
  unfold dnS
  simp only [mdf_fin, mdf_f, mdf_nF]
theorem mdf_en (r : Nat → Int32) (M : Nat) (O : Nat → Nat) (g : Nat) : enS (mdf r) true M O g = enS r false M O g := by
  unfold enS
  rw [mdf_dn, mdf_o (q := 0) (by omega) (by omega), mdf_g]
theorem mdf_lt (r : Nat → Int32) (M : Nat) (O : Nat → Nat) (g : Nat) : ltS (mdf r) true M O g = ltS r false M O g := by
  unfold ltS
  simp only [mdf_g, mdf_en, mdf_o (r := r) (q := 0) (by omega) (by omega)]
theorem mdf_tk {r r' : Nat → Int32} {M : Nat} {O : Nat → Nat} (hE : okE r) (h : tkR false M O r r') : tkR true M O (mdf r) (mdf r') := by
  obtain ⟨a0, ⟨a1, a2, a3, a6, a7⟩, a4, a5, a10, a42, am, ag, ⟨ae, al⟩, ax⟩ := h
  refine ⟨?_, ⟨rfl, ?_, rfl, ?_, ?_⟩, ?_, ?_, ?_, ?_, ?_, ?_, ⟨?_, ?_⟩, ?_⟩
  · rw [mdf_o (by omega) (by omega), mdf_o (by omega) (by omega)]; exact a0
  · rw [mdf_o (by omega) (by omega), mdf_o (by omega) (by omega)]; exact a2
  · rw [mdf_o (by omega) (by omega), mdf_o (by omega) (by omega)]; exact a6
  · rw [mdf_o (by omega) (by omega), mdf_o (by omega) (by omega)]; exact a7
  · rw [mdf_o (by omega) (by omega), mdf_o (by omega) (by omega), mdf_pre]; exact a4
  · rw [mdf_o (by omega) (by omega), mdf_o (by omega) (by omega)]; exact a5
  · intro q h1 h2
    rw [mdf_o (by omega) (by omega), mdf_o (by omega) (by omega)]; exact a10 q h1 h2
  · intro q h1 h2
    rw [mdf_o (by omega) (by omega), mdf_o (by omega) (by omega)]; exact a42 q h1 h2
  · intro p hp
    rw [mdf_o (by omega) (by omega), mdf_o (by omega) (by omega), mdf_nG, mdf_fin]
    simp only [mdf_thr, mdf_nF]
    exact am p hp
  · intro g hg
    rw [mdf_nG] at hg
    simp only [mdf_g, mdf_f, mdf_nF, mdf_fin, mdf_en]
    exact ag g hg
  · unfold okE nE
    rw [mdf_o (by omega) (by omega)]
    exact ae
  · rw [mdf_evs ae, al]
    unfold evT
    rw [mdf_pre, mdf_evs hE, mdf_nG, mdf_o (q := 5) (by omega) (by omega), mdf_o (q := 0) (by omega) (by omega)]
    rw [evG_cg (c := dnS (mdf r) true M O) (c' := dnS r false M O) (fun g _ => mdf_dn r M O g), evG_cg (c := ltS (mdf r) true M O) (c' := ltS r false M O) (fun g _ => mdf_lt r M O g)]
  · intro q hq
    rw [mdf_o (by omega) (by omega), mdf_o (by omega) (by omega)]; exact ax q hq
theorem mdf_C {r : Nat → Int32} {M : Nat} {O : Nat → Nat} (h : ordC r M O) : ordC (mdf r) M O := by
  obtain ⟨⟨h1, h2⟩, h3, h4⟩ := h
  refine ⟨⟨h1, fun x hx => by rw [mdf_nG, mdf_st]; exact h2 x hx⟩, h3, fun g hg hs => ?_⟩
  rw [mdf_nG] at hg
  rw [mdf_st] at hs
  exact h4 g hg hs
theorem ord_fix {r F : Nat → Int32} {T K : Nat} {fx P : Nat → Nat} (ho : okR r T) (hf : fixK r fx P K) (hF : ∀ k, k < K → F (fx k) = nI k) : (ofxS r fx K).1 = (ordS (mdf r) (bfK (mdf r) F) (nG (mdf r))).1 ∧ ∀ x, x < (ofxS r fx K).1 → (ofxS r fx K).2 x = (ordS (mdf r) (bfK (mdf r) F) (nG (mdf r))).2 x := by
  have hC := ofxS_C ho hf
  have ho2 := mdf_okR ho
  have hpl : ∀ g, g < nG r → stO r g = 1 → F g = nI (P g) ∧ P g < 4 ∧ ∃ k, k < K ∧ fx k = g := by
    intro g hg hs
    obtain ⟨k, k1, k2⟩ := hf.2.2 g hg (stO_op (ho.2.2.2.2.2.2.2 g hg) hs)
    have h4 := hf.1
    rw [← k2, hF k k1, (hf.2.1 k k1).2]
    exact ⟨rfl, by omega, k, k1, rfl⟩
  have ecg : ordS (mdf r) (bfK (mdf r) F) (nG (mdf r)) = ordS (mdf r) (fun o h => decide (P o ≤ P h)) (nG (mdf r)) := by
    refine ordS_cg _ (fun o h h1 h2 s1 s2 => ?_)
    rw [mdf_nG] at h2
    rw [mdf_st] at s1 s2
    obtain ⟨a1, a2, -⟩ := hpl o (by omega) s1
    obtain ⟨b1, b2, -⟩ := hpl h h2 s2
    have t1 : ∀ g, tierS (mdf r) g = 1 := fun g => by
      unfold tierS
      rw [mdf_hd, if_neg (by decide), show mdf r 1 = 6 from rfl, if_neg (show ¬ ((6 : Int32) = 0 ∨ (6 : Int32) = 5) by decide)]
    have d1 : ∀ g, divS (mdf r) g = 1 := fun g => by
      unfold divS
      rw [mdf_hd, if_neg (by decide), show mdf r 1 = 6 from rfl, if_neg (show ¬ ((6 : Int32) = 0 ∨ (6 : Int32) = 5) by decide)]
    have n1 : ∀ g, numS (mdf r) F g = (F g).toInt64 := fun g => by
      unfold numS
      rw [mdf_hd, if_neg (by decide), show mdf r 1 = 6 from rfl, if_neg (show ¬ ((6 : Int32) = 0 ∨ (6 : Int32) = 5) by decide), if_neg (show ¬ (6 : Int32) = 1 by decide), if_neg (show ¬ (6 : Int32) = 2 by decide), if_neg (show ¬ (6 : Int32) = 3 by decide), if_neg (show ¬ (6 : Int32) = 4 by decide)]
    have e1 : (1 : Int32).toInt64 = 1 := rfl
    unfold bfK bfC
    rw [t1, t1, d1, d1, n1, n1, if_pos rfl, e1, Int64.mul_one, Int64.mul_one, a1, b1]
    simp only [t64_lt]
    by_cases hl : P h < P o
    · have h3 := lt_p hl (by omega)
      simp [h3, hl]
    · have h3 := lt_n (a := P h) (b := P o) (by omega) (by omega)
      simp [h3, Nat.le_of_not_lt hl]
  have hC2 := ordS_C ho2.1 (fun o h => decide (P o ≤ P h))
  have hM : (ofxS r fx K).1 = (ordS (mdf r) (fun o h => decide (P o ≤ P h)) (nG (mdf r))).1 := by
    rw [← ordC_M ho.1.1.2 hC, ← ordC_M ho2.1.1.2 hC2, mdf_nG]
    exact sumN_cg (fun g hg => by rw [mdf_st])
  rw [ecg]
  refine ⟨hM, ?_⟩
  rw [← hM] at hC2
  refine ord_uniq (P := P) (mdf_C hC) hC2 (ofxS_up K (fun k hk => (hf.2.1 k hk).2)) (fun x y h1 h2 => ?_)
  refine ordS_up (nG (mdf r)) (fun g h g1 g2 s1 s2 he => ?_) x y h1 (by rw [← hM]; exact h2)
  rw [mdf_nG] at g1 g2
  rw [mdf_st] at s1 s2
  obtain ⟨-, -, k, k1, k2⟩ := hpl g g1 s1
  obtain ⟨-, -, j, j1, j2⟩ := hpl h g2 s2
  rw [← k2, ← j2, (hf.2.1 k k1).2, (hf.2.1 j j1).2] at he
  rw [← k2, ← j2, he]
