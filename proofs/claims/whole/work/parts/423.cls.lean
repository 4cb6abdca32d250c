/-! foretelling: ticks on the copy -/
def crow (md : Option ((Nat → Nat) × Nat)) (r : Nat → Int32) : Nat → Int32 := match md with
  | none => r
  | some _ => mdf r
/-- what the tick of the foretelling needs of its fixed places -/
def fpK (md : Option ((Nat → Nat) × Nat)) (r F : Nat → Int32) : Prop := match md with
  | none => ¬ r 1 = 6
  | some fk => ∀ k, k < fk.2 → F (fk.1 k) = nI k
theorem fpK.s {md : Option ((Nat → Nat) × Nat)} {r r' F : Nat → Int32} (h : fpK md r F) (hs : tkS md r r') : fpK md r' F := by
  cases md with
  | none =>
    show ¬ r' 1 = 6
    rw [hs.2.1.1]
    exact h
  | some fk => exact h
theorem crow_ok {md : Option ((Nat → Nat) × Nat)} {r : Nat → Int32} {T : Nat} (h : okR r T) : okR (crow md r) T := by
  cases md with
  | none => exact h
  | some fk => exact mdf_okR h
theorem crow_nG (md : Option ((Nat → Nat) × Nat)) (r : Nat → Int32) : nG (crow md r) = nG r := by
  cases md with
  | none => rfl
  | some fk => exact mdf_nG r
theorem crow_g (md : Option ((Nat → Nat) × Nat)) (r : Nat → Int32) (g k : Nat) : gO (crow md r) g k = gO r g k := by
  cases md with
  | none => rfl
  | some fk => exact mdf_g r g k
theorem crow_op (md : Option ((Nat → Nat) × Nat)) (r : Nat → Int32) (g : Nat) : opB (crow md r) g = opB r g := by
  unfold opB
  rw [crow_g, crow_g]
theorem crow_opN (md : Option ((Nat → Nat) × Nat)) (r : Nat → Int32) (n : Nat) : opN (crow md r) n = opN r n := by
  unfold opN
  exact sumN_cg (fun g hg => by rw [crow_op])
section
variable {b : Nat} {W : WD} {t i T : Nat} {r r' F : Nat → Int32} {md : Option ((Nat → Nat) × Nat)}
theorem c_tickS (ht : vo 8 t 0 = true) (hi : i < 8) (hs : stR W i (crow md r)) (ho : okR r T) (hT : T + 1 ≤ 900000) (hv : mdV md r) (hF : W.2.1 8 t 0 4 = F) (hfp : fpK md r F) (htk : tkS md r r') : ∃ c V, f_X8_perform (b + ad 8 t 0) (b + ad 7 i 0) (wd b W) = some (c, wd b V) ∧ frQ (tkQ t i) W V ∧ stR V i (crow md r') ∧ (c = 0 ∨ c = 1) ∧ (c = 0 → idle r) := by
  cases md with
  | none =>
    have hC := ordOf_C (md := none) ho trivial
    have he := ord_eq (F := F) ho (by omega) hfp
    have e1 : ordOf none r = ordS r (bfS r) (nG r) := rfl
    obtain ⟨c, V, p1, p2, p3, p4, p5⟩ := c_perform (b := b) (W := W) (r := r) (r' := r') ht hi hs ho hT hF (M := (ordOf none r).1) (O := (ordOf none r).2) (by rw [e1, he]) (fun x _ => by rw [e1, he]) hC htk
    exact ⟨c, V, p1, p2, p3, p4, fun q => still_idle ho (by omega) hC (p5 q)⟩
  | some fk =>
    obtain ⟨P, hP⟩ := id hv
    have hC : ordC r (ofxS r fk.1 fk.2).1 (ofxS r fk.1 fk.2).2 := ordOf_C (md := some fk) ho hv
    obtain ⟨q1, q2⟩ := ord_fix (F := F) ho hP hfp
    have htk' : tkR false (ofxS r fk.1 fk.2).1 (ofxS r fk.1 fk.2).2 r r' := htk
    obtain ⟨c, V, p1, p2, p3, p4, p5⟩ := c_perform (b := b) (W := W) (r := mdf r) (r' := mdf r') ht hi hs (mdf_okR ho) hT hF (M := (ofxS r fk.1 fk.2).1) (O := (ofxS r fk.1 fk.2).2) q1 q2 (mdf_C hC) (mdf_tk ho.2.2.1 htk')
    refine ⟨c, V, p1, p2, p3, p4, fun q => ?_⟩
    obtain ⟨w1, w2⟩ := p5 q
    refine still_idle (dl := false) ho (by omega) hC ⟨fun g f hg hf => ?_, fun g hg hop => ?_⟩
    · rw [← mdf_fin]
      exact w1 g f (by rw [mdf_nG]; exact hg) (by rw [mdf_nF]; exact hf)
    · rw [← mdf_st]
      exact w2 g (by rw [mdf_nG]; exact hg) (by rw [mdf_op]; exact hop)
theorem tkQ_8 {s : Nat} : ¬ tkQ t s 8 t 0 4 := by unfold tkQ inS; omega
theorem h3 : vo 3 0 0 = true := rfl
theorem h8 : vo 8 1 0 = true := rfl
theorem h80 : vo 8 0 0 = true := rfl
theorem hx7 : (7 : Nat) < 8 := by omega
/-- what happens to the end of one group -/
theorem c_endL {ρ : Nat → Nat → Int32} {n g : Nat} (h0 : okR (ρ 0) T) (hT : T + 1000 ≤ 900000) (hc : chn none ρ n) (hp : outP g ρ n) (hg : g < nG (ρ 0)) (h6 : ¬ ρ 0 1 = 6) (hs : stR W 7 (ρ 0)) : ∃ V, f_X3_endOf_L27 (b + ad 3 0 0) (b + ad 4 7 g) (fun N18 => ob (hI N18 (b + ad 4 7 g) 4 3) (fun x19 => some (x19, N18))) FU (bI (opB (ρ 0) g)) (0 : Int32) (wd b W) = some (gO (ρ n) g 3, wd b V) ∧ frQ (tkQ 1 7) W V := by
  obtain ⟨p1, p2, p3⟩ := hp
  have h12 := h0.1.1.2
  have hv4 := vo4 (g := g) hx7 (by omega)
  have fin : ∀ (V : WD) (j : Nat), j ≤ n → frQ (tkQ 1 7) W V → stR V 7 (ρ j) → gO (ρ j) g 3 = gO (ρ n) g 3 → ∃ V', (ob (hI (wd b V) (b + ad 4 7 g) 4 3) (fun x19 => some (x19, wd b V))) = some (gO (ρ n) g 3, wd b V') ∧ frQ (tkQ 1 7) W V' := by
    intro V j hj k1 k2 k3
    obtain ⟨-, -, a3⟩ := chn_ok h0 (md := none) trivial (by omega) hc j hj
    rw [o4_3 hv4, (k2.2.2.2.1 g (by omega)).1 3 (by omega), k3]
    exact ⟨V, rfl, k1⟩
  have key := loopX (fun m j (s : WD × Bool) => f_X3_endOf_L27 (b + ad 3 0 0) (b + ad 4 7 g) (fun N18 => ob (hI N18 (b + ad 4 7 g) 4 3) (fun x19 => some (x19, N18))) m (bI s.2) (nI j) (wd b s.1)) 1000 (fun j s => frQ (tkQ 1 7) W s.1 ∧ ((s.2 = true ∧ j ≤ n ∧ opB (ρ j) g = true ∧ stR s.1 7 (ρ j)) ∨ (s.2 = false ∧ ∃ q, q ≤ n ∧ stR s.1 7 (ρ q) ∧ gO (ρ q) g 3 = gO (ρ n) g 3))) (fun y => ∃ V, y = some (gO (ρ n) g 3, wd b V) ∧ frQ (tkQ 1 7) W V) ?_ ?_ FU 0 (W, opB (ρ 0) g) (by omega) (by have := FUgt; omega) ?_
  · exact key
  · rintro m j ⟨V, c⟩ hj ⟨k1, k2⟩
    simp only at k1 k2
    try dsimp only
    rw [f_X3_endOf_L27, li 1000, if_neg (le_n hj (by omega))]
    rcases k2 with ⟨rfl, k3, k4, k5⟩ | ⟨rfl, q, q1, q2, q3⟩
    · left
      have hjn : j < n := by
        rcases Nat.lt_or_ge j n with z | z
        · exact z
        · have e : j = n := by omega
          subst e
          rcases p3 with w | w
          · rw [w] at k4; cases k4
          · omega
      obtain ⟨a1, a2, a3⟩ := chn_ok h0 (md := none) trivial (by omega) hc j (by omega)
      obtain ⟨b1, b2, b3⟩ := chn_ok h0 (md := none) trivial (by omega) hc (j + 1) (by omega)
      have hpol : ¬ ρ j 1 = 6 := by
        have : ∀ q, q ≤ j → ρ q 1 = ρ 0 1 := by
          intro q
          induction q with
          | zero => exact fun _ => rfl
          | succ q ih => exact fun hq => by rw [(hc q (by omega)).2.1.1]; exact ih (by omega)
        rw [this j (Nat.le_refl _)]
        exact h6
      obtain ⟨c, V', e1, e2, e3, e4, e5⟩ := c_tickS (b := b) (W := V) (t := 1) (i := 7) (md := none) (F := V.2.1 8 1 0 4) h8 hx7 k5 a1 (by omega) trivial rfl hpol (hc j hjn)
      have e3' : stR V' 7 (ρ (j + 1)) := e3
      rw [if_neg (show ¬ bI true = 0 by decide), o3_1 h3, o3_0 h3, ob2_i e1, nI_1]
      rcases e4 with rfl | rfl
      · rw [if_pos rfl]
        have hid := chn_idle h0 (md := none) trivial (by omega) hc (e5 rfl)
        refine ⟨(V', false), ⟨k1.tr e2, Or.inr ⟨rfl, j + 1, by omega, e3', ?_⟩⟩, rfl⟩
        rw [((hid (j + 1) (by omega) (by omega)).2 g hg).1, ((hid n (by omega) (Nat.le_refl _)).2 g hg).1]
      · rw [if_neg (by decide), ob2_i (c_isOpen (b := b) (r := ρ (j + 1)) hv4 (e3'.2.2.2.1 g (by omega)).1)]
        cases hb : opB (ρ (j + 1)) g with
        | false =>
          rw [if_pos (by decide)]
          refine ⟨(V', false), ⟨k1.tr e2, Or.inr ⟨rfl, j + 1, by omega, e3', ?_⟩⟩, rfl⟩
          have : n = j + 1 := by
            rcases Nat.lt_or_ge (j + 1) n with z | z
            · rw [p2 (j + 1) z] at hb; cases hb
            · omega
          rw [this]
        | true =>
          rw [if_neg (by decide)]
          exact ⟨(V', true), ⟨k1.tr e2, Or.inl ⟨rfl, by omega, rfl, e3'⟩⟩, rfl⟩
    · right
      rw [if_pos (by decide)]
      exact fin V q q1 k1 q2 q3
  · rintro m ⟨V, c⟩ ⟨k1, k2⟩
    simp only at k1 k2
    try dsimp only
    rw [f_X3_endOf_L27, li 1000, if_pos (le_p (Nat.le_refl _) (by omega))]
    rcases k2 with ⟨rfl, k3, k4, k5⟩ | ⟨rfl, q, q1, q2, q3⟩
    · have e : n = 1000 := by omega
      subst e
      exact fin V 1000 (Nat.le_refl _) k1 k5 rfl
    · exact fin V q q1 k1 q2 q3
  · refine ⟨frQ.rf, ?_⟩
    cases hb : opB (ρ 0) g with
    | true => exact Or.inl ⟨rfl, by omega, rfl, hs⟩
    | false =>
      refine Or.inr ⟨rfl, 0, by omega, hs, ?_⟩
      have : n = 0 := by
        rcases Nat.eq_zero_or_pos n with z | z
        · exact z
        · rw [p2 0 z] at hb; cases hb
      rw [this]
theorem sumE_done {n : Nat} (hg : ∀ g, g < n → grK r g T) (h12 : n ≤ 12) (h6 : W.1 7 i 0 6 = nI n) (hi : i < 8) (hs : ∀ g, g < n → ∀ k, k < 5 → W.1 4 i g k = gO r g k) : f_X7_totalWhenAllDone (b + ad 7 i 0) (wd b W) = some (if opN r n = 0 then sumE r n else -1, wd b W) := by
  have hv7 := vo7 hi
  unfold f_X7_totalWhenAllDone
  rw [oO_7 hv7]
  refine loopX (fun m j (_ : Unit) => f_X7_totalWhenAllDone_L4 (b + ad 7 i 0) (fun N12 => some ((-1 : Int32), N12)) (fun v13 N14 => some (v13, N14)) m (sumE r j) (nI j) (wd b W)) n (fun j _ => opN r j = 0) (fun y => y = some (if opN r n = 0 then sumE r n else -1, wd b W)) ?_ ?_ FU 0 () (by omega) (by have := FUgt; omega) rfl
  · intro m j _ hj hI
    have hv4 := vo4 (g := j) hi (by omega)
    have e1 : opN r (j + 1) = opN r j + (if opB r j = true then 1 else 0) := rfl
    have e2 : sumE r (j + 1) = sumE r j + (if gO r j 3 = -1 then 0 else gO r j 3 - gO r j 0) := rfl
    try dsimp only
    rw [f_X7_totalWhenAllDone_L4, o7_6 hv7, h6, if_neg (le_n hj (by omega)), o7_10 hv7, oa7_10 hv7 (by omega), ob2_i (c_isOpen (b := b) hv4 (hs j hj))]
    cases hb : opB r j with
    | true =>
      right
      have hpos : opN r n ≠ 0 := by
        intro q
        have := sumN_0 q j hj
        try dsimp only at this
        rw [if_pos hb] at this
        omega
      rw [if_neg (by decide), if_neg hpos]
    | false =>
      left
      rw [if_pos (by decide), o4_4 hv4, hs j hj 4 (by omega)]
      refine ⟨(), by rw [e1, hI, hb]; rfl, ?_⟩
      rw [nI_1, e2]
      rcases (hg j hj).2.2.2.1 with q | ⟨q1, q2⟩
      · have h3 : ¬ gO r j 3 = -1 := fun z => by unfold opB at hb; rw [q, z] at hb; cases hb
        rw [if_neg (fun z => z q), o4_3 hv4, o4_0 hv4, hs j hj 3 (by omega), hs j hj 0 (by omega), if_neg h3]
      · rw [if_pos (show ¬ gO r j 4 = 0 by rw [q1]; decide), if_pos q2, Int32.add_zero]
  · intro m _ hI
    try dsimp only
    rw [f_X7_totalWhenAllDone_L4, o7_6 hv7, h6, if_pos (le_p (Nat.le_refl _) (by omega)), if_pos hI]
theorem c_runL {ρ : Nat → Nat → Int32} {n : Nat} {v : Int32} (h0 : okR (ρ 0) T) (hv : mdV md (ρ 0)) (hT : T + 300 ≤ 900000) (hc : chn md ρ n) (hp : totP v ρ n) (hF : W.2.1 8 1 0 4 = F) (hfp : fpK md (ρ 0) F) (hs : stR W 7 (crow md (ρ 0))) : ∃ V, f_X3_runToTotal (b + ad 3 0 0) (wd b W) = some (v, wd b V) ∧ frQ (tkQ 1 7) W V := by
  obtain ⟨p1, p2, p3⟩ := hp
  have hok := chn_ok h0 hv (by omega) hc
  have hop : ∀ (V : WD) (j : Nat), j ≤ n → stR V 7 (crow md (ρ j)) → f_X7_countOpen (b + ad 7 7 0) (wd b V) = some (nI (opN (ρ j) (nG (ρ j))), wd b V) := by
    intro V j hj hV
    obtain ⟨a1, a2, a3⟩ := hok j hj
    have hc1 := crow_ok (md := md) a1
    have e := c_countOpen (b := b) (W := V) (i := 7) (r := crow md (ρ j)) hx7 (by rw [hV.1 6 (by omega)]; exact hc1.1.1.1) hc1.1.1.2 (fun g hg => (hV.2.2.2.1 g hg).1)
    rw [crow_nG, crow_opN] at e
    exact e
  have fin : ∀ (V : WD) (j : Nat), j ≤ n → frQ (tkQ 1 7) W V → stR V 7 (crow md (ρ j)) → (if opN (ρ j) (nG (ρ j)) = 0 then sumE (ρ j) (nG (ρ j)) else -1) = v → ∃ V', (ob (hR (wd b V) (b + ad 3 0 0) 3 0) (fun x17 => ob2 (f_X7_totalWhenAllDone x17 (wd b V)) (fun x19 N18 => some (x19, N18)))) = some (v, wd b V') ∧ frQ (tkQ 1 7) W V' := by
    intro V j hj k1 k2 k3
    obtain ⟨a1, a2, a3⟩ := hok j hj
    have hc1 := crow_ok (md := md) a1
    have e := sumE_done (b := b) (W := V) (i := 7) (r := crow md (ρ j)) (n := nG (crow md (ρ j))) (fun g hg => hc1.2.2.2.2.2.2.2 g hg) hc1.1.1.2 (by rw [k2.1 6 (by omega)]; exact hc1.1.1.1) hx7 (fun g hg => (k2.2.2.2.1 g hg).1)
    rw [crow_nG, crow_opN] at e
    have e2 : sumE (crow md (ρ j)) (nG (ρ j)) = sumE (ρ j) (nG (ρ j)) := by
      unfold sumE
      exact sumI_cg (fun g hg => by rw [crow_g, crow_g])
    rw [e2, k3] at e
    rw [o3_0 h3, ob2_i e]
    exact ⟨V, rfl, k1⟩
  have vend : (if opN (ρ n) (nG (ρ n)) = 0 then sumE (ρ n) (nG (ρ n)) else -1) = v := by
    rcases p3 with ⟨q1, q2⟩ | ⟨q1, q2, q3⟩
    · rw [if_pos q1, q2]
    · rw [if_neg (by omega), q3]
  have loop : ∀ c0 : Bool, (c0 = true → 0 < opN (ρ 0) (nG (ρ 0))) → (c0 = false → opN (ρ 0) (nG (ρ 0)) = 0) → ∃ V, f_X3_runToTotal_L18 (b + ad 3 0 0) (fun N16 => ob (hR N16 (b + ad 3 0 0) 3 0) (fun x17 => ob2 (f_X7_totalWhenAllDone x17 N16) (fun x19 N18 => some (x19, N18)))) FU (bI c0) (0 : Int32) (wd b W) = some (v, wd b V) ∧ frQ (tkQ 1 7) W V := by
    intro c0 hc1 hc2
    have key := loopX (fun m j (s : WD × Bool) => f_X3_runToTotal_L18 (b + ad 3 0 0) (fun N16 => ob (hR N16 (b + ad 3 0 0) 3 0) (fun x17 => ob2 (f_X7_totalWhenAllDone x17 N16) (fun x19 N18 => some (x19, N18)))) m (bI s.2) (nI j) (wd b s.1)) 300 (fun j s => frQ (tkQ 1 7) W s.1 ∧ ((s.2 = true ∧ j ≤ n ∧ 0 < opN (ρ j) (nG (ρ j)) ∧ stR s.1 7 (crow md (ρ j))) ∨ (s.2 = false ∧ ∃ q, q ≤ n ∧ stR s.1 7 (crow md (ρ q)) ∧ (if opN (ρ q) (nG (ρ q)) = 0 then sumE (ρ q) (nG (ρ q)) else -1) = v))) (fun y => ∃ V, y = some (v, wd b V) ∧ frQ (tkQ 1 7) W V) ?_ ?_ FU 0 (W, c0) (by omega) (by have := FUgt; omega) ?_
    · exact key
    · rintro m j ⟨V, c⟩ hj ⟨k1, k2⟩
      simp only at k1 k2
      try dsimp only
      rw [f_X3_runToTotal_L18, li 300, if_neg (le_n hj (by omega))]
      rcases k2 with ⟨rfl, k3, k4, k5⟩ | ⟨rfl, q, q1, q2, q3⟩
      · left
        have hjn : j < n := by
          rcases Nat.lt_or_ge j n with z | z
          · exact z
          · have e : j = n := by omega
            subst e
            rcases p3 with ⟨w, -⟩ | ⟨w, -⟩ <;> omega
        obtain ⟨a1, a2, a3⟩ := hok j (by omega)
        obtain ⟨b1, b2, b3⟩ := hok (j + 1) (by omega)
        have hle := opN_le (ρ (j + 1)) (nG (ρ (j + 1)))
        have h12 := b1.1.1.2
        have hfj : ∀ q, q ≤ j → fpK md (ρ q) F := by
          intro q
          induction q with
          | zero => exact fun _ => hfp
          | succ q ih => exact fun hq => (ih (by omega)).s (hc q (by omega))
        obtain ⟨c, V', e1, e2, e3, e4, e5⟩ := c_tickS (b := b) (W := V) (t := 1) (i := 7) (md := md) (F := F) h8 hx7 k5 a1 (by omega) a2 (by rw [k1.2.1 8 1 0 4 tkQ_8, hF]) (hfj j (Nat.le_refl _)) (hc j hjn)
        rw [if_neg (show ¬ bI true = 0 by decide), o3_1 h3, o3_0 h3, ob2_i e1, nI_1]
        rcases e4 with rfl | rfl
        · rw [if_pos rfl]
          have hid := chn_idle h0 hv (by omega) hc (e5 rfl)
          refine ⟨(V', false), ⟨k1.tr e2, Or.inr ⟨rfl, j + 1, by omega, e3, ?_⟩⟩, rfl⟩
          have same : ∀ q, j ≤ q → q ≤ n → opN (ρ q) (nG (ρ q)) = opN (ρ j) (nG (ρ j)) := by
            intro q h1 h2
            rw [(hok q h2).2.2, (hok j (by omega)).2.2]
            exact sumN_cg (fun g hg => by rw [((hid q h1 h2).2 g hg).2])
          have hn : opN (ρ n) (nG (ρ n)) ≠ 0 := by
            rw [same n (by omega) (Nat.le_refl _)]
            omega
          rw [if_neg hn] at vend
          rw [if_neg (by rw [same (j + 1) (by omega) (by omega)]; omega)]
          exact vend
        · rw [if_neg (by decide), o3_0 h3, ob2_i (hop V' (j + 1) (by omega) e3)]
          rcases Nat.eq_zero_or_pos (opN (ρ (j + 1)) (nG (ρ (j + 1)))) with hz | hz
          · rw [hz, if_pos (by decide)]
            refine ⟨(V', false), ⟨k1.tr e2, Or.inr ⟨rfl, j + 1, by omega, e3, ?_⟩⟩, rfl⟩
            have : n = j + 1 := by
              rcases Nat.lt_or_ge (j + 1) n with z | z
              · have := p2 (j + 1) z
                omega
              · omega
            rw [← this]
            exact vend
          · rw [if_neg (show ¬ nI (opN (ρ (j + 1)) (nG (ρ (j + 1)))) ≤ 0 from le_n (b := 0) hz (by omega))]
            exact ⟨(V', true), ⟨k1.tr e2, Or.inl ⟨rfl, by omega, hz, e3⟩⟩, rfl⟩
      · right
        rw [if_pos (by decide)]
        exact fin V q q1 k1 q2 q3
    · rintro m ⟨V, c⟩ ⟨k1, k2⟩
      simp only at k1 k2
      try dsimp only
      rw [f_X3_runToTotal_L18, li 300, if_pos (le_p (Nat.le_refl _) (by omega))]
      rcases k2 with ⟨rfl, k3, k4, k5⟩ | ⟨rfl, q, q1, q2, q3⟩
      · have e : n = 300 := by omega
        subst e
        exact fin V 300 (Nat.le_refl _) k1 k5 vend
      · exact fin V q q1 k1 q2 q3
    · refine ⟨frQ.rf, ?_⟩
      cases c0 with
      | true => exact Or.inl ⟨rfl, by omega, hc1 rfl, hs⟩
      | false =>
        refine Or.inr ⟨rfl, 0, by omega, hs, ?_⟩
        have : n = 0 := by
          rcases Nat.eq_zero_or_pos n with z | z
          · exact z
          · have := p2 0 z
            have := hc2 rfl
            omega
        rw [this] at vend
        exact vend
  unfold f_X3_runToTotal
  have hle := opN_le (ρ 0) (nG (ρ 0))
  have h12 := h0.1.1.2
  rw [oO_3 h3, o3_0 h3, ob2_i (hop W 0 (by omega) hs)]
  rcases Nat.eq_zero_or_pos (opN (ρ 0) (nG (ρ 0))) with hz | hz
  · rw [hz, if_pos (by decide)]
    exact loop false (fun q => (by cases q)) (fun _ => hz)
  · rw [if_neg (show ¬ nI (opN (ρ 0) (nG (ρ 0))) ≤ 0 from le_n (b := 0) hz (by omega))]
    exact loop true (fun _ => hz) (fun q => (by cases q))
end
