/-! ===== x's tokens ===== -/
def RB (u : Hp) (b : Nat → Int32) (Z : Nat) : Prop := u 38 1 = nI Z ∧ Z ≤ 160 ∧ ∀ j, j < Z → nb (b j) 256 ∧ u 39 j = xb (b j)
abbrev G4 (k i : Nat) : Prop := ¬ (k = 38 ∧ (i = 2 ∨ i = 3 ∨ i = 4))
theorem RB.ag {u u' : Hp} {b : Nat → Int32} {Z : Nat} (h : RB u b Z) (a : agr (fun k i => k = 39 ∨ (k = 38 ∧ i = 1)) u u') : RB u' b Z := by
  obtain ⟨h1, h2, h3⟩ := h
  exact ⟨by rw [a 38 1 (by decide)]; exact h1, h2, fun j hj => by rw [a 39 j (by omega)]; exact h3 j hj⟩
theorem eX_isDigit {K : Int32 → Hp → Prop} {σ : Hp} {a : Int32} : VX4_isDigit K σ a = K (b2i (rg a 48 57)) σ := rngLe (P := fun v => K v σ)
theorem eX_isLetter {K : Int32 → Hp → Prop} {σ : Hp} {a : Int32} : VX4_isLetter K σ a = K (b2i (rg a 97 122)) σ := rngLe (P := fun v => K v σ)
theorem eX_signOf {K : Int32 → Hp → Prop} {σ : Hp} {a : Int32} : VX4_signOf K σ a = K (sgX a) σ := by
  unfold VX4_signOf sgX
  repeat' split
  all_goals rfl
theorem x_number {K : Hp → Prop} {b : Nat → Int32} {Z S : Nat} {u : Hp} (hS : S ≤ Z) (hR : RB u b Z) (h3 : u 38 3 = nI S) (h4 : u 38 4 = nI S) (hK : ∀ u', agr G4 u u' → u' 38 3 = nI S → u' 38 4 = nI (rn isDg b Z S) → u' 38 2 = (if rn isDg b Z S - S ≤ 4 then vlN b S (rn isDg b Z S - S) else -31) → K u') : VX4_goOnNumber K u := by
  have key : ∀ m q s, Z - q ≤ m → S ≤ q → q ≤ Z → agr G4 u s → s 38 3 = nI S → s 38 4 = nI q → rn isDg b Z q = rn isDg b Z S → VX4_goOnNumber_L2 K (m + 1) s (vlN b S (q - S)) := by
    intro m
    have hz := hR.2.1
    have stop : ∀ q s, S ≤ q → q ≤ Z → agr G4 u s → s 38 3 = nI S → s 38 4 = nI q → q = rn isDg b Z S → VX4_goOnNumber_b59 K s (vlN b S (q - S)) := fun q s hSq hqZ a g3 g4 hq => by
      unfold VX4_goOnNumber_b59
      rw [g3, g4, pk_sub hSq]
      rw [← hq] at hK
      by_cases h4' : q - S ≤ 4
      · rw [if_pos (show nI (q - S) ≤ 4 from nI_le (b := 4) h4' (by decide))]
        intro u8 e8
        refine hK u8 (by rw [e8]; exact agr.up a (by omega)) (by rw [e8, hup_col (by decide)]; exact g3) (by rw [e8, hup_col (by decide)]; exact g4) (by rw [e8, hup_self, if_pos h4'])
      · rw [if_neg (show ¬ nI (q - S) ≤ 4 from nI_ge (a := 4) (by omega) (by omega))]
        intro u8 e8
        refine hK u8 (by rw [e8]; exact agr.up a (by omega)) (by rw [e8, hup_col (by decide)]; exact g3) (by rw [e8, hup_col (by decide)]; exact g4) (by rw [e8, hup_self, if_neg h4'])
    induction m with
    | zero =>
      intro q s hm hSq hqZ a g3 g4 hr
      have hqz : q = Z := by have := Nat.le_zero.mp hm; omega
      rw [VX4_goOnNumber_L2, a 38 1 (by omega), hR.1, g4, if_pos (nI_le (by omega) (by omega))]
      exact stop q s hSq hqZ a g3 g4 (by rw [← hr, rn_st, if_neg (by omega)])
    | succ m ih =>
      intro q s hm hSq hqZ a g3 g4 hr
      rw [VX4_goOnNumber_L2, a 38 1 (by omega), hR.1, g4]
      by_cases hq : Z ≤ q
      · rw [if_pos (nI_le hq (by omega))]
        exact stop q s hSq hqZ a g3 g4 (by rw [← hr, rn_st, if_neg (by omega)])
      rw [if_neg (nI_ge (by omega) (by omega)), nI_clamp (by omega), a 39 q (by omega), eX_isDigit, ite_b2i]
      obtain ⟨⟨k, hk, ek⟩, hx⟩ := hR.2.2 q (by omega)
      obtain ⟨_, _, t3, _⟩ := xbT k hk
      rw [hx, ek]
      refine ⟨vp_in_nI (by omega) (by decide), ?_⟩
      by_cases hd : rg (xb (nI k)) 48 57
      · rw [if_pos hd]
        have hd' := t3.mp hd
        refine ⟨by rw [g4]; exact vp_in_nI (by omega) (by decide), fun x5 e5 u6 e6 => ?_⟩
        rw [g4, nI_clamp (by omega), a 39 q (by omega), hx, ek, xbD k hk hd'] at e5
        rw [g4, nI_1] at e6
        have hst : vlN b S (q + 1 - S) = (10 * vlN b S (q - S) + b (S + (q - S))) - 48 := by rw [show q + 1 - S = (q - S) + 1 by omega]; rfl
        rw [show S + (q - S) = q by omega, ek] at hst
        rw [e5, ← hst]
        refine ih (q + 1) u6 (by omega) (by omega) (by omega) (by rw [e6]; exact agr.up a (by omega)) (by rw [e6, hup_col (by decide)]; exact g3) (by rw [e6, hup_self]) ?_
        rw [← hr, rn_st (p := q), if_pos ⟨by omega, decide_eq_true (by rw [ek]; exact hd')⟩]
      · rw [if_neg hd]
        exact stop q s hSq hqZ a g3 g4 (by rw [← hr, rn_st, if_neg (fun p => hd (t3.mpr (by have := of_decide_eq_true p.2; rw [ek] at this; exact this)))])
  refine ⟨Z - S + 1, ?_⟩
  have := key (Z - S) S u (Nat.le_refl _) (Nat.le_refl _) hS agr.rf h3 h4 rfl
  rw [Nat.sub_self] at this
  exact this
theorem x_isWord {K : Int32 → Hp → Prop} {b : Nat → Int32} {Z S E i : Nat} {u : Hp} (hi : i < 12) (hSE : S ≤ E) (hE : E ≤ Z) (hR : RB u b Z) (h3 : u 38 3 = nI S) (h4 : u 38 4 = nI E) (hl : ∀ j, S ≤ j → j < E → isLt (b j) = true) (h1 : wm b S E i = true → K 1 u) (h0 : wm b S E i = false → K 0 u) : VX4_isWord K u i := by
  have hz := hR.2.1
  have hlen : ∀ i, i < 12 → scLen.getD i 0 ≤ 8 := by decide
  have hl8 := hlen i hi
  unfold VX4_isWord VS_length
  refine ⟨hi, hi, ?_⟩
  try dsimp only
  rw [h3, h4, pk_sub hSE]
  by_cases hE' : scLen.getD i 0 = E - S
  rotate_left
  · rw [if_neg (fun q => hE' ((nI_eq (by omega) (by omega)).mp q))]
    exact h0 (decide_eq_false (fun q => hE' q.1))
  rw [if_pos (by rw [hE'])]
  refine lpN (S := Unit) (fun n _ k => VX4_isWord_L20 K i n u (nI k)) (fun k _ => ∀ j, j < k → b (S + j) = (scByt.getD i []).getD j 0) (scLen.getD i 0) (fun n s h => ?_) (fun n k s hk h go => ?_) () (fun j hj => absurd hj (Nat.not_lt_zero j))
  · show VX4_isWord_L20 K i (n + 1) u (nI (scLen.getD i 0))
    rw [VX4_isWord_L20]
    unfold VS_length
    refine ⟨hi, ?_⟩
    try dsimp only
    rw [if_pos (nI_le (Nat.le_refl _) (by omega))]
    exact h1 (decide_eq_true ⟨hE', h⟩)
  · show VX4_isWord_L20 K i (n + 1) u (nI k)
    rw [VX4_isWord_L20]
    unfold VS_length VS_charAt
    refine ⟨hi, ?_⟩
    try dsimp only
    rw [if_neg (nI_ge hk (by omega)), h3, nI_add]
    refine ⟨vp_in_nI (by omega) (by decide), hi, vp_in_nI hk (by omega), ?_⟩
    rw [nI_clamp (by omega), nI_clamp (by omega)]
    obtain ⟨⟨kk, hkk, ek⟩, hx⟩ := hR.2.2 (S + k) (by omega)
    have hlt := of_decide_eq_true (hl (S + k) (by omega) (by omega))
    rw [ek] at hlt
    rw [hx, ek, xbL kk hkk hlt, ← ek]
    by_cases hc : b (S + k) = (scByt.getD i []).getD k 0
    · rw [if_pos hc]
      intro x10 e10
      rw [e10, nI_1]
      refine go () (fun j hj => ?_)
      by_cases hjk : j = k
      · rw [hjk]; exact hc
      · exact h j (by omega)
    · rw [if_neg hc]
      exact h0 (decide_eq_false (fun q => hc (q.2 k hk)))
theorem x_word {K : Hp → Prop} {b : Nat → Int32} {Z S : Nat} {u : Hp} (hS : S ≤ Z) (hR : RB u b Z) (h3 : u 38 3 = nI S) (h4 : u 38 4 = nI S) (hK : ∀ u', agr G4 u u' → u' 38 3 = nI S → u' 38 4 = nI (rn isLt b Z S) → u' 38 2 = wcX b S (rn isLt b Z S) → K u') : VX4_goOnWord K u := by
  have hz := hR.2.1
  have stop : ∀ s, agr G4 u s → s 38 3 = nI S → s 38 4 = nI (rn isLt b Z S) → VX4_goOnWord_b39 K s := fun s a g3 g4 => by
    have hRs : RB s b Z := hR.ag (a.sub fun k i h => by omega)
    have hl := rn_in (P := isLt) (b := b) (Z := Z) S
    have w : ∀ i, i < 12 → ∀ (K' : Int32 → Hp → Prop), (wm b S (rn isLt b Z S) i = true → K' 1 s) → (wm b S (rn isLt b Z S) i = false → K' 0 s) → VX4_isWord K' s i := fun i hi K' p1 p0 => x_isWord hi (rn_ge S) (rn_le S hS) hRs g3 g4 hl p1 p0
    have hit : ∀ c, c = wcX b S (rn isLt b Z S) → ∀ u', u' = hup s 38 2 c → K u' := fun c hc u' e => by
      refine hK u' (by rw [e]; exact agr.up a (by omega)) (by rw [e, hup_col (by decide)]; exact g3) (by rw [e, hup_col (by decide)]; exact g4) (by rw [e, hup_self, hc])
    unfold wcX at hit
    unfold VX4_goOnWord_b39
    refine w 0 (by decide) _ (fun q => ?_) (fun q0 => ?_)
    · rw [if_neg (by decide)]; exact hit _ (by rw [if_pos q])
    rw [if_pos rfl]
    refine w 1 (by decide) _ (fun q => ?_) (fun q1 => ?_)
    · rw [if_neg (by decide)]; exact hit _ (by simp [q0, q])
    rw [if_pos rfl]
    refine w 2 (by decide) _ (fun q => ?_) (fun q2 => ?_)
    · rw [if_neg (by decide)]; exact hit _ (by simp [q0, q1, q])
    rw [if_pos rfl]
    refine w 3 (by decide) _ (fun q => ?_) (fun q3 => ?_)
    · rw [if_neg (by decide)]; exact hit _ (by simp [q0, q1, q2, q])
    rw [if_pos rfl]
    refine w 4 (by decide) _ (fun q => ?_) (fun q4 => ?_)
    · rw [if_neg (by decide)]; exact hit _ (by simp [q0, q1, q2, q3, q])
    rw [if_pos rfl]
    refine w 5 (by decide) _ (fun q => ?_) (fun q5 => ?_)
    · rw [if_neg (by decide)]; exact hit _ (by simp [q0, q1, q2, q3, q4, q])
    rw [if_pos rfl]
    refine w 6 (by decide) _ (fun q => ?_) (fun q6 => ?_)
    · rw [if_neg (by decide)]; exact hit _ (by simp [q0, q1, q2, q3, q4, q5, q])
    rw [if_pos rfl]
    refine w 7 (by decide) _ (fun q => ?_) (fun q7 => ?_)
    · rw [if_neg (by decide)]; exact hit _ (by simp [q0, q1, q2, q3, q4, q5, q6, q])
    rw [if_pos rfl]
    refine w 8 (by decide) _ (fun q => ?_) (fun q8 => ?_)
    · rw [if_neg (by decide)]; exact hit _ (by simp [q0, q1, q2, q3, q4, q5, q6, q7, q])
    rw [if_pos rfl]
    refine w 9 (by decide) _ (fun q => ?_) (fun q9 => ?_)
    · rw [if_neg (by decide)]; exact hit _ (by simp [q0, q1, q2, q3, q4, q5, q6, q7, q8, q])
    rw [if_pos rfl]
    refine w 10 (by decide) _ (fun q => ?_) (fun q10 => ?_)
    · rw [if_neg (by decide)]; exact hit _ (by simp [q0, q1, q2, q3, q4, q5, q6, q7, q8, q9, q])
    rw [if_pos rfl]
    refine w 11 (by decide) _ (fun q => ?_) (fun q11 => ?_)
    · rw [if_neg (by decide)]; exact hit _ (by simp [q0, q1, q2, q3, q4, q5, q6, q7, q8, q9, q10, q])
    rw [if_pos rfl]
    exact hit _ (by simp [q0, q1, q2, q3, q4, q5, q6, q7, q8, q9, q10, q11])
  have key : ∀ m q s, Z - q ≤ m → S ≤ q → q ≤ Z → agr G4 u s → s 38 3 = nI S → s 38 4 = nI q → rn isLt b Z q = rn isLt b Z S → VX4_goOnWord_L0 K (m + 1) s := by
    intro m
    induction m with
    | zero =>
      intro q s hm hSq hqZ a g3 g4 hr
      have hqz : q = Z := by have := Nat.le_zero.mp hm; omega
      rw [VX4_goOnWord_L0, a 38 1 (by omega), hR.1, g4, if_pos (nI_le (by omega) (by omega))]
      exact stop s a g3 (by rw [g4, ← hr, rn_st, if_neg (by omega)])
    | succ m ih =>
      intro q s hm hSq hqZ a g3 g4 hr
      rw [VX4_goOnWord_L0, a 38 1 (by omega), hR.1, g4]
      by_cases hq : Z ≤ q
      · rw [if_pos (nI_le hq (by omega))]
        exact stop s a g3 (by rw [g4, ← hr, rn_st, if_neg (by omega)])
      rw [if_neg (nI_ge (by omega) (by omega)), nI_clamp (by omega), a 39 q (by omega), eX_isLetter, ite_b2i]
      obtain ⟨⟨k, hk, ek⟩, hx⟩ := hR.2.2 q (by omega)
      obtain ⟨_, _, _, t4⟩ := xbT k hk
      rw [hx, ek]
      refine ⟨vp_in_nI (by omega) (by decide), ?_⟩
      by_cases hd : rg (xb (nI k)) 97 122
      · rw [if_pos hd]
        have hd' := t4.mp hd
        intro u5 e5
        rw [g4, nI_1] at e5
        refine ih (q + 1) u5 (by omega) (by omega) (by omega) (by rw [e5]; exact agr.up a (by omega)) (by rw [e5, hup_col (by decide)]; exact g3) (by rw [e5, hup_self]) ?_
        rw [← hr, rn_st (p := q), if_pos ⟨by omega, decide_eq_true (by rw [ek]; exact hd')⟩]
      · rw [if_neg hd]
        exact stop s a g3 (by rw [g4, ← hr, rn_st, if_neg (fun p => hd (t4.mpr (by have := of_decide_eq_true p.2; rw [ek] at this; exact this)))])
  exact ⟨Z - S + 1, key (Z - S) S u (Nat.le_refl _) (Nat.le_refl _) hS agr.rf h3 h4 rfl⟩
theorem x_goOn {K : Hp → Prop} {b : Nat → Int32} {Z p : Nat} {u : Hp} (hp : p ≤ Z) (hR : RB u b Z) (h5 : u 38 5 < 0) (h4 : u 38 4 = nI p) (hK : ∀ u', agr G4 u u' → u' 38 2 = tC b Z p → u' 38 3 = nI (tS b Z p) → u' 38 4 = nI (tE b Z p) → K u') : VX4_goOn K u := by
  have hz := hR.2.1
  have hs := tS_le (b := b) hp
  unfold VX4_goOn
  rw [if_pos h5]
  intro u2 e2
  rw [h4] at e2
  have stop : ∀ s, agr G4 u s → s 38 3 = nI (tS b Z p) → VX4_goOn_b68 K s := fun s a g3 => by
    unfold VX4_goOn_b68
    intro u6 e6
    rw [g3] at e6
    have a6 : agr G4 u u6 := by rw [e6]; exact agr.up a (by omega)
    have k3 : u6 38 3 = nI (tS b Z p) := by rw [e6, hup_col (by decide)]; exact g3
    have k4 : u6 38 4 = nI (tS b Z p) := by rw [e6, hup_self]
    have hR6 : RB u6 b Z := hR.ag (a6.sub fun k i h => by omega)
    rw [k3, hR6.1]
    unfold tE at hK
    unfold tC at hK
    by_cases hsZ : tS b Z p < Z
    · rw [if_pos hsZ] at hK
      rw [if_pos (nI_lt hsZ (by omega)), nI_clamp (by omega), eX_isDigit, ite_b2i]
      obtain ⟨⟨k, hk, ek⟩, hx⟩ := hR6.2.2 _ hsZ
      obtain ⟨_, _, t3, t4⟩ := xbT k hk
      rw [hx, ek]
      refine ⟨vp_in_nI (by omega) (by decide), ?_⟩
      by_cases hd : rg (xb (nI k)) 48 57
      · rw [if_pos hd]
        have hdg : isDg (b (tS b Z p)) = true := decide_eq_true (by rw [ek]; exact t3.mp hd)
        rw [if_pos hdg] at hK
        refine x_number hs.2 hR6 k3 k4 (fun u' a' q3 q4 q2 => ?_)
        have hk' := hK u' (a6.tr a') 
        unfold tE at hk'
        rw [if_pos hsZ, if_pos hdg] at hk'
        exact hk' q2 q3 q4
      · rw [if_neg hd]
        have hdg : ¬ isDg (b (tS b Z p)) = true := fun q => hd (t3.mpr (by have := of_decide_eq_true q; rw [ek] at this; exact this))
        rw [if_neg hdg] at hK
        rw [k3, nI_clamp (by omega), eX_isLetter, ite_b2i, hx, ek]
        refine ⟨vp_in_nI (by omega) (by decide), ?_⟩
        by_cases hl : rg (xb (nI k)) 97 122
        · rw [if_pos hl]
          have hlt : isLt (b (tS b Z p)) = true := decide_eq_true (by rw [ek]; exact t4.mp hl)
          rw [if_pos hlt] at hK
          refine x_word hs.2 hR6 k3 k4 (fun u' a' q3 q4 q2 => ?_)
          have hk' := hK u' (a6.tr a')
          unfold tE at hk'
          rw [if_pos hsZ, if_neg hdg, if_pos hlt] at hk'
          exact hk' q2 q3 q4
        · rw [if_neg hl]
          have hlt : ¬ isLt (b (tS b Z p)) = true := fun q => hl (t4.mpr (by have := of_decide_eq_true q; rw [ek] at this; exact this))
          rw [if_neg hlt] at hK
          intro u14 e14
          rw [k3, nI_1] at e14
          have g3' : u14 38 3 = nI (tS b Z p) := by rw [e14, hup_col (by decide)]; exact k3
          have g39 : u14 39 (tS b Z p) = xb (nI k) := by rw [e14, hup_row (by decide)]; rw [hx, ek]
          rw [g3', nI_clamp (by omega), g39, eX_signOf, xbS k hk, ← ek]
          refine ⟨vp_in_nI (by omega) (by decide), fun u17 e17 => ?_⟩
          have hk' := hK u17 (by rw [e17, e14]; exact agr.up (agr.up a6 (by omega)) (by omega))
          refine hk' (by rw [e17, hup_self]) (by rw [e17, hup_col (by decide)]; exact g3') ?_
          rw [e17, hup_col (by decide), e14, hup_self, if_pos hsZ, if_neg hdg, if_neg hlt]
    · rw [if_neg hsZ] at hK
      rw [if_neg (nI_nlt (by omega) (by omega))]
      intro u22 e22
      refine hK u22 (by rw [e22]; exact agr.up a6 (by omega)) (by rw [e22, hup_self]) (by rw [e22, hup_col (by decide)]; exact k3) ?_
      rw [e22, hup_col (by decide), if_neg hsZ]; exact k4
  have key : ∀ m q s, Z - q ≤ m → q ≤ Z → agr G4 u s → s 38 3 = nI q → rn isBl b Z q = tS b Z p → VX4_goOn_L16 K (m + 1) s := by
    intro m
    induction m with
    | zero =>
      intro q s hm hqZ a g3 hr
      have hqz : q = Z := by have := Nat.le_zero.mp hm; omega
      rw [VX4_goOn_L16, a 38 1 (by omega), hR.1, g3, if_pos (nI_le (by omega) (by omega))]
      exact stop s a (by rw [g3, ← hr, rn_st, if_neg (by omega)])
    | succ m ih =>
      intro q s hm hqZ a g3 hr
      rw [VX4_goOn_L16, a 38 1 (by omega), hR.1, g3]
      by_cases hq : Z ≤ q
      · rw [if_pos (nI_le hq (by omega))]
        exact stop s a (by rw [g3, ← hr, rn_st, if_neg (by omega)])
      rw [if_neg (nI_ge (by omega) (by omega)), nI_clamp (by omega), a 39 q (by omega)]
      obtain ⟨⟨k, hk, ek⟩, hx⟩ := hR.2.2 q (by omega)
      obtain ⟨t1, t2, _, _⟩ := xbT k hk
      rw [hx, ek]
      have hv : vp_in (nI q) 160 := vp_in_nI (by omega) (by decide)
      have nx : isBl (b q) = true → VX4_goOn_b55 K (VX4_goOn_L16 K (m + 1)) s := fun hbl => by
        unfold VX4_goOn_b55
        intro u23 e23
        rw [g3, nI_1] at e23
        refine ih (q + 1) u23 (by omega) (by omega) (by rw [e23]; exact agr.up a (by omega)) (by rw [e23, hup_self]) ?_
        rw [← hr, rn_st (p := q), if_pos ⟨by omega, hbl⟩]
      refine ⟨hv, ?_⟩
      by_cases h32 : xb (nI k) = 32
      · rw [if_pos h32]
        exact nx (decide_eq_true (Or.inl (by rw [ek]; exact t1.mp h32)))
      rw [if_neg h32]
      refine ⟨hv, ?_⟩
      by_cases h10 : xb (nI k) = 10
      · rw [if_pos h10]
        exact nx (decide_eq_true (Or.inr (by rw [ek]; exact t2.mp h10)))
      rw [if_neg h10]
      have hnb : ¬ (q < Z ∧ isBl (b q) = true) := fun pp => by
        have := of_decide_eq_true pp.2
        rw [ek] at this
        exact this.elim (fun q => h32 (t1.mpr q)) (fun q => h10 (t2.mpr q))
      exact stop s a (by rw [g3, ← hr, rn_st, if_neg hnb])
  refine ⟨Z - p + 1, key (Z - p) p u2 (Nat.le_refl _) hp (by rw [e2]; exact agr.up agr.rf (by omega)) (by rw [e2, hup_self]) rfl⟩
theorem x_goOnF {K : Hp → Prop} {u : Hp} (h5 : ¬ u 38 5 < 0) (hK : K u) : VX4_goOn K u := by
  unfold VX4_goOn
  rw [if_neg h5]
  exact hK
