/-! ===== taken; sheets ===== -/
theorem m_isUnder {K : Int32 → Hp → Prop} {σ : Hp} {kd : Nat} {k : Int32} (h : kd < 6) (h1 : isU kd k → K 1 σ) (h0 : ¬ isU kd k → K 0 σ) : VX12_isUnder K σ (nI kd) k := by
  have n3 : (nI kd = 3) ↔ kd = 3 := nI_eq (b := 3) (by omega) (by decide)
  have n4 : (nI kd = 4) ↔ kd = 4 := nI_eq (b := 4) (by omega) (by decide)
  unfold isU at h1 h0
  unfold VX12_isUnder VX12_isUnder_b19
  by_cases b0 : k = 0
  · rw [if_pos b0]; exact h1 (Or.inl b0)
  rw [if_neg b0]
  by_cases b1 : nI kd = k
  · rw [if_pos b1]; exact h1 (Or.inr (Or.inl b1))
  rw [if_neg b1]
  have b19 : (k = 1 → ¬ kd = 3) → (if k = 2 then (if nI kd = 4 then K 1 σ else K 0 σ) else K 0 σ) := fun hk => by
    by_cases b2 : k = 2
    · rw [if_pos b2]
      by_cases b4 : nI kd = 4
      · rw [if_pos b4]; exact h1 (Or.inr (Or.inr (Or.inr ⟨b2, n4.mp b4⟩)))
      · rw [if_neg b4]
        refine h0 (fun q => ?_)
        rcases q with q | q | q | q
        · exact b0 q
        · exact b1 q
        · exact hk q.1 q.2
        · exact b4 (n4.mpr q.2)
    · rw [if_neg b2]
      refine h0 (fun q => ?_)
      rcases q with q | q | q | q
      · exact b0 q
      · exact b1 q
      · exact hk q.1 q.2
      · exact b2 q.1
  by_cases b3 : k = 1
  · rw [if_pos b3]
    by_cases b5 : nI kd = 3
    · rw [if_pos b5]; exact h1 (Or.inr (Or.inr (Or.inl ⟨b3, n3.mp b5⟩)))
    · rw [if_neg b5]; exact b19 (fun _ q => b5 (n3.mpr q))
  · rw [if_neg b3]; exact b19 (fun q => absurd q b3)
theorem hasb_or {a b : Int32} {i : Nat} (h : i < 32) : hasb (a ||| b) (nI i) ↔ hasb a (nI i) ∨ hasb b (nI i) := by
  rw [hasb_bt h, hasb_bt h, hasb_bt h, bt_or, Bool.or_eq_true]
theorem f_taken : ∀ σ τ, Inv σ τ → ∀ (a1 a2 : Int32), VX11_taken (fun v u => VX12_taken (fun v' u' => v = v' ∧ Inv u u') τ a1 a2) σ a1 a2 := by
  intro σ τ hI a1 a2
  obtain ⟨T, X, L, Z, hA, hT, hP, hC, hS, hJ, hW⟩ := id hI
  obtain ⟨q1, q2, q3, q4, q5, q6, q7, q8⟩ := hI.eqs
  have hT5 := hT.1
  have m1 : ∀ (v : Int32), v = -2 → ¬ rg a2 0 6 → VX12_taken (fun v' u' => v = v' ∧ Inv σ u') τ a1 a2 := fun v hv hn => by
    unfold VX12_taken
    rw [eM_in, ite_b2i, if_neg hn]
    exact ⟨hv, hI⟩
  have m2 : ∀ (v : Int32), v = -12 → rg a2 0 6 → ¬ rg a1 0 34 → VX12_taken (fun v' u' => v = v' ∧ Inv σ u') τ a1 a2 := fun v hv hp hn => by
    unfold VX12_taken
    rw [eM_in, ite_b2i, if_pos hp, eM_in, ite_b2i, if_neg hn]
    exact ⟨hv, hI⟩
  unfold VX11_taken
  by_cases n1 : a2 < 0
  · rw [if_pos n1]; exact m1 _ rfl (fun q => absurd q.1 (Int32.not_le.mpr n1))
  rw [if_neg n1]
  by_cases n2 : a2 ≤ 6
  rotate_left
  · rw [if_neg n2]; exact m1 _ rfl (fun q => n2 q.2)
  have g2 : rg a2 0 6 := ⟨Int32.not_lt.mp n1, n2⟩
  rw [if_pos n2]
  by_cases n3 : a1 < 0
  · rw [if_pos n3]; exact m2 _ rfl g2 (fun q => absurd q.1 (Int32.not_le.mpr n3))
  rw [if_neg n3]
  by_cases n4 : a1 < 35
  rotate_left
  · rw [if_neg n4]; exact m2 _ rfl g2 (fun q => n4 ((lt_le (a := a1) (hi := 35) (hj := 34) rfl).mpr q.2))
  have g1 : rg a1 0 34 := ⟨Int32.not_lt.mp n3, (lt_le (hi := 35) rfl).mp n4⟩
  rw [if_pos n4]
  obtain ⟨i, hi, rfl⟩ := rg_nI (N := 34) (by decide) g1
  by_cases n5 : (30 : Int32) ≤ nI i
  · rw [if_pos n5]
    have h30 : 30 ≤ i := (nI_leI (a := 30) (by decide) (by omega)).mp n5
    have hs : nI i - 30 = nI (i - 30) := pk_sub (b := 30) h30
    rw [hs]
    unfold VX11_takenThing
    rw [eX_isThing, ite_b2i]
    by_cases h : 0 ≤ nI (i - 30) ∧ nI (i - 30) < σ 1 5
    rotate_left
    · rw [if_neg h]
      try dsimp only
      unfold VX12_taken
      rw [eM_in, ite_b2i, if_pos g2, eM_in, ite_b2i, if_pos g1, if_pos n5, hs, q7, if_neg (fun q => h ⟨nI_pos' (by omega), q⟩)]
      exact ⟨rfl, hI⟩
    rw [if_pos h]
    obtain ⟨t, ht, et⟩ := (thB hT).mp h
    have hti : i - 30 = t := (nI_eq (by omega) (by omega)).mp et
    obtain ⟨k1, k2, k3, k4, k5, k6, k7, k8⟩ := hT.2.2.2 t ht
    obtain ⟨kd, hkd, ekd⟩ := k1
    rw [et, nI_clamp (by omega), ekd, nI_clamp (by omega)]
    refine ⟨vp_in_nI (by omega) (by decide), vp_in_nI hkd (by decide), fun x4 e4 => ?_⟩
    rw [e4]
    have mEnd : ∀ K : Int32 → Hp → Prop, (if 6 ≤ a2 then K (-13) τ else VX12_isUnder (fun v10 u11 => if v10 = 0 then K (-13) u11 else K (nI t) u11) τ (nI kd) a2) → VX12_taken K τ (nI i) a2 := fun K hK => by
      unfold VX12_taken
      rw [eM_in, ite_b2i, if_pos g2, eM_in, ite_b2i, if_pos g1, if_pos n5, hs, q7, if_pos h.2]
      by_cases h6 : 6 ≤ a2
      · rw [if_pos h6] at hK ⊢; exact hK
      · rw [if_neg h6] at hK ⊢
        rw [et, nI_clamp (by omega), k5, ekd]
        exact ⟨vp_in_nI (by omega) (by decide), hK⟩
    refine x_isOne hkd (fun hu => ?_) (fun hu => ?_)
    · rw [if_neg (by decide)]
      refine mEnd _ ?_
      have h6 : ¬ (6 : Int32) ≤ a2 := fun q => by
        have e6 : a2 = 6 := Int32.le_antisymm n2 q
        rw [e6] at hu
        rcases hu with q | q | q | q
        · exact absurd q (by decide)
        · exact absurd ((nI_eq (b := 6) (by omega) (by decide)).mp q) (by omega)
        · exact absurd q.1 (by decide)
        · exact absurd q.1 (by decide)
      rw [if_neg h6]
      refine m_isUnder hkd (fun _ => ?_) (fun q => absurd hu q)
      rw [if_neg (by decide)]
      exact ⟨rfl, hI⟩
    · rw [if_pos rfl]
      refine mEnd _ ?_
      by_cases h6 : (6 : Int32) ≤ a2
      · rw [if_pos h6]; exact ⟨rfl, hI⟩
      · rw [if_neg h6]
        refine m_isUnder hkd (fun q => absurd q hu) (fun _ => ?_)
        rw [if_pos rfl]
        exact ⟨rfl, hI⟩
  · rw [if_neg n5]
    have h30 : i < 30 := by
      rcases Nat.lt_or_ge i 30 with h | h
      · exact h
      · exact absurd (nI_le (a := 30) h (by omega)) n5
    have mEnd : ∀ K : Int32 → Hp → Prop, (if hasb (σ 1 1) (nI i) then VX12_taken_b55 K τ (nI i) a2 else if hasb (σ 1 2) (nI i) then VX12_taken_b55 K τ (nI i) a2 else K (-11) τ) → VX12_taken K τ (nI i) a2 := fun K hK => by
      unfold VX12_taken
      rw [eM_in, ite_b2i, if_pos g2, eM_in, ite_b2i, if_pos g1, if_neg n5, eM_has1, q2, ite_b2i]
      by_cases b1 : hasb (σ 1 1) (nI i)
      · rw [if_pos b1] at hK ⊢; exact hK
      · rw [if_neg b1] at hK ⊢
        rw [eM_has2, q3, ite_b2i]
        by_cases b2 : hasb (σ 1 2) (nI i)
        · rw [if_pos b2] at hK ⊢; exact hK
        · rw [if_neg b2] at hK ⊢; exact hK
    unfold VX11_takenCell
    rw [eX_has, ite_b2i]
    by_cases b : hasb (σ 1 1 ||| σ 1 2) (nI i)
    · rw [if_pos b]
      have b' := (hasb_or (by omega)).mp b
      have mE2 : ∀ K : Int32 → Hp → Prop, VX12_taken_b55 K τ (nI i) a2 → VX12_taken K τ (nI i) a2 := fun K hK => mEnd K (by
        by_cases b1 : hasb (σ 1 1) (nI i)
        · rw [if_pos b1]; exact hK
        · rw [if_neg b1, if_pos (b'.resolve_left b1)]; exact hK)
      by_cases h6 : a2 = 6
      · rw [if_pos h6, eX_has, ite_b2i]
        by_cases b1 : hasb (σ 1 1) (nI i)
        · rw [if_pos b1]
          refine mE2 _ ?_
          unfold VX12_taken_b55
          rw [if_pos h6, eM_has1, q2, ite_b2i, if_pos b1]
          exact ⟨rfl, hI⟩
        · rw [if_neg b1]
          refine mE2 _ ?_
          unfold VX12_taken_b55
          rw [if_pos h6, eM_has1, q2, ite_b2i, if_neg b1]
          exact ⟨rfl, hI⟩
      · rw [if_neg h6]
        refine mE2 _ ?_
        unfold VX12_taken_b55
        rw [if_neg h6]
        exact ⟨rfl, hI⟩
    · rw [if_neg b]
      refine mEnd _ ?_
      rw [if_neg (fun q => b ((hasb_or (by omega)).mpr (Or.inl q))), if_neg (fun q => b ((hasb_or (by omega)).mpr (Or.inr q)))]
      exact ⟨rfl, hI⟩
/-- sheets become others, on both sides -/
theorem Inv.shs {σ τ u v : Hp} (hI : Inv σ τ) (ax : agr (fun k _ => ¬ (41 ≤ k ∧ k ≤ 48)) σ u) (am : agr (fun k _ => ¬ (10 ≤ k ∧ k ≤ 12)) τ v) (hS : IS u v) : Inv u v := by
  obtain ⟨T, X, L, Z, hA, hT, hP, hC, _, hJ, hW⟩ := hI
  exact ⟨T, X, L, Z, hA.ag (ax.sub fun k i h => by omega) (am.sub fun k i h => by omega), hT.ag (ax.sub fun k i h => by omega) (am.sub fun k i h => by omega), hP.ag (ax.sub fun k i h => by omega) (am.sub fun k i h => by omega), hC.ag hA.L.2 (ax.sub fun k i h => by omega) (am.sub fun k i h => by omega), hS, hJ.ag (ax.sub fun k i h => by omega) (am.sub fun k i h => by omega), hW.ag (ax.sub fun k i h => by omega) (am.sub fun k i h => by omega)⟩
theorem x_shb {K : Hp → Prop} {σ : Hp} {s : Nat} {srt sz : Int32} (hs : s < 4) (hK : ∀ u, agr (fun k _ => k ≠ 41 + s ∧ k ≠ 45 + s) σ u → u (41 + s) 1 = srt → u (41 + s) 2 = sz → (∀ i, i < 40 → u (45 + s) i = 0) → K u) : VX6_become K σ (41 + s) srt sz := by
  unfold VX6_become
  refine ⟨⟨by omega, by omega⟩, fun u1 e1 u2 e2 => ?_⟩
  have a2 : agr (fun k _ => k ≠ 41 + s ∧ k ≠ 45 + s) σ u2 := by rw [e2, e1]; exact agr.up (agr.up agr.rf (by omega)) (by omega)
  have b1 : u2 (41 + s) 1 = srt := by rw [e2, hup_col (by decide), e1, hup_self]
  have b2 : u2 (41 + s) 2 = sz := by rw [e2, hup_self]
  refine lpN (S := Hp) (fun n u i => VX6_become_L12 K (41 + s) n u (nI i)) (fun i u => agr (fun k _ => k ≠ 41 + s ∧ k ≠ 45 + s) σ u ∧ u (41 + s) = u2 (41 + s) ∧ ∀ j, j < i → u (45 + s) j = 0) 40 (fun n u h => ?_) (fun n i u hi h go => ?_) u2 ⟨a2, rfl, fun j hj => absurd hj (Nat.not_lt_zero j)⟩
  · show VX6_become_L12 K (41 + s) (n + 1) u (nI 40)
    obtain ⟨h1, h2, h3⟩ := h
    rw [VX6_become_L12, if_pos (show (40 : Int32) ≤ nI 40 by decide)]
    exact hK u h1 (by rw [h2]; exact b1) (by rw [h2]; exact b2) h3
  · show VX6_become_L12 K (41 + s) (n + 1) u (nI i)
    obtain ⟨h1, h2, h3⟩ := h
    rw [VX6_become_L12, if_neg (show ¬ (40 : Int32) ≤ nI i from nI_ge (b := 40) hi (by decide)), nI_clamp (by omega)]
    intro x4 e4
    obtain rfl : x4 = 45 + s := by omega
    refine ⟨vp_in_nI hi (by decide), fun u5 e5 x6 e6 => ?_⟩
    rw [e6, nI_1]
    refine go u5 ⟨by rw [e5]; exact agr.up h1 (by omega), by rw [e5, hup_row (by omega)]; exact h2, fun j hj => ?_⟩
    by_cases hji : j = i
    · rw [e5, hji, hup_self]
    · rw [e5, hup_col hji]; exact h3 j (by omega)
theorem m_shz {K : Int32 → Hp → Prop} {τ : Hp} {s : Nat} (hs : s < 4) (hK : ∀ v, agr (fun k _ => k ≠ 12) τ v → (∀ j, v 12 j = if 40 * s ≤ j ∧ j < 40 * s + 40 then 0 else τ 12 j) → K 1 v) : ∃ n, VX12_sheet_L70 K n τ (nI s) 0 := by
  refine lpN (S := Hp) (fun n v i => VX12_sheet_L70 K n v (nI s) (nI i)) (fun i v => agr (fun k _ => k ≠ 12) τ v ∧ ∀ j, v 12 j = if 40 * s ≤ j ∧ j < 40 * s + i then 0 else τ 12 j) 40 (fun n v h => ?_) (fun n i v hi h go => ?_) τ ⟨agr.rf, fun j => by rw [if_neg (by omega)]⟩
  · show VX12_sheet_L70 K (n + 1) v (nI s) (nI 40)
    rw [VX12_sheet_L70, if_pos (show (40 : Int32) ≤ nI 40 by decide)]
    exact hK v h.1 h.2
  · show VX12_sheet_L70 K (n + 1) v (nI s) (nI i)
    rw [VX12_sheet_L70, if_neg (show ¬ (40 : Int32) ≤ nI i from nI_ge (b := 40) hi (by decide)), show (40 : Int32) * nI s = nI (40 * s) from pk_mul 40 s, nI_add, nI_clamp (by omega)]
    refine ⟨vp_in_nI (by omega) (by decide), fun u5 e5 x6 e6 => ?_⟩
    rw [e6, nI_1]
    refine go u5 ⟨by rw [e5]; exact agr.up h.1 (by omega), fun j => ?_⟩
    rw [e5, hup_ap, if_pos rfl]
    by_cases hji : j = 40 * s + i
    · rw [if_pos hji, if_pos (by omega)]
    · rw [if_neg hji, h.2 j]
      by_cases hc : 40 * s ≤ j ∧ j < 40 * s + i
      · rw [if_pos hc, if_pos (by omega)]
      · rw [if_neg hc, if_neg (by omega)]
/-- one sheet becomes new -/
theorem IS.new {σ τ u v : Hp} {s z : Nat} {srt : Int32} (hS : IS σ τ) (hs : s < 4) (hz : z ≤ 40) (hr : rg srt (-1) 2) (ax : agr (fun k _ => k ≠ 41 + s ∧ k ≠ 45 + s) σ u) (b1 : u (41 + s) 1 = srt) (b2 : u (41 + s) 2 = nI z) (c10 : ∀ k, v 10 k = if k = s then srt else τ 10 k) (c11 : ∀ k, v 11 k = if k = s then nI z else τ 11 k) (hrow : ∀ i, i < 40 → v 12 (40 * s + i) = u (45 + s) i) (hoth : ∀ j, ¬ (40 * s ≤ j ∧ j < 40 * s + 40) → v 12 j = τ 12 j) : IS u v := by
  intro k hk
  rw [c10, c11]
  by_cases hks : k = s
  · rw [if_pos hks, if_pos hks, hks]
    exact ⟨⟨z, hz, b2, rfl⟩, b1.symm, by rw [b1]; exact hr, hrow⟩
  · obtain ⟨h1, h2, h3, h4⟩ := hS k hk
    rw [if_neg hks, if_neg hks, ax (41 + k) 2 (by omega), ax (41 + k) 1 (by omega)]
    refine ⟨h1, h2, h3, fun i hi => ?_⟩
    rw [hoth _ (by omega), ax (45 + k) i (by omega)]
    exact h4 i hi
theorem f_sheet : ∀ σ τ, Inv σ τ → ∀ (a1 a2 a3 : Int32), VX11_sheet (fun v u => VX12_sheet (fun v' u' => v = v' ∧ Inv u u') τ a1 a2 a3) σ a1 a2 a3 := by
  intro σ τ hI a1 a2 a3
  obtain ⟨T, X, L, Z, hA, hT, hP, hC, hS, hJ, hW⟩ := id hI
  have mBad : ∀ (v : Int32), v = -2 → ¬ (rg a1 0 3 ∧ rg a2 (-1) 2) → VX12_sheet (fun v' u' => v = v' ∧ Inv σ u') τ a1 a2 a3 := fun v hv hn => by
    unfold VX12_sheet
    rw [eM_in, ite_b2i]
    by_cases g1 : rg a1 0 3
    · rw [if_pos g1, eM_in, ite_b2i, if_neg (fun q => hn ⟨g1, q⟩)]; exact ⟨hv, hI⟩
    · rw [if_neg g1]; exact ⟨hv, hI⟩
  unfold VX11_sheet
  rw [eX_isSheet, ite_b2i]
  by_cases g1 : rg a1 0 3
  rotate_left
  · rw [if_neg g1]; exact mBad _ rfl (fun q => g1 q.1)
  rw [if_pos g1]
  by_cases n1 : a2 < -1
  · rw [if_pos n1]; exact mBad _ rfl (fun q => absurd q.2.1 (Int32.not_le.mpr n1))
  rw [if_neg n1]
  by_cases n2 : a2 ≤ 2
  rotate_left
  · rw [if_neg n2]; exact mBad _ rfl (fun q => n2 q.2.2)
  have g2 : rg a2 (-1) 2 := ⟨Int32.not_lt.mp n1, n2⟩
  rw [if_pos n2]
  obtain ⟨s, hs, rfl⟩ := rg_nI (N := 3) (by decide) g1
  have hv4 : vp_in (nI s) 4 := vp_in_nI (by omega) (by decide)
  have mEnd : ∀ (z : Nat), z ≤ 40 → (a2 = -1 → z = 0) → (¬ a2 = -1 → a3 = nI z) → ∀ u, agr (fun k _ => k ≠ 41 + s ∧ k ≠ 45 + s) σ u → u (41 + s) 1 = a2 → u (41 + s) 2 = nI z → (∀ i, i < 40 → u (45 + s) i = 0) → VX12_sheet (fun v' u' => (1 : Int32) = v' ∧ Inv u u') τ (nI s) a2 a3 := fun z hz hz0 hz1 u ax b1 b2 b3 => by
    have b44 : VX12_sheet_b44 (fun v' u' => (1 : Int32) = v' ∧ Inv u u') τ (nI s) a2 a3 := by
      unfold VX12_sheet_b44
      rw [nI_clamp (by omega)]
      refine ⟨hv4, fun u11 e11 => ?_⟩
      have go : ∀ u14 : Hp, u14 = hup u11 11 s (nI z) → ∃ n, VX12_sheet_L70 (fun v' u' => (1 : Int32) = v' ∧ Inv u u') n u14 (nI s) 0 := fun u14 e14 => by
        refine m_shz (by omega) (fun v am hv => ⟨rfl, hI.shs (ax.sub fun k i h => by omega) ?_ (hS.new (by omega) hz g2 ax b1 b2 (fun k => ?_) (fun k => ?_) (fun i hi => ?_) (fun j hj => ?_))⟩)
        · have a14 : agr (fun k _ => k ≠ 10 ∧ k ≠ 11) τ u14 := by rw [e14, e11]; exact agr.up (agr.up agr.rf (by omega)) (by omega)
          exact (a14.sub fun k i h => by omega).tr (am.sub fun k i h => by omega)
        · rw [am 10 k (by omega), e14, hup_row (by decide), e11, hup_ap, if_pos rfl]
        · rw [am 11 k (by omega), e14, hup_ap, if_pos rfl, e11, hup_row (by decide)]
        · rw [hv, if_pos (by omega), b3 i hi]
        · rw [hv, if_neg hj, e14, hup_row (by decide), e11, hup_row (by decide)]
      by_cases h1 : a2 = -1
      · rw [if_pos h1]
        refine ⟨hv4, fun u14 e14 => go u14 ?_⟩
        rw [e14, hz0 h1]; rfl
      · rw [if_neg h1]
        refine ⟨hv4, fun u14 e14 => go u14 ?_⟩
        rw [e14, hz1 h1]
    unfold VX12_sheet VX12_sheet_b32
    rw [eM_in, ite_b2i, if_pos g1, eM_in, ite_b2i, if_pos g2]
    by_cases h1 : a2 = -1
    · rw [if_pos h1, if_pos h1]; exact b44
    · rw [if_neg h1, if_neg h1, hz1 h1, if_pos (show nI z ≤ 40 from nI_le (b := 40) hz (by decide)), if_pos (nI_pos' (by omega))]
      rw [hz1 h1] at b44
      exact b44
  by_cases h1 : a2 = -1
  · rw [if_pos h1, nI_clamp (by omega)]
    refine ⟨hv4, fun x12 e12 => ?_⟩
    rw [e12]
    refine x_shb (by omega) (fun u ax b1 b2 b3 => ?_)
    exact mEnd 0 (by decide) (fun _ => rfl) (fun q => absurd h1 q) u ax (by rw [b1, h1]) b2 b3
  · rw [if_neg h1]
    by_cases n3 : a3 ≤ 40
    rotate_left
    · rw [if_neg n3]
      try dsimp only
      unfold VX12_sheet
      rw [eM_in, ite_b2i, if_pos g1, eM_in, ite_b2i, if_pos g2, if_neg h1, if_neg n3]
      exact ⟨rfl, hI⟩
    rw [if_pos n3]
    by_cases n4 : 0 ≤ a3
    rotate_left
    · rw [if_neg n4]
      try dsimp only
      unfold VX12_sheet VX12_sheet_b32
      rw [eM_in, ite_b2i, if_pos g1, eM_in, ite_b2i, if_pos g2, if_neg h1, if_pos n3, if_neg h1, if_neg n4]
      exact ⟨rfl, hI⟩
    rw [if_pos n4, nI_clamp (by omega)]
    obtain ⟨z, hz, ez⟩ := rg_nI (N := 40) (by decide) (show rg a3 0 (nI 40) from ⟨n4, n3⟩)
    refine ⟨hv4, fun x12 e12 => ?_⟩
    rw [e12]
    refine x_shb (by omega) (fun u ax b1 b2 b3 => ?_)
    exact mEnd z hz (fun q => absurd q h1) (fun _ => ez) u ax b1 (by rw [b2, ez]) b3
