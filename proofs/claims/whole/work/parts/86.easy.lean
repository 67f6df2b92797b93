/-! ===== calls, one by one ===== -/
theorem Inv.eqs {σ τ : Hp} (h : Inv σ τ) : τ 1 0 = σ 1 0 ∧ τ 1 1 = σ 1 1 ∧ τ 1 2 = σ 1 2 ∧ τ 0 1 = σ 1 3 ∧ τ 0 12 = σ 1 4 ∧ τ 0 11 = σ 0 5 ∧ τ 0 2 = σ 1 5 ∧ τ 0 8 = σ 38 1 := by
  obtain ⟨T, X, L, Z, ⟨h1, h2, h3, h4, h5, h6, h7, h8, h9, h10, h11⟩, ⟨t1, t2, t3, t4⟩, ⟨p1, p2, p3, p4⟩, hC, hS, hJ, hW⟩ := h
  exact ⟨h1, h2, h3, h4, h7.trans h6.symm, h11.trans h10.symm, t3.trans t2.symm, p3.trans p2.symm⟩
theorem f_count : ∀ σ τ, Inv σ τ → ∀ (a1 : Int32), VX11_count (fun v u => VX12_count (fun v' u' => v = v' ∧ Inv u u') τ a1) σ a1 := by
  intro σ τ hI a1
  obtain ⟨e1, e2, e3, e4, e5, e6, e7, e8⟩ := hI.eqs
  have v0 : vp_in ((1 : Int32) - 1) 3 := vp_in_nI (n := 0) (by decide) (by decide)
  have v1 : vp_in ((2 : Int32) - 1) 3 := vp_in_nI (n := 1) (by decide) (by decide)
  have v2 : vp_in ((3 : Int32) - 1) 3 := vp_in_nI (n := 2) (by decide) (by decide)
  unfold VX11_count
  by_cases h0 : a1 = 0
  · rw [if_pos h0]
    try dsimp only
    unfold VX12_count
    rw [if_pos h0]
    exact ⟨e7.symm, hI⟩
  rw [if_neg h0]
  by_cases h1 : a1 = 1
  · rw [if_pos h1]
    try dsimp only
    unfold VX12_count
    rw [if_neg h0, if_pos h1, h1]
    exact ⟨v0, e1.symm, hI⟩
  rw [if_neg h1]
  by_cases h2 : a1 = 2
  · rw [if_pos h2]
    try dsimp only
    unfold VX12_count
    rw [if_neg h0, if_neg h1, if_pos h2, h2]
    exact ⟨v1, e2.symm, hI⟩
  rw [if_neg h2]
  by_cases h3 : a1 = 3
  · rw [if_pos h3]
    try dsimp only
    unfold VX12_count
    rw [if_neg h0, if_neg h1, if_neg h2, if_pos h3, h3]
    exact ⟨v2, e3.symm, hI⟩
  rw [if_neg h3]
  by_cases h4 : a1 = 4
  · rw [if_pos h4]
    try dsimp only
    unfold VX12_count
    rw [if_neg h0, if_neg h1, if_neg h2, if_neg h3, if_pos h4]
    exact ⟨e4.symm, hI⟩
  rw [if_neg h4]
  by_cases h5 : a1 = 5
  · rw [if_pos h5]
    try dsimp only
    unfold VX12_count
    rw [if_neg h0, if_neg h1, if_neg h2, if_neg h3, if_neg h4, if_pos h5]
    exact ⟨e6.symm, hI⟩
  rw [if_neg h5]
  by_cases h6 : a1 = 6
  · rw [if_pos h6]
    try dsimp only
    unfold VX12_count
    rw [if_neg h0, if_neg h1, if_neg h2, if_neg h3, if_neg h4, if_neg h5, if_pos h6]
    exact ⟨e5.symm, hI⟩
  rw [if_neg h6]
  by_cases h7 : a1 = 7
  · rw [if_pos h7]
    try dsimp only
    unfold VX12_count
    rw [if_neg h0, if_neg h1, if_neg h2, if_neg h3, if_neg h4, if_neg h5, if_neg h6, if_pos h7]
    exact ⟨e8.symm, hI⟩
  rw [if_neg h7]
  try dsimp only
  unfold VX12_count
  rw [if_neg h0, if_neg h1, if_neg h2, if_neg h3, if_neg h4, if_neg h5, if_neg h6, if_neg h7]
  exact ⟨rfl, hI⟩
theorem f_set : ∀ σ τ, Inv σ τ → ∀ (a1 : Int32), VX11_set (fun v u => VX12_set (fun v' u' => v = v' ∧ Inv u u') τ a1) σ a1 := by
  intro σ τ hI a1
  unfold VX11_set
  rw [eX_isStep, ite_b2i]
  by_cases h : rg a1 0 99
  · rw [if_pos h]
    intro x4 e4 u5 e5
    try dsimp only
    unfold VX12_set
    rw [eM_in, ite_b2i, if_pos h]
    intro y4 f4 w5 f5
    obtain ⟨T, X, L, Z, ⟨h1, h2, h3, h4, h5, h6, h7, h8, h9, h10, h11⟩, hT, hP, hC, hS, hJ, hW⟩ := hI
    refine ⟨by rw [e4, f4, h4], T, X, L, Z, ?_, hT.ag ?_ ?_, hP.ag ?_ ?_, hC.ag h9 ?_ ?_, hS.ag ?_ ?_, hJ.ag ?_ ?_, hW.ag ?_ ?_⟩
    rotate_left
    all_goals first
      | (rw [e5]; exact agr.up agr.rf (by omega))
      | (rw [f5]; exact agr.up agr.rf (by omega))
      | skip
    subst e5 f5
    obtain ⟨i, hi, rfl⟩ := rg_nI (N := 99) (by decide) h
    refine ⟨?_, ?_, ?_, ?_, ?_, ?_, ?_, h8, h9, ?_, ?_⟩
    all_goals simp only [hup_ap]
    all_goals simp
    · exact h1
    · exact h2
    · exact h3
    · exact ⟨i, by omega, rfl⟩
    · exact h6
    · exact h7
    · exact h10
    · exact h11
  · rw [if_neg h]
    try dsimp only
    unfold VX12_set
    rw [eM_in, ite_b2i, if_neg h]
    exact ⟨rfl, hI⟩
theorem f_force : ∀ σ τ, Inv σ τ → ∀ (a1 : Int32), VX11_force (fun v u => VX12_force (fun v' u' => v = v' ∧ Inv u u') τ a1) σ a1 := by
  intro σ τ hI a1
  obtain ⟨T, X, L, Z, ⟨h1, h2, h3, h4, h5, h6, h7, h8, h9, h10, h11⟩, hT, hP, hC, hS, hJ, hW⟩ := id hI
  have key : (0 ≤ a1 ∧ a1 < nI X) ↔ rg a1 0 (nI X - 1) := (thR (by omega)).trans (thM (by omega)).symm
  unfold VX11_force
  rw [h10]
  by_cases hn : a1 < 0
  · rw [if_pos hn]
    try dsimp only
    unfold VX12_force
    rw [eM_in, ite_b2i, h11, if_neg (fun q => absurd q.1 (Int32.not_le.mpr hn))]
    exact ⟨rfl, hI⟩
  rw [if_neg hn]
  by_cases hb : a1 < nI X
  · have hk := key.mp ⟨Int32.not_lt.mp hn, hb⟩
    rw [if_pos hb]
    intro x3 e3 u4 e4
    try dsimp only
    unfold VX12_force
    rw [eM_in, ite_b2i, h11, if_pos hk]
    intro y4 f4 w5 f5
    obtain ⟨j, hj, rfl⟩ := (thM (by omega)).mp hk
    refine ⟨by rw [e3, f4, h6, h7], T, X, j, Z, ?_, hT.ag ?_ ?_, hP.ag ?_ ?_, hC.ag h9 ?_ ?_, hS.ag ?_ ?_, hJ.ag ?_ ?_, hW.ag ?_ ?_⟩
    rotate_left
    all_goals first
      | (rw [e4]; exact agr.up agr.rf (by omega))
      | (rw [f5]; exact agr.up agr.rf (by omega))
      | skip
    subst e4 f5
    refine ⟨?_, ?_, ?_, ?_, ?_, ?_, ?_, hj, h9, ?_, ?_⟩
    all_goals simp only [hup_ap]
    all_goals simp
    · exact h1
    · exact h2
    · exact h3
    · exact h4
    · exact h5
    · exact h10
    · exact h11
  · rw [if_neg hb]
    try dsimp only
    unfold VX12_force
    rw [eM_in, ite_b2i, h11, if_neg (fun q => hb (key.mpr q).2)]
    exact ⟨rfl, hI⟩
theorem rg02 {a : Int32} : rg a 0 2 ↔ ∃ p, p < 3 ∧ a = nI p := by
  constructor
  · intro h
    obtain ⟨p, hp, rfl⟩ := rg_nI (N := 2) (by decide) h
    exact ⟨p, by omega, rfl⟩
  · rintro ⟨p, hp, rfl⟩
    exact ⟨nI_pos' (by omega), nI_le (b := 2) (by omega) (by decide)⟩
theorem x_law {K : Nat → Hp → Prop} {σ τ u : Hp} {X L : Nat} (hA : IA σ τ X L) (ha : agr EX σ u) (hK : K (19 + L) u) : VX11_law K u := by
  obtain ⟨h1, h2, h3, h4, h5, h6, h7, h8, h9, h10, h11⟩ := hA
  unfold VX11_law
  rw [ha 1 4 (by decide), h6]
  refine ⟨vp_in_nI (by omega) (by decide), fun x1 e1 => ?_⟩
  rw [nI_clamp (by omega)] at e1
  subst e1
  exact hK
theorem f_asks : ∀ σ τ, Inv σ τ → ∀ (a1 a2 a3 a4 : Int32), VX11_asks (fun v u => VX12_asks (fun v' u' => v = v' ∧ Inv u u') τ a1 a2 a3 a4) σ a1 a2 a3 a4 := by
  intro σ τ hI a1 a2 a3 a4
  obtain ⟨T, X, L, Z, hA, hT, hP, hC, hS, hJ, hW⟩ := id hI
  obtain ⟨h1, h2, h3, h4, h5, h6, h7, h8, h9, h10, h11⟩ := id hA
  obtain ⟨c1, c2, c3⟩ := hC L h8
  have hm : ∀ (v : Int32) (u : Hp), (¬ (rg a1 0 2 ∧ rg a2 0 29 ∧ rg a3 0 99 ∧ rg a4 0 99)) → v = -2 → u = σ → VX12_asks (fun v' u' => v = v' ∧ Inv u u') τ a1 a2 a3 a4 := by
    intro v u hn hv hu
    subst hv hu
    unfold VX12_asks VX12_asks_b42
    simp only [eM_in, eM_isCell, ite_b2i]
    simp only [if_true]
    by_cases g1 : rg a1 0 2
    · rw [if_pos g1]
      by_cases g2 : rg a2 0 29
      · rw [if_pos g2]
        by_cases g3 : rg a3 0 99
        · rw [if_pos g3]
          by_cases g4 : rg a4 0 99
          · exact absurd ⟨g1, g2, g3, g4⟩ hn
          · rw [if_neg g4]; exact ⟨trivial, hI⟩
        · rw [if_neg g3]; exact ⟨trivial, hI⟩
      · rw [if_neg g2]; exact ⟨trivial, hI⟩
    · rw [if_neg g1]; exact ⟨trivial, hI⟩
  unfold VX11_asks
  by_cases n1 : a1 < 0
  · rw [if_pos n1]
    exact hm _ _ (fun q => absurd q.1.1 (Int32.not_le.mpr n1)) rfl rfl
  rw [if_neg n1]
  by_cases n2 : 3 ≤ a1
  · rw [if_pos n2]
    exact hm _ _ (fun q => absurd ((lt_le (a := a1) (hi := 3) (hj := 2) rfl).mpr q.1.2) (Int32.not_lt.mpr n2)) rfl rfl
  rw [if_neg n2, eX_isCell, ite_b2i]
  have g1 : rg a1 0 2 := ⟨Int32.not_lt.mp n1, (lt_le (hi := 3) rfl).mp (Int32.not_le.mp n2)⟩
  by_cases g2 : rg a2 0 29
  · rw [if_pos g2, eX_isStep, ite_b2i]
    by_cases g3 : rg a3 0 99
    · rw [if_pos g3]
      by_cases n4 : a4 < 0
      · rw [if_pos n4]
        exact hm _ _ (fun q => absurd q.2.2.2.1 (Int32.not_le.mpr n4)) rfl rfl
      rw [if_neg n4]
      by_cases n5 : a4 ≤ 99
      · rw [if_pos n5]
        have g4 : rg a4 0 99 := ⟨Int32.not_lt.mp n4, n5⟩
        refine x_law hA agr.rf ⟨by omega, ?_⟩
        obtain ⟨p, hp, rfl⟩ := rg02.mp g1
        refine x_says (by omega) hp c1 (fun u hu => ?_)
        unfold VX12_asks VX12_asks_b42
        simp only [eM_in, eM_isCell, ite_b2i]
        rw [if_pos g1, if_pos g2, if_pos g3, if_pos g4, if_neg (by decide)]
        exact m_asksOf (by omega) hp h7 c1 c2 c3 (fun u' hu' => ⟨rfl, hI.ag (hu.sub fun k i h => by omega) (hu'.sub fun k i h => by omega)⟩)
      · rw [if_neg n5]
        exact hm _ _ (fun q => n5 q.2.2.2.2) rfl rfl
    · rw [if_neg g3]
      exact hm _ _ (fun q => g3 q.2.2.1) rfl rfl
  · rw [if_neg g2]
    exact hm _ _ (fun q => g2 q.2.1) rfl rfl
theorem thB {σ τ : Hp} {T : Nat} {a : Int32} (hT : IT σ τ T) : (0 ≤ a ∧ a < σ 1 5) ↔ ∃ t, t < T ∧ a = nI t := by
  have := hT.1
  rw [hT.2.1]; exact thR (by omega)
theorem thC {σ τ : Hp} {T : Nat} {a : Int32} (hT : IT σ τ T) : rg a 0 (τ 0 2 - 1) ↔ ∃ t, t < T ∧ a = nI t := by
  have := hT.1
  rw [hT.2.2.1]; exact thM (by omega)
theorem f_told : ∀ σ τ, Inv σ τ → ∀ (a1 a2 : Int32), VX11_told (fun v u => VX12_told (fun v' u' => v = v' ∧ Inv u u') τ a1 a2) σ a1 a2 := by
  intro σ τ hI a1 a2
  obtain ⟨T, X, L, Z, hA, hT, hP, hC, hS, hJ, hW⟩ := id hI
  unfold VX11_told
  rw [eX_isThing, ite_b2i]
  by_cases h : 0 ≤ a1 ∧ a1 < σ 1 5
  · have h' := (thC hT).mpr ((thB hT).mp h)
    rw [if_pos h]
    obtain ⟨t, ht, rfl⟩ := (thB hT).mp h
    have t5 : t < 5 := Nat.lt_of_lt_of_le ht hT.1
    obtain ⟨k1, k2, k3, k4, k5, k6, k7, k8⟩ := hT.2.2.2 t ht
    have hv : vp_in (nI t) 5 := vp_in_nI t5 (by decide)
    rw [nI_clamp (by omega)]
    by_cases b0 : a2 = 0
    · rw [if_pos b0]
      refine ⟨hv, ?_⟩
      try dsimp only
      unfold VX12_told
      rw [eM_isThing, ite_b2i, if_pos h', if_pos b0, nI_clamp (by omega)]
      exact ⟨hv, k7.symm, hI⟩
    rw [if_neg b0]
    by_cases b1 : a2 = 1
    · rw [if_pos b1]
      refine ⟨hv, ?_⟩
      try dsimp only
      unfold VX12_told
      rw [eM_isThing, ite_b2i, if_pos h', if_neg b0, if_pos b1, nI_clamp (by omega)]
      exact ⟨hv, k8.symm, hI⟩
    rw [if_neg b1]
    by_cases b2 : a2 = 2
    · rw [if_pos b2]
      refine ⟨hv, ?_⟩
      try dsimp only
      unfold VX12_told
      rw [eM_isThing, ite_b2i, if_pos h', if_neg b0, if_neg b1, if_pos b2, nI_clamp (by omega)]
      exact ⟨hv, k5.symm, hI⟩
    rw [if_neg b2]
    by_cases b3 : a2 = 3
    · rw [if_pos b3]
      refine ⟨hv, ?_⟩
      try dsimp only
      unfold VX12_told
      rw [eM_isThing, ite_b2i, if_pos h', if_neg b0, if_neg b1, if_neg b2, if_pos b3, nI_clamp (by omega)]
      exact ⟨hv, k6.symm, hI⟩
    rw [if_neg b3]
    try dsimp only
    unfold VX12_told
    rw [eM_isThing, ite_b2i, if_pos h', if_neg b0, if_neg b1, if_neg b2, if_neg b3]
    exact ⟨rfl, hI⟩
  · rw [if_neg h]
    try dsimp only
    unfold VX12_told
    rw [eM_isThing, ite_b2i, if_neg (fun q => h ((thB hT).mpr ((thC hT).mp q)))]
    exact ⟨rfl, hI⟩
abbrev BX (k _ : Nat) : Prop := k ≠ 37 ∧ k ≠ 49
theorem x_behind {K : Nat → Hp → Prop} {σ τ u : Hp} {X L T t n : Nat} (hA : IA σ τ X L) (hT : IT σ τ T) (hC : IC σ τ X) (ht : t < T) (hn : n < 2 ^ 31) (ha : agr EX σ u) (hq : okq (u 5 t, u 6 t)) (hK : ∀ u', agr BX u u' → u' 49 6 = (OB σ (σ 1 1) L t (u 5 t, u 6 t) n).1 → u' 49 7 = (OB σ (σ 1 1) L t (u 5 t, u 6 t) n).2 → K 49 u') : VX11_behind K u (nI n) (nI t) := by
  have ok := (x_okt hA hT hC ht hA.2.2.2.2.2.2.2.1).1
  unfold VX11_behind
  refine x_lift hA hT ht ha (fun u' ha' hX => ⟨rfl, ?_⟩)
  have h13 : u' 1 3 = σ 1 3 := by rw [ha' 1 3 (by decide), ha 1 3 (by decide)]
  rw [h13]
  exact x_passAll ok hq hn hX (fun u2 ha2 hX2 => hK u2 ((ha'.sub fun k i h => by omega).tr (ha2.sub fun k i h => by omega)) hX2.2.2.2.2.2.2.2.2.2.1 hX2.2.2.2.2.2.2.2.2.2.2)
theorem m_cellBehind {K : Int32 → Hp → Prop} {σ τ u : Hp} {X L T t R n : Nat} {N : Int32} (hA : IA σ τ X L) (hT : IT σ τ T) (hC : IC σ τ X) (ht : t < T) (hR : R < X) (hn : n < 2 ^ 31) (ha : agr EM τ u) (hN : u 1 1 = N) (hr : u 0 12 = nI R) (hq : okq (u 4 t, u 5 t)) (hK : ∀ u', agr PSm u u' → u' 0 33 = (OB σ N R t (u 4 t, u 5 t) n).2 → K (OB σ N R t (u 4 t, u 5 t) n).1 u') : VX12_cellBehind K u (nI t) (nI n) := by
  have ok := (x_okt hA hT hC ht hR).1
  unfold VX12_cellBehind
  refine m_begins hA hT hC ht hR ha hN hr (fun u1 a1 hX => ?_)
  refine m_goes ok hq hn (by rw [a1 0 1 (by decide), ha 0 1 (by decide)]; exact hA.2.2.2.1) hX (fun u2 a2 hX2 => ?_)
  have hk := hK u2 ((a1.sub fun k i h => by omega).tr a2) hX2.2.2.2.2.2.2.2.2.2
  rw [hX2.2.2.2.2.2.2.2.2.1]
  exact hk
theorem f_at : ∀ σ τ, Inv σ τ → ∀ (a1 a2 a3 : Int32), VX11_at (fun v u => VX12_at (fun v' u' => v = v' ∧ Inv u u') τ a1 a2 a3) σ a1 a2 a3 := by
  intro σ τ hI a1 a2 a3
  obtain ⟨T, X, L, Z, hA, hT, hP, hC, hS, hJ, hW⟩ := id hI
  unfold VX11_at
  rw [eX_isBehind, ite_b2i]
  by_cases g1 : rg a1 0 40
  · rw [if_pos g1, eX_isThing, ite_b2i]
    by_cases h : 0 ≤ a2 ∧ a2 < σ 1 5
    · have h' := (thC hT).mpr ((thB hT).mp h)
      rw [if_pos h, eX_isChoice, ite_b2i]
      by_cases g3 : rg a3 0 1
      · rw [if_pos g3]
        obtain ⟨t, ht, rfl⟩ := (thB hT).mp h
        obtain ⟨n, hn, rfl⟩ := rg_nI (N := 40) (by decide) g1
        obtain ⟨k1, k2, k3, k4, k5, k6, k7, k8⟩ := hT.2.2.2 t ht
        refine x_behind hA hT hC ht (by omega) agr.rf ⟨k3, k4⟩ (fun u a hc hw => ⟨rfl, ?_⟩)
        have fin : ∀ v, v = (if a3 = 0 then (OB σ (σ 1 1) L t (σ 5 t, σ 6 t) n).1 else (OB σ (σ 1 1) L t (σ 5 t, σ 6 t) n).2) → VX12_at (fun v' u' => v = v' ∧ Inv u u') τ (nI n) (nI t) a3 := by
          intro v hv
          unfold VX12_at
          rw [eM_areSteps, ite_b2i, if_pos g1, eM_isThing, ite_b2i, if_pos h', eM_in, ite_b2i, if_pos g3]
          refine m_cellBehind (N := σ 1 1) (R := L) hA hT hC ht hA.2.2.2.2.2.2.2.1 (by omega) agr.rf hA.2.1 hA.2.2.2.2.2.2.1 (by rw [k7, k8]; exact ⟨k3, k4⟩) (fun u' a' hw' => ?_)
          rw [k7, k8] at hw' ⊢
          have hI' : Inv u u' := hI.ag (a.sub fun k i h => by omega) (a'.sub fun k i h => by omega)
          by_cases h0 : a3 = 0
          · rw [if_pos h0] at hv ⊢; exact ⟨hv, hI'⟩
          · rw [if_neg h0] at hv ⊢; exact ⟨hv.trans hw'.symm, hI'⟩
        by_cases h0 : a3 = 0
        · rw [if_pos h0]; exact fin _ (by rw [if_pos h0]; exact hc)
        · rw [if_neg h0]; exact fin _ (by rw [if_neg h0]; exact hw)
      · rw [if_neg g3]
        try dsimp only
        unfold VX12_at
        rw [eM_areSteps, ite_b2i, if_pos g1, eM_isThing, ite_b2i, if_pos h', eM_in, ite_b2i, if_neg g3]
        exact ⟨rfl, hI⟩
    · rw [if_neg h]
      try dsimp only
      unfold VX12_at
      rw [eM_areSteps, ite_b2i, if_pos g1, eM_isThing, ite_b2i, if_neg (fun q => h ((thB hT).mpr ((thC hT).mp q)))]
      exact ⟨rfl, hI⟩
  · rw [if_neg g1]
    try dsimp only
    unfold VX12_at
    rw [eM_areSteps, ite_b2i, if_neg g1]
    exact ⟨rfl, hI⟩
