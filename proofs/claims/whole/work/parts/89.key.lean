/-! ===== inside, key, run ===== -/
/-- where thing t is behind n steps, in thought -/
def EQ (σ : Hp) (N : Int32) (R t n : Nat) : Int32 × Int32 := OB σ N R t (σ 5 t, σ 6 t) n
def inV (σ : Hp) (L n : Nat) (c : Int32) : Nat → Int32 := orb (fun t v => if (EQ σ (σ 1 1) L t n).1 = c then v ||| (1 <<< (nI t &&& 31)) else v ||| 0) 0
theorem f_inside : ∀ σ τ, Inv σ τ → ∀ (a1 a2 : Int32), VX11_inside (fun v u => VX12_inside (fun v' u' => v = v' ∧ Inv u u') τ a1 a2) σ a1 a2 := by
  intro σ τ hI a1 a2
  obtain ⟨T, X, L, Z, hA, hT, hP, hC, hS, hJ, hW⟩ := id hI
  have hT5 := hT.1
  unfold VX11_inside
  rw [eX_isBehind, ite_b2i]
  by_cases g1 : rg a1 0 40
  rotate_left
  · rw [if_neg g1]
    try dsimp only
    unfold VX12_inside
    rw [eM_areSteps, ite_b2i, if_neg g1]
    exact ⟨rfl, hI⟩
  rw [if_pos g1, eX_isCell, ite_b2i]
  by_cases g2 : rg a2 0 29
  rotate_left
  · rw [if_neg g2]
    try dsimp only
    unfold VX12_inside
    rw [eM_areSteps, ite_b2i, if_pos g1, eM_isCell, ite_b2i, if_neg g2]
    exact ⟨rfl, hI⟩
  rw [if_pos g2]
  obtain ⟨n, hn, rfl⟩ := rg_nI (N := 40) (by decide) g1
  have fin : ∀ u, agr NSx σ u → VX12_inside (fun v' u' => inV σ L n a2 T = v' ∧ Inv u u') τ (nI n) a2 := by
    intro u au
    unfold VX12_inside
    rw [eM_areSteps, ite_b2i, if_pos g1, eM_isCell, ite_b2i, if_pos g2]
    generalize hKe : (fun (v' : Int32) (u' : Hp) => inV σ L n a2 T = v' ∧ Inv u u') = K
    refine lpN (S := Hp × Int32) (fun m s i => VX12_inside_L25 K m s.1 (nI n) a2 s.2 (nI i)) (fun i s => agr PSm τ s.1 ∧ s.2 = inV σ L n a2 i) T (fun m s hh => ?_) (fun m i s hi hh go => ?_) (τ, 0) ⟨agr.rf, rfl⟩
    · show VX12_inside_L25 K (m + 1) s.1 (nI n) a2 s.2 (nI T)
      rw [VX12_inside_L25, hh.1 0 2 (by decide), hT.2.2.1, if_pos (nI_le (Nat.le_refl _) (by omega))]
      subst hKe
      exact ⟨hh.2.symm, hI.ag au (hh.1.sub fun k i h => by omega)⟩
    · show VX12_inside_L25 K (m + 1) s.1 (nI n) a2 s.2 (nI i)
      obtain ⟨a, hs⟩ := hh
      obtain ⟨k1, k2, k3, k4, k5, k6, k7, k8⟩ := hT.2.2.2 i hi
      rw [VX12_inside_L25, a 0 2 (by decide), hT.2.2.1, if_neg (nI_ge hi (by omega))]
      refine m_cellBehind (N := σ 1 1) (R := L) hA hT hC hi hA.L.1 (by omega) (a.sub fun k i h => by omega) (by rw [a 1 1 (by decide)]; exact hA.2.1) (by rw [a 0 12 (by decide)]; exact hA.2.2.2.2.2.2.1) (by rw [a 4 i (by omega), a 5 i (by omega), k7, k8]; exact ⟨k3, k4⟩) (fun w1 c1 _ => ?_)
      rw [a 4 i (by omega), a 5 i (by omega), k7, k8]
      have hst : inV σ L n a2 (i + 1) = if (OB σ (σ 1 1) L i (σ 5 i, σ 6 i) n).1 = a2 then inV σ L n a2 i ||| (1 <<< (nI i &&& 31)) else inV σ L n a2 i ||| 0 := rfl
      by_cases hc : (OB σ (σ 1 1) L i (σ 5 i, σ 6 i) n).1 = a2
      · rw [if_pos hc] at hst ⊢
        intro x13 e13 x14 e14
        rw [e14, nI_1]
        exact go (w1, x13) ⟨a.tr c1, by rw [e13, hs]; exact hst.symm⟩
      · rw [if_neg hc] at hst ⊢
        intro x13 e13 x14 e14
        rw [e14, nI_1]
        exact go (w1, x13) ⟨a.tr c1, by rw [e13, hs]; exact hst.symm⟩
  have fin2 : ∀ (v : Int32) (u : Hp), agr NSx σ u → v = inV σ L n a2 T → VX12_inside (fun v' u' => v = v' ∧ Inv u u') τ (nI n) a2 := fun v u au hv => by rw [hv]; exact fin u au
  clear fin
  generalize hKe : (fun (v : Int32) (u : Hp) => VX12_inside (fun v' u' => v = v' ∧ Inv u u') τ (nI n) a2) = K
  refine lpN (S := Hp × Int32) (fun m s i => VX11_inside_L25 K m s.1 (nI n) a2 s.2 (nI i)) (fun i s => agr BX σ s.1 ∧ s.2 = inV σ L n a2 i) T (fun m s hh => ?_) (fun m i s hi hh go => ?_) (σ, 0) ⟨agr.rf, rfl⟩
  · show VX11_inside_L25 K (m + 1) s.1 (nI n) a2 s.2 (nI T)
    rw [VX11_inside_L25, hh.1 1 5 (by decide), hT.2.1, if_pos (nI_le (Nat.le_refl _) (by omega))]
    subst hKe
    exact fin2 _ _ (hh.1.sub fun k i h => by omega) hh.2
  · show VX11_inside_L25 K (m + 1) s.1 (nI n) a2 s.2 (nI i)
    obtain ⟨a, hs⟩ := hh
    obtain ⟨k1, k2, k3, k4, k5, k6, k7, k8⟩ := hT.2.2.2 i hi
    rw [VX11_inside_L25, a 1 5 (by decide), hT.2.1, if_neg (nI_ge hi (by omega))]
    refine x_behind hA hT hC hi (by omega) (a.sub fun k i h => by omega) (by rw [a 5 i (by omega), a 6 i (by omega)]; exact ⟨k3, k4⟩) (fun u1 b1 h6 _ => ⟨rfl, ?_⟩)
    rw [a 5 i (by omega), a 6 i (by omega)] at h6
    rw [h6]
    have hst : inV σ L n a2 (i + 1) = if (OB σ (σ 1 1) L i (σ 5 i, σ 6 i) n).1 = a2 then inV σ L n a2 i ||| (1 <<< (nI i &&& 31)) else inV σ L n a2 i ||| 0 := rfl
    by_cases hc : (OB σ (σ 1 1) L i (σ 5 i, σ 6 i) n).1 = a2
    · rw [if_pos hc] at hst ⊢
      intro x13 e13 x14 e14
      rw [e14, nI_1]
      exact go (u1, x13) ⟨a.tr b1, by rw [e13, hs]; exact hst.symm⟩
    · rw [if_neg hc] at hst ⊢
      intro x13 e13 x14 e14
      rw [e14, nI_1]
      exact go (u1, x13) ⟨a.tr b1, by rw [e13, hs]; exact hst.symm⟩
/-- cells and ways of things become others, on both sides; so, perhaps, THE STEP -/
theorem Inv.moved {σ τ u v : Hp} {T : Nat} (hI : Inv σ τ) (hTT : σ 1 5 = nI T) (hT5 : T ≤ 5) (ax : agr (fun k i => NSx k i ∧ k ≠ 5 ∧ k ≠ 6 ∧ ¬ (k = 1 ∧ i = 3)) σ u) (am : agr (fun k i => NSm k i ∧ k ≠ 4 ∧ k ≠ 5 ∧ ¬ (k = 0 ∧ i = 1)) τ v) (h1 : v 0 1 = u 1 3) (h2 : nb (u 1 3) 100) (h : ∀ t, t < T → nb (u 5 t) 30 ∧ nb (u 6 t) 5 ∧ v 4 t = u 5 t ∧ v 5 t = u 6 t) : Inv u v := by
  obtain ⟨T', X, L, Z, hA, hT, hP, hC, hS, hJ, hW⟩ := hI
  have hT5' := hT.1
  obtain rfl : T' = T := (nI_eq (by omega) (by omega)).mp (hT.2.1.symm.trans hTT)
  refine ⟨T', X, L, Z, ?_, ?_, hP.ag (ax.sub fun k i h => by omega) (am.sub fun k i h => by omega), hC.ag hA.L.2 (ax.sub fun k i h => by omega) (am.sub fun k i h => by omega), hS.ag (ax.sub fun k i h => by omega) (am.sub fun k i h => by omega), hJ.ag (ax.sub fun k i h => by omega) (am.sub fun k i h => by omega), hW.ag (ax.sub fun k i h => by omega) (am.sub fun k i h => by omega)⟩
  · obtain ⟨h1', h2', h3', h4', h5', h6', h7', h8', h9', h10', h11'⟩ := hA
    refine ⟨?_, ?_, ?_, h1, h2, ?_, ?_, h8', h9', ?_, ?_⟩
    · rw [ax 1 0 (by decide), am 1 0 (by decide)]; exact h1'
    · rw [ax 1 1 (by decide), am 1 1 (by decide)]; exact h2'
    · rw [ax 1 2 (by decide), am 1 2 (by decide)]; exact h3'
    · rw [ax 1 4 (by decide)]; exact h6'
    · rw [am 0 12 (by decide)]; exact h7'
    · rw [ax 0 5 (by decide)]; exact h10'
    · rw [am 0 11 (by decide)]; exact h11'
  · refine ⟨hT5, by rw [ax 1 5 (by decide)]; exact hT.2.1, by rw [am 0 2 (by decide)]; exact hT.2.2.1, fun t ht => ?_⟩
    obtain ⟨k1, k2, k3, k4, k5, k6, k7, k8⟩ := hT.2.2.2 t ht
    obtain ⟨j1, j2, j3, j4⟩ := h t ht
    rw [ax 3 t (by omega), ax 4 t (by omega), am 2 t (by omega), am 3 t (by omega)]
    exact ⟨k1, k2, j1, j2, k5, k6, j3, j4⟩
def keV (σ : Hp) : Nat → Int32 := orb (fun t v => if σ 6 t = 4 then v + 0 else v + 1) 0
theorem f_key : ∀ σ τ, Inv σ τ → ∀ (_ : Unit), VX11_key (fun v u => VX12_key (fun v' u' => v = v' ∧ Inv u u') τ) σ := by
  intro σ τ hI _
  obtain ⟨T, X, L, Z, hA, hT, hP, hC, hS, hJ, hW⟩ := id hI
  have hT5 := hT.1
  have fin : ∀ (v : Int32) (u : Hp), v = keV σ T → agr (fun k _ => k ≠ 6) σ u → (∀ t, t < T → u 6 t = trn (σ 6 t)) → VX12_key (fun v' u' => v = v' ∧ Inv u u') τ := by
    intro v u hv au hu
    unfold VX12_key
    generalize hKe : (fun (v' : Int32) (u' : Hp) => v = v' ∧ Inv u u') = K
    refine lpN (S := Hp × Int32) (fun m s i => VX12_key_L4 K m s.1 s.2 (nI i)) (fun i s => agr (fun k _ => k ≠ 5) τ s.1 ∧ s.2 = keV σ i ∧ ∀ t, t < T → s.1 5 t = if t < i then trn (σ 6 t) else σ 6 t) T (fun m s hh => ?_) (fun m i s hi hh go => ?_) (τ, 0) ⟨agr.rf, rfl, fun t ht => (hT.2.2.2 t ht).2.2.2.2.2.2.2⟩
    · show VX12_key_L4 K (m + 1) s.1 s.2 (nI T)
      obtain ⟨a, hs, hw⟩ := hh
      rw [VX12_key_L4, a 0 2 (by decide), hT.2.2.1, if_pos (nI_le (Nat.le_refl _) (by omega))]
      subst hKe
      refine ⟨hv.trans hs.symm, hI.moved hT.2.1 hT5 (au.sub fun k i h => by omega) (a.sub fun k i h => by omega) ?_ ?_ (fun t ht => ?_)⟩
      · rw [a 0 1 (by decide), au 1 3 (by decide)]; exact hA.2.2.2.1
      · rw [au 1 3 (by decide)]; exact hA.2.2.2.2.1
      · obtain ⟨k1, k2, k3, k4, k5, k6, k7, k8⟩ := hT.2.2.2 t ht
        rw [au 5 t (by omega), a 4 t (by omega), hu t ht, hw t ht, if_pos ht]
        exact ⟨k3, trn_nb k4, k7, rfl⟩
    · show VX12_key_L4 K (m + 1) s.1 s.2 (nI i)
      obtain ⟨a, hs, hw⟩ := hh
      have hwi : s.1 5 i = σ 6 i := by rw [hw i hi, if_neg (Nat.lt_irrefl i)]
      rw [VX12_key_L4, a 0 2 (by decide), hT.2.2.1, if_neg (nI_ge hi (by omega)), nI_clamp (by omega), hwi]
      have hv5 : vp_in (nI i) 5 := vp_in_nI (by omega) (by decide)
      refine ⟨hv5, ?_⟩
      have hst : keV σ (i + 1) = if σ 6 i = 4 then keV σ i + 0 else keV σ i + 1 := rfl
      have step : ∀ (s0 x3 : Int32) (w : Hp), x3 = keV σ (i + 1) → w = hup s.1 5 i (trn (σ 6 i)) → VX12_key_L4 K m w x3 (nI (i + 1)) := fun s0 x3 w hx hw2 => go (w, x3) ⟨by rw [hw2]; exact agr.up a (by omega), hx, fun t ht => by
        show w 5 t = _
        rw [hw2, hup_ap, if_pos rfl]
        by_cases hti : t = i
        · rw [if_pos hti, if_pos (by omega), hti]
        · rw [if_neg hti, hw t ht]
          by_cases hlt : t < i
          · rw [if_pos hlt, if_pos (by omega)]
          · rw [if_neg hlt, if_neg (by omega)]⟩
      unfold VX12_key_b28
      by_cases h4 : σ 6 i = 4
      · rw [if_pos h4] at hst ⊢
        intro x3 e3
        rw [nI_clamp (by omega), hwi]
        refine ⟨hv5, ?_⟩
        rw [if_pos h4]
        refine ⟨hv5, fun u7 e7 x8 e8 => ?_⟩
        rw [e8, nI_1]
        exact step 0 x3 u7 (by rw [e3, hs]; exact hst.symm) (by rw [e7]; unfold trn; rw [if_pos h4])
      · rw [if_neg h4] at hst ⊢
        intro x3 e3
        rw [nI_clamp (by omega), hwi]
        refine ⟨hv5, ?_⟩
        rw [if_neg h4]
        refine ⟨hv5, hv5, fun u7 e7 x8 e8 => ?_⟩
        rw [e8, nI_1]
        exact step 1 x3 u7 (by rw [e3, hs]; exact hst.symm) (by rw [e7]; unfold trn; rw [if_neg h4])
  unfold VX11_key
  generalize hKe : (fun (v : Int32) (u : Hp) => VX12_key (fun v' u' => v = v' ∧ Inv u u') τ) = K
  refine lpN (S := Hp × Int32) (fun m s i => VX11_key_L4 K m s.1 s.2 (nI i)) (fun i s => agr (fun k _ => k ≠ 6) σ s.1 ∧ s.2 = keV σ i ∧ ∀ t, t < T → s.1 6 t = if t < i then trn (σ 6 t) else σ 6 t) T (fun m s hh => ?_) (fun m i s hi hh go => ?_) (σ, 0) ⟨agr.rf, rfl, fun t ht => rfl⟩
  · show VX11_key_L4 K (m + 1) s.1 s.2 (nI T)
    obtain ⟨a, hs, hw⟩ := hh
    rw [VX11_key_L4, a 1 5 (by decide), hT.2.1, if_pos (nI_le (Nat.le_refl _) (by omega))]
    subst hKe
    exact fin _ _ hs a (fun t ht => by rw [hw t ht, if_pos ht])
  · show VX11_key_L4 K (m + 1) s.1 s.2 (nI i)
    obtain ⟨a, hs, hw⟩ := hh
    have hwi : s.1 6 i = σ 6 i := by rw [hw i hi, if_neg (Nat.lt_irrefl i)]
    rw [VX11_key_L4, a 1 5 (by decide), hT.2.1, if_neg (nI_ge hi (by omega)), nI_clamp (by omega), hwi]
    have hv5 : vp_in (nI i) 5 := vp_in_nI (by omega) (by decide)
    refine ⟨hv5, ?_⟩
    have hst : keV σ (i + 1) = if σ 6 i = 4 then keV σ i + 0 else keV σ i + 1 := rfl
    unfold VX11_key_b34
    have step : ∀ (x3 : Int32), x3 = keV σ (i + 1) → vp_in (nI i) 5 ∧ VX11_turned (fun v4 u5 => vp_in (nI i) 5 ∧ ∀ u6 : Hp, u6 = hup u5 6 (nI i).toNatClampNeg v4 → ∀ x7 : Int32, x7 = nI i + 1 → VX11_key_L4 K m u6 x3 x7) s.1 (s.1 6 (nI i).toNatClampNeg) := fun x3 hx => by
      rw [nI_clamp (by omega), hwi, eX_turned]
      refine ⟨hv5, hv5, fun u6 e6 x7 e7 => ?_⟩
      rw [e7, nI_1]
      refine go (u6, x3) ⟨by rw [e6]; exact agr.up a (by omega), hx, fun t ht => ?_⟩
      show u6 6 t = _
      rw [e6, hup_ap, if_pos rfl]
      by_cases hti : t = i
      · rw [if_pos hti, if_pos (by omega), hti]
      · rw [if_neg hti, hw t ht]
        by_cases hlt : t < i
        · rw [if_pos hlt, if_pos (by omega)]
        · rw [if_neg hlt, if_neg (by omega)]
    by_cases h4 : σ 6 i = 4
    · rw [if_pos h4] at hst ⊢
      intro x3 e3
      exact step x3 (by rw [e3, hs]; exact hst.symm)
    · rw [if_neg h4] at hst ⊢
      intro x3 e3
      exact step x3 (by rw [e3, hs]; exact hst.symm)
def ruV (σ : Hp) (L n : Nat) : Nat → Int32 := orb (fun t v => if (EQ σ (σ 1 1) L t n).2 = 4 then v + 1 else v + 0) 0
theorem run99 : ∀ k, k < 200 → clm 99 (nI k) = (if (99 : Int32) < nI k then 99 else nI k) ∧ (clm 99 (nI k)).toNatClampNeg < 100 ∧ clm 99 (nI k) = nI (clm 99 (nI k)).toNatClampNeg := by decide +kernel
theorem f_run : ∀ σ τ, Inv σ τ → ∀ (a1 : Int32), VX11_run (fun v u => VX12_run (fun v' u' => v = v' ∧ Inv u u') τ a1) σ a1 := by
  intro σ τ hI a1
  obtain ⟨T, X, L, Z, hA, hT, hP, hC, hS, hJ, hW⟩ := id hI
  have hT5 := hT.1
  unfold VX11_run
  rw [eX_isBehind, ite_b2i]
  by_cases g1 : rg a1 0 40
  rotate_left
  · rw [if_neg g1]
    try dsimp only
    unfold VX12_run
    rw [eM_areSteps, ite_b2i, if_neg g1]
    exact ⟨rfl, hI⟩
  rw [if_pos g1]
  obtain ⟨n, hn, rfl⟩ := rg_nI (N := 40) (by decide) g1
  obtain ⟨b, hb, hsb⟩ := hA.2.2.2.2.1
  obtain ⟨r1, r2, r3⟩ := run99 (b + n) (by omega)
  have hsum : σ 1 3 + nI n = nI (b + n) := by rw [hsb, nI_add]
  have hEq : ∀ t, t < T → okq (EQ σ (σ 1 1) L t n) := fun t ht => by
    obtain ⟨ok, hq⟩ := x_okt hA hT hC ht hA.L.1
    exact OB_ok ok hq n
  have fin : ∀ (v : Int32) (u : Hp), v = ruV σ L n T → agr (fun k i => NSx k i ∧ k ≠ 5 ∧ k ≠ 6 ∧ ¬ (k = 1 ∧ i = 3)) σ u → u 1 3 = clm 99 (nI (b + n)) → (∀ t, t < T → u 5 t = (EQ σ (σ 1 1) L t n).1 ∧ u 6 t = (EQ σ (σ 1 1) L t n).2) → VX12_run (fun v' u' => v = v' ∧ Inv u u') τ (nI n) := by
    intro v u hv au h13 hu
    unfold VX12_run
    rw [eM_areSteps, ite_b2i, if_pos g1]
    generalize hKe : (fun (v' : Int32) (u' : Hp) => v = v' ∧ Inv u u') = K
    refine lpN (S := Hp × Int32) (fun m s i => VX12_run_L14 K m s.1 (nI n) s.2 (nI i)) (fun i s => agr (fun k i => PSm k i ∧ k ≠ 4 ∧ k ≠ 5) τ s.1 ∧ s.2 = ruV σ L n i ∧ ∀ t, t < T → s.1 4 t = (if t < i then (EQ σ (σ 1 1) L t n).1 else σ 5 t) ∧ s.1 5 t = (if t < i then (EQ σ (σ 1 1) L t n).2 else σ 6 t)) T (fun m s hh => ?_) (fun m i s hi hh go => ?_) (τ, 0) ⟨agr.rf, rfl, fun t ht => ⟨(hT.2.2.2 t ht).2.2.2.2.2.2.1, (hT.2.2.2 t ht).2.2.2.2.2.2.2⟩⟩
    · show VX12_run_L14 K (m + 1) s.1 (nI n) s.2 (nI T)
      obtain ⟨a, hs, hw⟩ := hh
      rw [VX12_run_L14, a 0 2 (by decide), hT.2.2.1, if_pos (nI_le (Nat.le_refl _) (by omega)), a 0 1 (by decide), hA.2.2.2.1, hsum, eM_wi (by decide)]
      intro u7 e7
      subst hKe
      have am : agr (fun k i => NSm k i ∧ k ≠ 4 ∧ k ≠ 5 ∧ ¬ (k = 0 ∧ i = 1)) τ u7 := by
        rw [e7]; exact agr.up (a.sub fun k i h => by omega) (by omega)
      refine ⟨hv.trans hs.symm, hI.moved hT.2.1 hT5 au am ?_ ?_ (fun t ht => ?_)⟩
      · rw [e7, hup_self, h13]
      · rw [h13]; exact ⟨_, r2, r3⟩
      · rw [(hu t ht).1, (hu t ht).2, e7, hup_row (by decide), hup_row (by decide), (hw t ht).1, (hw t ht).2, if_pos ht, if_pos ht]
        exact ⟨(hEq t ht).1, (hEq t ht).2, rfl, rfl⟩
    · show VX12_run_L14 K (m + 1) s.1 (nI n) s.2 (nI i)
      obtain ⟨a, hs, hw⟩ := hh
      have hwi4 : s.1 4 i = σ 5 i := by rw [(hw i hi).1, if_neg (Nat.lt_irrefl i)]
      have hwi5 : s.1 5 i = σ 6 i := by rw [(hw i hi).2, if_neg (Nat.lt_irrefl i)]
      obtain ⟨k1, k2, k3, k4, k5, k6, k7, k8⟩ := hT.2.2.2 i hi
      have hv5 : vp_in (nI i) 5 := vp_in_nI (by omega) (by decide)
      rw [VX12_run_L14, a 0 2 (by decide), hT.2.2.1, if_neg (nI_ge hi (by omega))]
      refine m_cellBehind (N := σ 1 1) (R := L) hA hT hC hi hA.L.1 (by omega) (a.sub fun k i h => by omega) (by rw [a 1 1 (by decide)]; exact hA.2.1) (by rw [a 0 12 (by decide)]; exact hA.2.2.2.2.2.2.1) (by rw [hwi4, hwi5]; exact ⟨k3, k4⟩) (fun w1 c1 h33 => ?_)
      rw [hwi4, hwi5] at h33 ⊢
      refine ⟨hv5, fun u10 e10 => ⟨hv5, fun u11 e11 => ?_⟩⟩
      rw [nI_clamp (by omega)] at e10 e11
      have h10 : u10 0 33 = (EQ σ (σ 1 1) L i n).2 := by rw [e10, hup_row (by decide)]; exact h33
      have h11 : u11 0 33 = (EQ σ (σ 1 1) L i n).2 := by rw [e11, hup_row (by decide)]; exact h10
      rw [h10] at e11
      rw [h11]
      have hst : ruV σ L n (i + 1) = if (EQ σ (σ 1 1) L i n).2 = 4 then ruV σ L n i + 1 else ruV σ L n i + 0 := rfl
      have nx : ∀ x, x = ruV σ L n (i + 1) → VX12_run_L14 K m u11 (nI n) x (nI (i + 1)) := fun x hx => go (u11, x) ⟨by
          show agr _ τ u11
          rw [e11, e10]; exact agr.up (agr.up (a.tr (c1.sub fun k i h => by omega)) (by omega)) (by omega), hx, fun t ht => by
          show u11 4 t = _ ∧ u11 5 t = _
          rw [e11, hup_row (by decide), hup_ap (k' := 5), if_pos rfl, e10, hup_ap (k' := 4), if_pos rfl, hup_row (by decide)]
          by_cases hti : t = i
          · rw [if_pos hti, if_pos hti, if_pos (by omega), if_pos (by omega), hti]; exact ⟨rfl, rfl⟩
          · rw [if_neg hti, if_neg hti, c1 4 t (by omega), c1 5 t (by omega), (hw t ht).1, (hw t ht).2]
            by_cases hlt : t < i
            · rw [if_pos hlt, if_pos hlt, if_pos (by omega), if_pos (by omega)]; exact ⟨rfl, rfl⟩
            · rw [if_neg hlt, if_neg hlt, if_neg (by omega), if_neg (by omega)]; exact ⟨rfl, rfl⟩⟩
      by_cases h4 : (EQ σ (σ 1 1) L i n).2 = 4
      · rw [if_pos h4] at hst ⊢
        intro x15 e15 x16 e16
        rw [e16, nI_1]
        exact nx x15 (by rw [e15, hs]; exact hst.symm)
      · rw [if_neg h4] at hst ⊢
        intro x15 e15 x16 e16
        rw [e16, nI_1]
        exact nx x15 (by rw [e15, hs]; exact hst.symm)
  generalize hKe : (fun (v : Int32) (u : Hp) => VX12_run (fun v' u' => v = v' ∧ Inv u u') τ (nI n)) = K
  refine lpN (S := Hp × Int32) (fun m s i => VX11_run_L14 K m s.1 (nI n) s.2 (nI i)) (fun i s => agr (fun k i => BX k i ∧ k ≠ 5 ∧ k ≠ 6) σ s.1 ∧ s.2 = ruV σ L n i ∧ ∀ t, t < T → s.1 5 t = (if t < i then (EQ σ (σ 1 1) L t n).1 else σ 5 t) ∧ s.1 6 t = (if t < i then (EQ σ (σ 1 1) L t n).2 else σ 6 t)) T (fun m s hh => ?_) (fun m i s hi hh go => ?_) (σ, 0) ⟨agr.rf, rfl, fun t ht => ⟨rfl, rfl⟩⟩
  · show VX11_run_L14 K (m + 1) s.1 (nI n) s.2 (nI T)
    obtain ⟨a, hs, hw⟩ := hh
    rw [VX11_run_L14, a 1 5 (by decide), hT.2.1, if_pos (nI_le (Nat.le_refl _) (by omega)), a 1 3 (by decide), hsum, ← r1]
    intro u5 e5
    subst hKe
    refine fin _ _ hs (by rw [e5]; exact agr.up (a.sub fun k i h => by omega) (by omega)) (by rw [e5, hup_self]) (fun t ht => ?_)
    rw [e5, hup_row (by decide), hup_row (by decide), (hw t ht).1, (hw t ht).2, if_pos ht, if_pos ht]
    exact ⟨rfl, rfl⟩
  · show VX11_run_L14 K (m + 1) s.1 (nI n) s.2 (nI i)
    obtain ⟨a, hs, hw⟩ := hh
    have hwi4 : s.1 5 i = σ 5 i := by rw [(hw i hi).1, if_neg (Nat.lt_irrefl i)]
    have hwi5 : s.1 6 i = σ 6 i := by rw [(hw i hi).2, if_neg (Nat.lt_irrefl i)]
    obtain ⟨k1, k2, k3, k4, k5, k6, k7, k8⟩ := hT.2.2.2 i hi
    have hv5 : vp_in (nI i) 5 := vp_in_nI (by omega) (by decide)
    rw [VX11_run_L14, a 1 5 (by decide), hT.2.1, if_neg (nI_ge hi (by omega))]
    refine x_behind hA hT hC hi (by omega) (a.sub fun k i h => by omega) (by rw [hwi4, hwi5]; exact ⟨k3, k4⟩) (fun u1 b1 h6 h7 => ⟨rfl, ?_⟩)
    rw [hwi4, hwi5] at h6 h7
    refine ⟨hv5, fun u8 e8 => ⟨hv5, fun u9 e9 => ?_⟩⟩
    rw [nI_clamp (by omega)] at e8 e9
    have h8 : u8 49 7 = (EQ σ (σ 1 1) L i n).2 := by rw [e8, hup_row (by decide)]; exact h7
    have h9 : u9 49 7 = (EQ σ (σ 1 1) L i n).2 := by rw [e9, hup_row (by decide)]; exact h8
    rw [h8] at e9
    rw [h6] at e8
    rw [h9]
    have hst : ruV σ L n (i + 1) = if (EQ σ (σ 1 1) L i n).2 = 4 then ruV σ L n i + 1 else ruV σ L n i + 0 := rfl
    have nx : ∀ x, x = ruV σ L n (i + 1) → VX11_run_L14 K m u9 (nI n) x (nI (i + 1)) := fun x hx => go (u9, x) ⟨by
        show agr _ σ u9
        rw [e9, e8]; exact agr.up (agr.up (a.tr (b1.sub fun k i h => by omega)) (by omega)) (by omega), hx, fun t ht => by
        show u9 5 t = _ ∧ u9 6 t = _
        rw [e9, hup_row (by decide), hup_ap (k' := 6), if_pos rfl, e8, hup_ap (k' := 5), if_pos rfl, hup_row (by decide)]
        by_cases hti : t = i
        · rw [if_pos hti, if_pos hti, if_pos (by omega), if_pos (by omega), hti]; exact ⟨rfl, rfl⟩
        · rw [if_neg hti, if_neg hti, b1 5 t (by omega), b1 6 t (by omega), (hw t ht).1, (hw t ht).2]
          by_cases hlt : t < i
          · rw [if_pos hlt, if_pos hlt, if_pos (by omega), if_pos (by omega)]; exact ⟨rfl, rfl⟩
          · rw [if_neg hlt, if_neg hlt, if_neg (by omega), if_neg (by omega)]; exact ⟨rfl, rfl⟩⟩
    by_cases h4 : (EQ σ (σ 1 1) L i n).2 = 4
    · rw [if_pos h4] at hst ⊢
      intro x15 e15 x16 e16
      rw [e16, nI_1]
      exact nx x15 (by rw [e15, hs]; exact hst.symm)
    · rw [if_neg h4] at hst ⊢
      intro x15 e15 x16 e16
      rw [e16, nI_1]
      exact nx x15 (by rw [e15, hs]; exact hst.symm)
