/-! ===== cell, copy, thingsBy ===== -/
theorem x_holds {K : Int32 → Hp → Prop} {σ : Hp} {o z : Nat} {a b : Int32} (ho : 41 ≤ o ∧ o < 45) (hz : z ≤ 40) (hs : σ o 2 = nI z) (h1 : ∀ i n, i + n ≤ z → a = nI i → b = nI n → K 1 σ) (h0 : (¬ ∃ i n, i + n ≤ z ∧ a = nI i ∧ b = nI n) → K 0 σ) : VX6_holds K σ o a b := by
  unfold VX6_holds
  refine ⟨ho, ?_⟩
  rw [hs]
  have ge : ∀ {k : Nat}, k ≤ z → ¬ nI k < 0 := fun h => nI_pos (by omega)
  by_cases n1 : a < 0
  · rw [if_pos n1]; exact h0 (fun ⟨i, n, h, ea, _⟩ => ge (k := i) (by omega) (ea ▸ n1))
  rw [if_neg n1]
  by_cases n2 : b < 0
  · rw [if_pos n2]; exact h0 (fun ⟨i, n, h, _, eb⟩ => ge (k := n) (by omega) (eb ▸ n2))
  rw [if_neg n2]
  obtain ⟨i, hi, rfl⟩ := nI_of n1
  obtain ⟨n, hn, rfl⟩ := nI_of n2
  by_cases n3 : nI z < nI i
  · rw [if_pos n3]
    refine h0 (fun ⟨i', n', h, ea, _⟩ => ?_)
    have := (nI_ltI (by omega) hi).mp n3
    have := (nI_eq hi (by omega)).mp ea
    omega
  rw [if_neg n3]
  have hiz : i ≤ z := by
    rcases Nat.lt_or_ge z i with h | h
    · exact absurd (nI_lt h hi) n3
    · exact h
  rw [pk_sub hiz]
  by_cases n4 : nI (z - i) < nI n
  · rw [if_pos n4]
    refine h0 (fun ⟨i', n', h, ea, eb⟩ => ?_)
    have := (nI_ltI (by omega) hn).mp n4
    have := (nI_eq hi (by omega)).mp ea
    have := (nI_eq hn (by omega)).mp eb
    omega
  · rw [if_neg n4]
    refine h1 i n ?_ rfl rfl
    rcases Nat.lt_or_ge (z - i) n with h | h
    · exact absurd (nI_lt h hn) n4
    · omega
/-- what a sheet's sort makes of a number -/
def srtV (q v : Int32) : Int32 := if q = 0 then v.toInt8.toInt32 else if q = 1 then v.toInt16.toInt32 else v
theorem IS.one {σ τ : Hp} {s i : Nat} {v : Int32} (hS : IS σ τ) (hs : s < 4) (hi : i < 40) : IS (hup σ (45 + s) i v) (hup τ 12 (40 * s + i) v) := by
  intro k hk
  obtain ⟨h1, h2, h3, h4⟩ := hS k hk
  rw [hup_row (by omega), hup_row (by decide), hup_row (by decide)]
  refine ⟨h1, h2, h3, fun j hj => ?_⟩
  rw [hup_ap, hup_ap, if_pos rfl]
  by_cases hc : k = s ∧ j = i
  · rw [if_pos (by rw [hc.1, hc.2]), if_pos (by rw [hc.1]), if_pos hc.2]
  · rw [if_neg (by omega)]
    by_cases hks : k = s
    · rw [if_pos (by rw [hks]), if_neg (by omega), ← hks]; exact h4 j hj
    · rw [if_neg (by omega)]; exact h4 j hj
theorem f_cell : ∀ σ τ, Inv σ τ → ∀ (a1 a2 a3 : Int32), VX11_cell (fun v u => VX12_cell (fun v' u' => v = v' ∧ Inv u u') τ a1 a2 a3) σ a1 a2 a3 := by
  intro σ τ hI a1 a2 a3
  obtain ⟨T, X, L, Z, hA, hT, hP, hC, hS, hJ, hW⟩ := id hI
  unfold VX11_cell
  rw [eX_isSheet, ite_b2i]
  by_cases g1 : rg a1 0 3
  rotate_left
  · rw [if_neg g1]
    try dsimp only
    unfold VX12_cell
    rw [eM_in, ite_b2i, if_neg g1]
    exact ⟨rfl, hI⟩
  rw [if_pos g1]
  obtain ⟨s, hs, rfl⟩ := rg_nI (N := 3) (by decide) g1
  have hv4 : vp_in (nI s) 4 := vp_in_nI (by omega) (by decide)
  obtain ⟨⟨z, hz, z1, z2⟩, h2, h3, h4⟩ := hS s (by omega)
  rw [nI_clamp (by omega)]
  refine ⟨hv4, fun x4 e4 => ?_⟩
  subst e4
  by_cases b0 : σ (41 + s) 1 = -1
  · rw [if_pos b0]
    try dsimp only
    unfold VX12_cell
    rw [eM_in, ite_b2i, if_pos g1, nI_clamp (by omega), h2, if_pos b0]
    exact ⟨hv4, rfl, hI⟩
  rw [if_neg b0]
  refine ⟨hv4, fun x6 e6 => ?_⟩
  subst e6
  have mEnd : ∀ K : Int32 → Hp → Prop, ((∃ i n, i + n ≤ z ∧ a2 = nI i ∧ (1 : Int32) = nI n) → ∃ i, i < z ∧ a2 = nI i ∧ K 1 (hup τ 12 (40 * s + i) (srtV (σ (41 + s) 1) a3))) → ((¬ ∃ i n, i + n ≤ z ∧ a2 = nI i ∧ (1 : Int32) = nI n) → K (-12) τ) → VX12_cell K τ (nI s) a2 a3 := fun K hK h0 => by
    unfold VX12_cell
    rw [eM_in, ite_b2i, if_pos g1, nI_clamp (by omega), h2, if_neg b0]
    refine ⟨hv4, hv4, ?_⟩
    rw [eM_in, ite_b2i, z2]
    by_cases g2 : rg a2 0 (nI z - 1)
    · rw [if_pos g2]
      obtain ⟨i, hi, rfl⟩ := (thM (by omega)).mp g2
      obtain ⟨i', hi', ei, hk⟩ := hK ⟨i, 1, by omega, rfl, rfl⟩
      obtain rfl : i' = i := (nI_eq (by omega) (by omega)).mp ei.symm
      rw [show (40 : Int32) * nI s = nI (40 * s) from pk_mul 40 s, nI_add, nI_clamp (by omega), h2]
      have hvv : vp_in (nI (40 * s + i')) 160 := vp_in_nI (by omega) (by decide)
      unfold srtV at hk
      refine ⟨hv4, ?_⟩
      by_cases c0 : σ (41 + s) 1 = 0
      · rw [if_pos c0] at hk ⊢
        refine ⟨hvv, fun u e => ?_⟩
        rw [e]; exact hk
      · rw [if_neg c0] at hk ⊢
        refine ⟨hv4, ?_⟩
        by_cases c1 : σ (41 + s) 1 = 1
        · rw [if_pos c1] at hk ⊢
          refine ⟨hvv, fun u e => ?_⟩
          rw [e]; exact hk
        · rw [if_neg c1] at hk ⊢
          refine ⟨hvv, fun u e => ?_⟩
          rw [e]; exact hk
    · rw [if_neg g2]
      refine h0 (fun ⟨i, n, h, ea, eb⟩ => g2 ((thM (by omega)).mpr ⟨i, ?_, ea⟩))
      have := (nI_eq (a := 1) (b := n) (by decide) (by omega)).mp eb
      omega
  refine x_holds ⟨by omega, by omega⟩ hz z1 (fun i n hin ea eb => ?_) (fun hno => ?_)
  · have hn1 : 1 = n := (nI_eq (a := 1) (b := n) (by decide) (by omega)).mp eb
    rw [if_neg (by decide)]
    refine ⟨hv4, fun x10 e10 => ?_⟩
    subst e10
    unfold VX6_write
    refine ⟨⟨by omega, by omega⟩, fun x1 e1 => ?_⟩
    obtain rfl : x1 = 45 + s := by omega
    subst ea
    rw [nI_clamp (by omega)]
    have hvv : vp_in (nI i) 40 := vp_in_nI (by omega) (by decide)
    have fin : ∀ u, u = hup σ (45 + s) i (srtV (σ (41 + s) 1) a3) → VX12_cell (fun v' u' => (1 : Int32) = v' ∧ Inv u u') τ (nI s) (nI i) a3 := fun u eu => by
      refine mEnd _ (fun _ => ⟨i, by omega, rfl, rfl, ?_⟩) (fun q => absurd ⟨i, n, hin, rfl, eb⟩ q)
      rw [eu]
      exact hI.shs (agr.up agr.rf (by omega)) (agr.up agr.rf (by omega)) (hS.one (by omega) (by omega))
    unfold srtV at fin
    by_cases c0 : σ (41 + s) 1 = 0
    · rw [if_pos c0]
      exact ⟨hvv, fun u e => fin u (by rw [e, if_pos c0])⟩
    · rw [if_neg c0]
      by_cases c1 : σ (41 + s) 1 = 1
      · rw [if_pos c1]
        exact ⟨hvv, fun u e => fin u (by rw [e, if_neg c0, if_pos c1])⟩
      · rw [if_neg c1]
        exact ⟨hvv, fun u e => fin u (by rw [e, if_neg c0, if_neg c1])⟩
  · rw [if_pos rfl]
    exact mEnd _ (fun q => absurd q hno) (fun _ => ⟨rfl, hI⟩)
theorem m_copyL {K : Int32 → Hp → Prop} {τ : Hp} {n a b : Nat} (ha : a + n ≤ 160) (hb : b + n ≤ 160) (hK : ∀ v, agr (fun k _ => k ≠ 12) τ v → (∀ j, v 12 j = if b ≤ j ∧ j < b + n then τ 12 (a + (j - b)) else τ 12 j) → K (nI n) v) : ∃ m, VX12_copy_L147 K m τ (nI n) (nI a) (nI b) 0 := by
  by_cases hab : b ≤ a
  · refine lpN (S := Hp) (fun m v i => VX12_copy_L147 K m v (nI n) (nI a) (nI b) (nI i)) (fun i v => agr (fun k _ => k ≠ 12) τ v ∧ ∀ j, v 12 j = if b ≤ j ∧ j < b + i then τ 12 (a + (j - b)) else τ 12 j) n (fun m v h => ?_) (fun m i v hi h go => ?_) τ ⟨agr.rf, fun j => by rw [if_neg (by omega)]⟩
    · show VX12_copy_L147 K (m + 1) v (nI n) (nI a) (nI b) (nI n)
      rw [VX12_copy_L147, if_pos (nI_le (Nat.le_refl _) (by omega))]
      exact hK v h.1 h.2
    · show VX12_copy_L147 K (m + 1) v (nI n) (nI a) (nI b) (nI i)
      rw [VX12_copy_L147, if_neg (nI_ge hi (by omega)), if_pos (nI_le hab (by omega))]
      unfold VX12_copy_b173
      rw [nI_add, nI_add, nI_clamp (by omega), nI_clamp (by omega)]
      refine ⟨vp_in_nI (by omega) (by decide), vp_in_nI (by omega) (by decide), fun u e x ex => ?_⟩
      rw [ex, nI_1]
      refine go u ⟨by rw [e]; exact agr.up h.1 (by omega), fun j => ?_⟩
      have hsrc : v 12 (a + i) = τ 12 (a + i) := by rw [h.2, if_neg (by omega)]
      rw [e, hup_ap, if_pos rfl, hsrc]
      by_cases hj : j = b + i
      · rw [if_pos hj, if_pos (by omega), hj, Nat.add_sub_cancel_left]
      · rw [if_neg hj, h.2 j]
        by_cases hc : b ≤ j ∧ j < b + i
        · rw [if_pos hc, if_pos (by omega)]
        · rw [if_neg hc, if_neg (by omega)]
  · refine lpN (S := Hp) (fun m v i => VX12_copy_L147 K m v (nI n) (nI a) (nI b) (nI i)) (fun i v => agr (fun k _ => k ≠ 12) τ v ∧ ∀ j, v 12 j = if b + n - i ≤ j ∧ j < b + n then τ 12 (a + (j - b)) else τ 12 j) n (fun m v h => ?_) (fun m i v hi h go => ?_) τ ⟨agr.rf, fun j => by rw [if_neg (by omega)]⟩
    · show VX12_copy_L147 K (m + 1) v (nI n) (nI a) (nI b) (nI n)
      rw [VX12_copy_L147, if_pos (nI_le (Nat.le_refl _) (by omega))]
      refine hK v h.1 (fun j => ?_)
      rw [h.2 j]
      by_cases hc : b ≤ j ∧ j < b + n
      · rw [if_pos hc, if_pos (by omega)]
      · rw [if_neg hc, if_neg (by omega)]
    · show VX12_copy_L147 K (m + 1) v (nI n) (nI a) (nI b) (nI i)
      rw [VX12_copy_L147, if_neg (nI_ge hi (by omega)), if_neg (nI_ge (by omega) (by omega)), show nI n - 1 = nI (n - 1) from pk_sub (b := 1) (by omega), pk_sub (by omega)]
      unfold VX12_copy_b173
      rw [nI_add, nI_add, nI_clamp (by omega), nI_clamp (by omega)]
      refine ⟨vp_in_nI (by omega) (by decide), vp_in_nI (by omega) (by decide), fun u e x ex => ?_⟩
      rw [ex, nI_1]
      refine go u ⟨by rw [e]; exact agr.up h.1 (by omega), fun j => ?_⟩
      have hsrc : v 12 (a + (n - 1 - i)) = τ 12 (a + (n - 1 - i)) := by rw [h.2, if_neg (by omega)]
      rw [e, hup_ap, if_pos rfl, hsrc]
      by_cases hj : j = b + (n - 1 - i)
      · rw [if_pos hj, if_pos (by omega), hj, Nat.add_sub_cancel_left]
      · rw [if_neg hj, h.2 j]
        by_cases hc : b + n - i ≤ j ∧ j < b + n
        · rw [if_pos hc, if_pos (by omega)]
        · rw [if_neg hc, if_neg (by omega)]
theorem f_copy : ∀ σ τ, Inv σ τ → ∀ (a1 a2 a3 a4 a5 : Int32), VX11_copy (fun v u => VX12_copy (fun v' u' => v = v' ∧ Inv u u') τ a1 a2 a3 a4 a5) σ a1 a2 a3 a4 a5 := by
  intro σ τ hI a1 a2 a3 a4 a5
  obtain ⟨T, X, L, Z, hA, hT, hP, hC, hS, hJ, hW⟩ := id hI
  unfold VX11_copy
  rw [eX_isSheet, ite_b2i]
  by_cases g1 : rg a1 0 3
  rotate_left
  · rw [if_neg g1]
    try dsimp only
    unfold VX12_copy
    rw [eM_in, ite_b2i, if_neg g1]
    exact ⟨rfl, hI⟩
  rw [if_pos g1, eX_isSheet, ite_b2i]
  by_cases g3 : rg a3 0 3
  rotate_left
  · rw [if_neg g3]
    try dsimp only
    unfold VX12_copy
    rw [eM_in, ite_b2i, if_pos g1, eM_in, ite_b2i, if_neg g3]
    exact ⟨rfl, hI⟩
  rw [if_pos g3]
  obtain ⟨s, hs, rfl⟩ := rg_nI (N := 3) (by decide) g1
  obtain ⟨o, ho, rfl⟩ := rg_nI (N := 3) (by decide) g3
  have hvs : vp_in (nI s) 4 := vp_in_nI (by omega) (by decide)
  have hvo : vp_in (nI o) 4 := vp_in_nI (by omega) (by decide)
  obtain ⟨⟨z, hz, z1, z2⟩, h2, h3, h4⟩ := hS s (by omega)
  obtain ⟨⟨y, hy, y1, y2⟩, k2, k3, k4⟩ := hS o (by omega)
  rw [nI_clamp (by omega), nI_clamp (by omega)]
  refine ⟨hvs, fun x7 e7 => ⟨hvo, fun x8 e8 => ?_⟩⟩
  subst e7 e8
  by_cases b0 : σ (41 + s) 1 = -1
  · rw [if_pos b0]
    try dsimp only
    unfold VX12_copy
    rw [eM_in, ite_b2i, if_pos g1, eM_in, ite_b2i, if_pos g3, nI_clamp (by omega), h2, if_pos b0]
    exact ⟨hvs, rfl, hI⟩
  rw [if_neg b0]
  by_cases b1 : σ (41 + o) 1 = -1
  · rw [if_pos b1]
    try dsimp only
    unfold VX12_copy
    rw [eM_in, ite_b2i, if_pos g1, eM_in, ite_b2i, if_pos g3, nI_clamp (by omega), nI_clamp (by omega), h2, k2, if_neg b0, if_pos b1]
    exact ⟨hvs, hvo, rfl, hI⟩
  rw [if_neg b1]
  by_cases b2 : σ (41 + s) 1 = σ (41 + o) 1
  rotate_left
  · rw [if_neg b2]
    try dsimp only
    unfold VX12_copy
    rw [eM_in, ite_b2i, if_pos g1, eM_in, ite_b2i, if_pos g3, nI_clamp (by omega), nI_clamp (by omega), h2, k2, if_neg b0, if_neg b1, if_neg b2]
    exact ⟨hvs, hvo, hvs, hvo, rfl, hI⟩
  rw [if_pos b2]
  have mEnd : ∀ K : Int32 → Hp → Prop, (∀ i j n, i + n ≤ z → j + n ≤ y → a2 = nI i → a4 = nI j → a5 = nI n → ∃ m, VX12_copy_L147 K m τ (nI n) (nI (40 * s + i)) (nI (40 * o + j)) 0) → ((¬ ∃ i j n, i + n ≤ z ∧ j + n ≤ y ∧ a2 = nI i ∧ a4 = nI j ∧ a5 = nI n) → K (-12) τ) → VX12_copy K τ (nI s) a2 (nI o) a4 a5 := fun K hK h0 => by
    unfold VX12_copy
    rw [eM_in, ite_b2i, if_pos g1, eM_in, ite_b2i, if_pos g3, nI_clamp (by omega), nI_clamp (by omega), h2, k2, z2, y2, if_neg b0, if_neg b1, if_pos b2]
    refine ⟨hvs, hvo, hvs, hvo, ?_⟩
    by_cases n1 : a5 < 0
    · rw [if_pos n1]; exact h0 (fun ⟨i, j, n, hi, hj, ei, ej, en⟩ => nI_pos (n := n) (by omega) (en ▸ n1))
    rw [if_neg n1]
    by_cases n2 : a2 < 0
    · rw [if_pos n2]; exact h0 (fun ⟨i, j, n, hi, hj, ei, ej, en⟩ => nI_pos (n := i) (by omega) (ei ▸ n2))
    rw [if_neg n2]
    by_cases n3 : a4 < 0
    · rw [if_pos n3]; exact h0 (fun ⟨i, j, n, hi, hj, ei, ej, en⟩ => nI_pos (n := j) (by omega) (ej ▸ n3))
    rw [if_neg n3]
    refine ⟨hvs, ?_⟩
    obtain ⟨n, hn, en⟩ := nI_of n1
    obtain ⟨i, hi, ei⟩ := nI_of n2
    obtain ⟨j, hj, ej⟩ := nI_of n3
    have uq : (∃ i j n, i + n ≤ z ∧ j + n ≤ y ∧ a2 = nI i ∧ a4 = nI j ∧ a5 = nI n) → i + n ≤ z ∧ j + n ≤ y := fun ⟨i', j', n', hi', hj', ei', ej', en'⟩ => by
      have := (nI_eq hi (by omega)).mp (ei.symm.trans ei')
      have := (nI_eq hj (by omega)).mp (ej.symm.trans ej')
      have := (nI_eq hn (by omega)).mp (en.symm.trans en')
      omega
    rw [ei, ej, en] at hK h0 ⊢
    by_cases n4 : nI z < nI i
    · rw [if_pos n4]
      refine h0 (fun q => ?_)
      have := (nI_ltI (by omega) hi).mp n4
      have := uq (by rw [ei, ej, en]; exact q)
      omega
    rw [if_neg n4]
    have hiz : i ≤ z := by
      rcases Nat.lt_or_ge z i with h | h
      · exact absurd (nI_lt h hi) n4
      · exact h
    refine ⟨hvo, ?_⟩
    by_cases n5 : nI y < nI j
    · rw [if_pos n5]
      refine h0 (fun q => ?_)
      have := (nI_ltI (by omega) hj).mp n5
      have := uq (by rw [ei, ej, en]; exact q)
      omega
    rw [if_neg n5]
    have hjy : j ≤ y := by
      rcases Nat.lt_or_ge y j with h | h
      · exact absurd (nI_lt h hj) n5
      · exact h
    refine ⟨hvs, ?_⟩
    rw [pk_sub hiz, pk_sub hjy]
    by_cases n6 : nI (z - i) < nI n
    · rw [if_pos n6]
      refine h0 (fun q => ?_)
      have := (nI_ltI (by omega) hn).mp n6
      have := uq (by rw [ei, ej, en]; exact q)
      omega
    rw [if_neg n6]
    have hin : i + n ≤ z := by
      rcases Nat.lt_or_ge (z - i) n with h | h
      · exact absurd (nI_lt h hn) n6
      · omega
    refine ⟨hvo, ?_⟩
    by_cases n7 : nI n ≤ nI (y - j)
    · rw [if_pos n7]
      have hjn := (nI_leI hn (by omega)).mp n7
      intro x17 e17 x18 e18
      rw [show (40 : Int32) * nI s = nI (40 * s) from pk_mul 40 s, nI_add] at e17
      rw [show (40 : Int32) * nI o = nI (40 * o) from pk_mul 40 o, nI_add] at e18
      rw [e17, e18]
      exact hK i j n hin (by omega) rfl rfl rfl
    · rw [if_neg n7]
      refine h0 (fun q => n7 ?_)
      have := uq (by rw [ei, ej, en]; exact q)
      exact nI_le (by omega) (by omega)
  refine x_holds ⟨by omega, by omega⟩ hz z1 (fun i n hin ea eb => ?_) (fun hno => ?_)
  rotate_left
  · rw [if_pos rfl]
    exact mEnd _ (fun i j n hi _ e1 _ e3 => absurd ⟨i, n, hi, e1, e3⟩ hno) (fun _ => ⟨rfl, hI⟩)
  rw [if_neg (by decide)]
  refine x_holds ⟨by omega, by omega⟩ hy y1 (fun j n' hjn ec ed => ?_) (fun hno => ?_)
  rotate_left
  · rw [if_pos rfl]
    exact mEnd _ (fun i j n _ hj _ e2 e3 => absurd ⟨j, n, hj, e2, e3⟩ hno) (fun _ => ⟨rfl, hI⟩)
  rw [if_neg (by decide)]
  obtain rfl : n' = n := (nI_eq (by omega) (by omega)).mp (ed.symm.trans eb)
  intro x18 e18 x19 e19
  obtain rfl : x18 = 45 + s := by omega
  obtain rfl : x19 = 45 + o := by omega
  rw [ea, eb, ec, nI_clamp (by omega), nI_clamp (by omega), nI_clamp (by omega)]
  refine ⟨nI_pos (by omega), nI_pos (by omega), nI_pos (by omega), by omega, by omega, fun u20 e20 => ?_⟩
  rw [ea, eb, ec] at mEnd
  refine mEnd _ (fun i' j' m hi' hj' e1 e2 e3 => ?_) (fun q => absurd ⟨i, j, n', hin, hjn, rfl, rfl, rfl⟩ q)
  obtain rfl : i = i' := (nI_eq (by omega) (by omega)).mp e1
  obtain rfl : j = j' := (nI_eq (by omega) (by omega)).mp e2
  obtain rfl : n' = m := (nI_eq (by omega) (by omega)).mp e3
  refine m_copyL (by omega) (by omega) (fun v am hv => ⟨rfl, hI.shs ?_ (am.sub fun k i h => by omega) (fun k hk => ?_)⟩)
  · rw [e20]; exact agr.set agr.rf (fun i => by omega)
  · obtain ⟨c1, c2, c3, c4⟩ := hS k hk
    have r41 : u20 (41 + k) = σ (41 + k) := by rw [e20]; unfold hset; rw [if_neg (by omega)]
    rw [r41, am 11 k (by omega), am 10 k (by omega)]
    refine ⟨c1, c2, c3, fun p hp => ?_⟩
    rw [hv, e20, hset_ap]
    by_cases hko : k = o
    · subst hko
      rw [if_pos rfl]
      by_cases hc : 40 * k + j ≤ 40 * k + p ∧ 40 * k + p < 40 * k + j + n'
      · rw [if_pos hc, pk_cpy_in (by omega) (by omega), show 40 * s + i + (40 * k + p - (40 * k + j)) = 40 * s + (i + (p - j)) by omega]
        exact h4 _ (by omega)
      · rw [if_neg hc, pk_cpy_out (by omega)]
        exact c4 p hp
    · rw [if_neg (by omega), if_neg (by omega)]
      exact c4 p hp
