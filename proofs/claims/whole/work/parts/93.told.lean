/-! ===== film, judge, times, laws ===== -/
theorem f_film : ∀ σ τ, Inv σ τ → ∀ (a1 a2 : Int32), VX11_film (fun v u => VX12_film (fun v' u' => v = v' ∧ Inv u u') τ a1 a2) σ a1 a2 := by
  intro σ τ hI a1 a2
  obtain ⟨T, X, L, Z, hA, hT, hP, hC, hS, hJ, hW⟩ := id hI
  have hT5 := hT.1
  unfold VX11_film
  rw [eX_isSheet, ite_b2i]
  by_cases g1 : rg a1 0 3
  rotate_left
  · rw [if_neg g1]
    try dsimp only
    unfold VX12_film
    rw [eM_in, ite_b2i, if_neg g1]
    exact ⟨rfl, hI⟩
  rw [if_pos g1, eX_isBehind, ite_b2i]
  by_cases g2 : rg a2 0 40
  rotate_left
  · rw [if_neg g2]
    try dsimp only
    unfold VX12_film
    rw [eM_in, ite_b2i, if_pos g1, eM_areSteps, ite_b2i, if_neg g2]
    exact ⟨rfl, hI⟩
  rw [if_pos g2]
  obtain ⟨s, hs, rfl⟩ := rg_nI (N := 3) (by decide) g1
  obtain ⟨n, hn, rfl⟩ := rg_nI (N := 40) (by decide) g2
  have hvs : vp_in (nI s) 4 := vp_in_nI (by omega) (by decide)
  rw [nI_clamp (by omega)]
  refine ⟨hvs, fun x7 e7 => ?_⟩
  subst e7
  have fin : ∀ (v : Int32) (u : Hp), v = nI T → agr (fun k _ => k ≠ 37 ∧ k ≠ 49 ∧ k ≠ 41 + s ∧ k ≠ 45 + s) σ u → u (41 + s) 1 = 2 → u (41 + s) 2 = nI T → (∀ i, i < 40 → u (45 + s) i = if i < T then (EQ σ (σ 1 1) L i n).1 else 0) → VX12_film (fun v' u' => v = v' ∧ Inv u u') τ (nI s) (nI n) := by
    intro v u hv ax b1 b2 b3
    unfold VX12_film
    rw [eM_in, ite_b2i, if_pos g1, eM_areSteps, ite_b2i, if_pos g2, nI_clamp (by omega)]
    refine ⟨hvs, fun u7 e7 => ⟨hvs, fun u8 e8 => ?_⟩⟩
    have t7 : u7 0 2 = nI T := by rw [e7, hup_row (by decide)]; exact hT.2.2.1
    rw [t7] at e8
    have a8 : agr (fun k _ => k ≠ 10 ∧ k ≠ 11) τ u8 := by rw [e8, e7]; exact agr.up (agr.up agr.rf (by omega)) (by omega)
    generalize hKe : (fun (v' : Int32) (u' : Hp) => v = v' ∧ Inv u u') = K
    refine lpN (S := Hp) (fun m w i => VX12_film_L41 K m w (nI s) (nI n) (nI i)) (fun i w => agr (fun k i => PSm k i ∧ k ≠ 12) u8 w ∧ ∀ j, w 12 j = if 40 * s ≤ j ∧ j < 40 * s + i then (if j - 40 * s < T then (EQ σ (σ 1 1) L (j - 40 * s) n).1 else 0) else τ 12 j) 40 (fun m w h => ?_) (fun m i w hi h go => ?_) u8 ⟨agr.rf, fun j => by rw [if_neg (by omega), a8 12 j (by omega)]⟩
    · show VX12_film_L41 K (m + 1) w (nI s) (nI n) (nI 40)
      obtain ⟨aw, hw⟩ := h
      rw [VX12_film_L41, if_pos (show (40 : Int32) ≤ nI 40 by decide), aw 0 2 (by decide), a8 0 2 (by decide), hT.2.2.1]
      subst hKe
      refine ⟨hv, ?_⟩
      have a37 : agr (fun k i => NSx k i ∧ ¬ (41 ≤ k ∧ k ≤ 48)) σ u := ax.sub fun k i h => by omega
      have am : agr (fun k i => NSm k i ∧ ¬ (10 ≤ k ∧ k ≤ 12)) τ w := (a8.sub fun k i h => by omega).tr (aw.sub fun k i h => by omega)
      obtain ⟨T0, X0, L0, Z0, hA0, hT0, hP0, hC0, hS0, hJ0, hW0⟩ := hI
      refine ⟨T0, X0, L0, Z0, hA0.ag (a37.sub fun k i h => by omega) (am.sub fun k i h => by omega), hT0.ag (a37.sub fun k i h => by omega) (am.sub fun k i h => by omega), hP0.ag (a37.sub fun k i h => by omega) (am.sub fun k i h => by omega), hC0.ag hA0.L.2 (a37.sub fun k i h => by omega) (am.sub fun k i h => by omega), ?_, hJ0.ag (a37.sub fun k i h => by omega) (am.sub fun k i h => by omega), hW0.ag (a37.sub fun k i h => by omega) (am.sub fun k i h => by omega)⟩
      intro k hk
      have w10 : w 10 k = if k = s then 2 else τ 10 k := by rw [aw 10 k (by omega), e8, hup_row (by decide), e7, hup_ap, if_pos rfl]
      have w11 : w 11 k = if k = s then nI T else τ 11 k := by rw [aw 11 k (by omega), e8, hup_ap, if_pos rfl, e7, hup_row (by decide)]
      rw [w10, w11]
      by_cases hks : k = s
      · rw [if_pos hks, if_pos hks, hks]
        refine ⟨⟨T, by omega, b2, rfl⟩, b1.symm, by rw [b1]; decide, fun i hi => ?_⟩
        rw [hw, if_pos (by omega), Nat.add_sub_cancel_left, b3 i hi]
      · obtain ⟨h1, h2, h3, h4⟩ := hS k hk
        rw [if_neg hks, if_neg hks, ax (41 + k) 2 (by omega), ax (41 + k) 1 (by omega)]
        refine ⟨h1, h2, h3, fun i hi => ?_⟩
        rw [hw, if_neg (by omega), ax (45 + k) i (by omega)]
        exact h4 i hi
    · show VX12_film_L41 K (m + 1) w (nI s) (nI n) (nI i)
      obtain ⟨aw, hw⟩ := h
      have a8w : agr (fun k i => PSm k i ∧ ¬ (10 ≤ k ∧ k ≤ 12)) τ w := (a8.sub fun k i h => by omega).tr (aw.sub fun k i h => by omega)
      have hidx : (40 : Int32) * nI s + nI i = nI (40 * s + i) := by rw [show (40 : Int32) * nI s = nI (40 * s) from pk_mul 40 s, nI_add]
      have hvx : vp_in (nI (40 * s + i)) 160 := vp_in_nI (by omega) (by decide)
      rw [VX12_film_L41, if_neg (show ¬ (40 : Int32) ≤ nI i from nI_ge (b := 40) hi (by decide)), a8w 0 2 (by decide), hT.2.2.1, hidx, nI_clamp (by omega)]
      by_cases hit : T ≤ i
      · rw [if_pos (nI_le hit (by omega))]
        refine ⟨hvx, fun u11 e11 x12 e12 => ?_⟩
        rw [e12, nI_1]
        refine go u11 ⟨by rw [e11]; exact agr.up aw (by omega), fun j => ?_⟩
        rw [e11, hup_ap, if_pos rfl]
        by_cases hj : j = 40 * s + i
        · rw [if_pos hj, if_pos (by omega), if_neg (by omega)]
        · rw [if_neg hj, hw j]
          by_cases hc : 40 * s ≤ j ∧ j < 40 * s + i
          · rw [if_pos hc, if_pos (show 40 * s ≤ j ∧ j < 40 * s + (i + 1) by omega)]
          · rw [if_neg hc, if_neg (show ¬ (40 * s ≤ j ∧ j < 40 * s + (i + 1)) by omega)]
      · rw [if_neg (nI_ge (by omega) (by omega))]
        have hiT : i < T := by omega
        obtain ⟨k1, k2, k3, k4, k5, k6, k7, k8⟩ := hT.2.2.2 i hiT
        refine m_cellBehind (N := σ 1 1) (R := L) hA hT hC hiT hA.L.1 (by omega) (a8w.sub fun k i h => by omega) (by rw [a8w 1 1 (by decide)]; exact hA.2.1) (by rw [a8w 0 12 (by decide)]; exact hA.2.2.2.2.2.2.1) (by rw [a8w 4 i (by omega), a8w 5 i (by omega), k7, k8]; exact ⟨k3, k4⟩) (fun w1 c1 _ => ?_)
        rw [a8w 4 i (by omega), a8w 5 i (by omega), k7, k8]
        refine ⟨hvx, fun u15 e15 x16 e16 => ?_⟩
        rw [e16, nI_1]
        refine go u15 ⟨by rw [e15]; exact agr.up (aw.tr (c1.sub fun k i h => by omega)) (by omega), fun j => ?_⟩
        rw [e15, hup_ap, if_pos rfl]
        by_cases hj : j = 40 * s + i
        · rw [if_pos hj, if_pos (by omega), if_pos (by omega), hj, Nat.add_sub_cancel_left]; rfl
        · rw [if_neg hj, c1 12 j (by omega), hw j]
          by_cases hc : 40 * s ≤ j ∧ j < 40 * s + i
          · rw [if_pos hc, if_pos (show 40 * s ≤ j ∧ j < 40 * s + (i + 1) by omega)]
          · rw [if_neg hc, if_neg (show ¬ (40 * s ≤ j ∧ j < 40 * s + (i + 1)) by omega)]
  refine x_shb (by omega) (fun u9 a9 b1 b2 b3 => ?_)
  rw [hT.2.1] at b2
  generalize hKe : (fun (v : Int32) (u : Hp) => VX12_film (fun v' u' => v = v' ∧ Inv u u') τ (nI s) (nI n)) = K
  refine lpN (S := Hp) (fun m w i => VX11_film_L39 K m w (nI s) (nI n) (nI i)) (fun i w => agr (fun k _ => k ≠ 37 ∧ k ≠ 49 ∧ k ≠ 45 + s) u9 w ∧ ∀ j, j < 40 → w (45 + s) j = if j < i then (EQ σ (σ 1 1) L j n).1 else 0) T (fun m w h => ?_) (fun m i w hi h go => ?_) u9 ⟨agr.rf, fun j hj => by rw [if_neg (Nat.not_lt_zero j)]; exact b3 j hj⟩
  · show VX11_film_L39 K (m + 1) w (nI s) (nI n) (nI T)
    obtain ⟨aw, hw⟩ := h
    rw [VX11_film_L39, aw 1 5 (by omega), a9 1 5 (by omega), hT.2.1, if_pos (nI_le (Nat.le_refl _) (by omega))]
    subst hKe
    exact fin _ _ rfl ((a9.sub fun k i h => by omega).tr (aw.sub fun k i h => by omega)) (by rw [aw (41 + s) 1 (by omega)]; exact b1) (by rw [aw (41 + s) 2 (by omega)]; exact b2) hw
  · show VX11_film_L39 K (m + 1) w (nI s) (nI n) (nI i)
    obtain ⟨aw, hw⟩ := h
    have a9w : agr (fun k _ => k ≠ 37 ∧ k ≠ 49 ∧ k ≠ 41 + s ∧ k ≠ 45 + s) σ w := (a9.sub fun k i h => by omega).tr (aw.sub fun k i h => by omega)
    obtain ⟨k1, k2, k3, k4, k5, k6, k7, k8⟩ := hT.2.2.2 i hi
    rw [VX11_film_L39, a9w 1 5 (by omega), hT.2.1, if_neg (nI_ge hi (by omega)), nI_clamp (by omega), nI_clamp (by omega)]
    refine ⟨hvs, fun x11 e11 x12 e12 => ?_⟩
    obtain rfl : x12 = 45 + s := by omega
    refine x_behind hA hT hC hi (by omega) (a9w.sub fun k i h => by omega) (by rw [a9w 5 i (by omega), a9w 6 i (by omega)]; exact ⟨k3, k4⟩) (fun u1 b1' h6 _ => ⟨rfl, ?_⟩)
    rw [a9w 5 i (by omega), a9w 6 i (by omega)] at h6
    refine ⟨vp_in_nI (by omega) (by decide), fun u15 e15 x16 e16 => ?_⟩
    rw [e16, nI_1]
    rw [h6] at e15
    refine go u15 ⟨by rw [e15]; exact agr.up (aw.tr (b1'.sub fun k i h => by omega)) (by omega), fun j hj => ?_⟩
    rw [e15, hup_ap, if_pos rfl]
    by_cases hji : j = i
    · rw [if_pos hji, if_pos (by omega), hji]; rfl
    · rw [if_neg hji, b1' (45 + s) j (by omega), hw j hj]
      by_cases hlt : j < i
      · rw [if_pos hlt, if_pos (by omega)]
      · rw [if_neg hlt, if_neg (by omega)]
/-- the first thing that is elsewhere than the sheet s tells, by the text R -/
def feP (σ : Hp) (R n s : Nat) (t : Nat) : Bool := decide (¬ (EQ σ (σ 1 1) R t n).1 = σ (45 + s) t)
def feV (σ : Hp) (R n s T : Nat) : Int32 := fiL (feP σ R n s) T 0
theorem fiL_none {P : Nat → Bool} : ∀ m i, (∀ k, i ≤ k → k < i + m → P k = false) → fiL P m i = -1
  | 0, _, _ => rfl
  | m + 1, i, h => by
    unfold fiL
    rw [if_neg (by rw [h i (Nat.le_refl _) (by omega)]; decide)]
    exact fiL_none m (i + 1) (fun k h1 h2 => h k (by omega) (by omega))
theorem fiL_m1 {P : Nat → Bool} {T : Nat} (hT : T < 1000) : fiL P T 0 = -1 ↔ ∀ k, k < T → P k = false := by
  constructor
  · intro h k hk
    rcases fiL_cs (P := P) T 0 with _ | ⟨j, _, hj, _, h3⟩
    · apply Bool.eq_false_iff.mpr
      intro hp
      -- the least one
      have ex : ∀ m, (∃ j, j ≤ m ∧ j < T ∧ P j = true ∧ ∀ i, i < j → P i = false) ∨ ∀ i, i ≤ m → i < T → P i = false := by
        intro m
        induction m with
        | zero =>
          by_cases h0 : P 0 = true
          · by_cases hz : 0 < T
            · exact Or.inl ⟨0, Nat.le_refl _, hz, h0, fun i hi => absurd hi (Nat.not_lt_zero i)⟩
            · exact Or.inr (fun i _ hi => by omega)
          · exact Or.inr (fun i hi _ => by rw [Nat.le_zero.mp hi]; exact Bool.eq_false_iff.mpr h0)
        | succ m ih =>
          rcases ih with ⟨j, h1, h2, h3, h4⟩ | ih
          · exact Or.inl ⟨j, by omega, h2, h3, h4⟩
          · by_cases h0 : P (m + 1) = true
            · by_cases hz : m + 1 < T
              · exact Or.inl ⟨m + 1, Nat.le_refl _, hz, h0, fun i hi => ih i (by omega) (by omega)⟩
              · exact Or.inr (fun i hi hi2 => ih i (by omega) hi2)
            · exact Or.inr (fun i hi hi2 => by
                by_cases he : i = m + 1
                · rw [he]; exact Bool.eq_false_iff.mpr h0
                · exact ih i (by omega) hi2)
      rcases ex k with ⟨j, h1, h2, h3, h4⟩ | h5
      · rw [fiL_hit h3 T 0 (by omega) (by omega) (fun i _ hi => h4 i hi)] at h
        exact nI_nm1 (by omega) h
      · rw [h5 k (Nat.le_refl _) hk] at hp; exact absurd hp (by decide)
    · rw [h3] at h; exact absurd h (nI_nm1 (by omega))
  · intro h
    exact fiL_none T 0 (fun k _ hk => h k (by omega))
theorem x_fe {K : Int32 → Hp → Prop} {σ τ u : Hp} {X L T R s n : Nat} (hA : IA σ τ X L) (hT : IT σ τ T) (hC : IC σ τ X) (hR : R < X) (hs : s < 4) (hn : n < 2 ^ 31) (ha : agr NSx σ u) (hK : ∀ u', agr BX u u' → K (feV σ R n s T) u') : VX11_firstElsewhere K u (nI s) (nI n) (19 + R) := by
  have hT5 := hT.1
  have hX6 := hA.L.2
  refine ⟨⟨by omega, by omega⟩, ?_⟩
  refine lpN (S := Hp) (fun m w i => VX11_firstElsewhere_L3 K (19 + R) m w (nI s) (nI n) (nI i)) (fun i w => agr BX u w ∧ ∀ t, t < i → feP σ R n s t = false) T (fun m w h => ?_) (fun m i w hi h go => ?_) u ⟨agr.rf, fun j hj => absurd hj (Nat.not_lt_zero j)⟩
  · show VX11_firstElsewhere_L3 K (19 + R) (m + 1) w (nI s) (nI n) (nI T)
    rw [VX11_firstElsewhere_L3, h.1 1 5 (by decide), ha 1 5 (by decide), hT.2.1, if_pos (nI_le (Nat.le_refl _) (by omega))]
    have := hK w h.1
    unfold feV at this
    rw [(fiL_m1 (by omega)).mpr h.2] at this
    exact this
  · show VX11_firstElsewhere_L3 K (19 + R) (m + 1) w (nI s) (nI n) (nI i)
    obtain ⟨aw, hn'⟩ := h
    obtain ⟨k1, k2, k3, k4, k5, k6, k7, k8⟩ := hT.2.2.2 i hi
    have auw : agr NSx σ w := ha.tr (aw.sub fun k i h => by omega)
    obtain ⟨ok, hq⟩ := x_okt hA hT hC hi hR
    rw [VX11_firstElsewhere_L3, auw 1 5 (by decide), hT.2.1, if_neg (nI_ge hi (by omega))]
    refine x_lift hA hT hi (auw.sub fun k i h => by omega) (fun u3 a3 hX => ⟨rfl, fun u4 e4 => ?_⟩)
    rw [auw 5 i (by omega), auw 6 i (by omega)] at hX
    have n4 : ∀ k, k ≠ 49 → u4 k = u3 k := fun k hk => by rw [e4, hup_row hk]
    have hX4 : XBs σ (σ 1 1) R i u4 (σ 5 i, σ 6 i) := by
      obtain ⟨x1, x2, x3, x4, x5, x6, x7, x8, x9, x10, x11⟩ := hX
      have r25 : u4 (25 + R) = σ (25 + R) := by rw [n4 _ (by omega)]; exact funext fun j => by rw [a3 _ j (by omega), auw _ j (by omega)]
      have r31 : u4 (31 + R) = σ (31 + R) := by rw [n4 _ (by omega)]; exact funext fun j => by rw [a3 _ j (by omega), auw _ j (by omega)]
      refine ⟨by rw [n4 1 (by decide)]; exact x1, by rw [n4 1 (by decide)]; exact x2, r25, r31, ?_, ?_, ?_, ?_, ?_, ?_, ?_⟩
      · rw [e4, hup_self]
      · rw [e4, hup_col (by decide)]; exact x6
      · rw [e4, hup_col (by decide)]; exact x7
      · rw [e4, hup_col (by decide)]; exact x8
      · rw [e4, hup_col (by decide)]; exact x9
      · rw [e4, hup_col (by decide)]; exact x10
      · rw [e4, hup_col (by decide)]; exact x11
    rw [n4 1 (by decide), a3 1 3 (by decide), auw 1 3 (by decide)]
    refine x_passAll ok hq hn hX4 (fun u6 a6 hX6 => ?_)
    have a46 : agr BX w u6 := by
      have q4 : agr BX w u4 := by rw [e4]; exact agr.up (a3.sub fun k i h => by omega) (by omega)
      exact q4.tr (a6.sub fun k i h => by omega)
    rw [nI_clamp (by omega), nI_clamp (by omega)]
    refine ⟨vp_in_nI (by omega) (by decide), fun x7 e7 x8 e8 => ?_⟩
    obtain rfl : x8 = 45 + s := by omega
    refine ⟨vp_in_nI (by omega) (by decide), ?_⟩
    have h6 : u6 49 6 = (EQ σ (σ 1 1) R i n).1 := hX6.2.2.2.2.2.2.2.2.2.1
    rw [h6, a46 (45 + s) i (by omega), auw (45 + s) i (by omega)]
    by_cases hc : (EQ σ (σ 1 1) R i n).1 = σ (45 + s) i
    · rw [if_pos hc]
      intro x10 e10
      rw [e10, nI_1]
      refine go u6 ⟨aw.tr a46, fun t ht => ?_⟩
      by_cases hti : t = i
      · rw [hti]; exact decide_eq_false (fun q => q hc)
      · exact hn' t (by omega)
    · rw [if_neg hc]
      have := hK u6 (aw.tr a46)
      unfold feV at this
      rw [fiL_hit (i := i) (decide_eq_true hc) T 0 (by omega) (by omega) (fun t _ ht => hn' t ht)] at this
      exact this
abbrev NM12 (k i : Nat) : Prop := NSm k i ∧ ¬ (k = 0 ∧ i = 12)
theorem m_fe {K : Int32 → Hp → Prop} {σ τ v : Hp} {X L T R s n : Nat} (hA : IA σ τ X L) (hT : IT σ τ T) (hC : IC σ τ X) (hS : IS σ τ) (hR : R < X) (hs : s < 4) (hn : n < 2 ^ 31) (ha : agr NM12 τ v) (hr : v 0 12 = nI R) (hK : ∀ v', agr PSm v v' → K (feV σ R n s T) v') : VX12_unlike K v (nI s) (nI n) := by
  have hT5 := hT.1
  refine lpN (S := Hp) (fun m w i => VX12_unlike_L2 K m w (nI s) (nI n) (nI i)) (fun i w => agr PSm v w ∧ ∀ t, t < i → feP σ R n s t = false) T (fun m w h => ?_) (fun m i w hi h go => ?_) v ⟨agr.rf, fun j hj => absurd hj (Nat.not_lt_zero j)⟩
  · show VX12_unlike_L2 K (m + 1) w (nI s) (nI n) (nI T)
    rw [VX12_unlike_L2, h.1 0 2 (by decide), ha 0 2 (by decide), hT.2.2.1, if_pos (nI_le (Nat.le_refl _) (by omega))]
    have := hK w h.1
    unfold feV at this
    rw [(fiL_m1 (by omega)).mpr h.2] at this
    exact this
  · show VX12_unlike_L2 K (m + 1) w (nI s) (nI n) (nI i)
    obtain ⟨aw, hn'⟩ := h
    obtain ⟨k1, k2, k3, k4, k5, k6, k7, k8⟩ := hT.2.2.2 i hi
    have avw : agr NM12 τ w := ha.tr (aw.sub fun k i h => by omega)
    rw [VX12_unlike_L2, avw 0 2 (by decide), hT.2.2.1, if_neg (nI_ge hi (by omega)), show (40 : Int32) * nI s = nI (40 * s) from pk_mul 40 s, nI_add, nI_clamp (by omega)]
    refine ⟨vp_in_nI (by omega) (by decide), ?_⟩
    refine m_cellBehind (N := σ 1 1) (R := R) hA hT hC hi hR hn (avw.sub fun k i h => by omega) (by rw [avw 1 1 (by decide)]; exact hA.2.1) (by rw [aw 0 12 (by decide)]; exact hr) (by rw [avw 4 i (by omega), avw 5 i (by omega), k7, k8]; exact ⟨k3, k4⟩) (fun w1 c1 _ => ?_)
    rw [avw 4 i (by omega), avw 5 i (by omega), k7, k8, avw 12 _ (by omega), (hS s hs).2.2.2 i (by omega)]
    by_cases hc : (EQ σ (σ 1 1) R i n).1 = σ (45 + s) i
    · rw [if_pos (show σ (45 + s) i = (OB σ (σ 1 1) R i (σ 5 i, σ 6 i) n).1 from hc.symm)]
      intro x10 e10
      rw [e10, nI_1]
      refine go w1 ⟨aw.tr c1, fun t ht => ?_⟩
      by_cases hti : t = i
      · rw [hti]; exact decide_eq_false (fun q => q hc)
      · exact hn' t (by omega)
    · rw [if_neg (show ¬ σ (45 + s) i = (OB σ (σ 1 1) R i (σ 5 i, σ 6 i) n).1 from fun q => hc q.symm)]
      have := hK w1 (aw.tr c1)
      unfold feV at this
      rw [fiL_hit (i := i) (decide_eq_true hc) T 0 (by omega) (by omega) (fun t _ ht => hn' t ht)] at this
      exact this
/-- why places are refused -/
def rfV (σ : Hp) (a : Int32) : Int32 := if rg a 0 3 then (if σ (41 + a.toNatClampNeg) 1 = -1 then -11 else if σ (41 + a.toNatClampNeg) 2 = σ 1 5 then 0 else -2) else -2
theorem x_ref {K : Int32 → Hp → Prop} {σ : Hp} {a : Int32} (hK : K (rfV σ a) σ) : VX11_refusalOfPlaces K σ a := by
  unfold VX11_refusalOfPlaces
  unfold rfV at hK
  rw [eX_isSheet, ite_b2i]
  by_cases g1 : rg a 0 3
  rotate_left
  · rw [if_neg g1] at hK ⊢; exact hK
  rw [if_pos g1] at hK ⊢
  obtain ⟨s, hs, rfl⟩ := rg_nI (N := 3) (by decide) g1
  have hvs : vp_in (nI s) 4 := vp_in_nI (by omega) (by decide)
  refine ⟨hvs, fun x4 e4 => ?_⟩
  subst e4
  by_cases b : σ (41 + (nI s).toNatClampNeg) 1 = -1
  · rw [if_pos b] at hK ⊢; exact hK
  rw [if_neg b] at hK ⊢
  refine ⟨hvs, fun x6 e6 => ?_⟩
  subst e6
  by_cases c : σ (41 + (nI s).toNatClampNeg) 2 = σ 1 5
  · rw [if_pos c] at hK ⊢; exact hK
  · rw [if_neg c] at hK ⊢; exact hK
theorem m_ref {K : Int32 → Hp → Prop} {σ τ : Hp} {T : Nat} {a : Int32} (hT : IT σ τ T) (hS : IS σ τ) (hK : K (rfV σ a) τ) : VX12_sheetWrong K τ a := by
  unfold VX12_sheetWrong
  unfold rfV at hK
  rw [eM_in, ite_b2i]
  by_cases g1 : rg a 0 3
  rotate_left
  · rw [if_neg g1] at hK ⊢; exact hK
  rw [if_pos g1] at hK ⊢
  obtain ⟨s, hs, rfl⟩ := rg_nI (N := 3) (by decide) g1
  have hvs : vp_in (nI s) 4 := vp_in_nI (by omega) (by decide)
  obtain ⟨⟨z, hz, z1, z2⟩, h2, h3, h4⟩ := hS s (by omega)
  rw [nI_clamp (by omega)] at hK ⊢
  refine ⟨hvs, ?_⟩
  rw [h2]
  by_cases b : σ (41 + s) 1 = -1
  · rw [if_pos b] at hK ⊢; exact hK
  rw [if_neg b] at hK ⊢
  refine ⟨hvs, ?_⟩
  rw [z2, ← z1, hT.2.2.1, ← hT.2.1]
  by_cases c : σ (41 + s) 2 = σ 1 5
  · rw [if_pos c] at hK ⊢; exact hK
  · rw [if_neg c] at hK ⊢; exact hK
theorem rf_s {σ : Hp} {a : Int32} (h : rfV σ a = 0) : ∃ s, s < 4 ∧ a = nI s := by
  unfold rfV at h
  by_cases g1 : rg a 0 3
  · obtain ⟨s, hs, e⟩ := rg_nI (N := 3) (by decide) g1
    exact ⟨s, by omega, e⟩
  · rw [if_neg g1] at h; exact absurd h (by decide)
theorem m_told {K : Int32 → Hp → Prop} {σ τ : Hp} {T : Nat} {a b : Int32} (hT : IT σ τ T) (hS : IS σ τ) (h1 : ¬ rfV σ a = 0 → K (rfV σ a) τ) (h2 : rfV σ a = 0 → ¬ rg b 0 40 → K (-7) τ) (h3 : rfV σ a = 0 → rg b 0 40 → K 0 τ) : VX12_toldWrong K τ a b := by
  unfold VX12_toldWrong
  refine m_ref hT hS ?_
  by_cases h : rfV σ a = 0
  · rw [if_pos h, eM_areSteps, ite_b2i]
    by_cases g : rg b 0 40
    · rw [if_pos g]; exact h3 h g
    · rw [if_neg g]; exact h2 h g
  · rw [if_neg h]; exact h1 h
theorem f_judge : ∀ σ τ, Inv σ τ → ∀ (a1 a2 : Int32), VX11_judge (fun v u => VX12_judge (fun v' u' => v = v' ∧ Inv u u') τ a1 a2) σ a1 a2 := by
  intro σ τ hI a1 a2
  obtain ⟨T, X, L, Z, hA, hT, hP, hC, hS, hJ, hW⟩ := id hI
  unfold VX11_judge
  refine x_ref ?_
  by_cases h : rfV σ a1 = 0
  · rw [if_pos h, eX_isBehind, ite_b2i]
    by_cases g : rg a2 0 40
    · rw [if_pos g]
      obtain ⟨s, hs, rfl⟩ := rf_s h
      obtain ⟨n, hn, rfl⟩ := rg_nI (N := 40) (by decide) g
      have hX6 := hA.L
      refine x_law hA agr.rf ⟨by omega, ?_⟩
      refine x_fe hA hT hC hA.L.1 hs (by omega) agr.rf (fun u au => ?_)
      try dsimp only
      unfold VX12_judge
      refine m_told hT hS (fun q => absurd h q) (fun _ q => absurd g q) (fun _ _ => ?_)
      rw [if_pos rfl]
      refine m_fe hA hT hC hS hA.L.1 hs (by omega) agr.rf hA.2.2.2.2.2.2.1 (fun v av => ⟨rfl, hI.ag (au.sub fun k i h => by omega) (av.sub fun k i h => by omega)⟩)
    · rw [if_neg g]
      try dsimp only
      unfold VX12_judge
      refine m_told hT hS (fun q => absurd h q) (fun _ _ => ?_) (fun _ q => absurd q g)
      rw [if_neg (by decide)]
      exact ⟨rfl, hI⟩
  · rw [if_neg h]
    try dsimp only
    unfold VX12_judge
    refine m_told hT hS (fun _ => ?_) (fun q => absurd q h) (fun q => absurd q h)
    rw [if_neg h]
    exact ⟨rfl, hI⟩
def laV (σ : Hp) (n s T : Nat) : Nat → Int32 := orb (fun R v => if feV σ R n s T = -1 then v ||| (1 <<< (nI R &&& 31)) else v ||| 0) 0
theorem feV_cs {σ : Hp} {R n s T : Nat} : feV σ R n s T = -1 ∨ ∃ k, k < T ∧ feV σ R n s T = nI k := by
  unfold feV
  rcases fiL_cs (P := feP σ R n s) T 0 with h | ⟨k, _, h2, _, h4⟩
  · exact Or.inl h
  · exact Or.inr ⟨k, by omega, h4⟩
theorem f_laws : ∀ σ τ, Inv σ τ → ∀ (a1 a2 : Int32), VX11_laws (fun v u => VX12_laws (fun v' u' => v = v' ∧ Inv u u') τ a1 a2) σ a1 a2 := by
  intro σ τ hI a1 a2
  obtain ⟨T, X, L, Z, hA, hT, hP, hC, hS, hJ, hW⟩ := id hI
  have hT5 := hT.1
  have hX6 := hA.L
  unfold VX11_laws
  refine x_ref ?_
  by_cases h : rfV σ a1 = 0
  rotate_left
  · rw [if_neg h]
    try dsimp only
    unfold VX12_laws
    refine m_told hT hS (fun _ => ?_) (fun q => absurd q h) (fun q => absurd q h)
    rw [if_neg h]
    exact ⟨rfl, hI⟩
  rw [if_pos h, eX_isBehind, ite_b2i]
  by_cases g : rg a2 0 40
  rotate_left
  · rw [if_neg g]
    try dsimp only
    unfold VX12_laws
    refine m_told hT hS (fun q => absurd h q) (fun _ _ => ?_) (fun _ q => absurd q g)
    rw [if_neg (by decide)]
    exact ⟨rfl, hI⟩
  rw [if_pos g]
  obtain ⟨s, hs, rfl⟩ := rf_s h
  obtain ⟨n, hn, rfl⟩ := rg_nI (N := 40) (by decide) g
  have fin : ∀ (v : Int32) (u : Hp), v = laV σ n s T X → agr NSx σ u → VX12_laws (fun v' u' => v = v' ∧ Inv u u') τ (nI s) (nI n) := by
    intro v u hv au
    unfold VX12_laws
    refine m_told hT hS (fun q => absurd h q) (fun _ q => absurd g q) (fun _ _ => ?_)
    rw [if_pos rfl]
    intro x4 e4
    generalize hKe : (fun (v' : Int32) (u' : Hp) => v = v' ∧ Inv u u') = K
    refine lpN (S := Hp × Int32) (fun m q i => VX12_laws_L25 K m q.1 (nI s) (nI n) x4 q.2 (nI i)) (fun i q => agr NM12 τ q.1 ∧ q.2 = laV σ n s T i) X (fun m q hh => ?_) (fun m i q hi hh go => ?_) (τ, 0) ⟨agr.rf, rfl⟩
    · show VX12_laws_L25 K (m + 1) q.1 (nI s) (nI n) x4 q.2 (nI X)
      obtain ⟨aq, hq⟩ := hh
      rw [VX12_laws_L25, aq 0 11 (by decide), hA.2.2.2.2.2.2.2.2.2.2, if_pos (nI_le (Nat.le_refl _) (by omega))]
      intro u6 e6
      subst hKe
      refine ⟨hv.trans hq.symm, hI.ag au (fun k i hk => ?_)⟩
      rw [e6, hup_ap]
      by_cases hk0 : k = 0
      · rw [if_pos hk0]
        by_cases hi12 : i = 12
        · rw [if_pos hi12, e4, hk0, hi12]
        · rw [if_neg hi12, hk0]; exact aq 0 i (by omega)
      · rw [if_neg hk0]; exact aq k i (by omega)
    · show VX12_laws_L25 K (m + 1) q.1 (nI s) (nI n) x4 q.2 (nI i)
      obtain ⟨aq, hq⟩ := hh
      rw [VX12_laws_L25, aq 0 11 (by decide), hA.2.2.2.2.2.2.2.2.2.2, if_neg (nI_ge hi (by omega))]
      intro u7 e7
      have a7 : agr NM12 τ u7 := by rw [e7]; exact agr.up aq (by omega)
      refine m_fe hA hT hC hS hi hs (by omega) a7 (by rw [e7, hup_self]) (fun v9 a9 => ?_)
      have hst : laV σ n s T (i + 1) = if feV σ i n s T = -1 then laV σ n s T i ||| (1 <<< (nI i &&& 31)) else laV σ n s T i ||| 0 := rfl
      by_cases hf : feV σ i n s T = -1
      · rw [if_pos hf] at hst ⊢
        intro x13 e13 x14 e14
        rw [e14, nI_1]
        exact go (v9, x13) ⟨a7.tr (a9.sub fun k i h => by omega), by rw [e13, hq]; exact hst.symm⟩
      · rw [if_neg hf] at hst ⊢
        intro x13 e13 x14 e14
        rw [e14, nI_1]
        exact go (v9, x13) ⟨a7.tr (a9.sub fun k i h => by omega), by rw [e13, hq]; exact hst.symm⟩
  generalize hKe : (fun (v : Int32) (u : Hp) => VX12_laws (fun v' u' => v = v' ∧ Inv u u') τ (nI s) (nI n)) = K
  refine lpN (S := Hp × Int32) (fun m q i => VX11_laws_L28 K m q.1 (nI s) (nI n) q.2 (nI i)) (fun i q => agr BX σ q.1 ∧ q.2 = laV σ n s T i) X (fun m q hh => ?_) (fun m i q hi hh go => ?_) (σ, 0) ⟨agr.rf, rfl⟩
  · show VX11_laws_L28 K (m + 1) q.1 (nI s) (nI n) q.2 (nI X)
    obtain ⟨aq, hq⟩ := hh
    rw [VX11_laws_L28, aq 0 5 (by decide), hA.2.2.2.2.2.2.2.2.2.1, if_pos (nI_le (Nat.le_refl _) (by omega))]
    subst hKe
    exact fin _ _ hq (aq.sub fun k i h => by omega)
  · show VX11_laws_L28 K (m + 1) q.1 (nI s) (nI n) q.2 (nI i)
    obtain ⟨aq, hq⟩ := hh
    rw [VX11_laws_L28, aq 0 5 (by decide), hA.2.2.2.2.2.2.2.2.2.1, if_neg (nI_ge hi (by omega)), nI_clamp (by omega)]
    refine ⟨vp_in_nI (by omega) (by decide), fun x8 e8 => ?_⟩
    subst e8
    refine x_fe hA hT hC hi hs (by omega) (aq.sub fun k i h => by omega) (fun u1 a1 => ?_)
    have hst : laV σ n s T (i + 1) = if feV σ i n s T = -1 then laV σ n s T i ||| (1 <<< (nI i &&& 31)) else laV σ n s T i ||| 0 := rfl
    rcases feV_cs (σ := σ) (R := i) (n := n) (s := s) (T := T) with hf | ⟨k, hk, hf⟩
    · rw [if_pos hf] at hst
      rw [if_neg (by rw [hf]; decide)]
      intro x13 e13 x14 e14
      rw [e14, nI_1]
      exact go (u1, x13) ⟨aq.tr a1, by rw [e13, hq]; exact hst.symm⟩
    · rw [if_neg (by rw [hf]; exact nI_nm1 (by omega))] at hst
      rw [if_pos (by rw [hf]; exact nI_pos' (by omega))]
      intro x13 e13 x14 e14
      rw [e14, nI_1]
      exact go (u1, x13) ⟨aq.tr a1, by rw [e13, hq]; exact hst.symm⟩
