/-! ===== drawn, mean ===== -/
def loN (s : Nat) : Nat → Nat
  | 0 => s + 1
  | t + 1 => loN s t * 48271 % 2147483647
theorem loN_lt {s : Nat} (hs : s < 2 ^ 31 - 1) : ∀ t, loN s t < 2 ^ 31
  | 0 => by show s + 1 < 2 ^ 31; omega
  | t + 1 => by
    show loN s t * 48271 % 2147483647 < 2 ^ 31
    have := Nat.mod_lt (loN s t * 48271) (y := 2147483647) (by decide)
    omega
theorem loN_st {s t : Nat} (hs : s < 2 ^ 31 - 1) : jlrem (lN (loN s t) * 48271) 2147483647 = lN (loN s (t + 1)) := by
  have h := loN_lt hs t
  rw [show lN (loN s t) * 48271 = lN (loN s t * 48271) from lN_mul _ 48271]
  exact pk_lRem (b := 2147483647) (by omega) (by decide) (by decide)
theorem loN_w {s t : Nat} (hs : s < 2 ^ 31 - 1) : (jlrem (lN (loN s (t + 1))) 5).toInt32 = nI (loN s (t + 1) % 5) := by
  have h := loN_lt hs (t + 1)
  rw [show jlrem (lN (loN s (t + 1))) 5 = lN (loN s (t + 1) % 5) from pk_lRem (b := 5) (by omega) (by decide) (by decide), lN_i]
def drN (σ : Hp) (L n s : Nat) (c : Int32) : Nat → Nat := sm (fun t => if EN σ L t n (loN s (t + 1) % 5) = c then 1 else 0)
theorem drN_le {σ : Hp} {L n s : Nat} {c : Int32} {T : Nat} : drN σ L n s c T ≤ T := by
  have := sm_le (f := fun t => if EN σ L t n (loN s (t + 1) % 5) = c then 1 else 0) (b := 1) T (fun i _ => by
    show (if EN σ L i n (loN s (i + 1) % 5) = c then 1 else 0) ≤ 1
    split <;> omega)
  unfold drN
  omega
abbrev B53 (k _ : Nat) : Prop := k ≠ 37 ∧ k ≠ 49 ∧ k ≠ 53
theorem x_list {K : Hp → Prop} {σ τ u : Hp} {X L T n : Nat} (hA : IA σ τ X L) (hT : IT σ τ T) (hC : IC σ τ X) (hn : n < 2 ^ 31) (ha : agr NSx σ u) (hK : ∀ u', agr B53 u u' → (∀ t, t < T → ∀ w, w < 5 → u' 53 (5 * t + w) = EN σ L t n w) → K u') : VX11_listEnds K u (nI n) := by
  have hT5 := hT.1
  refine lpN (S := Hp) (fun m s i => VX11_listEnds_L2 K m s (nI n) (nI i)) (fun i s => agr B53 u s ∧ ∀ t, t < i → ∀ w, w < 5 → s 53 (5 * t + w) = EN σ L t n w) T (fun m s h => ?_) (fun m i s hi h go => ?_) u ⟨agr.rf, fun j hj => absurd hj (Nat.not_lt_zero j)⟩
  · show VX11_listEnds_L2 K (m + 1) s (nI n) (nI T)
    rw [VX11_listEnds_L2, h.1 1 5 (by decide), ha 1 5 (by decide), hT.2.1, if_pos (nI_le (Nat.le_refl _) (by omega))]
    exact hK s h.1 h.2
  · show VX11_listEnds_L2 K (m + 1) s (nI n) (nI i)
    obtain ⟨a, hs⟩ := h
    rw [VX11_listEnds_L2, a 1 5 (by decide), ha 1 5 (by decide), hT.2.1, if_neg (nI_ge hi (by omega))]
    refine lpN (S := Hp) (fun m' s w => VX11_listEnds_L15 K (VX11_listEnds_L2 K m) m' s (nI n) (nI i) (nI w)) (fun w s => agr B53 u s ∧ (∀ t, t < i → ∀ w, w < 5 → s 53 (5 * t + w) = EN σ L t n w) ∧ ∀ w', w' < w → s 53 (5 * i + w') = EN σ L i n w') 5 (fun m' s h => ?_) (fun m' w s hw h go2 => ?_) s ⟨a, hs, fun j hj => absurd hj (Nat.not_lt_zero j)⟩
    · show VX11_listEnds_L15 K (VX11_listEnds_L2 K m) (m' + 1) s (nI n) (nI i) (nI 5)
      rw [VX11_listEnds_L15, if_pos (show (5 : Int32) ≤ nI 5 by decide)]
      intro x3 e3
      rw [e3, nI_1]
      refine go s ⟨h.1, fun t ht w hw => ?_⟩
      by_cases hti : t = i
      · rw [hti]; exact h.2.2 w hw
      · exact h.2.1 t (by omega) w hw
    · show VX11_listEnds_L15 K (VX11_listEnds_L2 K m) (m' + 1) s (nI n) (nI i) (nI w)
      obtain ⟨a', hs1, hs2⟩ := h
      rw [VX11_listEnds_L15, if_neg (show ¬ (5 : Int32) ≤ nI w from nI_ge (b := 5) hw (by decide))]
      refine x_endOf hA hT hC hi hn hw (ha.tr (a'.sub fun k i h => by omega)) (fun u1 b1 => ?_)
      rw [show (5 : Int32) * nI i = nI (5 * i) from pk_mul 5 i, nI_add, nI_clamp (by omega)]
      refine ⟨vp_in_nI (by omega) (by decide), fun u6 e6 x7 e7 => ?_⟩
      rw [e7, nI_1]
      refine go2 u6 ⟨by rw [e6]; exact agr.up (a'.tr (b1.sub fun k i h => by omega)) (by omega), fun t ht w' hw' => ?_, fun w' hw' => ?_⟩
      · rw [e6, hup_col (by omega), b1 53 _ (by omega)]; exact hs1 t ht w' hw'
      · by_cases hww : w' = w
        · rw [e6, hww, hup_self]
        · rw [e6, hup_col (by omega), b1 53 _ (by omega)]; exact hs2 w' (by omega)
theorem x_drawn {K : Int32 → Hp → Prop} {σ τ u : Hp} {X L T n s : Nat} {c : Int32} (hA : IA σ τ X L) (hT : IT σ τ T) (hs : s < 2 ^ 30) (h15 : u 1 5 = σ 1 5) (hu : ∀ t, t < T → ∀ w, w < 5 → u 53 (5 * t + w) = EN σ L t n w) (hK : K (nI (drN σ L n s c T)) u) : VX11_countDrawn K u (nI s) c := by
  have hT5 := hT.1
  unfold VX11_countDrawn
  intro x1 e1
  rw [nI_1, nI_l (by omega)] at e1
  rw [e1]
  refine lpN (S := Int64 × Int32) (fun m q i => VX11_countDrawn_L11 K m u c q.1 q.2 (nI i)) (fun i q => q.1 = lN (loN s i) ∧ q.2 = nI (drN σ L n s c i)) T (fun m q h => ?_) (fun m i q hi h go => ?_) (lN (s + 1), 0) ⟨rfl, rfl⟩
  · show VX11_countDrawn_L11 K (m + 1) u c q.1 q.2 (nI T)
    rw [VX11_countDrawn_L11, h15, hT.2.1, if_pos (nI_le (Nat.le_refl _) (by omega)), h.2]
    exact hK
  · show VX11_countDrawn_L11 K (m + 1) u c q.1 q.2 (nI i)
    obtain ⟨h1, h2⟩ := h
    rw [VX11_countDrawn_L11, h15, hT.2.1, if_neg (nI_ge hi (by omega)), h1]
    intro x3 e3 x4 e4
    rw [loN_st (by omega)] at e3
    rw [e3, loN_w (by omega)] at e4
    have hw : loN s (i + 1) % 5 < 5 := Nat.mod_lt _ (by decide)
    rw [e4, show (5 : Int32) * nI i = nI (5 * i) from pk_mul 5 i, nI_add, nI_clamp (by omega), hu i hi _ hw]
    refine ⟨vp_in_nI (by omega) (by decide), ?_⟩
    have hst : drN σ L n s c (i + 1) = drN σ L n s c i + if EN σ L i n (loN s (i + 1) % 5) = c then 1 else 0 := rfl
    by_cases hc : EN σ L i n (loN s (i + 1) % 5) = c
    · rw [if_pos hc] at hst ⊢
      intro x8 e8 x9 e9
      rw [e9, nI_1]
      exact go (x3, x8) ⟨e3, by rw [e8, h2, nI_1, hst]⟩
    · rw [if_neg hc] at hst ⊢
      intro x8 e8 x9 e9
      rw [e9, nI_1]
      exact go (x3, x8) ⟨e3, by rw [e8, h2, hst]; exact nI_add _ 0⟩
theorem m_drawn {K : Int32 → Hp → Prop} {σ τ v : Hp} {X L T n s : Nat} {c : Int32} (hA : IA σ τ X L) (hT : IT σ τ T) (hC : IC σ τ X) (hn : n < 2 ^ 31) (hs : s < 2 ^ 30) (ha : agr NSm τ v) (hK : ∀ v', agr PSm v v' → K (nI (drN σ L n s c T)) v') : VX12_insideBy K v (nI s) (nI n) c := by
  have hT5 := hT.1
  unfold VX12_insideBy
  intro x1 e1
  rw [nI_l (by omega), lN_1] at e1
  rw [e1]
  refine lpN (S := Hp × Int64 × Int32) (fun m q i => VX12_insideBy_L12 K m q.1 (nI n) c q.2.1 q.2.2 (nI i)) (fun i q => agr PSm v q.1 ∧ q.2.1 = lN (loN s i) ∧ q.2.2 = nI (drN σ L n s c i)) T (fun m q h => ?_) (fun m i q hi h go => ?_) (v, lN (s + 1), 0) ⟨agr.rf, rfl, rfl⟩
  · show VX12_insideBy_L12 K (m + 1) q.1 (nI n) c q.2.1 q.2.2 (nI T)
    rw [VX12_insideBy_L12, h.1 0 2 (by decide), ha 0 2 (by decide), hT.2.2.1, if_pos (nI_le (Nat.le_refl _) (by omega)), h.2.2]
    exact hK _ h.1
  · show VX12_insideBy_L12 K (m + 1) q.1 (nI n) c q.2.1 q.2.2 (nI i)
    obtain ⟨a, h1, h2⟩ := h
    have av : agr NSm τ q.1 := fun k j hk => (a k j (by omega)).trans (ha k j hk)
    obtain ⟨ok, hq⟩ := x_okt hA hT hC hi hA.L.1
    obtain ⟨k1, k2, k3, k4, k5, k6, k7, k8⟩ := hT.2.2.2 i hi
    rw [VX12_insideBy_L12, av 0 2 (by decide), hT.2.2.1, if_neg (nI_ge hi (by omega)), h1]
    intro x3 e3
    rw [loN_st (by omega)] at e3
    rw [e3, loN_w (by omega), nI_clamp (by omega), av 4 i (by omega), k7]
    have hw : loN s (i + 1) % 5 < 5 := Nat.mod_lt _ (by decide)
    refine ⟨vp_in_nI (by omega) (by decide), fun u4 e4 u5 e5 => ?_⟩
    have a5 : agr N032 q.1 u5 := by rw [e5, e4]; exact agr.up (agr.up agr.rf (by omega)) (by omega)
    have hM : MBs σ (σ 1 1) L i u5 (σ 5 i, nI (loN s (i + 1) % 5)) := m_mbs hA hT hC hi hA.L.1 (fun k j hk => (a5 k j (by omega)).trans (av k j (by omega))) (by rw [a5 1 1 (by decide), av 1 1 (by decide)]; exact hA.2.1) (by rw [a5 0 12 (by decide), av 0 12 (by decide)]; exact hA.2.2.2.2.2.2.1) (by rw [e5, hup_col (by decide), e4, hup_self]) (by rw [e5, hup_self])
    refine m_goes (q := (σ 5 i, nI (loN s (i + 1) % 5))) ok ⟨hq.1, _, hw, rfl⟩ hn (by rw [a5 0 1 (by decide), av 0 1 (by decide)]; exact hA.2.2.2.1) hM (fun u7 a7 hM7 => ?_)
    rw [hM7.2.2.2.2.2.2.2.2.1]
    have aq : agr PSm v u7 := a.tr ((a5.sub fun k i h => by omega).tr a7)
    have hst : drN σ L n s c (i + 1) = drN σ L n s c i + if EN σ L i n (loN s (i + 1) % 5) = c then 1 else 0 := rfl
    by_cases hc : EN σ L i n (loN s (i + 1) % 5) = c
    · rw [if_pos hc] at hst
      rw [if_pos (show (OB σ (σ 1 1) L i (σ 5 i, nI (loN s (i + 1) % 5)) n).1 = c from hc)]
      intro x8 e8 x9 e9
      rw [e9, nI_1]
      exact go (u7, lN (loN s (i + 1)), x8) ⟨aq, rfl, by rw [e8, h2, nI_1, hst]⟩
    · rw [if_neg hc] at hst
      rw [if_neg (show ¬ (OB σ (σ 1 1) L i (σ 5 i, nI (loN s (i + 1) % 5)) n).1 = c from hc)]
      intro x8 e8 x9 e9
      rw [e9, nI_1]
      exact go (u7, lN (loN s (i + 1)), x8) ⟨aq, rfl, by rw [e8, h2, hst]; exact nI_add _ 0⟩
theorem eM_isDrawn {K : Int32 → Hp → Prop} {σ : Hp} {a b c : Int32} : VX12_isDrawn K σ a b c = K (b2i (rg a 0 99999 ∧ rg b 0 40 ∧ rg c 0 29)) σ := by
  unfold VX12_isDrawn
  rw [eM_in, ite_b2i]
  by_cases g1 : rg a 0 99999
  · rw [if_pos g1, eM_areSteps, ite_b2i]
    by_cases g2 : rg b 0 40
    · rw [if_pos g2, eM_isCell, ite_b2i]
      by_cases g3 : rg c 0 29
      · rw [if_pos g3, b2i_t ⟨g1, g2, g3⟩]
      · rw [if_neg g3, b2i_f (fun q => g3 q.2.2)]
    · rw [if_neg g2, b2i_f (fun q => g2 q.2.1)]
  · rw [if_neg g1, b2i_f (fun q => g1 q.1)]
theorem f_drawn : ∀ σ τ, Inv σ τ → ∀ (a1 a2 a3 : Int32), VX11_drawn (fun v u => VX12_drawn (fun v' u' => v = v' ∧ Inv u u') τ a1 a2 a3) σ a1 a2 a3 := by
  intro σ τ hI a1 a2 a3
  obtain ⟨T, X, L, Z, hA, hT, hP, hC, hS, hJ, hW⟩ := id hI
  have mBad : ∀ v, v = (-2 : Int32) → ¬ (rg a1 0 99999 ∧ rg a2 0 40 ∧ rg a3 0 29) → VX12_drawn (fun v' u' => v = v' ∧ Inv σ u') τ a1 a2 a3 := fun v hv hn => by
    unfold VX12_drawn
    rw [eM_isDrawn, ite_b2i, if_neg hn]
    exact ⟨hv, hI⟩
  unfold VX11_drawn
  rw [eX_isSeed, ite_b2i]
  by_cases g1 : rg a1 0 99999
  rotate_left
  · rw [if_neg g1]; exact mBad _ rfl (fun q => g1 q.1)
  rw [if_pos g1, eX_isBehind, ite_b2i]
  by_cases g2 : rg a2 0 40
  rotate_left
  · rw [if_neg g2]; exact mBad _ rfl (fun q => g2 q.2.1)
  rw [if_pos g2, eX_isCell, ite_b2i]
  by_cases g3 : rg a3 0 29
  rotate_left
  · rw [if_neg g3]; exact mBad _ rfl (fun q => g3 q.2.2)
  rw [if_pos g3]
  obtain ⟨s, hs, rfl⟩ := rg_nI (N := 99999) (by decide) g1
  obtain ⟨n, hn, rfl⟩ := rg_nI (N := 40) (by decide) g2
  refine x_list hA hT hC (by omega) agr.rf (fun u1 b1 hl => ?_)
  refine x_drawn hA hT (by omega) (b1 1 5 (by decide)) hl ?_
  try dsimp only
  unfold VX12_drawn
  rw [eM_isDrawn, ite_b2i, if_pos ⟨g1, g2, g3⟩]
  exact m_drawn hA hT hC (by omega) (by omega) agr.rf (fun v' a' => ⟨rfl, hI.ag (b1.sub fun k i h => by omega) (a'.sub fun k i h => by omega)⟩)
theorem f_mean : ∀ σ τ, Inv σ τ → ∀ (a1 a2 a3 a4 : Int32), VX11_mean (fun v u => VX12_mean (fun v' u' => v = v' ∧ Inv u u') τ a1 a2 a3 a4) σ a1 a2 a3 a4 := by
  intro σ τ hI a1 a2 a3 a4
  obtain ⟨T, X, L, Z, hA, hT, hP, hC, hS, hJ, hW⟩ := id hI
  have hT5 := hT.1
  have mBad : ∀ v, v = (-4611686018427387904 : Int64) → ¬ (¬ a3 < 0 ∧ (rg a1 0 99999 ∧ rg (a3 / 100) 0 40 ∧ rg (jrem a3 100) 0 29) ∧ rg a2 1 40 ∧ rg a4 0 1) → VX12_mean (fun v' u' => v = v' ∧ Inv σ u') τ a1 a2 a3 a4 := fun v hv hn => by
    unfold VX12_mean
    by_cases m1 : a3 < 0
    · rw [if_pos m1]; exact ⟨hv, hI⟩
    rw [if_neg m1, eM_isDrawn, ite_b2i]
    by_cases m2 : rg a1 0 99999 ∧ rg (a3 / 100) 0 40 ∧ rg (jrem a3 100) 0 29
    rotate_left
    · rw [if_neg m2]; exact ⟨hv, hI⟩
    rw [if_pos m2, eM_in, ite_b2i]
    by_cases m3 : rg a2 1 40
    rotate_left
    · rw [if_neg m3]; exact ⟨hv, hI⟩
    rw [if_pos m3, eM_in, ite_b2i]
    by_cases m4 : rg a4 0 1
    rotate_left
    · rw [if_neg m4]; exact ⟨hv, hI⟩
    exact absurd ⟨m1, m2, m3, m4⟩ hn
  unfold VX11_mean
  rw [eX_isSeed, ite_b2i]
  by_cases g1 : rg a1 0 99999
  rotate_left
  · rw [if_neg g1]; exact mBad _ rfl (fun q => g1 q.2.1.1)
  rw [if_pos g1]
  by_cases n1 : a2 < 1
  · rw [if_pos n1]; exact mBad _ rfl (fun q => absurd q.2.2.1.1 (Int32.not_le.mpr n1))
  rw [if_neg n1]
  by_cases n2 : 40 < a2
  · rw [if_pos n2]; exact mBad _ rfl (fun q => absurd q.2.2.1.2 (Int32.not_le.mpr n2))
  rw [if_neg n2]
  have g2 : rg a2 1 40 := ⟨Int32.not_lt.mp n1, Int32.not_lt.mp n2⟩
  by_cases n3 : 0 ≤ a3
  rotate_left
  · rw [if_neg n3]; exact mBad _ rfl (fun q => q.1 (Int32.not_le.mp n3))
  rw [if_pos n3, eX_isBehind, ite_b2i]
  by_cases g3 : rg (a3 / 100) 0 40
  rotate_left
  · rw [if_neg g3]; exact mBad _ rfl (fun q => g3 q.2.1.2.1)
  rw [if_pos g3, eX_isCell, ite_b2i]
  by_cases g4 : rg (jrem a3 100) 0 29
  rotate_left
  · rw [if_neg g4]; exact mBad _ rfl (fun q => g4 q.2.1.2.2)
  rw [if_pos g4, eX_isChoice, ite_b2i]
  by_cases g5 : rg a4 0 1
  rotate_left
  · rw [if_neg g5]; exact mBad _ rfl (fun q => g5 q.2.2.2)
  rw [if_pos g5]
  obtain ⟨s, hs, rfl⟩ := rg_nI (N := 99999) (by decide) g1
  obtain ⟨n, hn, en⟩ := rg_nI (N := 40) (by decide) g3
  obtain ⟨k, hk, rfl⟩ := rg_nI (a := a2) (N := 40) (by decide) ⟨Int32.le_of_lt (Int32.not_le.mp fun q => n1 (Int32.lt_of_le_of_lt q (by decide))), g2.2⟩
  have hk0 : 0 < k := by
    rcases Nat.eq_zero_or_pos k with h | h
    · rw [h] at n1; exact absurd (show nI 0 < 1 by decide) n1
    · exact h
  have hle : ∀ i, i ≤ 40 → sm (fun i => drN σ L n (s + i) (jrem a3 100) T) i ≤ i * 5 := fun i _ => sm_le i (fun j _ => Nat.le_trans drN_le hT5)
  have fin : ∀ (v : Int64) (u : Hp), v = frV (sm (fun i => drN σ L n (s + i) (jrem a3 100) T) k) k a4 → agr NSx σ u → VX12_mean (fun v' u' => v = v' ∧ Inv u u') τ (nI s) (nI k) a3 a4 := by
    intro v u hv au
    unfold VX12_mean
    rw [if_neg (Int32.not_lt.mpr n3), eM_isDrawn, ite_b2i, if_pos ⟨g1, g3, g4⟩, eM_in, ite_b2i, if_pos g2, eM_in, ite_b2i, if_pos g5]
    refine lpN (S := Hp × Int64) (fun m q i => VX12_mean_L49 (fun v' u' => v = v' ∧ Inv u u') m q.1 (nI s) (nI k) a3 a4 q.2 (nI i)) (fun i q => agr PSm τ q.1 ∧ q.2 = lN (sm (fun i => drN σ L n (s + i) (jrem a3 100) T) i)) k (fun m q hh => ?_) (fun m i q hi hh go => ?_) (τ, 0) ⟨agr.rf, rfl⟩
    · show VX12_mean_L49 _ (m + 1) q.1 (nI s) (nI k) a3 a4 q.2 (nI k)
      have := hle k (by omega)
      rw [VX12_mean_L49, if_pos (nI_le (Nat.le_refl _) (by omega)), hh.2, nI_l (by omega)]
      exact m_low (by omega) hk0 (by omega) g5 ⟨hv, hI.ag au (hh.1.sub fun k i h => by omega)⟩
    · show VX12_mean_L49 _ (m + 1) q.1 (nI s) (nI k) a3 a4 q.2 (nI i)
      obtain ⟨a, hq⟩ := hh
      rw [VX12_mean_L49, if_neg (nI_ge hi (by omega)), nI_add, en]
      refine m_drawn hA hT hC (by omega) (by omega) (a.sub fun k i h => by omega) (fun v' a' => ?_)
      intro x16 e16 x17 e17
      rw [e17, nI_1]
      have hd := drN_le (σ := σ) (L := L) (n := n) (s := s + i) (c := jrem a3 100) (T := T)
      exact go (v', x16) ⟨a.tr a', by rw [e16, hq, nI_l (by omega), lN_add]; rfl⟩
  rw [en]
  refine x_list hA hT hC (by omega) agr.rf (fun u1 b1 hl => ?_)
  have au1 : agr NSx σ u1 := b1.sub fun k i h => by omega
  generalize hKe : (fun (v : Int64) (u : Hp) => VX12_mean (fun v' u' => v = v' ∧ Inv u u') τ (nI s) (nI k) a3 a4) = K
  refine lpN (S := Int32) (fun m q i => VX11_mean_L72 K m u1 (nI s) (nI k) a3 a4 q (nI i)) (fun i q => q = nI (sm (fun i => drN σ L n (s + i) (jrem a3 100) T) i)) k (fun m q hh => ?_) (fun m i q hi hh go => ?_) 0 rfl
  · show VX11_mean_L72 K (m + 1) u1 (nI s) (nI k) a3 a4 q (nI k)
    have := hle k (by omega)
    rw [VX11_mean_L72, if_pos (nI_le (Nat.le_refl _) (by omega)), hh]
    subst hKe
    exact x_frac (by omega) hk0 (by omega) (fin _ _ rfl au1)
  · show VX11_mean_L72 K (m + 1) u1 (nI s) (nI k) a3 a4 q (nI i)
    rw [VX11_mean_L72, if_neg (nI_ge hi (by omega)), nI_add]
    refine x_drawn hA hT (by omega) (b1 1 5 (by decide)) hl ?_
    intro x23 e23 x24 e24
    rw [e24, nI_1]
    exact go x23 (by rw [e23, hh, nI_add]; rfl)
