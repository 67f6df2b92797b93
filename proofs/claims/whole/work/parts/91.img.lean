/-! ===== image, back, feed ===== -/
theorem x_become {K : Hp → Prop} {σ : Hp} {o a : Nat} (ho : 1 ≤ o ∧ o < 3) (ha : 1 ≤ a ∧ a < 3) (hoa : o ≠ a) (hK : ∀ u, agr (fun k _ => k ≠ o ∧ ¬ (4 * o ≤ k + 1 ∧ k + 1 < 4 * o + 4)) σ u → (∀ i, i < 6 → u o i = σ a i) → (∀ j i, j < 4 → i < 5 → u (3 + 4 * (o - 1) + j) i = σ (3 + 4 * (a - 1) + j) i) → K u) : VX3_become K σ o a := by
  unfold VX3_become
  refine ⟨ho, ha, fun u1 e1 u2 e2 u3 e3 u4 e4 u5 e5 u6 e6 x7 h7 x8 h8 => ?_⟩
  refine ⟨by decide, by decide, by decide, by decide, by decide, fun u9 e9 x10 h10 x11 h11 => ⟨by decide, by decide, by decide, by decide, by decide, fun u12 e12 x13 h13 x14 h14 => ⟨by decide, by decide, by decide, by decide, by decide, fun u15 e15 x16 h16 x17 h17 => ⟨by decide, by decide, by decide, by decide, by decide, fun u18 e18 => ?_⟩⟩⟩⟩
  have n6 : ∀ k, k ≠ o → u6 k = σ k := fun k hk => by
    rw [e6, hup_row hk, e5, hup_row hk, e4, hup_row hk, e3, hup_row hk, e2, hup_row hk, e1, hup_row hk]
  have cp : ∀ (f g : Nat → Int32) (i : Nat), i < 5 → va_cpy f g (0 : Int32).toNatClampNeg (0 : Int32).toNatClampNeg (5 : Int32).toNatClampNeg i = f i := fun f g i hi => by
    have := pk_cpy_in (f := f) (g := g) (sp := (0 : Int32).toNatClampNeg) (dp := (0 : Int32).toNatClampNeg) (n := (5 : Int32).toNatClampNeg) (j := i) (Nat.zero_le i) hi
    rw [this]
    congr 1
    show 0 + (i - 0) = i
    omega
  have r9 : ∀ k, k ≠ x8 → u9 k = u6 k := fun k hk => by rw [e9]; unfold hset; rw [if_neg hk]
  have r12 : ∀ k, k ≠ x11 → u12 k = u9 k := fun k hk => by rw [e12]; unfold hset; rw [if_neg hk]
  have r15 : ∀ k, k ≠ x14 → u15 k = u12 k := fun k hk => by rw [e15]; unfold hset; rw [if_neg hk]
  have r18 : ∀ k, k ≠ x17 → u18 k = u15 k := fun k hk => by rw [e18]; unfold hset; rw [if_neg hk]
  have s9 : ∀ i, i < 5 → u9 x8 i = u6 x7 i := fun i hi => by rw [e9, hset_ap, if_pos rfl, cp _ _ i hi]
  have s12 : ∀ i, i < 5 → u12 x11 i = u9 x10 i := fun i hi => by rw [e12, hset_ap, if_pos rfl, cp _ _ i hi]
  have s15 : ∀ i, i < 5 → u15 x14 i = u12 x13 i := fun i hi => by rw [e15, hset_ap, if_pos rfl, cp _ _ i hi]
  have s18 : ∀ i, i < 5 → u18 x17 i = u15 x16 i := fun i hi => by rw [e18, hset_ap, if_pos rfl, cp _ _ i hi]
  have q6 : ∀ i, i < 6 → u6 o i = σ a i := fun i hi => by
    have na : a ≠ o := fun q => hoa q.symm
    have f1 : u1 a = σ a := by rw [e1, hup_row na]
    have f2 : u2 a = σ a := by rw [e2, hup_row na, f1]
    have f3 : u3 a = σ a := by rw [e3, hup_row na, f2]
    have f4 : u4 a = σ a := by rw [e4, hup_row na, f3]
    have f5 : u5 a = σ a := by rw [e5, hup_row na, f4]
    rw [f5] at e6
    rw [f4] at e5
    rw [f3] at e4
    rw [f2] at e3
    rw [f1] at e2
    rcases (show i = 0 ∨ i = 1 ∨ i = 2 ∨ i = 3 ∨ i = 4 ∨ i = 5 by omega) with rfl | rfl | rfl | rfl | rfl | rfl
    · rw [e6, hup_col (by decide), e5, hup_col (by decide), e4, hup_col (by decide), e3, hup_col (by decide), e2, hup_col (by decide), e1, hup_self]
    · rw [e6, hup_col (by decide), e5, hup_col (by decide), e4, hup_col (by decide), e3, hup_col (by decide), e2, hup_self]
    · rw [e6, hup_col (by decide), e5, hup_col (by decide), e4, hup_col (by decide), e3, hup_self]
    · rw [e6, hup_col (by decide), e5, hup_col (by decide), e4, hup_self]
    · rw [e6, hup_col (by decide), e5, hup_self]
    · rw [e6, hup_self]
  refine hK u18 (fun k i hk => ?_) (fun i hi => ?_) (fun j i hj hi => ?_)
  · rw [r18 k (by omega), r15 k (by omega), r12 k (by omega), r9 k (by omega), n6 k (by omega)]
  · rw [r18 o (by omega), r15 o (by omega), r12 o (by omega), r9 o (by omega)]; exact q6 i hi
  · rcases (show j = 0 ∨ j = 1 ∨ j = 2 ∨ j = 3 by omega) with rfl | rfl | rfl | rfl
    · rw [show 3 + 4 * (o - 1) + 0 = x8 by omega, show 3 + 4 * (a - 1) + 0 = x7 by omega, r18 x8 (by omega), r15 x8 (by omega), r12 x8 (by omega), s9 i hi, n6 x7 (by omega)]
    · rw [show 3 + 4 * (o - 1) + 1 = x11 by omega, show 3 + 4 * (a - 1) + 1 = x10 by omega, r18 x11 (by omega), r15 x11 (by omega), s12 i hi, r9 x10 (by omega), n6 x10 (by omega)]
    · rw [show 3 + 4 * (o - 1) + 2 = x14 by omega, show 3 + 4 * (a - 1) + 2 = x13 by omega, r18 x14 (by omega), s15 i hi, r12 x13 (by omega), r9 x13 (by omega), n6 x13 (by omega)]
    · rw [show 3 + 4 * (o - 1) + 3 = x17 by omega, show 3 + 4 * (a - 1) + 3 = x16 by omega, s18 i hi, r15 x16 (by omega), r12 x16 (by omega), r9 x16 (by omega), n6 x16 (by omega)]
theorem m_image {K : Int32 → Hp → Prop} {τ : Hp} (hK : ∀ u, agr (fun k i => k ≠ 9 ∧ ¬ (k = 0 ∧ (i = 13 ∨ i = 14 ∨ i = 15))) τ u → u 0 13 = 1 → u 0 14 = τ 0 2 → u 0 15 = τ 0 12 → (∀ k, k < 3 → u 9 k = τ 1 k) → u 9 3 = τ 0 1 → (∀ t, t < 5 → u 9 (4 + t) = τ 4 t ∧ u 9 (9 + t) = τ 5 t) → K (τ 0 2) u) : VX12_image K τ := by
  unfold VX12_image
  intro u1 e1 u2 e2 u3 e3
  have a3 : agr (fun k i => ¬ (k = 0 ∧ (i = 13 ∨ i = 14 ∨ i = 15))) τ u3 := by
    rw [e3, e2, e1]; exact agr.up (agr.up (agr.up agr.rf (by omega)) (by omega)) (by omega)
  have b13 : u3 0 13 = 1 := by rw [e3, hup_col (by decide), e2, hup_col (by decide), e1, hup_self]
  have b14 : u3 0 14 = τ 0 2 := by rw [e3, hup_col (by decide), e2, hup_self, e1, hup_col (by decide)]
  have b15 : u3 0 15 = τ 0 12 := by rw [e3, hup_self, e2, hup_col (by decide), e1, hup_col (by decide)]
  refine lpN (S := Hp) (fun n s i => VX12_image_L23 K n s (nI i)) (fun i s => agr (fun k _ => k ≠ 9) u3 s ∧ ∀ k, k < i → s 9 k = τ 1 k) 3 (fun n s h => ?_) (fun n i s hi h go => ?_) u3 ⟨agr.rf, fun k hk => absurd hk (Nat.not_lt_zero k)⟩
  · show VX12_image_L23 K (n + 1) s (nI 3)
    obtain ⟨a, hs⟩ := h
    rw [VX12_image_L23, if_pos (show (3 : Int32) ≤ nI 3 by decide)]
    intro u5 e5
    have a5 : agr (fun k _ => k ≠ 9) u3 u5 := by rw [e5]; exact agr.up a (by omega)
    refine lpN (S := Hp) (fun n s i => VX12_image_L58 K n s (nI i)) (fun i s => agr (fun k _ => k ≠ 9) u3 s ∧ (∀ k, k < 4 → s 9 k = u5 9 k) ∧ ∀ t, t < i → s 9 (4 + t) = τ 4 t ∧ s 9 (9 + t) = τ 5 t) 5 (fun n s h => ?_) (fun n i s hi h go => ?_) u5 ⟨a5, fun k _ => rfl, fun k hk => absurd hk (Nat.not_lt_zero k)⟩
    · show VX12_image_L58 K (n + 1) s (nI 5)
      obtain ⟨a', hs4, hst⟩ := h
      rw [VX12_image_L58, if_pos (show (5 : Int32) ≤ nI 5 by decide), a' 0 2 (by decide), a3 0 2 (by decide)]
      refine hK s ((a3.sub fun k i h => by omega).tr (a'.sub fun k i h => by omega)) (by rw [a' 0 13 (by decide)]; exact b13) (by rw [a' 0 14 (by decide)]; exact b14) (by rw [a' 0 15 (by decide)]; exact b15) (fun k hk => ?_) ?_ hst
      · rw [hs4 k (by omega), e5, hup_col (by omega)]; exact hs k hk
      · rw [hs4 3 (by decide), e5, hup_self, a 0 1 (by decide), a3 0 1 (by decide)]
    · show VX12_image_L58 K (n + 1) s (nI i)
      obtain ⟨a', hs4, hst⟩ := h
      rw [VX12_image_L58, if_neg (show ¬ (5 : Int32) ≤ nI i from nI_ge (b := 5) hi (by omega)), show (4 : Int32) + nI i = nI (4 + i) from nI_add 4 i, show (9 : Int32) + nI i = nI (9 + i) from nI_add 9 i, nI_clamp (by omega), nI_clamp (by omega), nI_clamp (by omega)]
      refine ⟨vp_in_nI hi (by decide), vp_in_nI (by omega) (by decide), fun u9 e9 => ⟨vp_in_nI hi (by decide), vp_in_nI (by omega) (by decide), fun u10 e10 x11 e11 => ?_⟩⟩
      rw [e11, nI_1]
      refine go u10 ⟨by rw [e10, e9]; exact agr.up (agr.up a' (by omega)) (by omega), fun k hk => ?_, fun t ht => ?_⟩
      · rw [e10, hup_col (by omega), e9, hup_col (by omega)]; exact hs4 k hk
      · by_cases hti : t = i
        · rw [e10, hup_col (by omega), hti, hup_self, e9, hup_self, hup_row (by decide), a' 4 i (by omega), a' 5 i (by omega), a3 4 i (by omega), a3 5 i (by omega)]
          exact ⟨rfl, rfl⟩
        · rw [e10, hup_col (by omega), hup_col (by omega), e9, hup_col (by omega), hup_col (by omega)]
          exact hst t (by omega)
  · show VX12_image_L23 K (n + 1) s (nI i)
    obtain ⟨a, hs⟩ := h
    rw [VX12_image_L23, if_neg (show ¬ (3 : Int32) ≤ nI i from nI_ge (b := 3) hi (by omega)), nI_clamp (by omega)]
    refine ⟨vp_in_nI hi (by decide), vp_in_nI (by omega) (by decide), fun u6 e6 x7 e7 => ?_⟩
    rw [e7, nI_1]
    refine go u6 ⟨by rw [e6]; exact agr.up a (by omega), fun k hk => ?_⟩
    by_cases hki : k = i
    · rw [e6, hki, hup_self, a 1 i (by omega), a3 1 i (by omega)]
    · rw [e6, hup_col hki]; exact hs k (by omega)
theorem m_back {K : Int32 → Hp → Prop} {τ : Hp} (h0 : ¬ τ 0 13 = 0) (hK : ∀ u, agr (fun k i => k ≠ 1 ∧ k ≠ 4 ∧ k ≠ 5 ∧ ¬ (k = 0 ∧ (i = 1 ∨ i = 2 ∨ i = 12))) τ u → u 0 2 = τ 0 14 → u 0 12 = τ 0 15 → (∀ k, k < 3 → u 1 k = τ 9 k) → u 0 1 = τ 9 3 → (∀ t, t < 5 → u 4 t = τ 9 (4 + t) ∧ u 5 t = τ 9 (9 + t)) → K (τ 0 14) u) : VX12_back K τ := by
  unfold VX12_back
  rw [if_neg h0]
  intro u2 e2 u3 e3
  have a3 : agr (fun k i => ¬ (k = 0 ∧ (i = 2 ∨ i = 12))) τ u3 := by
    rw [e3, e2]; exact agr.up (agr.up agr.rf (by omega)) (by omega)
  have b2 : u3 0 2 = τ 0 14 := by rw [e3, hup_col (by decide), e2, hup_self]
  have b12 : u3 0 12 = τ 0 15 := by rw [e3, hup_self, e2, hup_col (by decide)]
  refine lpN (S := Hp) (fun n s i => VX12_back_L28 K n s (nI i)) (fun i s => agr (fun k _ => k ≠ 1) u3 s ∧ ∀ k, k < i → s 1 k = τ 9 k) 3 (fun n s h => ?_) (fun n i s hi h go => ?_) u3 ⟨agr.rf, fun k hk => absurd hk (Nat.not_lt_zero k)⟩
  · show VX12_back_L28 K (n + 1) s (nI 3)
    obtain ⟨a, hs⟩ := h
    rw [VX12_back_L28, if_pos (show (3 : Int32) ≤ nI 3 by decide)]
    intro u5 e5
    have b1 : u5 0 1 = τ 9 3 := by rw [e5, hup_self, a 9 3 (by decide), a3 9 3 (by decide)]
    have a5 : agr (fun k i => k ≠ 1 ∧ ¬ (k = 0 ∧ i = 1)) u3 u5 := by rw [e5]; exact agr.up (a.sub fun k i h => by omega) (by omega)
    have n5 : u5 1 = s 1 := by rw [e5, hup_row (by decide)]
    refine lpN (S := Hp) (fun n s i => VX12_back_L63 K n s (nI i)) (fun i s => agr (fun k _ => k ≠ 4 ∧ k ≠ 5) u5 s ∧ ∀ t, t < i → s 4 t = τ 9 (4 + t) ∧ s 5 t = τ 9 (9 + t)) 5 (fun n s h => ?_) (fun n i s hi h go => ?_) u5 ⟨agr.rf, fun k hk => absurd hk (Nat.not_lt_zero k)⟩
    · show VX12_back_L63 K (n + 1) s (nI 5)
      obtain ⟨a', hst⟩ := h
      rw [VX12_back_L63, if_pos (show (5 : Int32) ≤ nI 5 by decide), a' 0 2 (by decide), a5 0 2 (by decide), b2]
      refine hK s (((a3.sub fun k i h => by omega).tr (a5.sub fun k i h => by omega)).tr (a'.sub fun k i h => by omega)) (by rw [a' 0 2 (by decide), a5 0 2 (by decide)]; exact b2) (by rw [a' 0 12 (by decide), a5 0 12 (by decide)]; exact b12) (fun k hk => ?_) ?_ hst
      · rw [a' 1 k (by omega), n5]; exact hs k hk
      · rw [a' 0 1 (by decide)]; exact b1
    · show VX12_back_L63 K (n + 1) s (nI i)
      obtain ⟨a', hst⟩ := h
      rw [VX12_back_L63, if_neg (show ¬ (5 : Int32) ≤ nI i from nI_ge (b := 5) hi (by omega)), show (4 : Int32) + nI i = nI (4 + i) from nI_add 4 i, show (9 : Int32) + nI i = nI (9 + i) from nI_add 9 i, nI_clamp (by omega), nI_clamp (by omega), nI_clamp (by omega)]
      refine ⟨vp_in_nI (by omega) (by decide), vp_in_nI hi (by decide), fun u9 e9 => ⟨vp_in_nI (by omega) (by decide), vp_in_nI hi (by decide), fun u10 e10 x11 e11 => ?_⟩⟩
      rw [e11, nI_1]
      refine go u10 ⟨by rw [e10, e9]; exact agr.up (agr.up a' (by omega)) (by omega), fun t ht => ?_⟩
      by_cases hti : t = i
      · rw [e10, hup_row (by decide), hti, hup_self, e9, hup_self, hup_row (by decide), a' 9 (4 + i) (by omega), a' 9 (9 + i) (by omega), a5 9 (4 + i) (by omega), a5 9 (9 + i) (by omega), a3 9 (4 + i) (by omega), a3 9 (9 + i) (by omega)]
        exact ⟨rfl, rfl⟩
      · rw [e10, hup_row (by decide), hup_col (by omega), e9, hup_col (by omega), hup_row (by decide)]
        exact hst t (by omega)
  · show VX12_back_L28 K (n + 1) s (nI i)
    obtain ⟨a, hs⟩ := h
    rw [VX12_back_L28, if_neg (show ¬ (3 : Int32) ≤ nI i from nI_ge (b := 3) hi (by omega)), nI_clamp (by omega)]
    refine ⟨vp_in_nI (by omega) (by decide), vp_in_nI hi (by decide), fun u6 e6 x7 e7 => ?_⟩
    rw [e7, nI_1]
    refine go u6 ⟨by rw [e6]; exact agr.up a (by omega), fun k hk => ?_⟩
    by_cases hki : k = i
    · rw [e6, hki, hup_self, a 9 i (by omega), a3 9 i (by omega)]
    · rw [e6, hup_col hki]; exact hs k (by omega)
theorem f_image : ∀ σ τ, Inv σ τ → ∀ (_ : Unit), VX11_image (fun v u => VX12_image (fun v' u' => v = v' ∧ Inv u u') τ) σ := by
  intro σ τ hI _
  obtain ⟨T, X, L, Z, hA, hT, hP, hC, hS, hJ, hW⟩ := id hI
  obtain ⟨q1, q2, q3, q4, q5, q6, q7, q8⟩ := hI.eqs
  have hT5 := hT.1
  unfold VX11_image
  refine x_become (o := 2) (a := 1) (by decide) (by decide) (by decide) (fun u2 ax hr hc => ?_)
  intro u3 e3
  have ax3 : agr (fun k i => k ≠ 2 ∧ ¬ (7 ≤ k ∧ k ≤ 10) ∧ ¬ (k = 0 ∧ i = 2)) σ u3 := by
    rw [e3]; exact agr.up (ax.sub fun k i h => by omega) (by omega)
  have r3 : ∀ k, k ≠ 0 → u3 k = u2 k := fun k hk => by rw [e3, hup_row hk]
  try dsimp only
  refine m_image (fun v am m13 m14 m15 ms m3 mt => ?_)
  refine ⟨by rw [ax3 1 5 (by decide)]; exact q7.symm, T, X, L, Z, hA.ag (ax3.sub fun k i h => by omega) (am.sub fun k i h => by omega), hT.ag (ax3.sub fun k i h => by omega) (am.sub fun k i h => by omega), hP.ag (ax3.sub fun k i h => by omega) (am.sub fun k i h => by omega), hC.ag hA.L.2 (ax3.sub fun k i h => by omega) (am.sub fun k i h => by omega), hS.ag (ax3.sub fun k i h => by omega) (am.sub fun k i h => by omega), ⟨?_, fun _ => ⟨T, L, Nat.le_refl _, hA.L.1, ?_, ?_, ?_, ?_, ?_, ?_, ?_, ?_, ?_, fun t ht => ?_⟩⟩, hW.ag (ax3.sub fun k i h => by omega) (am.sub fun k i h => by omega)⟩
  · rw [m13, e3, hup_self]
  · rw [r3 2 (by decide), hr 5 (by decide)]; exact hT.2.1
  · rw [m14]; exact hT.2.2.1
  · rw [r3 2 (by decide), hr 4 (by decide)]; exact hA.2.2.2.2.2.1
  · rw [m15]; exact hA.2.2.2.2.2.2.1
  · rw [r3 2 (by decide), hr 0 (by decide), ms 0 (by decide)]; exact q1
  · rw [r3 2 (by decide), hr 1 (by decide), ms 1 (by decide)]; exact q2
  · rw [r3 2 (by decide), hr 2 (by decide), ms 2 (by decide)]; exact q3
  · rw [r3 2 (by decide), hr 3 (by decide), m3]; exact q4
  · rw [r3 2 (by decide), hr 3 (by decide)]; exact hA.2.2.2.2.1
  · obtain ⟨k1, k2, k3, k4, k5, k6, k7, k8⟩ := hT.2.2.2 t ht
    obtain ⟨n1, n2⟩ := mt t (by omega)
    have c0 := hc 0 t (by decide) (by omega)
    have c1 := hc 1 t (by decide) (by omega)
    have c2 := hc 2 t (by decide) (by omega)
    have c3 := hc 3 t (by decide) (by omega)
    rw [n1, n2, r3 9 (by decide), r3 10 (by decide), r3 7 (by decide), r3 8 (by decide), ax3 3 t (by omega), ax3 4 t (by omega), show u2 7 t = σ 3 t from c0, show u2 8 t = σ 4 t from c1, show u2 9 t = σ 5 t from c2, show u2 10 t = σ 6 t from c3]
    exact ⟨k7, k8, k3, k4, rfl, rfl⟩
theorem f_back : ∀ σ τ, Inv σ τ → ∀ (_ : Unit), VX11_back (fun v u => VX12_back (fun v' u' => v = v' ∧ Inv u u') τ) σ := by
  intro σ τ hI _
  obtain ⟨T, X, L, Z, hA, hT, hP, hC, hS, hJ, hW⟩ := id hI
  obtain ⟨j1, j2⟩ := id hJ
  have hT5 := hT.1
  unfold VX11_back
  by_cases h0 : σ 0 2 = 0
  · rw [if_pos h0]
    try dsimp only
    unfold VX12_back
    rw [if_pos (by rw [j1]; exact h0)]
    exact ⟨rfl, hI⟩
  rw [if_neg h0]
  obtain ⟨TI, LI, i1, i2, i3, i4, i5, i6, i7, i8, i9, i10, i11, i12⟩ := j2 h0
  refine x_become (o := 1) (a := 2) (by decide) (by decide) (by decide) (fun u ax hr hc => ?_)
  have ax' : agr (fun k _ => k ≠ 1 ∧ ¬ (3 ≤ k ∧ k ≤ 6)) σ u := ax.sub fun k i h => by omega
  have hcc : ∀ t, t < 5 → u 3 t = σ 7 t ∧ u 4 t = σ 8 t ∧ u 5 t = σ 9 t ∧ u 6 t = σ 10 t := fun t ht => ⟨hc 0 t (by decide) ht, hc 1 t (by decide) ht, hc 2 t (by decide) ht, hc 3 t (by decide) ht⟩
  obtain ⟨h1, h2, h3, h4, h5, h6, h7, h8, h9, h10, h11⟩ := hA
  refine m_back (by rw [j1]; exact h0) (fun v am m2 m12 ms m1 mt => ?_)
  refine ⟨by rw [hr 5 (by decide), i3, i4], TI, X, LI, Z, ⟨?_, ?_, ?_, ?_, ?_, ?_, ?_, i2, h9, ?_, ?_⟩, ⟨by omega, ?_, ?_, fun t ht => ?_⟩, hP.ag (ax'.sub fun k i h => by omega) (am.sub fun k i h => by omega), hC.ag h9 (ax'.sub fun k i h => by omega) (am.sub fun k i h => by omega), hS.ag (ax'.sub fun k i h => by omega) (am.sub fun k i h => by omega), ⟨?_, fun _ => ⟨TI, LI, Nat.le_refl _, i2, ?_, ?_, ?_, ?_, ?_, ?_, ?_, ?_, ?_, fun t ht => ?_⟩⟩, hW.ag (ax'.sub fun k i h => by omega) (am.sub fun k i h => by omega)⟩
  · rw [hr 0 (by decide), ms 0 (by decide)]; exact i7
  · rw [hr 1 (by decide), ms 1 (by decide)]; exact i8
  · rw [hr 2 (by decide), ms 2 (by decide)]; exact i9
  · rw [hr 3 (by decide), m1]; exact i10
  · rw [hr 3 (by decide)]; exact i11
  · rw [hr 4 (by decide)]; exact i5
  · rw [m12]; exact i6
  · rw [ax' 0 5 (by decide)]; exact h10
  · rw [am 0 11 (by decide)]; exact h11
  · rw [hr 5 (by decide)]; exact i3
  · rw [m2]; exact i4
  · obtain ⟨k1, k2, k3, k4, k5, k6, k7, k8⟩ := hT.2.2.2 t (by omega)
    obtain ⟨o1, o2, o3, o4, o5, o6⟩ := i12 t ht
    obtain ⟨n1, n2⟩ := mt t (by omega)
    obtain ⟨c0, c1, c2, c3⟩ := hcc t (by omega)
    rw [c0, c1, c2, c3, o5, o6, n1, n2, am 2 t (by omega), am 3 t (by omega)]
    exact ⟨k1, k2, o3, o4, k5, k6, o1, o2⟩
  · rw [ax' 0 2 (by decide), am 0 13 (by decide)]; exact j1
  · rw [ax' 2 5 (by decide)]; exact i3
  · rw [am 0 14 (by decide)]; exact i4
  · rw [ax' 2 4 (by decide)]; exact i5
  · rw [am 0 15 (by decide)]; exact i6
  · rw [ax' 2 0 (by decide), am 9 0 (by decide)]; exact i7
  · rw [ax' 2 1 (by decide), am 9 1 (by decide)]; exact i8
  · rw [ax' 2 2 (by decide), am 9 2 (by decide)]; exact i9
  · rw [ax' 2 3 (by decide), am 9 3 (by decide)]; exact i10
  · rw [ax' 2 3 (by decide)]; exact i11
  · obtain ⟨o1, o2, o3, o4, o5, o6⟩ := i12 t ht
    obtain ⟨c0, c1, c2, c3⟩ := hcc t (by omega)
    rw [am 9 (4 + t) (by omega), am 9 (9 + t) (by omega), ax' 9 t (by omega), ax' 10 t (by omega), ax' 7 t (by omega), ax' 8 t (by omega), c0, c1]
    exact ⟨o1, o2, o3, o4, rfl, rfl⟩
