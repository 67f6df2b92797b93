/-! ===== more calls ===== -/
theorem lpN {S : Type} (W : Nat → S → Nat → Prop) (I : Nat → S → Prop) (e : Nat) (hx : ∀ n s, I e s → W (n + 1) s e) (hs : ∀ n i s, i < e → I i s → (∀ s', I (i + 1) s' → W n s' (i + 1)) → W (n + 1) s i) (s : S) (h0 : I 0 s) : ∃ n, W n s 0 := by
  have key : ∀ m i s, i + m = e → I i s → W (m + 1) s i := by
    intro m
    induction m with
    | zero => intro i s h hI; obtain rfl : i = e := h; exact hx _ _ hI
    | succ m ih => intro i s h hI; exact hs _ _ _ (by omega) hI (fun s' hI' => ih (i + 1) s' (by omega) hI')
  exact ⟨e + 1, key e 0 s (Nat.zero_add _) h0⟩
theorem fi_none {P : Nat → Bool} (h : ∀ j, j < 41 → P j = false) : fi P = -1 := by
  rcases fi_cs P with h1 | ⟨k, h1, h2, h3⟩
  · exact h1
  · rw [h k (by omega)] at h2; exact absurd h2 (by decide)
theorem fiL_hit {P : Nat → Bool} {i : Nat} (hi : P i = true) : ∀ m j, j ≤ i → i < j + m → (∀ k, j ≤ k → k < i → P k = false) → fiL P m j = nI i
  | 0, j, h1, h2, _ => absurd h2 (by omega)
  | m + 1, j, h1, h2, h3 => by
    unfold fiL
    by_cases hj : j = i
    · rw [hj, if_pos hi]
    · rw [if_neg (by rw [h3 j (Nat.le_refl _) (by omega)]; decide)]
      exact fiL_hit hi m (j + 1) (by omega) (by omega) (fun k hk => h3 k (by omega))
theorem fi_hit {P : Nat → Bool} {i : Nat} (hi : P i = true) (h : i < 41) (hn : ∀ j, j < i → P j = false) : fi P = nI i := fiL_hit hi 41 0 (by omega) (by omega) (fun k _ hk => hn k hk)
/-! put, thing -/
theorem f_put : ∀ σ τ, Inv σ τ → ∀ (a1 a2 a3 : Int32), VX11_put (fun v u => VX12_put (fun v' u' => v = v' ∧ Inv u u') τ a1 a2 a3) σ a1 a2 a3 := by
  intro σ τ hI a1 a2 a3
  obtain ⟨T, X, L, Z, hA, hT, hP, hC, hS, hJ, hW⟩ := id hI
  have e1 := hI.eqs.1
  unfold VX11_put
  rw [eX_isThing, ite_b2i]
  by_cases h : 0 ≤ a1 ∧ a1 < σ 1 5
  rotate_left
  · rw [if_neg h]
    try dsimp only
    unfold VX12_put
    rw [eM_isThing, ite_b2i, if_neg (fun q => h ((thB hT).mpr ((thC hT).mp q)))]
    exact ⟨rfl, hI⟩
  have h' := (thC hT).mpr ((thB hT).mp h)
  rw [if_pos h, eX_isOpen, ite_b2i]
  by_cases g2 : rg a2 0 29 ∧ ¬ hasb (σ 1 0) a2
  rotate_left
  · rw [if_neg g2]
    try dsimp only
    unfold VX12_put
    rw [eM_isThing, ite_b2i, if_pos h', eM_isFree, e1, ite_b2i, if_neg g2]
    exact ⟨rfl, hI⟩
  rw [if_pos g2, eX_isWay, ite_b2i]
  by_cases g3 : rg a3 0 4
  rotate_left
  · rw [if_neg g3]
    try dsimp only
    unfold VX12_put
    rw [eM_isThing, ite_b2i, if_pos h', eM_isFree, e1, ite_b2i, if_pos g2, eM_in, ite_b2i, if_neg g3]
    exact ⟨rfl, hI⟩
  rw [if_pos g3]
  obtain ⟨t, ht, rfl⟩ := (thB hT).mp h
  have t5 : t < 5 := Nat.lt_of_lt_of_le ht hT.1
  have hv : vp_in (nI t) 5 := vp_in_nI t5 (by decide)
  obtain ⟨k1, k2, k3, k4, k5, k6, k7, k8⟩ := hT.2.2.2 t ht
  refine ⟨hv, fun x10 e10 => ⟨hv, fun u11 e11 => ⟨hv, fun u12 e12 => ?_⟩⟩⟩
  try dsimp only
  unfold VX12_put
  rw [eM_isThing, ite_b2i, if_pos h', eM_isFree, e1, ite_b2i, if_pos g2, eM_in, ite_b2i, if_pos g3]
  refine ⟨hv, fun y10 f10 => ⟨hv, fun w11 f11 => ⟨hv, fun w12 f12 => ?_⟩⟩⟩
  rw [nI_clamp (by omega)] at e10 e11 e12 f10 f11 f12
  have ax : agr (fun k _ => k ≠ 5 ∧ k ≠ 6) σ u12 := by
    rw [e12, e11]; exact agr.up (agr.up agr.rf (by omega)) (by omega)
  have am : agr (fun k _ => k ≠ 4 ∧ k ≠ 5) τ w12 := by
    rw [f12, f11]; exact agr.up (agr.up agr.rf (by omega)) (by omega)
  refine ⟨by rw [e10, f10]; exact k7.symm, T, X, L, Z, hA.ag (ax.sub fun k i h => by omega) (am.sub fun k i h => by omega), ?_, hP.ag (ax.sub fun k i h => by omega) (am.sub fun k i h => by omega), hC.ag hA.2.2.2.2.2.2.2.2.1 (ax.sub fun k i h => by omega) (am.sub fun k i h => by omega), hS.ag (ax.sub fun k i h => by omega) (am.sub fun k i h => by omega), hJ.ag (ax.sub fun k i h => by omega) (am.sub fun k i h => by omega), hW.ag (ax.sub fun k i h => by omega) (am.sub fun k i h => by omega)⟩
  obtain ⟨i2, hi2, r2⟩ := rg_nI (N := 29) (by decide) g2.1
  obtain ⟨i3, hi3, r3⟩ := rg_nI (N := 4) (by decide) g3
  refine ⟨hT.1, by rw [ax 1 5 (by decide)]; exact hT.2.1, by rw [am 0 2 (by decide)]; exact hT.2.2.1, fun s hs => ?_⟩
  obtain ⟨k1, k2, k3, k4, k5, k6, k7, k8⟩ := hT.2.2.2 s hs
  have c1 : u12 5 s = if s = t then a2 else σ 5 s := by rw [e12, hup_row (by decide), e11, hup_ap, if_pos rfl]
  have c2 : u12 6 s = if s = t then a3 else σ 6 s := by rw [e12, hup_ap, if_pos rfl, e11, hup_row (by decide)]
  have c3 : w12 4 s = if s = t then a2 else τ 4 s := by rw [f12, hup_row (by decide), f11, hup_ap, if_pos rfl]
  have c4 : w12 5 s = if s = t then a3 else τ 5 s := by rw [f12, hup_ap, if_pos rfl, f11, hup_row (by decide)]
  rw [ax 3 s (by omega), ax 4 s (by omega), am 2 s (by omega), am 3 s (by omega), c1, c2, c3, c4]
  by_cases hst : s = t
  · simp only [if_pos hst]
    exact ⟨k1, k2, ⟨i2, by omega, r2⟩, ⟨i3, by omega, r3⟩, k5, k6, by trivial, by trivial⟩
  · rw [if_neg hst, if_neg hst, if_neg hst, if_neg hst]
    exact ⟨k1, k2, k3, k4, k5, k6, k7, k8⟩
theorem x_thing {K : Int32 → Hp → Prop} {σ τ u : Hp} {T : Nat} {a1 a2 a3 : Int32} (hT : IT σ τ T) (hbad : ¬ (rg a1 0 59 ∧ (rg a2 0 29 ∧ ¬ hasb (σ 1 0) a2) ∧ rg a3 0 4) → K (-2) σ) (hfull : (rg a1 0 59 ∧ (rg a2 0 29 ∧ ¬ hasb (σ 1 0) a2) ∧ rg a3 0 4) → T = 5 → K (-4) σ) (hK : (rg a1 0 59 ∧ (rg a2 0 29 ∧ ¬ hasb (σ 1 0) a2) ∧ rg a3 0 4) → T < 5 → ∀ u, agr (fun k i => (k < 3 ∨ 6 < k) ∧ ¬ (k = 1 ∧ i = 5)) σ u → u 1 5 = nI (T + 1) → (∀ s, u 3 s = if s = T then a1 / 10 else σ 3 s) → (∀ s, u 4 s = if s = T then jrem a1 10 else σ 4 s) → (∀ s, u 5 s = if s = T then a2 else σ 5 s) → (∀ s, u 6 s = if s = T then a3 else σ 6 s) → K (nI T) u) : VX11_thing K σ a1 a2 a3 := by
  have h5 := hT.1
  have hTT := hT.2.1
  unfold VX11_thing
  by_cases n1 : a1 < 0
  · rw [if_pos n1]; exact hbad (fun q => absurd q.1.1 (Int32.not_le.mpr n1))
  rw [if_neg n1]
  by_cases n2 : 60 ≤ a1
  · rw [if_pos n2]; exact hbad (fun q => absurd ((lt_le (a := a1) (hi := 60) (hj := 59) rfl).mpr q.1.2) (Int32.not_lt.mpr n2))
  rw [if_neg n2, eX_isOpen, ite_b2i]
  have g1 : rg a1 0 59 := ⟨Int32.not_lt.mp n1, (lt_le (hi := 60) rfl).mp (Int32.not_le.mp n2)⟩
  by_cases g2 : rg a2 0 29 ∧ ¬ hasb (σ 1 0) a2
  rotate_left
  · rw [if_neg g2]; exact hbad (fun q => g2 q.2.1)
  rw [if_pos g2, eX_isWay, ite_b2i]
  by_cases g3 : rg a3 0 4
  rotate_left
  · rw [if_neg g3]; exact hbad (fun q => g3 q.2.2)
  rw [if_pos g3, forall_eq, hTT]
  by_cases hf : T < 5
  · rw [if_pos (show nI T < 5 from nI_lt (b := 5) hf (by decide)), nI_clamp (by omega)]
    have hv : vp_in (nI T) 5 := vp_in_nI hf (by decide)
    refine ⟨hv, fun u11 e11 => ⟨hv, fun u12 e12 => ⟨hv, fun u13 e13 => ⟨hv, fun u14 e14 u15 e15 => ?_⟩⟩⟩⟩
    refine hK ⟨g1, g2, g3⟩ hf u15 ?_ ?_ (fun s => ?_) (fun s => ?_) (fun s => ?_) (fun s => ?_)
    · rw [e15, e14, e13, e12, e11]
      exact agr.up (agr.up (agr.up (agr.up (agr.up agr.rf (by omega)) (by omega)) (by omega)) (by omega)) (by omega)
    · rw [e15, hup_self, nI_1]
    · rw [e15, hup_row (by decide), e14, hup_row (by decide), e13, hup_row (by decide), e12, hup_row (by decide), e11, hup_ap, if_pos rfl]
    · rw [e15, hup_row (by decide), e14, hup_row (by decide), e13, hup_row (by decide), e12, hup_ap, if_pos rfl, e11, hup_row (by decide)]
    · rw [e15, hup_row (by decide), e14, hup_row (by decide), e13, hup_ap, if_pos rfl, e12, hup_row (by decide), e11, hup_row (by decide)]
    · rw [e15, hup_row (by decide), e14, hup_ap, if_pos rfl, e13, hup_row (by decide), e12, hup_row (by decide), e11, hup_row (by decide)]
  · rw [if_neg (show ¬ nI T < 5 from nI_nlt (b := 5) (by omega) (by omega))]
    exact hfull ⟨g1, g2, g3⟩ (by omega)
theorem m_thing {K : Int32 → Hp → Prop} {σ τ : Hp} {T : Nat} {a1 a2 a3 : Int32} (hT : IT σ τ T) (hbad : ¬ (rg a1 0 59 ∧ (rg a2 0 29 ∧ ¬ hasb (τ 1 0) a2) ∧ rg a3 0 4) → K (-2) τ) (hfull : (rg a1 0 59 ∧ (rg a2 0 29 ∧ ¬ hasb (τ 1 0) a2) ∧ rg a3 0 4) → T = 5 → K (-4) τ) (hK : (rg a1 0 59 ∧ (rg a2 0 29 ∧ ¬ hasb (τ 1 0) a2) ∧ rg a3 0 4) → T < 5 → ∀ u, agr (fun k i => (k < 2 ∨ 5 < k) ∧ ¬ (k = 0 ∧ i = 2)) τ u → u 0 2 = nI (T + 1) → (∀ s, u 2 s = if s = T then a1 / 10 else τ 2 s) → (∀ s, u 3 s = if s = T then jrem a1 10 else τ 3 s) → (∀ s, u 4 s = if s = T then a2 else τ 4 s) → (∀ s, u 5 s = if s = T then a3 else τ 5 s) → K (nI T) u) : VX12_thing K τ a1 a2 a3 := by
  have h5 := hT.1
  have hTT := hT.2.2.1
  unfold VX12_thing
  rw [eM_in, ite_b2i]
  by_cases g1 : rg a1 0 59
  rotate_left
  · rw [if_neg g1]; exact hbad (fun q => g1 q.1)
  rw [if_pos g1, eM_isFree, ite_b2i]
  by_cases g2 : rg a2 0 29 ∧ ¬ hasb (τ 1 0) a2
  rotate_left
  · rw [if_neg g2]; exact hbad (fun q => g2 q.2.1)
  rw [if_pos g2, eM_in, ite_b2i]
  by_cases g3 : rg a3 0 4
  rotate_left
  · rw [if_neg g3]; exact hbad (fun q => g3 q.2.2)
  rw [if_pos g3, hTT]
  by_cases hf : T = 5
  · rw [if_pos (by rw [hf]; rfl)]; exact hfull ⟨g1, g2, g3⟩ hf
  · have hf' : T < 5 := by omega
    rw [if_neg (show ¬ nI T = 5 from fun q => hf ((nI_eq (b := 5) (by omega) (by decide)).mp q)), nI_clamp (by omega)]
    have hv : vp_in (nI T) 5 := vp_in_nI hf' (by decide)
    refine ⟨hv, fun u11 e11 => ?_⟩
    have t11 : u11 0 2 = nI T := by rw [e11, hup_row (by decide)]; exact hTT
    rw [t11, nI_clamp (by omega)]
    refine ⟨hv, fun u12 e12 => ?_⟩
    have t12 : u12 0 2 = nI T := by rw [e12, hup_row (by decide)]; exact t11
    rw [t12, nI_clamp (by omega)]
    refine ⟨hv, fun u13 e13 => ?_⟩
    have t13 : u13 0 2 = nI T := by rw [e13, hup_row (by decide)]; exact t12
    rw [t13, nI_clamp (by omega)]
    refine ⟨hv, fun u14 e14 u15 e15 => ?_⟩
    have t14 : u14 0 2 = nI T := by rw [e14, hup_row (by decide)]; exact t13
    have t15 : u15 0 2 = nI (T + 1) := by rw [e15, hup_self, t14, nI_1]
    rw [t15, nI_pred]
    refine hK ⟨g1, g2, g3⟩ hf' u15 ?_ t15 (fun s => ?_) (fun s => ?_) (fun s => ?_) (fun s => ?_)
    · rw [e15, e14, e13, e12, e11]
      exact agr.up (agr.up (agr.up (agr.up (agr.up agr.rf (by omega)) (by omega)) (by omega)) (by omega)) (by omega)
    · rw [e15, hup_row (by decide), e14, hup_row (by decide), e13, hup_row (by decide), e12, hup_row (by decide), e11, hup_ap, if_pos rfl]
    · rw [e15, hup_row (by decide), e14, hup_row (by decide), e13, hup_row (by decide), e12, hup_ap, if_pos rfl, e11, hup_row (by decide)]
    · rw [e15, hup_row (by decide), e14, hup_row (by decide), e13, hup_ap, if_pos rfl, e12, hup_row (by decide), e11, hup_row (by decide)]
    · rw [e15, hup_row (by decide), e14, hup_ap, if_pos rfl, e13, hup_row (by decide), e12, hup_row (by decide), e11, hup_row (by decide)]
/-- a thing comes, on both sides -/
theorem Inv.thing {σ τ u v : Hp} {a1 a2 a3 : Int32} {T : Nat} (hI : Inv σ τ) (hTT : σ 1 5 = nI T) (hf : T < 5) (g : rg a1 0 59 ∧ (rg a2 0 29 ∧ ¬ hasb (σ 1 0) a2) ∧ rg a3 0 4) (ax : agr (fun k i => (k < 3 ∨ 6 < k) ∧ ¬ (k = 1 ∧ i = 5)) σ u) (b1 : u 1 5 = nI (T + 1)) (b2 : ∀ s, u 3 s = if s = T then a1 / 10 else σ 3 s) (b3 : ∀ s, u 4 s = if s = T then jrem a1 10 else σ 4 s) (b4 : ∀ s, u 5 s = if s = T then a2 else σ 5 s) (b5 : ∀ s, u 6 s = if s = T then a3 else σ 6 s) (am : agr (fun k i => (k < 2 ∨ 5 < k) ∧ ¬ (k = 0 ∧ i = 2)) τ v) (c1 : v 0 2 = nI (T + 1)) (c2 : ∀ s, v 2 s = if s = T then a1 / 10 else τ 2 s) (c3 : ∀ s, v 3 s = if s = T then jrem a1 10 else τ 3 s) (c4 : ∀ s, v 4 s = if s = T then a2 else τ 4 s) (c5 : ∀ s, v 5 s = if s = T then a3 else τ 5 s) : Inv u v := by
  obtain ⟨T', X, L, Z, hA, hT, hP, hC, hS, hJ, hW⟩ := hI
  have hT5 := hT.1
  obtain rfl : T' = T := (nI_eq (by omega) (by omega)).mp (hT.2.1.symm.trans hTT)
  refine ⟨T' + 1, X, L, Z, hA.ag (ax.sub fun k i h => by omega) (am.sub fun k i h => by omega), ?_, hP.ag (ax.sub fun k i h => by omega) (am.sub fun k i h => by omega), hC.ag hA.2.2.2.2.2.2.2.2.1 (ax.sub fun k i h => by omega) (am.sub fun k i h => by omega), hS.ag (ax.sub fun k i h => by omega) (am.sub fun k i h => by omega), ?_, hW.ag (ax.sub fun k i h => by omega) (am.sub fun k i h => by omega)⟩
  · refine ⟨by omega, b1, c1, fun s hs => ?_⟩
    rw [b2, b3, b4, b5, c2, c3, c4, c5]
    by_cases hst : s = T'
    · simp only [if_pos hst]
      obtain ⟨i1, hi1, rfl⟩ := rg_nI (N := 59) (by decide) g.1
      obtain ⟨i2, hi2, r2⟩ := rg_nI (N := 29) (by decide) g.2.1.1
      obtain ⟨i3, hi3, r3⟩ := rg_nI (N := 4) (by decide) g.2.2
      refine ⟨⟨i1 / 10, by omega, pk_div (d := 10) (by omega) (by decide) (by decide)⟩, ⟨i1 % 10, by omega, pk_rem (d := 10) (by omega) (by decide) (by decide)⟩, ⟨i2, by omega, r2⟩, ⟨i3, by omega, r3⟩, by trivial, by trivial, by trivial, by trivial⟩
    · simp only [if_neg hst]
      exact hT.2.2.2 s (by omega)
  · obtain ⟨j1, j2⟩ := hJ
    refine ⟨by rw [ax 0 2 (by decide), am 0 13 (by decide)]; exact j1, fun hn => ?_⟩
    rw [ax 0 2 (by decide)] at hn
    obtain ⟨TI, LI, i1, i2, i3, i4, i5, i6, i7, i8, i9, i10, i11, i12⟩ := j2 hn
    refine ⟨TI, LI, by omega, i2, ?_, ?_, ?_, ?_, ?_, ?_, ?_, ?_, ?_, fun s hs => ?_⟩
    · rw [ax 2 5 (by decide)]; exact i3
    · rw [am 0 14 (by decide)]; exact i4
    · rw [ax 2 4 (by decide)]; exact i5
    · rw [am 0 15 (by decide)]; exact i6
    · rw [am 9 0 (by decide), ax 2 0 (by decide)]; exact i7
    · rw [am 9 1 (by decide), ax 2 1 (by decide)]; exact i8
    · rw [am 9 2 (by decide), ax 2 2 (by decide)]; exact i9
    · rw [am 9 3 (by decide), ax 2 3 (by decide)]; exact i10
    · rw [ax 2 3 (by decide)]; exact i11
    · rw [am 9 (4 + s) (by omega), am 9 (9 + s) (by omega), ax 9 s (by omega), ax 10 s (by omega), ax 7 s (by omega), ax 8 s (by omega), b2, b3, if_neg (by omega), if_neg (by omega)]
      exact i12 s hs
theorem f_thing : ∀ σ τ, Inv σ τ → ∀ (a1 a2 a3 : Int32), VX11_thing (fun v u => VX12_thing (fun v' u' => v = v' ∧ Inv u u') τ a1 a2 a3) σ a1 a2 a3 := by
  intro σ τ hI a1 a2 a3
  obtain ⟨T, X, L, Z, hA, hT, hP, hC, hS, hJ, hW⟩ := id hI
  have e1 := hI.eqs.1
  refine x_thing hT (u := σ) (fun g => ?_) (fun g h5 => ?_) (fun g h5 u ax b1 b2 b3 b4 b5 => ?_)
  · refine m_thing hT (fun _ => ⟨rfl, hI⟩) (fun g' => ?_) (fun g' => ?_)
    · rw [e1] at g'; exact absurd g' g
    · rw [e1] at g'; exact absurd g' g
  · refine m_thing hT (fun g' => ?_) (fun _ _ => ⟨rfl, hI⟩) (fun _ h => absurd h5 (by omega))
    rw [e1] at g'; exact absurd g g'
  · refine m_thing hT (fun g' => ?_) (fun _ h => absurd h5 (by omega)) (fun _ _ v am c1 c2 c3 c4 c5 => ⟨rfl, hI.thing hT.2.1 h5 g ax b1 b2 b3 b4 b5 am c1 c2 c3 c4 c5⟩)
    rw [e1] at g'; exact absurd g g'
