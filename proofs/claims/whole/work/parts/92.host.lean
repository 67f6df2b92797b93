/-! ===== feed ===== -/
def pck (a b c d e : Int32) (i : Nat) : Int32 := if i = 0 then a else if i = 1 then b else if i = 2 then c else if i = 3 then d else e
theorem x_feed {K : Int32 → Hp → Prop} {σ : Hp} {Z n : Nat} {a b c d e : Int32} (hn : n ≤ 5) (hZ : σ 38 1 = nI Z) (hZn : Z + n ≤ 160) (hK : ∀ u, agr (fun k i => k ≠ 39 ∧ ¬ (k = 38 ∧ i = 1)) σ u → u 38 1 = nI (Z + n) → (∀ j, j < Z → u 39 j = σ 39 j) → (∀ j, j < n → u 39 (Z + j) = (pck a b c d e j).toInt8.toInt32) → K (nI (Z + n)) u) : ∃ m, VX11_feed_L75 K m σ (nI n) a b c d e 0 := by
  refine lpN (S := Hp) (fun m s i => VX11_feed_L75 K m s (nI n) a b c d e (nI i)) (fun i u => agr (fun k i => k ≠ 39 ∧ ¬ (k = 38 ∧ i = 1)) σ u ∧ u 38 1 = nI (Z + i) ∧ (∀ j, j < Z → u 39 j = σ 39 j) ∧ (∀ j, j < i → u 39 (Z + j) = (pck a b c d e j).toInt8.toInt32)) n (fun m s h => ?_) (fun m i s hi h go => ?_) σ ⟨agr.rf, hZ, fun j _ => rfl, fun j hj => absurd hj (Nat.not_lt_zero j)⟩
  · show VX11_feed_L75 K (m + 1) s (nI n) a b c d e (nI n)
    obtain ⟨h1, h2, h3, h4⟩ := h
    rw [VX11_feed_L75, if_pos (nI_le (Nat.le_refl _) (by omega)), h2]
    exact hK s h1 h2 h3 h4
  · show VX11_feed_L75 K (m + 1) s (nI n) a b c d e (nI i)
    obtain ⟨h1, h2, h3, h4⟩ := h
    have go' : ∀ v, v = pck a b c d e i → VX11_feed_b128 K (VX11_feed_L75 K m) s (nI n) a b c d e (nI i) v := fun v hv => by
      unfold VX11_feed_b128 VX4_add
      rw [h2, if_neg (show ¬ (160 : Int32) ≤ nI (Z + i) from nI_ge (b := 160) (by omega) (by decide)), nI_clamp (by omega)]
      refine ⟨vp_in_nI (by omega) (by decide), fun u2 e2 u3 e3 x26 e26 => ?_⟩
      have g2 : u2 38 1 = nI (Z + i) := by rw [e2, hup_row (by decide)]; exact h2
      rw [g2, nI_1] at e3
      rw [vp_nar_byte] at e2
      have hb : v.toInt8.toInt32.toInt8.toInt32 = v.toInt8.toInt32 := by simp
      rw [hb] at e2
      rw [e26, nI_1]
      refine go u3 ⟨by rw [e3, e2]; exact agr.up (agr.up h1 (by omega)) (by omega), by rw [e3, hup_self]; rfl, fun j hj => ?_, fun j hj => ?_⟩
      · rw [e3, hup_row (by decide), e2, hup_col (by omega)]; exact h3 j hj
      · rw [e3, hup_row (by decide), e2]
        by_cases hji : j = i
        · rw [hji, hup_self, hv]
        · rw [hup_col (by omega)]; exact h4 j (by omega)
    rw [VX11_feed_L75, if_neg (nI_ge hi (by omega))]
    by_cases g0 : i = 0
    · rw [if_pos (show nI i = 0 by rw [g0]; rfl)]; exact go' _ (by unfold pck; rw [if_pos g0])
    rw [if_neg (show ¬ nI i = 0 from fun q => g0 ((nI_eq (b := 0) (by omega) (by decide)).mp q))]
    by_cases g1 : i = 1
    · rw [if_pos (show nI i = 1 by rw [g1]; rfl)]; exact go' _ (by unfold pck; rw [if_neg g0, if_pos g1])
    rw [if_neg (show ¬ nI i = 1 from fun q => g1 ((nI_eq (b := 1) (by omega) (by decide)).mp q))]
    by_cases g2 : i = 2
    · rw [if_pos (show nI i = 2 by rw [g2]; rfl)]; exact go' _ (by unfold pck; rw [if_neg g0, if_neg g1, if_pos g2])
    rw [if_neg (show ¬ nI i = 2 from fun q => g2 ((nI_eq (b := 2) (by omega) (by decide)).mp q))]
    by_cases g3 : i = 3
    · rw [if_pos (show nI i = 3 by rw [g3]; rfl)]; exact go' _ (by unfold pck; rw [if_neg g0, if_neg g1, if_neg g2, if_pos g3])
    rw [if_neg (show ¬ nI i = 3 from fun q => g3 ((nI_eq (b := 3) (by omega) (by decide)).mp q))]
    exact go' _ (by unfold pck; rw [if_neg g0, if_neg g1, if_neg g2, if_neg g3])
theorem m_feed {K : Int32 → Hp → Prop} {τ : Hp} {Z n : Nat} {a b c d e : Int32} (hn : n ≤ 5) (hZ : τ 0 8 = nI Z) (hZn : Z + n ≤ 160) (hK : ∀ u, agr (fun k i => k ≠ 6 ∧ ¬ (k = 0 ∧ i = 8)) τ u → u 0 8 = nI (Z + n) → (∀ j, j < Z → u 6 j = τ 6 j) → (∀ j, j < n → u 6 (Z + j) = pck a b c d e j) → K (nI (Z + n)) u) : ∃ m, VX12_feed_L68 K m τ (nI n) a b c d e 0 := by
  refine lpN (S := Hp) (fun m s i => VX12_feed_L68 K m s (nI n) a b c d e (nI i)) (fun i u => agr (fun k i => k ≠ 6 ∧ ¬ (k = 0 ∧ i = 8)) τ u ∧ u 0 8 = nI (Z + i) ∧ (∀ j, j < Z → u 6 j = τ 6 j) ∧ (∀ j, j < i → u 6 (Z + j) = pck a b c d e j)) n (fun m s h => ?_) (fun m i s hi h go => ?_) τ ⟨agr.rf, hZ, fun j _ => rfl, fun j hj => absurd hj (Nat.not_lt_zero j)⟩
  · show VX12_feed_L68 K (m + 1) s (nI n) a b c d e (nI n)
    obtain ⟨h1, h2, h3, h4⟩ := h
    rw [VX12_feed_L68, if_pos (nI_le (Nat.le_refl _) (by omega)), h2]
    exact hK s h1 h2 h3 h4
  · show VX12_feed_L68 K (m + 1) s (nI n) a b c d e (nI i)
    obtain ⟨h1, h2, h3, h4⟩ := h
    have go' : ∀ v, v = pck a b c d e i → VX12_feed_b125 K (VX12_feed_L68 K m) s (nI n) a b c d e (nI i) v (nI (Z + i)) := fun v hv => by
      unfold VX12_feed_b125
      rw [nI_clamp (by omega)]
      refine ⟨vp_in_nI (by omega) (by decide), fun u2 e2 u3 e3 x26 e26 => ?_⟩
      have g2 : u2 0 8 = nI (Z + i) := by rw [e2, hup_row (by decide)]; exact h2
      rw [g2, nI_1] at e3
      rw [e26, nI_1]
      refine go u3 ⟨by rw [e3, e2]; exact agr.up (agr.up h1 (by omega)) (by omega), by rw [e3, hup_self]; rfl, fun j hj => ?_, fun j hj => ?_⟩
      · rw [e3, hup_row (by decide), e2, hup_col (by omega)]; exact h3 j hj
      · rw [e3, hup_row (by decide), e2]
        by_cases hji : j = i
        · rw [hji, hup_self, hv]
        · rw [hup_col (by omega)]; exact h4 j (by omega)
    rw [VX12_feed_L68, if_neg (nI_ge hi (by omega)), h2]
    by_cases g0 : i = 0
    · rw [if_pos (show nI i = 0 by rw [g0]; rfl)]; exact go' _ (by unfold pck; rw [if_pos g0])
    rw [if_neg (show ¬ nI i = 0 from fun q => g0 ((nI_eq (b := 0) (by omega) (by decide)).mp q))]
    by_cases g1 : i = 1
    · rw [if_pos (show nI i = 1 by rw [g1]; rfl)]; exact go' _ (by unfold pck; rw [if_neg g0, if_pos g1])
    rw [if_neg (show ¬ nI i = 1 from fun q => g1 ((nI_eq (b := 1) (by omega) (by decide)).mp q))]
    by_cases g2 : i = 2
    · rw [if_pos (show nI i = 2 by rw [g2]; rfl)]; exact go' _ (by unfold pck; rw [if_neg g0, if_neg g1, if_pos g2])
    rw [if_neg (show ¬ nI i = 2 from fun q => g2 ((nI_eq (b := 2) (by omega) (by decide)).mp q))]
    by_cases g3 : i = 3
    · rw [if_pos (show nI i = 3 by rw [g3]; rfl)]; exact go' _ (by unfold pck; rw [if_neg g0, if_neg g1, if_neg g2, if_pos g3])
    rw [if_neg (show ¬ nI i = 3 from fun q => g3 ((nI_eq (b := 3) (by omega) (by decide)).mp q))]
    exact go' _ (by unfold pck; rw [if_neg g0, if_neg g1, if_neg g2, if_neg g3])
theorem f_feed : ∀ σ τ, Inv σ τ → ∀ (a1 a2 a3 a4 a5 a6 : Int32), VX11_feed (fun v u => VX12_feed (fun v' u' => v = v' ∧ Inv u u') τ a1 a2 a3 a4 a5 a6) σ a1 a2 a3 a4 a5 a6 := by
  intro σ τ hI a1 a2 a3 a4 a5 a6
  obtain ⟨T, X, L, Z, hA, hT, hP, hC, hS, hJ, hW⟩ := id hI
  obtain ⟨p1, p2, p3, p4⟩ := id hP
  have mBad : ∀ (v : Int32), v = -2 → ¬ (rg a1 1 5 ∧ rg a2 0 255 ∧ rg a3 0 255 ∧ rg a4 0 255 ∧ rg a5 0 255 ∧ rg a6 0 255) → VX12_feed (fun v' u' => v = v' ∧ Inv σ u') τ a1 a2 a3 a4 a5 a6 := fun v hv hn => by
    unfold VX12_feed
    simp only [eM_in, eM_isByte, ite_b2i]
    by_cases g1 : rg a1 1 5
    rotate_left
    · rw [if_neg g1]; exact ⟨hv, hI⟩
    rw [if_pos g1]
    by_cases g2 : rg a2 0 255
    rotate_left
    · rw [if_neg g2]; exact ⟨hv, hI⟩
    rw [if_pos g2]
    by_cases g3 : rg a3 0 255
    rotate_left
    · rw [if_neg g3]; exact ⟨hv, hI⟩
    rw [if_pos g3]
    by_cases g4 : rg a4 0 255
    rotate_left
    · rw [if_neg g4]; exact ⟨hv, hI⟩
    rw [if_pos g4]
    by_cases g5 : rg a5 0 255
    rotate_left
    · rw [if_neg g5]; exact ⟨hv, hI⟩
    rw [if_pos g5]
    by_cases g6 : rg a6 0 255
    rotate_left
    · rw [if_neg g6]; exact ⟨hv, hI⟩
    exact absurd ⟨g1, g2, g3, g4, g5, g6⟩ hn
  unfold VX11_feed
  by_cases n1 : a1 < 1
  · rw [if_pos n1]; exact mBad _ rfl (fun q => absurd q.1.1 (Int32.not_le.mpr n1))
  rw [if_neg n1]
  by_cases n2 : a1 ≤ 5
  rotate_left
  · rw [if_neg n2]; exact mBad _ rfl (fun q => n2 q.1.2)
  have g1 : rg a1 1 5 := ⟨Int32.not_lt.mp n1, n2⟩
  rw [if_pos n2, eX_isByte, ite_b2i]
  by_cases g2 : rg a2 0 255
  rotate_left
  · rw [if_neg g2]; exact mBad _ rfl (fun q => g2 q.2.1)
  rw [if_pos g2, eX_isByte, ite_b2i]
  by_cases g3 : rg a3 0 255
  rotate_left
  · rw [if_neg g3]; exact mBad _ rfl (fun q => g3 q.2.2.1)
  rw [if_pos g3, eX_isByte, ite_b2i]
  by_cases g4 : rg a4 0 255
  rotate_left
  · rw [if_neg g4]; exact mBad _ rfl (fun q => g4 q.2.2.2.1)
  rw [if_pos g4, eX_isByte, ite_b2i]
  by_cases g5 : rg a5 0 255
  rotate_left
  · rw [if_neg g5]; exact mBad _ rfl (fun q => g5 q.2.2.2.2.1)
  rw [if_pos g5, eX_isByte, ite_b2i]
  by_cases g6 : rg a6 0 255
  rotate_left
  · rw [if_neg g6]; exact mBad _ rfl (fun q => g6 q.2.2.2.2.2)
  rw [if_pos g6]
  obtain ⟨n, hn, rfl⟩ := rg_nI (a := a1) (N := 5) (by decide) ⟨Int32.le_of_lt (Int32.not_le.mp fun q => n1 (Int32.lt_of_le_of_lt q (by decide))), n2⟩
  have hbyte : ∀ j, nb (pck a2 a3 a4 a5 a6 j) 256 := fun j => by
    have : ∀ {x : Int32}, rg x 0 255 → nb x 256 := fun h => by
      obtain ⟨i, hi, e⟩ := rg_nI (N := 255) (by decide) h
      exact ⟨i, by omega, e⟩
    unfold pck
    split
    · exact this g2
    · split
      · exact this g3
      · split
        · exact this g4
        · split
          · exact this g5
          · exact this g6
  have mEnd : ∀ K : Int32 → Hp → Prop, (if τ 0 8 + nI n ≤ 160 then (∃ m, VX12_feed_L68 K m τ (nI n) a2 a3 a4 a5 a6 0) else K (-4) τ) → VX12_feed K τ (nI n) a2 a3 a4 a5 a6 := fun K hK => by
    unfold VX12_feed
    simp only [eM_in, eM_isByte, ite_b2i]
    rw [if_pos g1, if_pos g2, if_pos g3, if_pos g4, if_pos g5, if_pos g6]
    exact hK
  rw [p2, nI_add]
  by_cases hf : Z + n ≤ 160
  · rw [if_pos (show nI (Z + n) ≤ 160 from nI_le (b := 160) hf (by decide))]
    refine x_feed hn p2 hf (fun u ax b1 b2 b3 => ?_)
    refine mEnd _ ?_
    rw [p3, nI_add, if_pos (show nI (Z + n) ≤ 160 from nI_le (b := 160) hf (by decide))]
    refine m_feed hn p3 hf (fun v am c1 c2 c3 => ⟨rfl, T, X, L, Z + n, hA.ag (ax.sub fun k i h => by omega) (am.sub fun k i h => by omega), hT.ag (ax.sub fun k i h => by omega) (am.sub fun k i h => by omega), ⟨hf, b1, c1, fun i hi => ?_⟩, hC.ag hA.L.2 (ax.sub fun k i h => by omega) (am.sub fun k i h => by omega), hS.ag (ax.sub fun k i h => by omega) (am.sub fun k i h => by omega), hJ.ag (ax.sub fun k i h => by omega) (am.sub fun k i h => by omega), hW.ag (ax.sub fun k i h => by omega) (am.sub fun k i h => by omega)⟩)
    by_cases hiZ : i < Z
    · rw [b2 i hiZ, c2 i hiZ]; exact p4 i hiZ
    · have e := b3 (i - Z) (by omega)
      have e' := c3 (i - Z) (by omega)
      rw [show Z + (i - Z) = i by omega] at e e'
      rw [e, e']
      exact ⟨hbyte _, rfl⟩
  · rw [if_neg (show ¬ nI (Z + n) ≤ 160 from nI_ge (a := 160) (by omega) (by omega))]
    refine mEnd _ ?_
    rw [p3, nI_add, if_neg (show ¬ nI (Z + n) ≤ 160 from nI_ge (a := 160) (by omega) (by omega))]
    exact ⟨rfl, hI⟩
/-! ===== taken ===== -/
theorem unT : ∀ kd, kd < 6 → ∀ k, k < 6 → True := fun _ _ _ _ => trivial
def isU (kd : Nat) (k : Int32) : Prop := k = 0 ∨ nI kd = k ∨ (k = 1 ∧ kd = 3) ∨ (k = 2 ∧ kd = 4)
theorem isU_dec (kd : Nat) (k : Int32) : Nonempty (Decidable (isU kd k)) := ⟨inferInstanceAs (Decidable (k = 0 ∨ nI kd = k ∨ (k = 1 ∧ kd = 3) ∨ (k = 2 ∧ kd = 4)))⟩
theorem x_isOne {K : Int32 → Hp → Prop} {σ : Hp} {kd : Nat} {k : Int32} (h : kd < 6) (h1 : isU kd k → K 1 σ) (h0 : ¬ isU kd k → K 0 σ) : VP_isOne K σ (12 + kd) k := by
  unfold isU at h1 h0
  rcases kd6 h with rfl | rfl | rfl | rfl | rfl | rfl
  all_goals simp [VP_isOne, VX10_isOne, VX7_isOne, VX5_isOne, VX8_isOne, VX0_isOne, VX2_isOne]
  all_goals (repeat' split)
  all_goals first
    | (refine h1 ?_; simp_all; done)
    | (refine h1 ?_; subst_vars; decide)
    | (refine h0 ?_; simp_all [nI, eq_comm]; done)
    | skip
