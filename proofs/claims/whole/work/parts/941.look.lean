/-! ===== look, search ===== -/
def eN (σ : Hp) (R t n w : Nat) : Nat := (EN σ R t n w).toNatClampNeg
abbrev B54 (k _ : Nat) : Prop := k ≠ 37 ∧ k ≠ 49 ∧ k ≠ 54
theorem x_tally {K : Hp → Prop} {σ τ u : Hp} {X L T t n : Nat} (hA : IA σ τ X L) (hT : IT σ τ T) (hC : IC σ τ X) (ht : t < T) (hn : n < 2 ^ 31) (ha : agr NSx σ u) (hK : ∀ u', agr B54 u u' → (∀ c, c < 30 → u' 54 c = nI (cN (eN σ L t n) c)) → K u') : VX11_tallyEnds K u (nI t) (nI n) := by
  refine lpN (S := Hp) (fun m s i => VX11_tallyEnds_L2 K m s (nI t) (nI n) (nI i)) (fun i s => agr B54 u s ∧ ∀ c, c < i → s 54 c = 0) 30 (fun m s h => ?_) (fun m i s hi h go => ?_) u ⟨agr.rf, fun j hj => absurd hj (Nat.not_lt_zero j)⟩
  · show VX11_tallyEnds_L2 K (m + 1) s (nI t) (nI n) (nI 30)
    obtain ⟨a, hs⟩ := h
    rw [VX11_tallyEnds_L2, if_pos (show (30 : Int32) ≤ nI 30 by decide)]
    refine lpN (S := Hp) (fun m s i => VX11_tallyEnds_L23 K m s (nI t) (nI n) (nI i)) (fun i s => agr B54 u s ∧ ∀ c, c < 30 → s 54 c = nI (cNW (eN σ L t n) i c)) 5 (fun m s h => ?_) (fun m i s hi h go => ?_) s ⟨a, fun c hc => by rw [hs c hc]; rfl⟩
    · show VX11_tallyEnds_L23 K (m + 1) s (nI t) (nI n) (nI 5)
      rw [VX11_tallyEnds_L23, if_pos (show (5 : Int32) ≤ nI 5 by decide)]
      exact hK s h.1 h.2
    · show VX11_tallyEnds_L23 K (m + 1) s (nI t) (nI n) (nI i)
      obtain ⟨a', hs'⟩ := h
      rw [VX11_tallyEnds_L23, if_neg (show ¬ (5 : Int32) ≤ nI i from nI_ge (b := 5) hi (by decide))]
      refine x_endOf hA hT hC ht hn hi (ha.tr (a'.sub fun k i h => by omega)) (fun u1 b1 => ?_)
      have hnb := EN_nb (n := n) hA hT hC ht hA.L.1 hi
      have he30 : eN σ L t n i < 30 := nb_cl hnb (by decide)
      refine ⟨vp_nb hnb (by decide), vp_nb hnb (by decide), fun u7 e7 x8 e8 => ?_⟩
      rw [e8, nI_1]
      refine go u7 ⟨by rw [e7]; exact agr.up (a'.tr (b1.sub fun k i h => by omega)) (by omega), fun c hc => ?_⟩
      have e7' : u7 = hup u1 54 (eN σ L t n i) (u1 54 (eN σ L t n i) + 1) := e7
      rw [e7', hup_ap, if_pos rfl]
      have hst : cNW (eN σ L t n) (i + 1) c = cNW (eN σ L t n) i c + if eN σ L t n i = c then 1 else 0 := rfl
      by_cases hce : c = eN σ L t n i
      · rw [if_pos hce, b1 54 _ (by omega), hs' _ he30, hst, if_pos hce.symm, ← hce, nI_1]
      · rw [if_neg hce, b1 54 _ (by omega), hs' c hc, hst, if_neg (fun q => hce q.symm)]
        rfl
  · show VX11_tallyEnds_L2 K (m + 1) s (nI t) (nI n) (nI i)
    rw [VX11_tallyEnds_L2, if_neg (show ¬ (30 : Int32) ≤ nI i from nI_ge (b := 30) hi (by decide)), nI_clamp (by omega)]
    refine ⟨vp_in_nI hi (by decide), fun u2 e2 x3 e3 => ?_⟩
    rw [e3, nI_1]
    refine go u2 ⟨by rw [e2]; exact agr.up h.1 (by omega), fun c hc => ?_⟩
    by_cases hci : c = i
    · rw [e2, hci, hup_self]
    · rw [e2, hup_col hci]; exact h.2 c (by omega)
theorem m_many {K : Int32 → Hp → Prop} {v : Hp} {e : Nat → Nat} {c : Nat} (he : ∀ w, w < 5 → v 19 w = nI (e w) ∧ e w < 30) (hc : c < 2 ^ 31) (hK : K (nI (cN e c)) v) : VX12_byHowMany K v (nI c) := by
  refine lpN (S := Int32) (fun m s i => VX12_byHowMany_L4 K m v (nI c) s (nI i)) (fun i s => s = nI (cNW e i c)) 5 (fun m s h => ?_) (fun m i s hi h go => ?_) 0 rfl
  · show VX12_byHowMany_L4 K (m + 1) v (nI c) s (nI 5)
    rw [VX12_byHowMany_L4, if_pos (show (5 : Int32) ≤ nI 5 by decide), h]
    exact hK
  · show VX12_byHowMany_L4 K (m + 1) v (nI c) s (nI i)
    obtain ⟨h1, h2⟩ := he i hi
    rw [VX12_byHowMany_L4, if_neg (show ¬ (5 : Int32) ≤ nI i from nI_ge (b := 5) hi (by decide)), nI_clamp (by omega), h1]
    refine ⟨vp_in_nI hi (by decide), ?_⟩
    have hst : cNW e (i + 1) c = cNW e i c + if e i = c then 1 else 0 := rfl
    by_cases hce : e i = c
    · rw [if_pos (show nI (e i) = nI c by rw [hce])]
      intro x5 e5 x6 e6
      rw [e6, nI_1]
      exact go x5 (by rw [e5, h, nI_1, hst, if_pos hce])
    · rw [if_neg (fun q => hce ((nI_eq (by omega) hc).mp q))]
      intro x5 e5 x6 e6
      rw [e6, nI_1]
      refine go x5 ?_
      rw [e5, h, hst, if_neg hce]
      exact nI_add _ 0
def lkN (e : Nat → Nat) : Nat → Nat
  | 0 => 0
  | j + 1 => if cN e (j + 1) ≤ cN e (lkN e j) then lkN e j else j + 1
theorem lkN_le {e : Nat → Nat} : ∀ j, lkN e j ≤ j
  | 0 => Nat.le_refl _
  | j + 1 => by
    unfold lkN
    have := lkN_le (e := e) j
    split <;> omega
theorem m_ends {σ τ v v' : Hp} {X L T t n : Nat} (hA : IA σ τ X L) (hT : IT σ τ T) (hC : IC σ τ X) (ht : t < T) (h : ∀ w, w < 5 → v' 19 w = EN σ L t n w) : ∀ w, w < 5 → v' 19 w = nI (eN σ L t n w) ∧ eN σ L t n w < 30 := fun w hw => by
  have hnb := EN_nb (n := n) hA hT hC ht hA.L.1 hw
  exact ⟨(h w hw).trans (nb_eq hnb (by decide)).symm, nb_cl hnb (by decide)⟩
theorem f_look : ∀ σ τ, Inv σ τ → ∀ (a1 a2 a3 : Int32), VX11_look (fun v u => VX12_look (fun v' u' => v = v' ∧ Inv u u') τ a1 a2 a3) σ a1 a2 a3 := by
  intro σ τ hI a1 a2 a3
  obtain ⟨T, X, L, Z, hA, hT, hP, hC, hS, hJ, hW⟩ := id hI
  unfold VX11_look
  rw [eX_isThing, ite_b2i]
  by_cases h : 0 ≤ a1 ∧ a1 < σ 1 5
  rotate_left
  · rw [if_neg h]
    try dsimp only
    unfold VX12_look
    rw [eM_isThing, ite_b2i, if_neg (fun q => h ((thB hT).mpr ((thC hT).mp q)))]
    exact ⟨rfl, hI⟩
  have h' := (thC hT).mpr ((thB hT).mp h)
  rw [if_pos h, eX_isBehind, ite_b2i]
  by_cases g2 : rg a2 0 40
  rotate_left
  · rw [if_neg g2]
    try dsimp only
    unfold VX12_look
    rw [eM_isThing, ite_b2i, if_pos h', eM_areSteps, ite_b2i, if_neg g2]
    exact ⟨rfl, hI⟩
  rw [if_pos g2, eX_isChoice, ite_b2i]
  by_cases g3 : rg a3 0 1
  rotate_left
  · rw [if_neg g3]
    try dsimp only
    unfold VX12_look
    rw [eM_isThing, ite_b2i, if_pos h', eM_areSteps, ite_b2i, if_pos g2, eM_in, ite_b2i, if_neg g3]
    exact ⟨rfl, hI⟩
  rw [if_pos g3]
  obtain ⟨t, ht, rfl⟩ := (thB hT).mp h
  obtain ⟨n, hn, rfl⟩ := rg_nI (N := 40) (by decide) g2
  have fin : ∀ (v : Int32) (u : Hp), v = (if a3 = 0 then nI (lkN (eN σ L t n) 29) else nI (cN (eN σ L t n) (lkN (eN σ L t n) 29))) → agr NSx σ u → VX12_look (fun v' u' => v = v' ∧ Inv u u') τ (nI t) (nI n) a3 := by
    intro v u hv au
    unfold VX12_look
    rw [eM_isThing, ite_b2i, if_pos h', eM_areSteps, ite_b2i, if_pos g2, eM_in, ite_b2i, if_pos g3]
    refine m_letsGo hA hT hC ht (by omega) agr.rf (fun w aw hw => ?_)
    have he := m_ends (v := τ) hA hT hC ht hw
    have hIw : Inv u w := hI.ag au (aw.sub fun k i h => by omega)
    refine lpN (S := Int32) (fun m s i => VX12_look_L42 (fun v' u' => v = v' ∧ Inv u u') m w a3 s (nI (i + 1))) (fun i s => s = nI (lkN (eN σ L t n) i)) 29 (fun m s hh => ?_) (fun m i s hi hh go => ?_) 0 rfl
    · show VX12_look_L42 _ (m + 1) w a3 s (nI 30)
      rw [VX12_look_L42, if_pos (show (30 : Int32) ≤ nI 30 by decide), hh]
      by_cases h0 : a3 = 0
      · rw [if_pos h0] at hv ⊢; exact ⟨hv, hIw⟩
      · rw [if_neg h0] at hv ⊢
        have := lkN_le (e := eN σ L t n) 29
        exact m_many he (by omega) ⟨hv, hIw⟩
    · show VX12_look_L42 _ (m + 1) w a3 s (nI (i + 1))
      have hl := lkN_le (e := eN σ L t n) i
      have c1 := cN_le (e := eN σ L t n) (c := i + 1)
      have c2 := cN_le (e := eN σ L t n) (c := lkN (eN σ L t n) i)
      rw [VX12_look_L42, if_neg (show ¬ (30 : Int32) ≤ nI (i + 1) from nI_ge (b := 30) (by omega) (by decide)), hh]
      refine m_many he (by omega) (m_many he (by omega) ?_)
      have hst : lkN (eN σ L t n) (i + 1) = if cN (eN σ L t n) (i + 1) ≤ cN (eN σ L t n) (lkN (eN σ L t n) i) then lkN (eN σ L t n) i else i + 1 := rfl
      by_cases hc : cN (eN σ L t n) (i + 1) ≤ cN (eN σ L t n) (lkN (eN σ L t n) i)
      · rw [if_pos (nI_le hc (by omega))]
        intro x21 e21
        rw [e21, nI_1]
        exact go _ (by rw [hst, if_pos hc])
      · rw [if_neg (nI_ge (by omega) (by omega))]
        intro x21 e21
        rw [e21, nI_1]
        exact go _ (by rw [hst, if_neg hc])
  refine x_tally hA hT hC ht (by omega) agr.rf (fun u1 b1 hc1 => ?_)
  have au1 : agr NSx σ u1 := b1.sub fun k i h => by omega
  generalize hKe : (fun (v : Int32) (u : Hp) => VX12_look (fun v' u' => v = v' ∧ Inv u u') τ (nI t) (nI n) a3) = K
  refine lpN (S := Int32) (fun m s i => VX11_look_L40 K m u1 a3 s (nI (i + 1))) (fun i s => s = nI (lkN (eN σ L t n) i)) 29 (fun m s hh => ?_) (fun m i s hi hh go => ?_) 0 rfl
  · show VX11_look_L40 K (m + 1) u1 a3 s (nI 30)
    have hl := lkN_le (e := eN σ L t n) 29
    rw [VX11_look_L40, if_pos (show (30 : Int32) ≤ nI 30 by decide), hh]
    subst hKe
    by_cases h0 : a3 = 0
    · rw [if_pos h0] at fin ⊢; exact fin _ _ rfl au1
    · rw [if_neg h0] at fin ⊢
      rw [nI_clamp (by omega), hc1 _ (by omega)]
      exact ⟨vp_in_nI (by omega) (by decide), fin _ _ rfl au1⟩
  · show VX11_look_L40 K (m + 1) u1 a3 s (nI (i + 1))
    have hl := lkN_le (e := eN σ L t n) i
    have c1 := cN_le (e := eN σ L t n) (c := i + 1)
    have c2 := cN_le (e := eN σ L t n) (c := lkN (eN σ L t n) i)
    rw [VX11_look_L40, if_neg (show ¬ (30 : Int32) ≤ nI (i + 1) from nI_ge (b := 30) (by omega) (by decide)), hh, nI_clamp (by omega), nI_clamp (by omega), hc1 _ (by omega), hc1 _ (by omega)]
    refine ⟨vp_in_nI (by omega) (by decide), vp_in_nI (by omega) (by decide), ?_⟩
    have hst : lkN (eN σ L t n) (i + 1) = if cN (eN σ L t n) (i + 1) ≤ cN (eN σ L t n) (lkN (eN σ L t n) i) then lkN (eN σ L t n) i else i + 1 := rfl
    by_cases hc : cN (eN σ L t n) (i + 1) ≤ cN (eN σ L t n) (lkN (eN σ L t n) i)
    · rw [if_pos (nI_le hc (by omega))]
      intro x21 e21
      rw [e21, nI_1]
      exact go _ (by rw [hst, if_pos hc])
    · rw [if_neg (nI_ge (by omega) (by omega))]
      intro x21 e21
      rw [e21, nI_1]
      exact go _ (by rw [hst, if_neg hc])
/-! fractions -/
def frV (A B : Nat) (part : Int32) : Int64 := if part = 0 then lN (A / Nat.gcd A B) else lN (B / Nat.gcd A B)
theorem x_frac {K : Int64 → Hp → Prop} {u : Hp} {A B : Nat} {part : Int32} (hA : A < 1000) (hB : 0 < B) (hB2 : B < 1000) (hK : K (frV A B part) u) : VX11_fraction K u (nI A) (nI B) part := by
  have hg : 0 < Nat.gcd A B := Nat.gcd_pos_of_pos_right _ hB
  have hgB : Nat.gcd A B ≤ B := Nat.gcd_le_right _ hB
  have b40 : VX11_fraction_b40 K u (nI A) (nI B) part (nI (Nat.gcd A B)) := by
    unfold VX11_fraction_b40
    unfold frV at hK
    have hz : ¬ nI (Nat.gcd A B) = 0 := nI_ne0 hg (by omega)
    have d1 : A / Nat.gcd A B ≤ A := Nat.div_le_self _ _
    have d2 : B / Nat.gcd A B ≤ B := Nat.div_le_self _ _
    rw [if_neg hz]
    by_cases hp : part = 0
    · rw [if_pos hp] at hK ⊢
      rw [pk_div (by omega) hg (by omega), nI_l (by omega)]
      exact ⟨hz, hK⟩
    · rw [if_neg hp] at hK ⊢
      rw [pk_div (by omega) hg (by omega), nI_l (by omega)]
      exact ⟨hz, hK⟩
  have key : ∀ m i c r, r + i ≤ A → r ≤ m → c < 1000 → (0 < c ∨ 0 < r) → Nat.gcd r c = Nat.gcd A B → VX11_fraction_L8 K (m + 1) u (nI A) (nI B) part (nI c) (nI r) (nI i) := by
    intro m
    induction m with
    | zero =>
      intro i c r h1 h2 h3 h4 h5
      obtain rfl : r = 0 := by omega
      rw [Nat.gcd_zero_left] at h5
      rw [VX11_fraction_L8, if_neg (show ¬ (1000 : Int32) ≤ nI i from nI_ge (b := 1000) (by omega) (by decide)), if_pos (show nI 0 = 0 from rfl), h5]
      exact b40
    | succ m ih =>
      intro i c r h1 h2 h3 h4 h5
      rw [VX11_fraction_L8, if_neg (show ¬ (1000 : Int32) ≤ nI i from nI_ge (b := 1000) (by omega) (by decide))]
      by_cases hr : r = 0
      · rw [if_pos (show nI r = 0 by rw [hr]; rfl)]
        rw [hr, Nat.gcd_zero_left] at h5
        rw [h5]
        exact b40
      · have hz : ¬ nI r = 0 := nI_ne0 (by omega) (by omega)
        rw [if_neg hz]
        refine ⟨hz, fun x3 e3 x4 e4 => ?_⟩
        have hm : c % r < r := Nat.mod_lt _ (by omega)
        rw [e4, nI_1, e3, show jrem (nI c) (nI r) = nI (c % r) from pk_rem (by omega) (by omega) (by omega)]
        exact ih (i + 1) r (c % r) (by omega) (by omega) (by omega) (Or.inl (by omega)) (by rw [← h5]; exact (Nat.gcd_rec r c).symm)
  exact ⟨A + 1, key A 0 B A (by omega) (Nat.le_refl _) hB2 (Or.inl hB) rfl⟩
theorem lg_eq0 {x y : Int64} : lg_cmp x y = 0 ↔ x = y := by
  unfold lg_cmp
  by_cases h1 : x > y
  · rw [if_pos h1]
    constructor
    · intro q; exact absurd q (by decide)
    · intro q; rw [q] at h1; exact absurd h1 (Int64.lt_irrefl)
  · rw [if_neg h1]
    by_cases h2 : x = y
    · rw [if_pos h2]; exact ⟨fun _ => h2, fun _ => rfl⟩
    · rw [if_neg h2]
      constructor
      · intro q; exact absurd q (by decide)
      · intro q; exact absurd q h2
theorem m_low {K : Int64 → Hp → Prop} {v : Hp} {A B : Nat} {part : Int32} (hA : A < 1000) (hB : 0 < B) (hB2 : B < 1000) (hp : rg part 0 1) (hK : K (frV A B part) v) : VX12_lowest K v (lN A) (lN B) part := by
  have hg : 0 < Nat.gcd A B := Nat.gcd_pos_of_pos_right _ hB
  have hgB : Nat.gcd A B ≤ B := Nat.gcd_le_right _ hB
  unfold frV at hK
  unfold VX12_lowest
  by_cases hA0 : A = 0
  · rw [if_pos (lg_eq0.mpr (by rw [hA0]; rfl))]
    rw [hA0, Nat.gcd_zero_left] at hK
    rcases ch01.mpr hp with h0 | h1
    · rw [if_pos h0, Nat.zero_div] at hK
      rw [h0]
      exact hK
    · rw [if_neg (by rw [h1]; decide), Nat.div_self hB] at hK
      rw [h1]
      exact hK
  · rw [if_neg (show ¬ lg_cmp (lN A) 0 = 0 from fun q => hA0 ((lN_eq (b := 0) (by omega) (by decide)).mp (lg_eq0.mp q)))]
    have base : ∀ m' a, a < 1000 → Nat.gcd 0 a = Nat.gcd A B → VX12_lowest_L16 K (m' + 1) v (lN A) (lN B) part (lN a) (lN 0) := fun m' a ha h5 => by
      rw [Nat.gcd_zero_left] at h5
      rw [VX12_lowest_L16, if_pos (show lg_cmp (lN 0) 0 = 0 from lg_eq0.mpr rfl), h5]
      have hz : ¬ lN (Nat.gcd A B) = 0 := fun q => absurd ((lN_eq (b := 0) (by omega) (by decide)).mp q) (by omega)
      rw [pk_lDiv (by omega) hg (by omega), pk_lDiv (by omega) hg (by omega)]
      by_cases hp0 : part = 0
      · rw [if_pos hp0] at hK ⊢; exact ⟨hz, hK⟩
      · rw [if_neg hp0] at hK ⊢; exact ⟨hz, hK⟩
    have key : ∀ m a b, b ≤ m → a < 1000 → b < 1000 → Nat.gcd b a = Nat.gcd A B → VX12_lowest_L16 K (m + 1) v (lN A) (lN B) part (lN a) (lN b) := by
      intro m
      induction m with
      | zero =>
        intro a b h1 h2 h3 h5
        obtain rfl : b = 0 := Nat.le_zero.mp h1
        exact base 0 a h2 h5
      | succ m ih =>
        intro a b h1 h2 h3 h5
        by_cases hb : b = 0
        · subst hb
          exact base (m + 1) a h2 h5
        · have hz : ¬ lN b = 0 := fun q => hb ((lN_eq (b := 0) (by omega) (by decide)).mp q)
          rw [VX12_lowest_L16, if_neg (show ¬ lg_cmp (lN b) 0 = 0 from fun q => hz (lg_eq0.mp q))]
          refine ⟨hz, fun x4 e4 => ?_⟩
          have hm : a % b < b := Nat.mod_lt _ (by omega)
          rw [e4, show jlrem (lN a) (lN b) = lN (a % b) from pk_lRem (by omega) (by omega) (by omega)]
          exact ih b (a % b) (by omega) (by omega) (by omega) (by rw [← h5]; exact (Nat.gcd_rec b a).symm)
    exact ⟨B + 1, key B A B (Nat.le_refl _) hA hB2 (Nat.gcd_comm B A)⟩
/-! search -/
theorem x_ahead {K : Int32 → Hp → Prop} {u : Hp} {e : Nat → Nat} {c : Nat} (hc : c < 30) (hu : ∀ d, d < 30 → u 54 d = nI (cN e d)) (hK : K (nI (aN e c)) u) : VX11_countAhead K u (nI c) := by
  refine lpN (S := Int32) (fun m s i => VX11_countAhead_L4 K m u (nI c) s (nI i)) (fun i s => s = nI (sm (ahP e c) i)) 30 (fun m s h => ?_) (fun m i s hi h go => ?_) 0 rfl
  · show VX11_countAhead_L4 K (m + 1) u (nI c) s (nI 30)
    rw [VX11_countAhead_L4, if_pos (show (30 : Int32) ≤ nI 30 by decide), h]
    exact hK
  · show VX11_countAhead_L4 K (m + 1) u (nI c) s (nI i)
    have c1 := cN_le (e := e) (c := i)
    have c2 := cN_le (e := e) (c := c)
    have hst : sm (ahP e c) (i + 1) = sm (ahP e c) i + (if cN e c < cN e i then 1 else if i < c ∧ cN e i = cN e c then 1 else 0) := rfl
    have hvi : vp_in (nI i) 30 := vp_in_nI hi (by decide)
    have hvc : vp_in (nI c) 30 := vp_in_nI hc (by decide)
    rw [VX11_countAhead_L4, if_neg (show ¬ (30 : Int32) ≤ nI i from nI_ge (b := 30) hi (by decide)), nI_clamp (by omega), nI_clamp (by omega), hu i hi, hu c hc]
    refine ⟨hvi, hvc, ?_⟩
    by_cases h1 : cN e c < cN e i
    · rw [if_pos (nI_lt h1 (by omega))]
      intro x3 e3 x4 e4
      rw [e4, nI_1]
      exact go x3 (by rw [e3, h, nI_1, hst, if_pos h1])
    · rw [if_neg (nI_nlt (by omega) (by omega))]
      rw [if_neg h1] at hst
      by_cases h2 : c ≤ i
      · rw [if_pos (nI_le h2 (by omega))]
        intro x6 e6
        rw [e6, nI_1]
        exact go s (by rw [h, hst, if_neg (by omega)]; rfl)
      · rw [if_neg (nI_ge (by omega) (by omega))]
        refine ⟨hvi, hvc, ?_⟩
        by_cases h3 : cN e i = cN e c
        · rw [if_pos (by rw [h3])]
          intro x9 e9 x10 e10
          rw [e10, nI_1]
          exact go x9 (by rw [e9, h, nI_1, hst, if_pos ⟨by omega, h3⟩])
        · rw [if_neg (fun q => h3 ((nI_eq (by omega) (by omega)).mp q))]
          intro x8 e8
          rw [e8, nI_1]
          exact go s (by rw [h, hst, if_neg (fun q => h3 q.2)]; rfl)
theorem m_for {K : Int32 → Hp → Prop} {v : Hp} {e : Nat → Nat} {c : Nat} (he : ∀ w, w < 5 → v 19 w = nI (e w) ∧ e w < 30) (hc : c < 30) (hK : K (nI (1 + aN e c)) v) : VX12_lookFor K v (nI c) := by
  refine lpN (S := Int32) (fun m s i => VX12_lookFor_L4 K m v (nI c) s (nI i)) (fun i s => s = nI (1 + sm (ahP e c) i)) 30 (fun m s h => ?_) (fun m i s hi h go => ?_) 1 rfl
  · show VX12_lookFor_L4 K (m + 1) v (nI c) s (nI 30)
    rw [VX12_lookFor_L4, if_pos (show (30 : Int32) ≤ nI 30 by decide), h]
    exact hK
  · show VX12_lookFor_L4 K (m + 1) v (nI c) s (nI i)
    have c1 := cN_le (e := e) (c := i)
    have c2 := cN_le (e := e) (c := c)
    have hst : sm (ahP e c) (i + 1) = sm (ahP e c) i + (if cN e c < cN e i then 1 else if i < c ∧ cN e i = cN e c then 1 else 0) := rfl
    have g1 : sm (ahP e c) (i + 1) = sm (ahP e c) i + 1 → VX12_lookFor_b46 K (VX12_lookFor_L4 K m) v (nI c) s (nI i) 1 := fun q => by
      unfold VX12_lookFor_b46
      rw [if_neg (by decide)]
      intro x16 e16 x17 e17
      rw [e17, nI_1]
      exact go x16 (by rw [e16, h, nI_1, q]; rfl)
    have g0 : sm (ahP e c) (i + 1) = sm (ahP e c) i + 0 → VX12_lookFor_b46 K (VX12_lookFor_L4 K m) v (nI c) s (nI i) 0 := fun q => by
      unfold VX12_lookFor_b46
      rw [if_pos rfl]
      intro x16 e16 x17 e17
      rw [e17, nI_1]
      refine go x16 ?_
      rw [e16, h, q]
      exact nI_add _ 0
    rw [VX12_lookFor_L4, if_neg (show ¬ (30 : Int32) ≤ nI i from nI_ge (b := 30) hi (by decide))]
    refine m_many he (by omega) (m_many he (by omega) ?_)
    by_cases h1 : cN e c < cN e i
    · rw [if_pos (nI_lt h1 (by omega))]
      exact g1 (by rw [hst, if_pos h1])
    · rw [if_neg (nI_nlt (by omega) (by omega))]
      rw [if_neg h1] at hst
      refine m_many he (by omega) (m_many he (by omega) ?_)
      by_cases h3 : cN e i = cN e c
      · rw [if_pos (by rw [h3])]
        by_cases h2 : c ≤ i
        · rw [if_pos (nI_le h2 (by omega))]
          exact g0 (by rw [hst, if_neg (by omega)])
        · rw [if_neg (nI_ge (by omega) (by omega))]
          exact g1 (by rw [hst, if_pos ⟨by omega, h3⟩])
      · rw [if_neg (fun q => h3 ((nI_eq (by omega) (by omega)).mp q))]
        exact g0 (by rw [hst, if_neg (fun q => h3 q.2)])
theorem f_search : ∀ σ τ, Inv σ τ → ∀ (a1 a2 a3 : Int32), VX11_search (fun v u => VX12_search (fun v' u' => v = v' ∧ Inv u u') τ a1 a2 a3) σ a1 a2 a3 := by
  intro σ τ hI a1 a2 a3
  obtain ⟨T, X, L, Z, hA, hT, hP, hC, hS, hJ, hW⟩ := id hI
  unfold VX11_search
  rw [eX_isThing, ite_b2i]
  by_cases h : 0 ≤ a1 ∧ a1 < σ 1 5
  rotate_left
  · rw [if_neg h]
    try dsimp only
    unfold VX12_search
    rw [eM_isThing, ite_b2i, if_neg (fun q => h ((thB hT).mpr ((thC hT).mp q)))]
    exact ⟨rfl, hI⟩
  have h' := (thC hT).mpr ((thB hT).mp h)
  rw [if_pos h, eX_isBehind, ite_b2i]
  by_cases g2 : rg a2 0 40
  rotate_left
  · rw [if_neg g2]
    try dsimp only
    unfold VX12_search
    rw [eM_isThing, ite_b2i, if_pos h', eM_areSteps, ite_b2i, if_neg g2]
    exact ⟨rfl, hI⟩
  rw [if_pos g2, eX_isChoice, ite_b2i]
  by_cases g3 : rg a3 0 1
  rotate_left
  · rw [if_neg g3]
    try dsimp only
    unfold VX12_search
    rw [eM_isThing, ite_b2i, if_pos h', eM_areSteps, ite_b2i, if_pos g2, eM_in, ite_b2i, if_neg g3]
    exact ⟨rfl, hI⟩
  rw [if_pos g3]
  obtain ⟨t, ht, rfl⟩ := (thB hT).mp h
  obtain ⟨n, hn, rfl⟩ := rg_nI (N := 40) (by decide) g2
  have hle5 : ∀ i, i ≤ 5 → sm (fun w => 1 + aN (eN σ L t n) (eN σ L t n w)) i ≤ i * 31 := fun i _ => sm_le i (fun w _ => by
    have := aN_le (e := eN σ L t n) (c := eN σ L t n w)
    show 1 + aN (eN σ L t n) (eN σ L t n w) ≤ 31
    omega)
  have fin : ∀ (v : Int64) (u : Hp), v = frV (sm (fun w => 1 + aN (eN σ L t n) (eN σ L t n w)) 5) 5 a3 → agr NSx σ u → VX12_search (fun v' u' => v = v' ∧ Inv u u') τ (nI t) (nI n) a3 := by
    intro v u hv au
    unfold VX12_search
    rw [eM_isThing, ite_b2i, if_pos h', eM_areSteps, ite_b2i, if_pos g2, eM_in, ite_b2i, if_pos g3]
    refine m_letsGo hA hT hC ht (by omega) agr.rf (fun w aw hw => ?_)
    have he := m_ends (v := τ) hA hT hC ht hw
    have hIw : Inv u w := hI.ag au (aw.sub fun k i h => by omega)
    refine lpN (S := Int64) (fun m s i => VX12_search_L40 (fun v' u' => v = v' ∧ Inv u u') m w a3 s (nI i)) (fun i s => s = lN (sm (fun w => 1 + aN (eN σ L t n) (eN σ L t n w)) i)) 5 (fun m s hh => ?_) (fun m i s hi hh go => ?_) 0 rfl
    · show VX12_search_L40 _ (m + 1) w a3 s (nI 5)
      have := hle5 5 (by decide)
      rw [VX12_search_L40, if_pos (show (5 : Int32) ≤ nI 5 by decide), hh]
      exact m_low (B := 5) (by omega) (by decide) (by decide) g3 ⟨hv, hIw⟩
    · show VX12_search_L40 _ (m + 1) w a3 s (nI i)
      obtain ⟨e1, e2⟩ := he i hi
      rw [VX12_search_L40, if_neg (show ¬ (5 : Int32) ≤ nI i from nI_ge (b := 5) hi (by decide)), nI_clamp (by omega), e1]
      have := aN_le (e := eN σ L t n) (c := eN σ L t n i)
      refine ⟨vp_in_nI hi (by decide), m_for he e2 ?_⟩
      intro x17 e17 x18 e18
      rw [e18, nI_1]
      exact go x17 (by rw [e17, hh, nI_l (by omega), lN_add]; rfl)
  have he30 : ∀ w, w < 5 → eN σ L t n w < 30 := fun w hw => nb_cl (EN_nb (n := n) hA hT hC ht hA.L.1 hw) (by decide)
  have hends := sm_ends (e := eN σ L t n) (f := fun c => 1 + aN (eN σ L t n) c) 5 he30
  have hle30 : ∀ i, i ≤ 30 → sm (fun c => cN (eN σ L t n) c * (1 + aN (eN σ L t n) c)) i ≤ i * 155 := fun i _ => sm_le i (fun c _ => by
    have h1 := aN_le (e := eN σ L t n) (c := c)
    have h2 := cN_le (e := eN σ L t n) (c := c)
    show cN (eN σ L t n) c * (1 + aN (eN σ L t n) c) ≤ 155
    exact Nat.le_trans (Nat.mul_le_mul h2 (show 1 + aN (eN σ L t n) c ≤ 31 by omega)) (by decide))
  refine x_tally hA hT hC ht (by omega) agr.rf (fun u1 b1 hc1 => ?_)
  have au1 : agr NSx σ u1 := b1.sub fun k i h => by omega
  generalize hKe : (fun (v : Int64) (u : Hp) => VX12_search (fun v' u' => v = v' ∧ Inv u u') τ (nI t) (nI n) a3) = K
  refine lpN (S := Int32) (fun m s i => VX11_search_L38 K m u1 a3 s (nI i)) (fun i s => s = nI (sm (fun c => cN (eN σ L t n) c * (1 + aN (eN σ L t n) c)) i)) 30 (fun m s hh => ?_) (fun m i s hi hh go => ?_) 0 rfl
  · show VX11_search_L38 K (m + 1) u1 a3 s (nI 30)
    have h5 := hle5 5 (by decide)
    have hends' : sm (fun c => cN (eN σ L t n) c * (1 + aN (eN σ L t n) c)) 30 = sm (fun w => 1 + aN (eN σ L t n) (eN σ L t n w)) 5 := hends
    rw [VX11_search_L38, if_pos (show (30 : Int32) ≤ nI 30 by decide), hh, hends']
    subst hKe
    exact x_frac (B := 5) (by omega) (by decide) (by decide) (fin _ _ rfl au1)
  · show VX11_search_L38 K (m + 1) u1 a3 s (nI i)
    rw [VX11_search_L38, if_neg (show ¬ (30 : Int32) ≤ nI i from nI_ge (b := 30) hi (by decide))]
    refine ⟨vp_in_nI hi (by decide), x_ahead hi hc1 ?_⟩
    intro x17 e17 x18 e18
    rw [e18, nI_1]
    refine go x17 ?_
    rw [e17, hh, nI_clamp (by omega), hc1 i hi, show (1 : Int32) + nI (aN (eN σ L t n) i) = nI (1 + aN (eN σ L t n) i) from nI_add 1 _, pk_mul, nI_add]
    rfl
