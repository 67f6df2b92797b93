/-! ===== where a thing is, let go one way: can, went ===== -/
def EN (σ : Hp) (R t n w : Nat) : Int32 := (OB σ (σ 1 1) R t (σ 5 t, nI w) n).1
theorem EN_nb {σ τ : Hp} {X L T t R n w : Nat} (hA : IA σ τ X L) (hT : IT σ τ T) (hC : IC σ τ X) (ht : t < T) (hR : R < X) (hw : w < 5) : nb (EN σ R t n w) 30 := by
  obtain ⟨ok, hq⟩ := x_okt hA hT hC ht hR
  exact (OB_ok (N := σ 1 1) (q := (σ 5 t, nI w)) ok ⟨hq.1, w, hw, rfl⟩ n).1
theorem x_endOf {K : Int32 → Hp → Prop} {σ τ u : Hp} {X L T t n w : Nat} (hA : IA σ τ X L) (hT : IT σ τ T) (hC : IC σ τ X) (ht : t < T) (hn : n < 2 ^ 31) (hw : w < 5) (ha : agr NSx σ u) (hK : ∀ u', agr BX u u' → K (EN σ L t n w) u') : VX11_endOf K u (nI t) (nI w) (nI n) := by
  obtain ⟨ok, hq⟩ := x_okt hA hT hC ht hA.L.1
  unfold VX11_endOf VX11_letGo
  refine x_lift hA hT ht (ha.sub fun k i h => by omega) (fun u1 a1 hX => ⟨rfl, fun u3 e3 => ⟨rfl, ?_⟩⟩)
  rw [ha 5 t (by omega), ha 6 t (by omega)] at hX
  have a13 : agr PSx u1 u3 := by rw [e3]; exact agr.up agr.rf (by omega)
  have hX3 : XBs σ (σ 1 1) L t u3 (σ 5 t, nI w) := XB_49 hX ok.1 a13 (by rw [e3, hup_col (by decide)]; exact hX.2.2.2.2.2.2.2.2.2.1) (by rw [e3, hup_self])
  rw [a13 1 3 (by decide), a1 1 3 (by decide), ha 1 3 (by decide)]
  refine x_passAll (q := (σ 5 t, nI w)) ok ⟨hq.1, w, hw, rfl⟩ hn hX3 (fun u' a' hX' => ?_)
  have hk := hK u' (((a1.sub fun k i h => by omega).tr (a13.sub fun k i h => by omega)).tr (a'.sub fun k i h => by omega))
  rw [hX'.2.2.2.2.2.2.2.2.2.1]
  exact hk
theorem m_letsGo {K : Hp → Prop} {σ τ v : Hp} {X L T t n : Nat} (hA : IA σ τ X L) (hT : IT σ τ T) (hC : IC σ τ X) (ht : t < T) (hn : n < 2 ^ 31) (ha : agr NSm τ v) (hK : ∀ v', agr (fun k i => PSm k i ∧ k ≠ 19) v v' → (∀ w, w < 5 → v' 19 w = EN σ L t n w) → K v') : VX12_letsGo K v (nI t) (nI n) := by
  obtain ⟨ok, hq⟩ := x_okt hA hT hC ht hA.L.1
  have hT5 := hT.1
  obtain ⟨k1, k2, k3, k4, k5, k6, k7, k8⟩ := hT.2.2.2 t ht
  refine lpN (S := Hp) (fun m s i => VX12_letsGo_L2 K m s (nI t) (nI n) (nI i)) (fun i s => agr (fun k i => PSm k i ∧ k ≠ 19) v s ∧ ∀ w, w < i → s 19 w = EN σ L t n w) 5 (fun m s h => ?_) (fun m i s hi h go => ?_) v ⟨agr.rf, fun j hj => absurd hj (Nat.not_lt_zero j)⟩
  · show VX12_letsGo_L2 K (m + 1) s (nI t) (nI n) (nI 5)
    rw [VX12_letsGo_L2, if_pos (show (5 : Int32) ≤ nI 5 by decide)]
    exact hK s h.1 h.2
  · show VX12_letsGo_L2 K (m + 1) s (nI t) (nI n) (nI i)
    obtain ⟨a, hs⟩ := h
    have as' : agr NM12 τ s := fun k i hk => (a k i (by omega)).trans (ha k i hk.1)
    have as2 : s 0 12 = nI L := by rw [a 0 12 (by decide), ha 0 12 (by decide)]; exact hA.2.2.2.2.2.2.1
    rw [VX12_letsGo_L2, if_neg (show ¬ (5 : Int32) ≤ nI i from nI_ge (b := 5) hi (by decide)), nI_clamp (by omega)]
    refine ⟨vp_in_nI (by omega) (by decide), fun u2 e2 u3 e3 => ?_⟩
    rw [as' 4 t (by omega), k7] at e2
    have a3 : agr N032 s u3 := by rw [e3, e2]; exact agr.up (agr.up agr.rf (by omega)) (by omega)
    have hM : MBs σ (σ 1 1) L t u3 (σ 5 t, nI i) := m_mbs hA hT hC ht hA.L.1 (fun k j hk => (a3 k j (by omega)).trans (as' k j (by omega))) (by rw [a3 1 1 (by decide), as' 1 1 (by decide)]; exact hA.2.1) (by rw [a3 0 12 (by decide)]; exact as2) (by rw [e3, hup_col (by decide), e2, hup_self]) (by rw [e3, hup_self])
    refine m_goes (q := (σ 5 t, nI i)) ok ⟨hq.1, i, hi, rfl⟩ hn (by rw [a3 0 1 (by decide), as' 0 1 (by decide)]; exact hA.2.2.2.1) hM (fun u5 a5 hM5 => ?_)
    rw [hM5.2.2.2.2.2.2.2.2.1, nI_clamp (by omega)]
    refine ⟨vp_in_nI hi (by decide), fun u6 e6 x7 e7 => ?_⟩
    rw [e7, nI_1]
    refine go u6 ⟨?_, fun w hw => ?_⟩
    · rw [e6]
      exact agr.up (a.tr ((a3.sub fun k i h => by omega).tr (a5.sub fun k i h => by omega))) (by omega)
    · rw [e6, hup_ap, if_pos rfl]
      by_cases hwi : w = i
      · rw [if_pos hwi, hwi]; rfl
      · rw [if_neg hwi, a5 19 w (by omega), a3 19 w (by omega)]; exact hs w (by omega)
def caV (e : Nat → Int32) : Nat → Int32 := orb (fun w v => v ||| (1 <<< (e w &&& 31))) 0
def weV (e : Nat → Int32) (c : Int32) : Nat → Int32 := orb (fun w v => if e w = c then v ||| (1 <<< (nI w &&& 31)) else v ||| 0) 0
theorem f_can : ∀ σ τ, Inv σ τ → ∀ (a1 a2 : Int32), VX11_can (fun v u => VX12_can (fun v' u' => v = v' ∧ Inv u u') τ a1 a2) σ a1 a2 := by
  intro σ τ hI a1 a2
  obtain ⟨T, X, L, Z, hA, hT, hP, hC, hS, hJ, hW⟩ := id hI
  unfold VX11_can
  rw [eX_isThing, ite_b2i]
  by_cases h : 0 ≤ a1 ∧ a1 < σ 1 5
  rotate_left
  · rw [if_neg h]
    try dsimp only
    unfold VX12_can
    rw [eM_isThing, ite_b2i, if_neg (fun q => h ((thB hT).mpr ((thC hT).mp q)))]
    exact ⟨rfl, hI⟩
  have h' := (thC hT).mpr ((thB hT).mp h)
  rw [if_pos h, eX_isBehind, ite_b2i]
  by_cases g2 : rg a2 0 40
  rotate_left
  · rw [if_neg g2]
    try dsimp only
    unfold VX12_can
    rw [eM_isThing, ite_b2i, if_pos h', eM_areSteps, ite_b2i, if_neg g2]
    exact ⟨rfl, hI⟩
  rw [if_pos g2]
  obtain ⟨t, ht, rfl⟩ := (thB hT).mp h
  obtain ⟨n, hn, rfl⟩ := rg_nI (N := 40) (by decide) g2
  have fin : ∀ (v : Int32) (u : Hp), v = caV (EN σ L t n) 5 → agr NSx σ u → VX12_can (fun v' u' => v = v' ∧ Inv u u') τ (nI t) (nI n) := by
    intro v u hv au
    unfold VX12_can
    rw [eM_isThing, ite_b2i, if_pos h', eM_areSteps, ite_b2i, if_pos g2]
    refine m_letsGo hA hT hC ht (by omega) agr.rf (fun w aw hw => ?_)
    refine lpN (S := Int32) (fun m s i => VX12_can_L32 (fun v' u' => v = v' ∧ Inv u u') m w s (nI i)) (fun i s => s = caV (EN σ L t n) i) 5 (fun m s hh => ?_) (fun m i s hi hh go => ?_) 0 rfl
    · show VX12_can_L32 _ (m + 1) w s (nI 5)
      rw [VX12_can_L32, if_pos (show (5 : Int32) ≤ nI 5 by decide)]
      exact ⟨hv.trans hh.symm, hI.ag au (aw.sub fun k i h => by omega)⟩
    · show VX12_can_L32 _ (m + 1) w s (nI i)
      rw [VX12_can_L32, if_neg (show ¬ (5 : Int32) ≤ nI i from nI_ge (b := 5) hi (by decide)), nI_clamp (by omega), hw i hi]
      refine ⟨vp_in_nI hi (by decide), fun x10 e10 x11 e11 => ?_⟩
      rw [e11, nI_1]
      exact go x10 (by rw [e10, hh]; rfl)
  generalize hKe : (fun (v : Int32) (u : Hp) => VX12_can (fun v' u' => v = v' ∧ Inv u u') τ (nI t) (nI n)) = K
  refine lpN (S := Hp × Int32) (fun m s i => VX11_can_L26 K m s.1 (nI t) (nI n) s.2 (nI i)) (fun i s => agr BX σ s.1 ∧ s.2 = caV (EN σ L t n) i) 5 (fun m s hh => ?_) (fun m i s hi hh go => ?_) (σ, 0) ⟨agr.rf, rfl⟩
  · show VX11_can_L26 K (m + 1) s.1 (nI t) (nI n) s.2 (nI 5)
    rw [VX11_can_L26, if_pos (show (5 : Int32) ≤ nI 5 by decide)]
    subst hKe
    exact fin _ _ hh.2 (hh.1.sub fun k i h => by omega)
  · show VX11_can_L26 K (m + 1) s.1 (nI t) (nI n) s.2 (nI i)
    obtain ⟨a, hs⟩ := hh
    rw [VX11_can_L26, if_neg (show ¬ (5 : Int32) ≤ nI i from nI_ge (b := 5) hi (by decide))]
    refine x_endOf hA hT hC ht (by omega) hi (a.sub fun k i h => by omega) (fun u1 b1 x10 e10 x11 e11 => ?_)
    rw [e11, nI_1]
    exact go (u1, x10) ⟨a.tr b1, by rw [e10, hs]; rfl⟩
theorem f_went : ∀ σ τ, Inv σ τ → ∀ (a1 a2 a3 : Int32), VX11_went (fun v u => VX12_went (fun v' u' => v = v' ∧ Inv u u') τ a1 a2 a3) σ a1 a2 a3 := by
  intro σ τ hI a1 a2 a3
  obtain ⟨T, X, L, Z, hA, hT, hP, hC, hS, hJ, hW⟩ := id hI
  unfold VX11_went
  rw [eX_isThing, ite_b2i]
  by_cases h : 0 ≤ a1 ∧ a1 < σ 1 5
  rotate_left
  · rw [if_neg h]
    try dsimp only
    unfold VX12_went
    rw [eM_isThing, ite_b2i, if_neg (fun q => h ((thB hT).mpr ((thC hT).mp q)))]
    exact ⟨rfl, hI⟩
  have h' := (thC hT).mpr ((thB hT).mp h)
  rw [if_pos h, eX_isBehind, ite_b2i]
  by_cases g2 : rg a2 0 40
  rotate_left
  · rw [if_neg g2]
    try dsimp only
    unfold VX12_went
    rw [eM_isThing, ite_b2i, if_pos h', eM_areSteps, ite_b2i, if_neg g2]
    exact ⟨rfl, hI⟩
  rw [if_pos g2, eX_isCell, ite_b2i]
  by_cases g3 : rg a3 0 29
  rotate_left
  · rw [if_neg g3]
    try dsimp only
    unfold VX12_went
    rw [eM_isThing, ite_b2i, if_pos h', eM_areSteps, ite_b2i, if_pos g2, eM_isCell, ite_b2i, if_neg g3]
    exact ⟨rfl, hI⟩
  rw [if_pos g3]
  obtain ⟨t, ht, rfl⟩ := (thB hT).mp h
  obtain ⟨n, hn, rfl⟩ := rg_nI (N := 40) (by decide) g2
  have hst : ∀ i, weV (EN σ L t n) a3 (i + 1) = if EN σ L t n i = a3 then weV (EN σ L t n) a3 i ||| (1 <<< (nI i &&& 31)) else weV (EN σ L t n) a3 i ||| 0 := fun i => rfl
  have fin : ∀ (v : Int32) (u : Hp), v = weV (EN σ L t n) a3 5 → agr NSx σ u → VX12_went (fun v' u' => v = v' ∧ Inv u u') τ (nI t) (nI n) a3 := by
    intro v u hv au
    unfold VX12_went
    rw [eM_isThing, ite_b2i, if_pos h', eM_areSteps, ite_b2i, if_pos g2, eM_isCell, ite_b2i, if_pos g3]
    refine m_letsGo hA hT hC ht (by omega) agr.rf (fun w aw hw => ?_)
    refine lpN (S := Int32) (fun m s i => VX12_went_L40 (fun v' u' => v = v' ∧ Inv u u') m w a3 s (nI i)) (fun i s => s = weV (EN σ L t n) a3 i) 5 (fun m s hh => ?_) (fun m i s hi hh go => ?_) 0 rfl
    · show VX12_went_L40 _ (m + 1) w a3 s (nI 5)
      rw [VX12_went_L40, if_pos (show (5 : Int32) ≤ nI 5 by decide)]
      exact ⟨hv.trans hh.symm, hI.ag au (aw.sub fun k i h => by omega)⟩
    · show VX12_went_L40 _ (m + 1) w a3 s (nI i)
      rw [VX12_went_L40, if_neg (show ¬ (5 : Int32) ≤ nI i from nI_ge (b := 5) hi (by decide)), nI_clamp (by omega), hw i hi]
      refine ⟨vp_in_nI hi (by decide), ?_⟩
      by_cases hc : EN σ L t n i = a3
      · rw [if_pos hc]
        intro x16 e16 x17 e17
        rw [e17, nI_1]
        exact go x16 (by rw [hst, if_pos hc, e16, hh])
      · rw [if_neg hc]
        intro x16 e16 x17 e17
        rw [e17, nI_1]
        exact go x16 (by rw [hst, if_neg hc, e16, hh])
  generalize hKe : (fun (v : Int32) (u : Hp) => VX12_went (fun v' u' => v = v' ∧ Inv u u') τ (nI t) (nI n) a3) = K
  refine lpN (S := Hp × Int32) (fun m s i => VX11_went_L34 K m s.1 (nI t) (nI n) a3 s.2 (nI i)) (fun i s => agr BX σ s.1 ∧ s.2 = weV (EN σ L t n) a3 i) 5 (fun m s hh => ?_) (fun m i s hi hh go => ?_) (σ, 0) ⟨agr.rf, rfl⟩
  · show VX11_went_L34 K (m + 1) s.1 (nI t) (nI n) a3 s.2 (nI 5)
    rw [VX11_went_L34, if_pos (show (5 : Int32) ≤ nI 5 by decide)]
    subst hKe
    exact fin _ _ hh.2 (hh.1.sub fun k i h => by omega)
  · show VX11_went_L34 K (m + 1) s.1 (nI t) (nI n) a3 s.2 (nI i)
    obtain ⟨a, hs⟩ := hh
    rw [VX11_went_L34, if_neg (show ¬ (5 : Int32) ≤ nI i from nI_ge (b := 5) hi (by decide))]
    refine x_endOf hA hT hC ht (by omega) hi (a.sub fun k i h => by omega) (fun u1 b1 => ?_)
    by_cases hc : EN σ L t n i = a3
    · rw [if_pos hc]
      intro x16 e16 x17 e17
      rw [e17, nI_1]
      exact go (u1, x16) ⟨a.tr b1, by rw [hst, if_pos hc, e16, hs]⟩
    · rw [if_neg hc]
      intro x16 e16 x17 e17
      rw [e17, nI_1]
      exact go (u1, x16) ⟨a.tr b1, by rw [hst, if_neg hc, e16, hs]⟩
/-! counting -/
def sm (f : Nat → Nat) : Nat → Nat
  | 0 => 0
  | n + 1 => sm f n + f n
theorem sm_add {f g : Nat → Nat} : ∀ n, sm (fun i => f i + g i) n = sm f n + sm g n
  | 0 => rfl
  | n + 1 => by
    show sm (fun i => f i + g i) n + (f n + g n) = (sm f n + f n) + (sm g n + g n)
    rw [sm_add n]; omega
theorem sm_cg {f g : Nat → Nat} : ∀ n, (∀ i, i < n → f i = g i) → sm f n = sm g n
  | 0, _ => rfl
  | n + 1, h => by
    show sm f n + f n = sm g n + g n
    rw [sm_cg n (fun i hi => h i (by omega)), h n (by omega)]
theorem sm_dl {f : Nat → Nat} {k : Nat} : ∀ n, sm (fun i => (if k = i then 1 else 0) * f i) n = if k < n then f k else 0
  | 0 => rfl
  | n + 1 => by
    show sm (fun i => (if k = i then 1 else 0) * f i) n + (if k = n then 1 else 0) * f n = _
    rw [sm_dl n]
    by_cases h1 : k = n
    · rw [if_neg (by omega), if_pos h1, if_pos (by omega), h1]; omega
    · rw [if_neg h1]
      by_cases h2 : k < n
      · rw [if_pos h2, if_pos (by omega)]; omega
      · rw [if_neg h2, if_neg (by omega)]; omega
theorem sm_le {f : Nat → Nat} {b : Nat} : ∀ n, (∀ i, i < n → f i ≤ b) → sm f n ≤ n * b
  | 0, _ => Nat.zero_le _
  | n + 1, h => by
    show sm f n + f n ≤ (n + 1) * b
    have := sm_le n (fun i hi => h i (by omega))
    have := h n (by omega)
    rw [Nat.succ_mul]; omega
/-- how many of the first W ends are the cell c; how many cells are ahead of c -/
def cNW (e : Nat → Nat) (W c : Nat) : Nat := sm (fun w => if e w = c then 1 else 0) W
def cN (e : Nat → Nat) (c : Nat) : Nat := cNW e 5 c
def ahP (e : Nat → Nat) (c d : Nat) : Nat := if cN e c < cN e d then 1 else if d < c ∧ cN e d = cN e c then 1 else 0
def aN (e : Nat → Nat) (c : Nat) : Nat := sm (ahP e c) 30
theorem cN_le {e : Nat → Nat} {c : Nat} : cN e c ≤ 5 := by
  have := sm_le (f := fun w => if e w = c then 1 else 0) (b := 1) 5 (fun i _ => by
    show (if e i = c then 1 else 0) ≤ 1
    split <;> omega)
  unfold cN cNW
  omega
theorem cNW_le {e : Nat → Nat} {W c : Nat} : cNW e W c ≤ W := by
  have := sm_le (f := fun w => if e w = c then 1 else 0) (b := 1) W (fun i _ => by
    show (if e i = c then 1 else 0) ≤ 1
    split <;> omega)
  unfold cNW
  omega
theorem aN_le {e : Nat → Nat} {c : Nat} : aN e c ≤ 30 := by
  have := sm_le (f := ahP e c) (b := 1) 30 (fun i _ => by
    unfold ahP
    split
    · omega
    · split <;> omega)
  unfold aN
  omega
theorem sm_ends {e f : Nat → Nat} : ∀ W, (∀ w, w < W → e w < 30) → sm (fun c => cNW e W c * f c) 30 = sm (fun w => f (e w)) W
  | 0, _ => by
    rw [sm_cg (g := fun _ => 0) 30 (fun i _ => by show sm _ 0 * f i = 0; simp [sm])]
    show sm (fun _ => 0) 30 = 0
    decide
  | W + 1, h => by
    have h1 := sm_ends (f := f) W (fun w hw => h w (by omega))
    show _ = sm (fun w => f (e w)) W + f (e W)
    rw [← h1, sm_cg (g := fun c => cNW e W c * f c + (if e W = c then 1 else 0) * f c) 30 (fun i _ => by
      show (sm _ W + (if e W = i then 1 else 0)) * f i = _
      rw [Nat.add_mul]; rfl), sm_add, sm_dl, if_pos (h W (by omega))]
