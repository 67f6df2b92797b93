/-! ===== toss, turn, net ===== -/
def okm (v : Int32) : Prop := v = -1 ∨ nb v 41
theorem fi_okm (P : Nat → Bool) : okm (fi P) := by
  rcases fi_cs P with h | ⟨k, h1, _, h3⟩
  · exact Or.inl h
  · exact Or.inr ⟨k, by omega, h3⟩
theorem okm_lt {v : Int32} (h : okm v) : v < 0 ↔ v = -1 := by
  rcases h with h | h
  · rw [h]; decide
  · exact ⟨fun q => absurd q (nb_n0 h (by decide)), fun q => absurd q (nb_nm h (by decide))⟩
/-- a new best, and the least -/
def bst (i k : Int32) (p : Int32 × Int32) : Int32 × Int32 := if k = -1 then p else if p.2 = -1 then (i, k) else if p.2 ≤ k then p else (i, k)
theorem bst_ok {i k : Int32} {p : Int32 × Int32} (hk : okm k) (hp : okm p.2) : okm (bst i k p).2 := by
  unfold bst
  split
  · exact hp
  · split
    · exact hk
    · split
      · exact hp
      · exact hk
theorem rg100 {a : Int32} (h : ¬ a < 0) : ∃ k, k < 2 ^ 31 ∧ a = nI k := nI_of h
def toK (σ : Hp) (L t : Nat) (c0 c1 : Int32) (w : Nat) : Int32 := fi (fun k => decide ((OB σ (σ 1 1) L t (c0, nI w) k).1 = c1))
def toV (σ : Hp) (L t : Nat) (c0 c1 : Int32) : Nat → Int32 × Int32 := orb (fun w p => bst (nI w) (toK σ L t c0 c1 w) p) (-1, -1)
theorem toV_ok {σ : Hp} {L t : Nat} {c0 c1 : Int32} : ∀ w, okm (toV σ L t c0 c1 w).2
  | 0 => Or.inl rfl
  | w + 1 => bst_ok (fi_okm _) (toV_ok w)
theorem f_toss : ∀ σ τ, Inv σ τ → ∀ (a1 a2 a3 : Int32), VX11_toss (fun v u => VX12_toss (fun v' u' => v = v' ∧ Inv u u') τ a1 a2 a3) σ a1 a2 a3 := by
  intro σ τ hI a1 a2 a3
  obtain ⟨T, X, L, Z, hA, hT, hP, hC, hS, hJ, hW⟩ := id hI
  have e1 := hI.eqs.1
  have hT5 := hT.1
  unfold VX11_toss
  rw [eX_isThing, ite_b2i]
  by_cases h : 0 ≤ a1 ∧ a1 < σ 1 5
  rotate_left
  · rw [if_neg h]
    try dsimp only
    unfold VX12_toss
    rw [eM_isThing, ite_b2i, if_neg (fun q => h ((thB hT).mpr ((thC hT).mp q)))]
    exact ⟨rfl, hI⟩
  have h' := (thC hT).mpr ((thB hT).mp h)
  rw [if_pos h]
  by_cases n1 : a2 < 0
  · rw [if_pos n1]
    try dsimp only
    unfold VX12_toss
    rw [eM_isThing, ite_b2i, if_pos h', if_pos n1]
    exact ⟨rfl, hI⟩
  rw [if_neg n1, eX_isOpen, ite_b2i]
  by_cases g2 : rg (a2 / 100) 0 29 ∧ ¬ hasb (σ 1 0) (a2 / 100)
  rotate_left
  · rw [if_neg g2]
    try dsimp only
    unfold VX12_toss
    rw [eM_isThing, ite_b2i, if_pos h', if_neg n1, eM_isFree, e1, ite_b2i, if_neg g2]
    exact ⟨rfl, hI⟩
  rw [if_pos g2, eX_isCell, ite_b2i]
  by_cases g3 : rg (jrem a2 100) 0 29
  rotate_left
  · rw [if_neg g3]
    try dsimp only
    unfold VX12_toss
    rw [eM_isThing, ite_b2i, if_pos h', if_neg n1, eM_isFree, e1, ite_b2i, if_pos g2, eM_isCell, ite_b2i, if_neg g3]
    exact ⟨rfl, hI⟩
  rw [if_pos g3, eX_isChoice, ite_b2i]
  by_cases g4 : rg a3 0 1
  rotate_left
  · rw [if_neg g4]
    try dsimp only
    unfold VX12_toss
    rw [eM_isThing, ite_b2i, if_pos h', if_neg n1, eM_isFree, e1, ite_b2i, if_pos g2, eM_isCell, ite_b2i, if_pos g3, eM_in, ite_b2i, if_neg g4]
    exact ⟨rfl, hI⟩
  rw [if_pos g4]
  obtain ⟨t, ht, rfl⟩ := (thB hT).mp h
  obtain ⟨c, hc, ec⟩ := rg_nI (N := 29) (by decide) g2.1
  obtain ⟨k1, k2, k3, k4, k5, k6, k7, k8⟩ := hT.2.2.2 t ht
  obtain ⟨ok, hq0⟩ := x_okt hA hT hC ht hA.L.1
  have hq : ∀ w, w < 4 → okq (a2 / 100, nI w) := fun w hw => ⟨⟨c, by omega, ec⟩, w, by omega, rfl⟩
  have fin : ∀ (v : Int32) (u : Hp), v = (if a3 = 0 then (toV σ L t (a2 / 100) (jrem a2 100) 4).1 else (toV σ L t (a2 / 100) (jrem a2 100) 4).2) → agr NSx σ u → VX12_toss (fun v' u' => v = v' ∧ Inv u u') τ (nI t) a2 a3 := by
    intro v u hv au
    unfold VX12_toss
    rw [eM_isThing, ite_b2i, if_pos h', if_neg n1, eM_isFree, e1, ite_b2i, if_pos g2, eM_isCell, ite_b2i, if_pos g3, eM_in, ite_b2i, if_pos g4]
    refine lpN (S := Hp × Int32 × Int32) (fun m s i => VX12_toss_L57 (fun v' u' => v = v' ∧ Inv u u') m s.1 (nI t) a2 a3 s.2.1 s.2.2 (nI i)) (fun i s => agr PSm τ s.1 ∧ s.2 = toV σ L t (a2 / 100) (jrem a2 100) i) 4 (fun m s hh => ?_) (fun m i s hi hh go => ?_) (τ, -1, -1) ⟨agr.rf, rfl⟩
    · show VX12_toss_L57 _ (m + 1) s.1 (nI t) a2 a3 s.2.1 s.2.2 (nI 4)
      rw [VX12_toss_L57, if_pos (show (4 : Int32) ≤ nI 4 by decide), hh.2]
      have hIv : Inv u s.1 := hI.ag au (hh.1.sub fun k i h => by omega)
      by_cases h0 : a3 = 0
      · rw [if_pos h0] at hv ⊢; exact ⟨hv, hIv⟩
      · rw [if_neg h0] at hv ⊢; exact ⟨hv, hIv⟩
    · show VX12_toss_L57 _ (m + 1) s.1 (nI t) a2 a3 s.2.1 s.2.2 (nI i)
      obtain ⟨a, hs⟩ := hh
      rw [VX12_toss_L57, if_neg (show ¬ (4 : Int32) ≤ nI i from nI_ge (b := 4) hi (by decide))]
      intro u16 e16 u17 e17
      have a17 : agr N032 s.1 u17 := by rw [e17, e16]; exact agr.up (agr.up agr.rf (by omega)) (by omega)
      have aτ : agr EM τ s.1 := a.sub fun k i h => by omega
      have hM : MBs σ (σ 1 1) L t u17 (a2 / 100, nI i) := m_mbs hA hT hC ht hA.L.1 (fun k j hk => (a17 k j (by omega)).trans (aτ k j hk)) (by rw [a17 1 1 (by decide), a 1 1 (by decide)]; exact hA.2.1) (by rw [a17 0 12 (by decide), a 0 12 (by decide)]; exact hA.2.2.2.2.2.2.1) (by rw [e17, hup_col (by decide), e16, hup_self]) (by rw [e17, hup_self])
      refine m_first0 ok (hq i hi) (by rw [a17 0 1 (by decide), a 0 1 (by decide)]; exact hA.2.2.2.1) hM (fun u19 a19 => ?_)
      have a19' : agr PSm τ u19 := a.tr ((a17.sub fun k i h => by omega).tr a19)
      have hst : toV σ L t (a2 / 100) (jrem a2 100) (i + 1) = bst (nI i) (toK σ L t (a2 / 100) (jrem a2 100) i) s.2 := by rw [hs]; rfl
      have hk : fi (fun k => decide ((OB σ (σ 1 1) L t (a2 / 100, nI i) k).1 = jrem a2 100)) = toK σ L t (a2 / 100) (jrem a2 100) i := rfl
      rw [hk]
      generalize toK σ L t (a2 / 100) (jrem a2 100) i = k0 at hst ⊢
      unfold bst at hst
      unfold VX12_toss_b112 VX12_toss_b126
      have nx : ∀ p, p = toV σ L t (a2 / 100) (jrem a2 100) (i + 1) → ∀ x, x = nI i + 1 → VX12_toss_L57 (fun v' u' => v = v' ∧ Inv u u') m u19 (nI t) a2 a3 p.1 p.2 x := fun p hp x hx => by
        rw [hx, nI_1]; exact go (u19, p) ⟨a19', hp⟩
      by_cases h1 : k0 = -1
      · rw [if_pos h1] at hst ⊢
        rw [if_pos rfl, if_pos rfl]
        exact nx s.2 hst.symm
      rw [if_neg h1] at hst ⊢
      by_cases h2 : s.2.2 = -1
      · rw [if_pos h2] at hst ⊢
        rw [if_neg (by decide), if_neg (by decide)]
        exact nx (nI i, k0) hst.symm
      rw [if_neg h2] at hst ⊢
      by_cases h3 : s.2.2 ≤ k0
      · rw [if_pos h3] at hst ⊢
        rw [if_pos rfl, if_pos rfl]
        exact nx s.2 hst.symm
      · rw [if_neg h3] at hst ⊢
        rw [if_neg (by decide), if_neg (by decide)]
        exact nx (nI i, k0) hst.symm
  generalize hKe : (fun (v : Int32) (u : Hp) => VX12_toss (fun v' u' => v = v' ∧ Inv u u') τ (nI t) a2 a3) = K
  refine lpN (S := Hp × Int32 × Int32) (fun m s i => VX11_toss_L55 K m s.1 (nI t) a2 a3 s.2.1 s.2.2 (nI i)) (fun i s => agr (fun k _ => BX k 0 ∧ k ≠ 50) σ s.1 ∧ s.2 = toV σ L t (a2 / 100) (jrem a2 100) i) 4 (fun m s hh => ?_) (fun m i s hi hh go => ?_) (σ, -1, -1) ⟨agr.rf, rfl⟩
  · show VX11_toss_L55 K (m + 1) s.1 (nI t) a2 a3 s.2.1 s.2.2 (nI 4)
    rw [VX11_toss_L55, if_pos (show (4 : Int32) ≤ nI 4 by decide), hh.2]
    subst hKe
    have hN : agr NSx σ s.1 := hh.1.sub fun k i h => by omega
    by_cases h0 : a3 = 0
    · rw [if_pos h0] at fin ⊢; exact fin _ _ rfl hN
    · rw [if_neg h0] at fin ⊢; exact fin _ _ rfl hN
  · show VX11_toss_L55 K (m + 1) s.1 (nI t) a2 a3 s.2.1 s.2.2 (nI i)
    obtain ⟨a, hs⟩ := hh
    have aN : agr NSx σ s.1 := a.sub fun k i h => by omega
    rw [VX11_toss_L55, if_neg (show ¬ (4 : Int32) ≤ nI i from nI_ge (b := 4) hi (by decide))]
    unfold VX11_letGo
    refine x_lift hA hT ht (aN.sub fun k i h => by omega) (fun u1 b1 hX => ⟨rfl, fun u3 e3 => ⟨rfl, fun u18 e18 => ?_⟩⟩)
    have a13 : agr PSx u1 u18 := by rw [e18, e3]; exact agr.up (agr.up agr.rf (by omega)) (by omega)
    have hX3 : XBs σ (σ 1 1) L t u18 (a2 / 100, nI i) := XB_49 hX ok.1 a13 (by rw [e18, hup_self]) (by rw [e18, hup_col (by decide), e3, hup_self])
    refine x_follow ok (hq i hi) (by rw [a13 1 3 (by decide), b1 1 3 (by decide), aN 1 3 (by decide)]) hX3 (fun u2 b2 hp _ => ?_)
    refine x_firstIn ?_
    rw [fi_path hp]
    have a2' : agr (fun k _ => BX k 0 ∧ k ≠ 50) σ u2 := a.tr ((b1.sub fun k i h => by omega).tr ((a13.sub fun k i h => by omega).tr (b2.sub fun k i h => by omega)))
    have hst : toV σ L t (a2 / 100) (jrem a2 100) (i + 1) = bst (nI i) (toK σ L t (a2 / 100) (jrem a2 100) i) s.2 := by rw [hs]; rfl
    have hk : fi (fun k => decide ((OB σ (σ 1 1) L t (a2 / 100, nI i) k).1 = jrem a2 100)) = toK σ L t (a2 / 100) (jrem a2 100) i := rfl
    have hok : okm (toK σ L t (a2 / 100) (jrem a2 100) i) := fi_okm _
    have hok2 : okm s.2.2 := by rw [hs]; exact toV_ok i
    rw [hk]
    generalize toK σ L t (a2 / 100) (jrem a2 100) i = k0 at hst hok ⊢
    unfold bst at hst
    unfold VX11_toss_b112
    have nx : ∀ p, p = toV σ L t (a2 / 100) (jrem a2 100) (i + 1) → ∀ x, x = nI i + 1 → VX11_toss_L55 K m u2 (nI t) a2 a3 p.1 p.2 x := fun p hp x hx => by
      rw [hx, nI_1]; exact go (u2, p) ⟨a2', hp⟩
    by_cases h1 : k0 = -1
    · rw [if_pos h1] at hst
      rw [if_pos ((okm_lt hok).mpr h1)]
      exact nx s.2 hst.symm
    rw [if_neg h1] at hst
    rw [if_neg (fun q => h1 ((okm_lt hok).mp q))]
    by_cases h2 : s.2.2 = -1
    · rw [if_pos h2] at hst
      rw [if_pos ((okm_lt hok2).mpr h2)]
      exact nx (nI i, k0) hst.symm
    rw [if_neg h2] at hst
    rw [if_neg (fun q => h2 ((okm_lt hok2).mp q))]
    by_cases h3 : s.2.2 ≤ k0
    · rw [if_pos h3] at hst ⊢
      exact nx s.2 hst.symm
    · rw [if_neg h3] at hst ⊢
      exact nx (nI i, k0) hst.symm
/-! turn -/
def tuK (σ : Hp) (L t : Nat) (c a : Int32) : Int32 := fi (fun k => decide ((OT σ (σ 1 1) L t a (σ 5 t, σ 6 t) k).1 = c))
def tuV (σ : Hp) (L t : Nat) (c : Int32) : Nat → Int32 × Int32 := orb (fun i p => bst (nI i) (tuK σ L t c (nI i)) p) (-1, tuK σ L t c (-1))
theorem tuK_ok {σ : Hp} {L t : Nat} {c a : Int32} : okm (tuK σ L t c a) := fi_okm _
theorem tuV_ok {σ : Hp} {L t : Nat} {c : Int32} : ∀ w, okm (tuV σ L t c w).2
  | 0 => tuK_ok (a := -1)
  | w + 1 => bst_ok (fi_okm _) (tuV_ok w)
theorem m_turned {K : Int32 → Hp → Prop} {σ τ v : Hp} {X L T t : Nat} {c a : Int32} (hA : IA σ τ X L) (hT : IT σ τ T) (hC : IC σ τ X) (ht : t < T) (ha : agr NSm τ v) (hK : ∀ v', agr PSm v v' → K (tuK σ L t c a) v') : VX12_turnedFirst K v (nI t) c a := by
  obtain ⟨ok, hq⟩ := x_okt hA hT hC ht hA.L.1
  obtain ⟨k1, k2, k3, k4, k5, k6, k7, k8⟩ := hT.2.2.2 t ht
  have hT5 := hT.1
  unfold VX12_turnedFirst
  refine m_begins (N := σ 1 1) hA hT hC ht hA.L.1 (ha.sub fun k i h => by omega) (by rw [ha 1 1 (by decide)]; exact hA.2.1) (by rw [ha 0 12 (by decide)]; exact hA.2.2.2.2.2.2.1) (fun u1 b1 hM => ?_)
  rw [ha 4 t (by omega), ha 5 t (by omega), k7, k8] at hM
  have h01 : u1 0 1 = σ 1 3 := by rw [b1 0 1 (by decide), ha 0 1 (by decide)]; exact hA.2.2.2.1
  have hK' : ∀ v', agr PSm u1 v' → K (tuK σ L t c a) v' := fun v' h => hK v' ((b1.sub fun k i h => by omega).tr h)
  unfold tuK at hK'
  refine lpN (S := Hp) (fun n s i => VX12_turnedFirst_L8 K n s (nI t) c a (nI i)) (fun i s => agr PSm u1 s ∧ MBs σ (σ 1 1) L t s (OT σ (σ 1 1) L t a (σ 5 t, σ 6 t) i) ∧ ∀ j, j < i → decide ((OT σ (σ 1 1) L t a (σ 5 t, σ 6 t) j).1 = c) = false) 41 (fun n s h => ?_) (fun n i s hi h go => ?_) u1 ⟨agr.rf, hM, fun j hj => absurd hj (Nat.not_lt_zero j)⟩
  · show VX12_turnedFirst_L8 K (n + 1) s (nI t) c a (nI 41)
    rw [VX12_turnedFirst_L8, if_pos (show (40 : Int32) < nI 41 by decide)]
    have := hK' s h.1
    rw [fi_none h.2.2] at this
    exact this
  · show VX12_turnedFirst_L8 K (n + 1) s (nI t) c a (nI i)
    obtain ⟨as', hMi, hn⟩ := h
    have h32 : s 0 32 = (OT σ (σ 1 1) L t a (σ 5 t, σ 6 t) i).1 := hMi.2.2.2.2.2.2.2.2.1
    have h33 : s 0 33 = (OT σ (σ 1 1) L t a (σ 5 t, σ 6 t) i).2 := hMi.2.2.2.2.2.2.2.2.2
    have hok := OT_ok (N := σ 1 1) (a := a) ok hq i
    rw [VX12_turnedFirst_L8, if_neg (show ¬ (40 : Int32) < nI i from nI_nlt (a := 40) (by omega) (by omega)), h32, h33]
    by_cases hc : (OT σ (σ 1 1) L t a (σ 5 t, σ 6 t) i).1 = c
    · rw [if_pos hc]
      have := hK' s as'
      rw [fi_hit (i := i) (decide_eq_true hc) hi hn] at this
      exact this
    rw [if_neg hc]
    have hnx : ∀ j, j < i + 1 → decide ((OT σ (σ 1 1) L t a (σ 5 t, σ 6 t) j).1 = c) = false := fun j hj => by
      by_cases hji : j = i
      · rw [hji]; exact decide_eq_false hc
      · exact hn j (by omega)
    have hstep : OT σ (σ 1 1) L t a (σ 5 t, σ 6 t) (i + 1) = GI σ (σ 1 1) L t (σ 1 3 + nI i) (if nI i = a then ((OT σ (σ 1 1) L t a (σ 5 t, σ 6 t) i).1, trn (OT σ (σ 1 1) L t a (σ 5 t, σ 6 t) i).2) else OT σ (σ 1 1) L t a (σ 5 t, σ 6 t) i) := rfl
    have b56 : ∀ s0, nb s0 5 → OT σ (σ 1 1) L t a (σ 5 t, σ 6 t) (i + 1) = GI σ (σ 1 1) L t (σ 1 3 + nI i) ((OT σ (σ 1 1) L t a (σ 5 t, σ 6 t) i).1, s0) → VX12_turnedFirst_b56 K (VX12_turnedFirst_L8 K n) s (nI t) c a (nI i) s0 := fun s0 hs0 hG => by
      unfold VX12_turnedFirst_b56
      intro u7 e7
      have a7 : agr PSm s u7 := by rw [e7]; exact agr.up agr.rf (by omega)
      have hM7 : MBs σ (σ 1 1) L t u7 ((OT σ (σ 1 1) L t a (σ 5 t, σ 6 t) i).1, s0) := MB_ag hMi a7 (by rw [e7, hup_col (by decide)]; exact h32) (by rw [e7, hup_self])
      rw [a7 0 1 (by decide), as' 0 1 (by decide), h01]
      refine m_steps (q := ((OT σ (σ 1 1) L t a (σ 5 t, σ 6 t) i).1, s0)) ok.1 ok.2.1 (nb_cl ok.2.2.1 (by decide)) ok.2.2.2.1 ok.2.2.2.2 ⟨hok.1, hs0⟩ hM7 (fun u9 a9 hM9 => ?_)
      intro x10 e10
      rw [e10, nI_1]
      have hM9' : MBs σ (σ 1 1) L t u9 (GI σ (σ 1 1) L t (σ 1 3 + nI i) ((OT σ (σ 1 1) L t a (σ 5 t, σ 6 t) i).1, s0)) := hM9
      rw [← hG] at hM9'
      exact go u9 ⟨as'.tr (a7.tr a9), hM9', hnx⟩
    by_cases hia : nI i = a
    · rw [if_pos hia] at hstep ⊢
      have htr := trn_nb hok.2
      by_cases h4 : (OT σ (σ 1 1) L t a (σ 5 t, σ 6 t) i).2 = 4
      · rw [if_pos h4]
        refine b56 _ hok.2 ?_
        rw [hstep]
        unfold trn
        rw [if_pos h4, h4]
      · rw [if_neg h4]
        unfold trn at htr hstep
        rw [if_neg h4] at htr hstep
        exact b56 _ htr hstep
    · rw [if_neg hia] at hstep ⊢
      exact b56 _ hok.2 hstep
theorem f_turn : ∀ σ τ, Inv σ τ → ∀ (a1 a2 a3 : Int32), VX11_turn (fun v u => VX12_turn (fun v' u' => v = v' ∧ Inv u u') τ a1 a2 a3) σ a1 a2 a3 := by
  intro σ τ hI a1 a2 a3
  obtain ⟨T, X, L, Z, hA, hT, hP, hC, hS, hJ, hW⟩ := id hI
  unfold VX11_turn
  rw [eX_isThing, ite_b2i]
  by_cases h : 0 ≤ a1 ∧ a1 < σ 1 5
  rotate_left
  · rw [if_neg h]
    try dsimp only
    unfold VX12_turn
    rw [eM_isThing, ite_b2i, if_neg (fun q => h ((thB hT).mpr ((thC hT).mp q)))]
    exact ⟨rfl, hI⟩
  have h' := (thC hT).mpr ((thB hT).mp h)
  rw [if_pos h, eX_isCell, ite_b2i]
  by_cases g2 : rg a2 0 29
  rotate_left
  · rw [if_neg g2]
    try dsimp only
    unfold VX12_turn
    rw [eM_isThing, ite_b2i, if_pos h', eM_isCell, ite_b2i, if_neg g2]
    exact ⟨rfl, hI⟩
  rw [if_pos g2, eX_isChoice, ite_b2i]
  by_cases g3 : rg a3 0 1
  rotate_left
  · rw [if_neg g3]
    try dsimp only
    unfold VX12_turn
    rw [eM_isThing, ite_b2i, if_pos h', eM_isCell, ite_b2i, if_pos g2, eM_in, ite_b2i, if_neg g3]
    exact ⟨rfl, hI⟩
  rw [if_pos g3]
  obtain ⟨t, ht, rfl⟩ := (thB hT).mp h
  obtain ⟨ok, hq⟩ := x_okt hA hT hC ht hA.L.1
  have fin : ∀ (v : Int32) (u : Hp), v = (if a3 = 0 then (tuV σ L t a2 21).1 else (tuV σ L t a2 21).2) → agr NSx σ u → VX12_turn (fun v' u' => v = v' ∧ Inv u u') τ (nI t) a2 a3 := by
    intro v u hv au
    unfold VX12_turn
    rw [eM_isThing, ite_b2i, if_pos h', eM_isCell, ite_b2i, if_pos g2, eM_in, ite_b2i, if_pos g3]
    refine m_turned hA hT hC ht agr.rf (fun w aw => ?_)
    refine lpN (S := Hp × Int32 × Int32) (fun m s i => VX12_turn_L45 (fun v' u' => v = v' ∧ Inv u u') m s.1 (nI t) a2 a3 s.2.1 s.2.2 (nI i)) (fun i s => agr PSm τ s.1 ∧ s.2 = tuV σ L t a2 i) 21 (fun m s hh => ?_) (fun m i s hi hh go => ?_) (w, -1, _) ⟨aw, rfl⟩
    · show VX12_turn_L45 _ (m + 1) s.1 (nI t) a2 a3 s.2.1 s.2.2 (nI 21)
      rw [VX12_turn_L45, if_pos (show (20 : Int32) < nI 21 by decide), hh.2]
      have hIv : Inv u s.1 := hI.ag au (hh.1.sub fun k i h => by omega)
      by_cases h0 : a3 = 0
      · rw [if_pos h0] at hv ⊢; exact ⟨hv, hIv⟩
      · rw [if_neg h0] at hv ⊢; exact ⟨hv, hIv⟩
    · show VX12_turn_L45 _ (m + 1) s.1 (nI t) a2 a3 s.2.1 s.2.2 (nI i)
      obtain ⟨a, hs⟩ := hh
      rw [VX12_turn_L45, if_neg (show ¬ (20 : Int32) < nI i from nI_nlt (a := 20) (by omega) (by omega))]
      refine m_turned hA hT hC ht (a.sub fun k i h => by omega) (fun u19 a19 => ?_)
      have a19' : agr PSm τ u19 := a.tr a19
      have hst : tuV σ L t a2 (i + 1) = bst (nI i) (tuK σ L t a2 (nI i)) s.2 := by rw [hs]; rfl
      generalize tuK σ L t a2 (nI i) = k0 at hst ⊢
      unfold bst at hst
      unfold VX12_turn_b86 VX12_turn_b100
      have nx : ∀ p, p = tuV σ L t a2 (i + 1) → ∀ x, x = nI i + 1 → VX12_turn_L45 (fun v' u' => v = v' ∧ Inv u u') m u19 (nI t) a2 a3 p.1 p.2 x := fun p hp x hx => by
        rw [hx, nI_1]; exact go (u19, p) ⟨a19', hp⟩
      by_cases h1 : k0 = -1
      · rw [if_pos h1] at hst ⊢
        rw [if_pos rfl, if_pos rfl]
        exact nx s.2 hst.symm
      rw [if_neg h1] at hst ⊢
      by_cases h2 : s.2.2 = -1
      · rw [if_pos h2] at hst ⊢
        rw [if_neg (by decide), if_neg (by decide)]
        exact nx (nI i, k0) hst.symm
      rw [if_neg h2] at hst ⊢
      by_cases h3 : s.2.2 ≤ k0
      · rw [if_pos h3] at hst ⊢
        rw [if_pos rfl, if_pos rfl]
        exact nx s.2 hst.symm
      · rw [if_neg h3] at hst ⊢
        rw [if_neg (by decide), if_neg (by decide)]
        exact nx (nI i, k0) hst.symm
  refine x_lift hA hT ht agr.rf (fun u1 b1 hX => ⟨rfl, ?_⟩)
  refine x_follow ok hq (b1 1 3 (by decide)) hX (fun u2 b2 hp _ => ?_)
  refine x_firstIn ?_
  have hk0 : fi (fun k => decide (u2 50 k = a2)) = tuK σ L t a2 (-1) := fi_cg (fun k hk => by rw [hp k hk, OT_OB (by omega)])
  rw [hk0]
  have aN0 : agr (fun k _ => BX k 0 ∧ k ≠ 50) σ u2 := (b1.sub fun k i h => by omega).tr (b2.sub fun k i h => by omega)
  generalize hKe : (fun (v : Int32) (u : Hp) => VX12_turn (fun v' u' => v = v' ∧ Inv u u') τ (nI t) a2 a3) = K
  refine lpN (S := Hp × Int32 × Int32) (fun m s i => VX11_turn_L50 K m s.1 (nI t) a2 a3 s.2.2 s.2.1 (nI i)) (fun i s => agr (fun k _ => BX k 0 ∧ k ≠ 50) σ s.1 ∧ s.2 = tuV σ L t a2 i) 21 (fun m s hh => ?_) (fun m i s hi hh go => ?_) (u2, -1, _) ⟨aN0, rfl⟩
  · show VX11_turn_L50 K (m + 1) s.1 (nI t) a2 a3 s.2.2 s.2.1 (nI 21)
    rw [VX11_turn_L50, if_pos (show (20 : Int32) < nI 21 by decide), hh.2]
    subst hKe
    have hN : agr NSx σ s.1 := hh.1.sub fun k i h => by omega
    by_cases h0 : a3 = 0
    · rw [if_pos h0] at fin ⊢; exact fin _ _ rfl hN
    · rw [if_neg h0] at fin ⊢; exact fin _ _ rfl hN
  · show VX11_turn_L50 K (m + 1) s.1 (nI t) a2 a3 s.2.2 s.2.1 (nI i)
    obtain ⟨a, hs⟩ := hh
    have aN : agr NSx σ s.1 := a.sub fun k i h => by omega
    rw [VX11_turn_L50, if_neg (show ¬ (20 : Int32) < nI i from nI_nlt (a := 20) (by omega) (by omega))]
    refine x_lift hA hT ht (aN.sub fun k i h => by omega) (fun u1 b1 hX => ⟨rfl, ?_⟩)
    rw [aN 5 t (by have := hT.1; omega), aN 6 t (by have := hT.1; omega)] at hX
    refine x_followT ok hq (by rw [b1 1 3 (by decide), aN 1 3 (by decide)]) hX (fun u2 b2 hp _ => ?_)
    refine x_firstIn ?_
    rw [fi_path hp]
    have a2' : agr (fun k _ => BX k 0 ∧ k ≠ 50) σ u2 := a.tr ((b1.sub fun k i h => by omega).tr (b2.sub fun k i h => by omega))
    have hst : tuV σ L t a2 (i + 1) = bst (nI i) (tuK σ L t a2 (nI i)) s.2 := by rw [hs]; rfl
    have hk : fi (fun k => decide ((OT σ (σ 1 1) L t (nI i) (σ 5 t, σ 6 t) k).1 = a2)) = tuK σ L t a2 (nI i) := rfl
    have hok : okm (tuK σ L t a2 (nI i)) := fi_okm _
    have hok2 : okm s.2.2 := by rw [hs]; exact tuV_ok i
    rw [hk]
    generalize tuK σ L t a2 (nI i) = k0 at hst hok ⊢
    unfold bst at hst
    unfold VX11_turn_b92
    have nx : ∀ p, p = tuV σ L t a2 (i + 1) → ∀ x, x = nI i + 1 → VX11_turn_L50 K m u2 (nI t) a2 a3 p.2 p.1 x := fun p hp x hx => by
      rw [hx, nI_1]; exact go (u2, p) ⟨a2', hp⟩
    by_cases h1 : k0 = -1
    · rw [if_pos h1] at hst
      rw [if_pos ((okm_lt hok).mpr h1)]
      exact nx s.2 hst.symm
    rw [if_neg h1] at hst
    rw [if_neg (fun q => h1 ((okm_lt hok).mp q))]
    by_cases h2 : s.2.2 = -1
    · rw [if_pos h2] at hst
      rw [if_pos ((okm_lt hok2).mpr h2)]
      exact nx (nI i, k0) hst.symm
    rw [if_neg h2] at hst
    rw [if_neg (fun q => h2 ((okm_lt hok2).mp q))]
    by_cases h3 : s.2.2 ≤ k0
    · rw [if_pos h3] at hst ⊢
      exact nx s.2 hst.symm
    · rw [if_neg h3] at hst ⊢
      exact nx (nI i, k0) hst.symm
/-! net -/
def ctV (σ : Hp) (L n : Nat) (N : Int32) : Nat → Int32 := orb (fun t v => if hasb N (EQ σ N L t n).1 then v + 1 else v + 0) 0
theorem x_caught {K : Int32 → Hp → Prop} {σ τ u : Hp} {X L T n : Nat} {N : Int32} (hA : IA σ τ X L) (hT : IT σ τ T) (hC : IC σ τ X) (hn : n < 2 ^ 31) (ha : agr NSx σ u) (hK : ∀ u', agr BX u u' → K (ctV σ L n N T) u') : VX11_caught K u (nI n) N := by
  have hT5 := hT.1
  refine lpN (S := Hp × Int32) (fun m q i => VX11_caught_L5 K m q.1 (nI n) N q.2 (nI i)) (fun i q => agr BX u q.1 ∧ q.2 = ctV σ L n N i) T (fun m q hh => ?_) (fun m i q hi hh go => ?_) (u, 0) ⟨agr.rf, rfl⟩
  · show VX11_caught_L5 K (m + 1) q.1 (nI n) N q.2 (nI T)
    rw [VX11_caught_L5, hh.1 1 5 (by decide), ha 1 5 (by decide), hT.2.1, if_pos (nI_le (Nat.le_refl _) (by omega)), hh.2]
    exact hK _ hh.1
  · show VX11_caught_L5 K (m + 1) q.1 (nI n) N q.2 (nI i)
    obtain ⟨a, hq'⟩ := hh
    have aN : agr NSx σ q.1 := ha.tr (a.sub fun k i h => by omega)
    obtain ⟨ok, hq⟩ := x_okt hA hT hC hi hA.L.1
    rw [VX11_caught_L5, aN 1 5 (by decide), hT.2.1, if_neg (nI_ge hi (by omega))]
    refine x_lift hA hT hi (aN.sub fun k i h => by omega) (fun u3 a3 hX => ⟨rfl, fun u4 e4 => ?_⟩)
    rw [aN 5 i (by omega), aN 6 i (by omega)] at hX
    have n4 : ∀ k, k ≠ 49 → u4 k = u3 k := fun k hk => by rw [e4, hup_row hk]
    have hX4 : XBs σ N L i u4 (σ 5 i, σ 6 i) := by
      obtain ⟨x1, x2, x3, x4, x5, x6, x7, x8, x9, x10, x11⟩ := hX
      refine ⟨by rw [n4 1 (by decide)]; exact x1, by rw [n4 1 (by decide)]; exact x2, by rw [n4 _ (by have := hA.L; omega)]; exact x3, by rw [n4 _ (by have := hA.L; omega)]; exact x4, ?_, ?_, ?_, ?_, ?_, ?_, ?_⟩
      · rw [e4, hup_col (by decide)]; exact x5
      · rw [e4, hup_col (by decide)]; exact x6
      · rw [e4, hup_self]
      · rw [e4, hup_col (by decide)]; exact x8
      · rw [e4, hup_col (by decide)]; exact x9
      · rw [e4, hup_col (by decide)]; exact x10
      · rw [e4, hup_col (by decide)]; exact x11
    rw [n4 1 (by decide), a3 1 3 (by decide), aN 1 3 (by decide)]
    refine x_passAll ok hq hn hX4 (fun u6 a6 hX6 => ?_)
    have h6 : u6 49 6 = (EQ σ N L i n).1 := hX6.2.2.2.2.2.2.2.2.2.1
    have a46 : agr BX u u6 := by
      have q4 : agr BX q.1 u4 := by rw [e4]; exact agr.up (a3.sub fun k i h => by omega) (by omega)
      exact a.tr (q4.tr (a6.sub fun k i h => by omega))
    rw [h6, eX_has, ite_b2i]
    have hst : ctV σ L n N (i + 1) = if hasb N (EQ σ N L i n).1 then ctV σ L n N i + 1 else ctV σ L n N i + 0 := rfl
    by_cases hc : hasb N (EQ σ N L i n).1
    · rw [if_pos hc] at hst ⊢
      intro x10 e10 x11 e11
      rw [e11, nI_1]
      exact go (u6, x10) ⟨a46, by rw [e10, hq']; exact hst.symm⟩
    · rw [if_neg hc] at hst ⊢
      intro x10 e10 x11 e11
      rw [e11, nI_1]
      exact go (u6, x10) ⟨a46, by rw [e10, hq']; exact hst.symm⟩
abbrev NM11 (k i : Nat) : Prop := NSm k i ∧ ¬ (k = 1 ∧ i = 1)
theorem m_netted {K : Int32 → Hp → Prop} {σ τ v : Hp} {X L T n : Nat} {N : Int32} (hA : IA σ τ X L) (hT : IT σ τ T) (hC : IC σ τ X) (hn : n < 2 ^ 31) (ha : agr NM11 τ v) (hN : v 1 1 = N) (hK : ∀ v', agr PSm v v' → K (ctV σ L n N T) v') : VX12_netted K v (nI n) := by
  have hT5 := hT.1
  refine lpN (S := Hp × Int32) (fun m q i => VX12_netted_L4 K m q.1 (nI n) q.2 (nI i)) (fun i q => agr PSm v q.1 ∧ q.2 = ctV σ L n N i) T (fun m q hh => ?_) (fun m i q hi hh go => ?_) (v, 0) ⟨agr.rf, rfl⟩
  · show VX12_netted_L4 K (m + 1) q.1 (nI n) q.2 (nI T)
    rw [VX12_netted_L4, hh.1 0 2 (by decide), ha 0 2 (by decide), hT.2.2.1, if_pos (nI_le (Nat.le_refl _) (by omega)), hh.2]
    exact hK _ hh.1
  · show VX12_netted_L4 K (m + 1) q.1 (nI n) q.2 (nI i)
    obtain ⟨a, hq'⟩ := hh
    have aN : agr NM11 τ q.1 := fun k j hk => (a k j (by omega)).trans (ha k j hk)
    obtain ⟨k1, k2, k3, k4, k5, k6, k7, k8⟩ := hT.2.2.2 i hi
    rw [VX12_netted_L4, aN 0 2 (by decide), hT.2.2.1, if_neg (nI_ge hi (by omega))]
    refine m_cellBehind (N := N) (R := L) hA hT hC hi hA.L.1 hn (aN.sub fun k i h => by omega) (by rw [a 1 1 (by decide)]; exact hN) (by rw [aN 0 12 (by decide)]; exact hA.2.2.2.2.2.2.1) (by rw [aN 4 i (by omega), aN 5 i (by omega), k7, k8]; exact ⟨k3, k4⟩) (fun w1 c1 _ => ?_)
    rw [aN 4 i (by omega), aN 5 i (by omega), k7, k8, eM_has1, c1 1 1 (by decide), a 1 1 (by decide), hN, ite_b2i]
    have hst : ctV σ L n N (i + 1) = if hasb N (EQ σ N L i n).1 then ctV σ L n N i + 1 else ctV σ L n N i + 0 := rfl
    by_cases hc : hasb N (EQ σ N L i n).1
    · rw [if_pos hc] at hst
      rw [if_pos (show hasb N (OB σ N L i (σ 5 i, σ 6 i) n).1 from hc)]
      intro x10 e10 x11 e11
      rw [e11, nI_1]
      exact go (w1, x10) ⟨a.tr c1, by rw [e10, hq']; exact hst.symm⟩
    · rw [if_neg hc] at hst
      rw [if_neg (show ¬ hasb N (OB σ N L i (σ 5 i, σ 6 i) n).1 from hc)]
      intro x10 e10 x11 e11
      rw [e11, nI_1]
      exact go (w1, x10) ⟨a.tr c1, by rw [e10, hq']; exact hst.symm⟩
def neV (σ : Hp) (L n T : Nat) : Nat → Int32 × Int32 := orb (fun c p => if hasb (σ 1 0) (nI c) then p else if hasb (σ 1 1) (nI c) then p else if ctV σ L n (σ 1 1 ||| (1 <<< (nI c &&& 31))) T ≤ p.2 then p else (nI c, ctV σ L n (σ 1 1 ||| (1 <<< (nI c &&& 31))) T)) (-1, ctV σ L n (σ 1 1) T)
theorem f_net : ∀ σ τ, Inv σ τ → ∀ (a1 a2 : Int32), VX11_net (fun v u => VX12_net (fun v' u' => v = v' ∧ Inv u u') τ a1 a2) σ a1 a2 := by
  intro σ τ hI a1 a2
  obtain ⟨T, X, L, Z, hA, hT, hP, hC, hS, hJ, hW⟩ := id hI
  obtain ⟨q1, q2, q3, q4, q5, q6, q7, q8⟩ := hI.eqs
  unfold VX11_net
  rw [eX_isBehind, ite_b2i]
  by_cases g1 : rg a1 0 40
  rotate_left
  · rw [if_neg g1]
    try dsimp only
    unfold VX12_net
    rw [eM_areSteps, ite_b2i, if_neg g1]
    exact ⟨rfl, hI⟩
  rw [if_pos g1, eX_isChoice, ite_b2i]
  by_cases g2 : rg a2 0 1
  rotate_left
  · rw [if_neg g2]
    try dsimp only
    unfold VX12_net
    rw [eM_areSteps, ite_b2i, if_pos g1, eM_in, ite_b2i, if_neg g2]
    exact ⟨rfl, hI⟩
  rw [if_pos g2]
  obtain ⟨n, hn, rfl⟩ := rg_nI (N := 40) (by decide) g1
  have hst : ∀ i, neV σ L n T (i + 1) = if hasb (σ 1 0) (nI i) then neV σ L n T i else if hasb (σ 1 1) (nI i) then neV σ L n T i else if ctV σ L n (σ 1 1 ||| (1 <<< (nI i &&& 31))) T ≤ (neV σ L n T i).2 then neV σ L n T i else (nI i, ctV σ L n (σ 1 1 ||| (1 <<< (nI i &&& 31))) T) := fun i => rfl
  have fin : ∀ (v : Int32) (u : Hp), v = (if a2 = 0 then (neV σ L n T 30).1 else (neV σ L n T 30).2) → agr NSx σ u → VX12_net (fun v' u' => v = v' ∧ Inv u u') τ (nI n) a2 := by
    intro v u hv au
    unfold VX12_net
    rw [eM_areSteps, ite_b2i, if_pos g1, eM_in, ite_b2i, if_pos g2]
    refine m_netted hA hT hC (by omega) agr.rf q2 (fun w aw => ?_)
    refine lpN (S := Hp × Int32 × Int32) (fun m s i => VX12_net_L31 (fun v' u' => v = v' ∧ Inv u u') m s.1 (nI n) a2 s.2.1 s.2.2 (nI i)) (fun i s => agr NSm τ s.1 ∧ s.2 = neV σ L n T i) 30 (fun m s hh => ?_) (fun m i s hi hh go => ?_) (w, -1, _) ⟨aw.sub fun k i h => by omega, rfl⟩
    · show VX12_net_L31 _ (m + 1) s.1 (nI n) a2 s.2.1 s.2.2 (nI 30)
      rw [VX12_net_L31, if_pos (show (30 : Int32) ≤ nI 30 by decide), hh.2]
      have hIv : Inv u s.1 := hI.ag au hh.1
      by_cases h0 : a2 = 0
      · rw [if_pos h0] at hv ⊢; exact ⟨hv, hIv⟩
      · rw [if_neg h0] at hv ⊢; exact ⟨hv, hIv⟩
    · show VX12_net_L31 _ (m + 1) s.1 (nI n) a2 s.2.1 s.2.2 (nI i)
      obtain ⟨a, hs⟩ := hh
      have hsti := hst i
      rw [← hs] at hsti
      have nx : ∀ (w : Hp) p, agr NSm τ w → p = neV σ L n T (i + 1) → ∀ x, x = nI i + 1 → VX12_net_L31 (fun v' u' => v = v' ∧ Inv u u') m w (nI n) a2 p.1 p.2 x := fun w p aw' hp x hx => by
        rw [hx, nI_1]; exact go (w, p) ⟨aw', hp⟩
      rw [VX12_net_L31, if_neg (show ¬ (30 : Int32) ≤ nI i from nI_ge (b := 30) hi (by decide)), eM_has0, a 1 0 (by decide), q1, ite_b2i]
      by_cases b0 : hasb (σ 1 0) (nI i)
      · rw [if_pos b0] at hsti ⊢
        exact nx _ s.2 a hsti.symm
      rw [if_neg b0] at hsti ⊢
      rw [eM_has1, a 1 1 (by decide), q2, ite_b2i]
      by_cases b1 : hasb (σ 1 1) (nI i)
      · rw [if_pos b1] at hsti ⊢
        exact nx _ s.2 a hsti.symm
      rw [if_neg b1] at hsti ⊢
      intro u19 e19
      have a19 : agr NM11 τ u19 := by rw [e19]; exact agr.up (a.sub fun k i h => by omega) (by omega)
      have h11 : u19 1 1 = σ 1 1 ||| (1 <<< (nI i &&& 31)) := by rw [e19, hup_self]
      refine m_netted hA hT hC (by omega) a19 h11 (fun u21 a21 => ?_)
      intro u22 e22
      rw [a21 1 1 (by decide), h11, bt_orC (by omega) b1] at e22
      have a22 : agr NSm τ u22 := fun k j hk => by
        rw [e22, hup_ap]
        by_cases hk1 : k = 1
        · rw [if_pos hk1]
          by_cases hj1 : j = 1
          · rw [if_pos hj1, hk1, hj1, q2]
          · rw [if_neg hj1, hk1, a21 1 j (by omega)]; exact a19 1 j (by omega)
        · rw [if_neg hk1, a21 k j (by omega)]; exact a19 k j (by omega)
      unfold VX12_net_b106
      generalize ctV σ L n (σ 1 1 ||| (1 <<< (nI i &&& 31))) T = v20 at hsti ⊢
      by_cases h3 : v20 ≤ s.2.2
      · rw [if_pos h3] at hsti
        rw [if_pos h3, if_pos h3]
        exact nx _ s.2 a22 hsti.symm
      · rw [if_neg h3] at hsti
        rw [if_neg h3, if_neg h3]
        exact nx _ (nI i, v20) a22 hsti.symm
  refine x_caught hA hT hC (by omega) agr.rf (fun u1 b1 => ?_)
  generalize hKe : (fun (v : Int32) (u : Hp) => VX12_net (fun v' u' => v = v' ∧ Inv u u') τ (nI n) a2) = K
  refine lpN (S := Hp × Int32 × Int32) (fun m s i => VX11_net_L36 K m s.1 (nI n) a2 s.2.1 s.2.2 (nI i)) (fun i s => agr BX σ s.1 ∧ s.2 = neV σ L n T i) 30 (fun m s hh => ?_) (fun m i s hi hh go => ?_) (u1, -1, _) ⟨b1, rfl⟩
  · show VX11_net_L36 K (m + 1) s.1 (nI n) a2 s.2.1 s.2.2 (nI 30)
    rw [VX11_net_L36, if_pos (show (30 : Int32) ≤ nI 30 by decide), hh.2]
    subst hKe
    have hN : agr NSx σ s.1 := hh.1.sub fun k i h => by omega
    by_cases h0 : a2 = 0
    · rw [if_pos h0] at fin ⊢; exact fin _ _ rfl hN
    · rw [if_neg h0] at fin ⊢; exact fin _ _ rfl hN
  · show VX11_net_L36 K (m + 1) s.1 (nI n) a2 s.2.1 s.2.2 (nI i)
    obtain ⟨a, hs⟩ := hh
    have hsti := hst i
    rw [← hs] at hsti
    have nx : ∀ (w : Hp) p, agr BX σ w → p = neV σ L n T (i + 1) → ∀ x, x = nI i + 1 → VX11_net_L36 K m w (nI n) a2 p.1 p.2 x := fun w p aw' hp x hx => by
      rw [hx, nI_1]; exact go (w, p) ⟨aw', hp⟩
    have hrg : rg (nI i) 0 29 := ⟨nI_pos' (by omega), nI_le (b := 29) (by omega) (by decide)⟩
    rw [VX11_net_L36, if_neg (show ¬ (30 : Int32) ≤ nI i from nI_ge (b := 30) hi (by decide)), eX_isOpen, a 1 0 (by decide), ite_b2i]
    by_cases b0 : hasb (σ 1 0) (nI i)
    · rw [if_pos b0] at hsti
      rw [if_neg (fun q => q.2 b0)]
      exact nx _ s.2 a hsti.symm
    rw [if_neg b0] at hsti
    rw [if_pos ⟨hrg, b0⟩, eX_has, a 1 1 (by decide), ite_b2i]
    by_cases b1 : hasb (σ 1 1) (nI i)
    · rw [if_pos b1] at hsti ⊢
      exact nx _ s.2 a hsti.symm
    rw [if_neg b1] at hsti ⊢
    refine x_caught hA hT hC (by omega) (a.sub fun k i h => by omega) (fun u19 a19 => ?_)
    generalize ctV σ L n (σ 1 1 ||| (1 <<< (nI i &&& 31))) T = v20 at hsti ⊢
    by_cases h3 : v20 ≤ s.2.2
    · rw [if_pos h3] at hsti ⊢
      exact nx _ s.2 (a.tr a19) hsti.symm
    · rw [if_neg h3] at hsti ⊢
      exact nx _ (nI i, v20) (a.tr a19) hsti.symm
