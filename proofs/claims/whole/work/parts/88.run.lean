/-! ===== when, meet, inside, key, run ===== -/
theorem IA.L {σ τ : Hp} {X L : Nat} (hA : IA σ τ X L) : L < X ∧ X ≤ 6 := ⟨hA.2.2.2.2.2.2.2.1, hA.2.2.2.2.2.2.2.2.1⟩
theorem x_firstIn {K : Int32 → Hp → Prop} {u : Hp} {c : Int32} (hK : K (fi (fun k => decide (u 50 k = c))) u) : VX11_firstIn K u c := by
  refine lpN (S := Unit) (fun n _ i => VX11_firstIn_L2 K n u c (nI i)) (fun i _ => ∀ j, j < i → decide (u 50 j = c) = false) 41 (fun n s h => ?_) (fun n i s hi h go => ?_) () (fun j hj => absurd hj (Nat.not_lt_zero j))
  · show VX11_firstIn_L2 K (n + 1) u c (nI 41)
    rw [VX11_firstIn_L2, if_pos (show (40 : Int32) < nI 41 by decide)]
    rw [fi_none h] at hK
    exact hK
  · show VX11_firstIn_L2 K (n + 1) u c (nI i)
    rw [VX11_firstIn_L2, if_neg (show ¬ (40 : Int32) < nI i from nI_nlt (a := 40) (by omega) (by omega)), nI_clamp (by omega)]
    refine ⟨vp_in_nI (by omega) (by decide), ?_⟩
    by_cases hc : u 50 i = c
    · rw [if_pos hc]
      rw [fi_hit (i := i) (decide_eq_true hc) hi h] at hK
      exact hK
    · rw [if_neg hc]
      intro x3 e3
      rw [e3, nI_1]
      refine go () (fun j hj => ?_)
      by_cases hji : j = i
      · rw [hji]; exact decide_eq_false hc
      · exact h j (by omega)
theorem m_first0 {K : Int32 → Hp → Prop} {σ : Hp} {N : Int32} {R t : Nat} {q : Int32 × Int32} {u : Hp} {c : Int32} (ok : OKt σ R t) (hq : okq q) (h1 : u 0 1 = σ 1 3) (hX : MBs σ N R t u q) (hK : ∀ u', agr PSm u u' → K (fi (fun k => decide ((OB σ N R t q k).1 = c))) u') : VX12_first0 K u (nI t) c := by
  refine lpN (S := Hp) (fun n s i => VX12_first0_L2 K n s (nI t) c (nI i)) (fun i s => agr PSm u s ∧ MBs σ N R t s (OB σ N R t q i) ∧ ∀ j, j < i → decide ((OB σ N R t q j).1 = c) = false) 41 (fun n s h => ?_) (fun n i s hi h go => ?_) u ⟨agr.rf, hX, fun j hj => absurd hj (Nat.not_lt_zero j)⟩
  · show VX12_first0_L2 K (n + 1) s (nI t) c (nI 41)
    rw [VX12_first0_L2, if_pos (show (40 : Int32) < nI 41 by decide)]
    have := hK s h.1
    rw [fi_none h.2.2] at this
    exact this
  · show VX12_first0_L2 K (n + 1) s (nI t) c (nI i)
    obtain ⟨a, hM, hn⟩ := h
    rw [VX12_first0_L2, if_neg (show ¬ (40 : Int32) < nI i from nI_nlt (a := 40) (by omega) (by omega)), hM.2.2.2.2.2.2.2.2.1]
    by_cases hc : (OB σ N R t q i).1 = c
    · rw [if_pos hc]
      have := hK s a
      rw [fi_hit (i := i) (decide_eq_true hc) hi hn] at this
      exact this
    · rw [if_neg hc, a 0 1 (by decide), h1]
      refine m_steps ok.1 ok.2.1 (nb_cl ok.2.2.1 (by decide)) ok.2.2.2.1 ok.2.2.2.2 (OB_ok ok hq i) hM (fun u' a' hX' => ?_)
      intro x5 e5
      rw [e5, nI_1]
      refine go u' ⟨a.tr a', hX', fun j hj => ?_⟩
      by_cases hji : j = i
      · rw [hji]; exact decide_eq_false hc
      · exact hn j (by omega)
theorem fi_path {u : Hp} {f : Nat → Int32} {c : Int32} (h : ∀ k, k ≤ 40 → u 50 k = f k) : fi (fun k => decide (u 50 k = c)) = fi (fun k => decide (f k = c)) := fi_cg (fun k hk => by rw [h k hk])
theorem f_when : ∀ σ τ, Inv σ τ → ∀ (a1 a2 : Int32), VX11_when (fun v u => VX12_when (fun v' u' => v = v' ∧ Inv u u') τ a1 a2) σ a1 a2 := by
  intro σ τ hI a1 a2
  obtain ⟨T, X, L, Z, hA, hT, hP, hC, hS, hJ, hW⟩ := id hI
  unfold VX11_when
  rw [eX_isThing, ite_b2i]
  by_cases h : 0 ≤ a1 ∧ a1 < σ 1 5
  rotate_left
  · rw [if_neg h]
    try dsimp only
    unfold VX12_when
    rw [eM_isThing, ite_b2i, if_neg (fun q => h ((thB hT).mpr ((thC hT).mp q)))]
    exact ⟨rfl, hI⟩
  have h' := (thC hT).mpr ((thB hT).mp h)
  rw [if_pos h, eX_isCell, ite_b2i]
  by_cases g2 : rg a2 0 29
  rotate_left
  · rw [if_neg g2]
    try dsimp only
    unfold VX12_when
    rw [eM_isThing, ite_b2i, if_pos h', eM_isCell, ite_b2i, if_neg g2]
    exact ⟨rfl, hI⟩
  rw [if_pos g2]
  obtain ⟨t, ht, rfl⟩ := (thB hT).mp h
  obtain ⟨k1, k2, k3, k4, k5, k6, k7, k8⟩ := hT.2.2.2 t ht
  obtain ⟨ok, hq⟩ := x_okt hA hT hC ht hA.L.1
  refine x_lift hA hT ht agr.rf (fun u1 b1 hX => ⟨rfl, ?_⟩)
  refine x_follow ok hq (b1 1 3 (by decide)) hX (fun u2 b2 hp _ => ?_)
  refine x_firstIn ?_
  rw [fi_path hp]
  try dsimp only
  unfold VX12_when
  rw [eM_isThing, ite_b2i, if_pos h', eM_isCell, ite_b2i, if_pos g2]
  refine m_begins hA hT hC ht hA.L.1 agr.rf hA.2.1 hA.2.2.2.2.2.2.1 (fun w1 c1 hM => ?_)
  rw [k7, k8] at hM
  refine m_first0 ok hq (by rw [c1 0 1 (by decide)]; exact hA.2.2.2.1) hM (fun w2 c2 => ⟨rfl, ?_⟩)
  exact hI.ag ((b1.sub fun k i h => by omega).tr (b2.sub fun k i h => by omega)) ((c1.sub fun k i h => by omega).tr (c2.sub fun k i h => by omega))
theorem f_meet : ∀ σ τ, Inv σ τ → ∀ (a1 a2 : Int32), VX11_meet (fun v u => VX12_meet (fun v' u' => v = v' ∧ Inv u u') τ a1 a2) σ a1 a2 := by
  intro σ τ hI a1 a2
  obtain ⟨T, X, L, Z, hA, hT, hP, hC, hS, hJ, hW⟩ := id hI
  unfold VX11_meet
  rw [eX_isThing, ite_b2i]
  by_cases h : 0 ≤ a1 ∧ a1 < σ 1 5
  rotate_left
  · rw [if_neg h]
    try dsimp only
    unfold VX12_meet
    rw [eM_isThing, ite_b2i, if_neg (fun q => h ((thB hT).mpr ((thC hT).mp q)))]
    exact ⟨rfl, hI⟩
  have h' := (thC hT).mpr ((thB hT).mp h)
  rw [if_pos h, eX_isThing, ite_b2i]
  by_cases g : 0 ≤ a2 ∧ a2 < σ 1 5
  rotate_left
  · rw [if_neg g]
    try dsimp only
    unfold VX12_meet
    rw [eM_isThing, ite_b2i, if_pos h', eM_isThing, ite_b2i, if_neg (fun q => g ((thB hT).mpr ((thC hT).mp q)))]
    exact ⟨rfl, hI⟩
  have g' := (thC hT).mpr ((thB hT).mp g)
  rw [if_pos g]
  by_cases e : a1 = a2
  · rw [if_pos e]
    try dsimp only
    unfold VX12_meet
    rw [eM_isThing, ite_b2i, if_pos h', eM_isThing, ite_b2i, if_pos g', if_pos e]
    exact ⟨rfl, hI⟩
  rw [if_neg e]
  obtain ⟨t, ht, rfl⟩ := (thB hT).mp h
  obtain ⟨t2, ht2, rfl⟩ := (thB hT).mp g
  obtain ⟨k1, k2, k3, k4, k5, k6, k7, k8⟩ := hT.2.2.2 t ht
  obtain ⟨l1, l2, l3, l4, l5, l6, l7, l8⟩ := hT.2.2.2 t2 ht2
  obtain ⟨ok, hq⟩ := x_okt hA hT hC ht hA.L.1
  obtain ⟨ok2, hq2⟩ := x_okt hA hT hC ht2 hA.L.1
  refine x_lift hA hT ht agr.rf (fun u1 b1 hX => ⟨rfl, ?_⟩)
  refine x_follow ok hq (b1 1 3 (by decide)) hX (fun u2 b2 hp _ => ?_)
  have a12 : agr EX σ u2 := (b1.sub fun k i h => by omega).tr (b2.sub fun k i h => by omega)
  have a12n : agr NSx σ u2 := (b1.sub fun k i h => by omega).tr (b2.sub fun k i h => by omega)
  refine x_lift hA hT ht2 a12 (fun u3 b3 hX3 => ⟨rfl, ?_⟩)
  rw [a12n 5 t2 (by omega), a12n 6 t2 (by omega)] at hX3
  have hp3 : ∀ k, k ≤ 40 → u3 50 k = (OB σ (σ 1 1) L t (σ 5 t, σ 6 t) k).1 := fun k hk => by rw [b3 50 k (by omega)]; exact hp k hk
  have fin : ∀ u, agr NSx σ u → VX12_meet (fun v' u' => fi (fun k => decide ((OB σ (σ 1 1) L t2 (σ 5 t2, σ 6 t2) k).1 = (OB σ (σ 1 1) L t (σ 5 t, σ 6 t) k).1)) = v' ∧ Inv u u') τ (nI t) (nI t2) := by
    intro u au
    unfold VX12_meet
    rw [eM_isThing, ite_b2i, if_pos h', eM_isThing, ite_b2i, if_pos g', if_neg e]
    generalize hKe : (fun (v' : Int32) (u' : Hp) => fi (fun k => decide ((OB σ (σ 1 1) L t2 (σ 5 t2, σ 6 t2) k).1 = (OB σ (σ 1 1) L t (σ 5 t, σ 6 t) k).1)) = v' ∧ Inv u u') = K
    refine lpN (S := Hp) (fun n s i => VX12_meet_L26 K n s (nI t) (nI t2) (nI i)) (fun i s => agr PSm τ s ∧ ∀ j, j < i → decide ((OB σ (σ 1 1) L t2 (σ 5 t2, σ 6 t2) j).1 = (OB σ (σ 1 1) L t (σ 5 t, σ 6 t) j).1) = false) 41 (fun n s hh => ?_) (fun n i s hi hh go => ?_) τ ⟨agr.rf, fun j hj => absurd hj (Nat.not_lt_zero j)⟩
    · show VX12_meet_L26 K (n + 1) s (nI t) (nI t2) (nI 41)
      rw [VX12_meet_L26, if_pos (show (40 : Int32) < nI 41 by decide)]
      subst hKe
      exact ⟨fi_none hh.2, hI.ag au (hh.1.sub fun k i h => by omega)⟩
    · show VX12_meet_L26 K (n + 1) s (nI t) (nI t2) (nI i)
      obtain ⟨a, hn⟩ := hh
      rw [VX12_meet_L26, if_neg (show ¬ (40 : Int32) < nI i from nI_nlt (a := 40) (by omega) (by omega))]
      refine m_cellBehind (N := σ 1 1) (R := L) hA hT hC ht hA.L.1 (by omega) (a.sub fun k i h => by omega) (by rw [a 1 1 (by decide)]; exact hA.2.1) (by rw [a 0 12 (by decide)]; exact hA.2.2.2.2.2.2.1) (by rw [a 4 t (by omega), a 5 t (by omega), k7, k8]; exact hq) (fun w1 c1 _ => ?_)
      rw [a 4 t (by omega), a 5 t (by omega), k7, k8]
      have a' := a.tr c1
      refine m_cellBehind (N := σ 1 1) (R := L) hA hT hC ht2 hA.L.1 (by omega) (a'.sub fun k i h => by omega) (by rw [a' 1 1 (by decide)]; exact hA.2.1) (by rw [a' 0 12 (by decide)]; exact hA.2.2.2.2.2.2.1) (by rw [a' 4 t2 (by omega), a' 5 t2 (by omega), l7, l8]; exact hq2) (fun w2 c2 _ => ?_)
      rw [a' 4 t2 (by omega), a' 5 t2 (by omega), l7, l8]
      by_cases hc : (OB σ (σ 1 1) L t (σ 5 t, σ 6 t) i).1 = (OB σ (σ 1 1) L t2 (σ 5 t2, σ 6 t2) i).1
      · rw [if_pos hc]
        subst hKe
        exact ⟨fi_hit (i := i) (decide_eq_true hc.symm) hi hn, hI.ag au ((a'.tr c2).sub fun k i h => by omega)⟩
      · rw [if_neg hc]
        intro x14 e14
        rw [e14, nI_1]
        refine go w2 ⟨a'.tr c2, fun j hj => ?_⟩
        by_cases hji : j = i
        · rw [hji]; exact decide_eq_false (fun q => hc q.symm)
        · exact hn j (by omega)
  have fin2 : ∀ (v : Int32) (u : Hp), agr NSx σ u → fi (fun k => decide ((OB σ (σ 1 1) L t2 (σ 5 t2, σ 6 t2) k).1 = (OB σ (σ 1 1) L t (σ 5 t, σ 6 t) k).1)) = v → VX12_meet (fun v' u' => v = v' ∧ Inv u u') τ (nI t) (nI t2) := fun v u au hv => by rw [← hv]; exact fin u au
  have a13 : agr NSx σ u3 := a12n.tr (b3.sub fun k i h => by omega)
  clear fin
  generalize hKe : (fun (v : Int32) (u : Hp) => VX12_meet (fun v' u' => v = v' ∧ Inv u u') τ (nI t) (nI t2)) = K
  refine lpN (S := Hp) (fun n s i => VX11_meet_L42 K n s (nI i)) (fun i s => agr PSx u3 s ∧ XBs σ (σ 1 1) L t2 s (OB σ (σ 1 1) L t2 (σ 5 t2, σ 6 t2) i) ∧ ∀ j, j < i → decide ((OB σ (σ 1 1) L t2 (σ 5 t2, σ 6 t2) j).1 = (OB σ (σ 1 1) L t (σ 5 t, σ 6 t) j).1) = false) 41 (fun n s hh => ?_) (fun n i s hi hh go => ?_) u3 ⟨agr.rf, hX3, fun j hj => absurd hj (Nat.not_lt_zero j)⟩
  · show VX11_meet_L42 K (n + 1) s (nI 41)
    rw [VX11_meet_L42, if_pos (show (40 : Int32) < nI 41 by decide)]
    subst hKe
    exact fin2 _ _ (a13.tr (hh.1.sub fun k i h => by omega)) (fi_none hh.2.2)
  · show VX11_meet_L42 K (n + 1) s (nI i)
    obtain ⟨a, hM, hn⟩ := hh
    have hM6 : s 49 6 = (OB σ (σ 1 1) L t2 (σ 5 t2, σ 6 t2) i).1 := hM.2.2.2.2.2.2.2.2.2.1
    rw [VX11_meet_L42, if_neg (show ¬ (40 : Int32) < nI i from nI_nlt (a := 40) (by omega) (by omega)), nI_clamp (by omega), hM6, a 50 i (by omega), hp3 i (by omega)]
    refine ⟨vp_in_nI (by omega) (by decide), ?_⟩
    by_cases hc : (OB σ (σ 1 1) L t2 (σ 5 t2, σ 6 t2) i).1 = (OB σ (σ 1 1) L t (σ 5 t, σ 6 t) i).1
    · rw [if_pos hc]
      subst hKe
      exact fin2 _ _ (a13.tr (a.sub fun k i h => by omega)) (fi_hit (i := i) (decide_eq_true hc) hi hn)
    · rw [if_neg hc, a 1 3 (by decide), a13 1 3 (by decide)]
      refine x_pass ok2.1 (nb_cl ok2.2.2.1 (by decide)) ok2.2.2.2.1 ok2.2.2.2.2 (OB_ok ok2 hq2 i) hM (fun u' a' hX' => ?_)
      intro x18 e18
      rw [e18, nI_1]
      refine go u' ⟨a.tr a', hX', fun j hj => ?_⟩
      by_cases hji : j = i
      · rw [hji]; exact decide_eq_false hc
      · exact hn j (by omega)
