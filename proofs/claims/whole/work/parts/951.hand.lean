/-! ===== hand, first, wait ===== -/
/-- part p of THE LAW, of t, at a cell -/
def lwV (σ : Hp) (L t p : Nat) (c : Int32) : Int32 := sayR (σ (25 + L)) (σ (31 + L)) p c (σ 1 3) (nI t) (σ 4 t)
noncomputable def soV (σ : Hp) (L t fr : Nat) : Int32 := fi (fun k => decide (¬ dst (σ 1 0) fr (EQ σ (σ 1 1) L t k).1.toNatClampNeg = -1 ∧ ¬ nI k * lwV σ L t 2 (nI fr) < dst (σ 1 0) fr (EQ σ (σ 1 1) L t k).1.toNatClampNeg))
theorem x_saysT {K : Int32 → Hp → Prop} {σ τ u : Hp} {X L T t p : Nat} {c : Int32} (hA : IA σ τ X L) (hT : IT σ τ T) (hC : IC σ τ X) (ht : t < T) (hp : p < 3) (ha : agr NSx σ u) (hK : ∀ u', agr P37 u u' → K (lwV σ L t p c) u') : VX11_says K u (nI p) c (nI t) := by
  have hT5 := hT.1
  have hL := hA.L
  unfold VX11_says
  refine x_law hA (ha.sub fun k i h => by omega) ⟨by omega, vp_in_nI (by omega) (by decide), ?_⟩
  rw [nI_clamp (by omega), ha 1 3 (by decide), ha 4 t (by omega)]
  have r1 : u (25 + L) = σ (25 + L) := ha.row (fun i => by omega)
  have r2 : u (31 + L) = σ (31 + L) := ha.row (fun i => by omega)
  refine x_says (by omega) hp (by rw [r1, r2]; exact (hC L hL.1).1) (fun u' a' => ?_)
  rw [r1, r2]
  exact hK u' a'
theorem x_soonest {K : Int32 → Hp → Prop} {σ τ u : Hp} {X L T t fr : Nat} (hA : IA σ τ X L) (hT : IT σ τ T) (hC : IC σ τ X) (ht : t < T) (hfr : fr < 30) (ha : agr NSx σ u) (hp : ∀ k, k ≤ 40 → u 50 k = (EQ σ (σ 1 1) L t k).1) (hd : Sp (σ 1 0) (dst (σ 1 0) fr) fr) (hf : ∀ c, c < 30 → u 51 c = dst (σ 1 0) fr c) (hK : ∀ u', agr P37 u u' → K (soV σ L t fr) u') : VX11_soonest K u (nI fr) (nI t) := by
  obtain ⟨ok, hq⟩ := x_okt hA hT hC ht hA.L.1
  unfold VX11_soonest
  refine x_saysT (p := 2) hA hT hC ht (by decide) ha (fun u2 a2 => ?_)
  have hk2 := hK u2 a2
  unfold soV at hk2
  refine lpN (S := Unit) (fun n _ i => VX11_soonest_L11 K n u2 (lwV σ L t 2 (nI fr)) (nI i)) (fun i _ => ∀ j, j < i → decide (¬ dst (σ 1 0) fr (EQ σ (σ 1 1) L t j).1.toNatClampNeg = -1 ∧ ¬ nI j * lwV σ L t 2 (nI fr) < dst (σ 1 0) fr (EQ σ (σ 1 1) L t j).1.toNatClampNeg) = false) 41 (fun n s h => ?_) (fun n i s hi h go => ?_) () (fun j hj => absurd hj (Nat.not_lt_zero j))
  · show VX11_soonest_L11 K (n + 1) u2 (lwV σ L t 2 (nI fr)) (nI 41)
    rw [VX11_soonest_L11, if_pos (show (40 : Int32) < nI 41 by decide)]
    rw [fi_none h] at hk2
    exact hk2
  · show VX11_soonest_L11 K (n + 1) u2 (lwV σ L t 2 (nI fr)) (nI i)
    have hc30 : nb (EQ σ (σ 1 1) L t i).1 30 := (OB_ok (N := σ 1 1) ok hq i).1
    have hcl := nb_cl hc30 (by decide)
    rw [VX11_soonest_L11, if_neg (show ¬ (40 : Int32) < nI i from nI_nlt (a := 40) (by omega) (by omega)), nI_clamp (by omega), a2 50 i (by omega), hp i (by omega)]
    refine ⟨vp_in_nI (by omega) (by decide), vp_nb hc30 (by decide), fun x4 e4 => ?_⟩
    rw [a2 51 _ (by omega), hf _ hcl] at e4
    have nx : decide (¬ dst (σ 1 0) fr (EQ σ (σ 1 1) L t i).1.toNatClampNeg = -1 ∧ ¬ nI i * lwV σ L t 2 (nI fr) < dst (σ 1 0) fr (EQ σ (σ 1 1) L t i).1.toNatClampNeg) = false → ∀ x, x = nI i + 1 → VX11_soonest_L11 K n u2 (lwV σ L t 2 (nI fr)) x := fun hdc x ex => by
      rw [ex, nI_1]
      refine go () (fun j hj => ?_)
      by_cases hji : j = i
      · rw [hji]; exact hdc
      · exact h j (by omega)
    have hlt : x4 < 0 ↔ x4 = -1 := by
      rw [e4]
      rcases hd.1 _ hcl with g | g
      · rw [g]; decide
      · exact ⟨fun q => absurd q (nb_n0 g (by decide)), fun q => absurd q (nb_nm g (by decide))⟩
    by_cases h1 : x4 < 0
    · rw [if_pos h1]
      exact nx (decide_eq_false (fun q => q.1 (by rw [← e4]; exact hlt.mp h1)))
    rw [if_neg h1]
    by_cases h2 : nI i * lwV σ L t 2 (nI fr) < x4
    · rw [if_pos h2]
      exact nx (decide_eq_false (fun q => q.2 (by rw [← e4]; exact h2)))
    rw [if_neg h2]
    rw [fi_hit (i := i) (decide_eq_true ⟨by rw [← e4]; exact fun q => h1 (hlt.mpr q), by rw [← e4]; exact h2⟩) hi h] at hk2
    exact hk2
theorem m_asksT {K : Int32 → Hp → Prop} {σ τ v : Hp} {X L T t p : Nat} {c : Int32} (hA : IA σ τ X L) (hT : IT σ τ T) (hC : IC σ τ X) (ht : t < T) (hp : p < 3) (ha : agr NSm τ v) (hK : ∀ v', agr P67 v v' → K (lwV σ L t p c) v') : VX12_asksOf K v (nI p) c (σ 1 3) (nI t) (σ 4 t) := by
  have hL := hA.L
  obtain ⟨c1, c2, c3⟩ := hC L hL.1
  refine m_asksOf (R := L) (by omega) hp (by rw [ha 0 12 (by decide)]; exact hA.2.2.2.2.2.2.1) c1 (fun p hp => by rw [ha 8 _ (by omega)]; exact c2 p hp) (fun k hk => by rw [ha 7 _ (by omega)]; exact c3 k hk) hK
theorem m_soonest {K : Int32 → Hp → Prop} {σ τ v : Hp} {X L T t fr : Nat} (hA : IA σ τ X L) (hT : IT σ τ T) (hC : IC σ τ X) (ht : t < T) (hfr : fr < 30) (ha : agr NSm τ v) (hf : ∀ c, c < 30 → v 18 c = dst (σ 1 0) fr c) (hK : ∀ v', agr PSm v v' → K (soV σ L t fr) v') : VX12_soonest K v (nI fr) (nI t) := by
  obtain ⟨ok, hq⟩ := x_okt hA hT hC ht hA.L.1
  obtain ⟨k1, k2, k3, k4, k5, k6, k7, k8⟩ := hT.2.2.2 t ht
  have hT5 := hT.1
  unfold VX12_soonest
  refine ⟨vp_in_nI (by omega) (by decide), ?_⟩
  rw [nI_clamp (by omega), ha 0 1 (by decide), hA.2.2.2.1, ha 3 t (by omega), k6]
  refine m_asksT (p := 2) hA hT hC ht (by decide) ha (fun u2 a2 => ?_)
  have a2' : agr NSm τ u2 := ha.tr (a2.sub fun k i h => by omega)
  refine m_begins (N := σ 1 1) hA hT hC ht hA.L.1 (a2'.sub fun k i h => by omega) (by rw [a2' 1 1 (by decide)]; exact hA.2.1) (by rw [a2' 0 12 (by decide)]; exact hA.2.2.2.2.2.2.1) (fun u4 a4 hM => ?_)
  rw [a2' 4 t (by omega), a2' 5 t (by omega), k7, k8] at hM
  have hK' : ∀ v', agr PSm u4 v' → K (soV σ L t fr) v' := fun v' h => hK v' ((a2.sub fun k i h => by omega).tr ((a4.sub fun k i h => by omega).tr h))
  have h01 : u4 0 1 = σ 1 3 := by rw [a4 0 1 (by decide), a2' 0 1 (by decide)]; exact hA.2.2.2.1
  have hf4 : ∀ c, c < 30 → u4 18 c = dst (σ 1 0) fr c := fun c hc => by rw [a4 18 c (by omega), a2 18 c (by omega)]; exact hf c hc
  unfold soV at hK'
  refine lpN (S := Hp) (fun n s i => VX12_soonest_L26 K n s (nI t) (lwV σ L t 2 (nI fr)) (nI i)) (fun i s => agr PSm u4 s ∧ MBs σ (σ 1 1) L t s (EQ σ (σ 1 1) L t i) ∧ ∀ j, j < i → decide (¬ dst (σ 1 0) fr (EQ σ (σ 1 1) L t j).1.toNatClampNeg = -1 ∧ ¬ nI j * lwV σ L t 2 (nI fr) < dst (σ 1 0) fr (EQ σ (σ 1 1) L t j).1.toNatClampNeg) = false) 41 (fun n s h => ?_) (fun n i s hi h go => ?_) u4 ⟨agr.rf, hM, fun j hj => absurd hj (Nat.not_lt_zero j)⟩
  · show VX12_soonest_L26 K (n + 1) s (nI t) (lwV σ L t 2 (nI fr)) (nI 41)
    rw [VX12_soonest_L26, if_pos (show (40 : Int32) < nI 41 by decide)]
    have := hK' s h.1
    rw [fi_none h.2.2] at this
    exact this
  · show VX12_soonest_L26 K (n + 1) s (nI t) (lwV σ L t 2 (nI fr)) (nI i)
    obtain ⟨a, hMi, hn⟩ := h
    have hqi := OB_ok (N := σ 1 1) ok hq i
    have hc30 : nb (EQ σ (σ 1 1) L t i).1 30 := hqi.1
    have hcl := nb_cl hc30 (by decide)
    have h32 : s 0 32 = (EQ σ (σ 1 1) L t i).1 := hMi.2.2.2.2.2.2.2.2.1
    rw [VX12_soonest_L26, if_neg (show ¬ (40 : Int32) < nI i from nI_nlt (a := 40) (by omega) (by omega)), h32, a 18 _ (by omega), hf4 _ hcl]
    refine ⟨vp_nb hc30 (by decide), ?_⟩
    have nx : decide (¬ dst (σ 1 0) fr (EQ σ (σ 1 1) L t i).1.toNatClampNeg = -1 ∧ ¬ nI i * lwV σ L t 2 (nI fr) < dst (σ 1 0) fr (EQ σ (σ 1 1) L t i).1.toNatClampNeg) = false → VX12_soonest_b65 K (VX12_soonest_L26 K n) s (nI t) (lwV σ L t 2 (nI fr)) (nI i) := fun hdc => by
      unfold VX12_soonest_b65
      rw [a 0 1 (by decide), h01]
      refine m_steps ok.1 ok.2.1 (nb_cl ok.2.2.1 (by decide)) ok.2.2.2.1 ok.2.2.2.2 hqi hMi (fun u' a' hX' => ?_)
      intro x10 e10
      rw [e10, nI_1]
      refine go u' ⟨a.tr a', hX', fun j hj => ?_⟩
      by_cases hji : j = i
      · rw [hji]; exact hdc
      · exact hn j (by omega)
    by_cases h1 : dst (σ 1 0) fr (EQ σ (σ 1 1) L t i).1.toNatClampNeg = -1
    · rw [if_pos h1]
      exact nx (decide_eq_false (fun q => q.1 h1))
    rw [if_neg h1]
    refine ⟨vp_nb hc30 (by decide), ?_⟩
    by_cases h2 : nI i * lwV σ L t 2 (nI fr) < dst (σ 1 0) fr (EQ σ (σ 1 1) L t i).1.toNatClampNeg
    · rw [if_pos h2]
      exact nx (decide_eq_false (fun q => q.2 h2))
    rw [if_neg h2]
    have := hK' s a
    rw [fi_hit (i := i) (decide_eq_true ⟨h1, h2⟩) hi hn] at this
    exact this
theorem soV_ok {σ : Hp} {L t fr : Nat} : okm (soV σ L t fr) := fi_okm _
theorem f_hand : ∀ σ τ, Inv σ τ → ∀ (a1 a2 : Int32), VX11_hand (fun v u => VX12_hand (fun v' u' => v = v' ∧ Inv u u') τ a1 a2) σ a1 a2 := by
  intro σ τ hI a1 a2
  obtain ⟨T, X, L, Z, hA, hT, hP, hC, hS, hJ, hW⟩ := id hI
  have e1 := hI.eqs.1
  unfold VX11_hand
  rw [eX_isOpen, ite_b2i]
  by_cases g1 : rg a1 0 29 ∧ ¬ hasb (σ 1 0) a1
  rotate_left
  · rw [if_neg g1]
    try dsimp only
    unfold VX12_hand
    rw [eM_isFree, e1, ite_b2i, if_neg g1]
    exact ⟨rfl, hI⟩
  rw [if_pos g1, eX_isThing, ite_b2i]
  by_cases h : 0 ≤ a2 ∧ a2 < σ 1 5
  rotate_left
  · rw [if_neg h]
    try dsimp only
    unfold VX12_hand
    rw [eM_isFree, e1, ite_b2i, if_pos g1, eM_isThing, ite_b2i, if_neg (fun q => h ((thB hT).mpr ((thC hT).mp q)))]
    exact ⟨rfl, hI⟩
  have h' := (thC hT).mpr ((thB hT).mp h)
  rw [if_pos h]
  obtain ⟨t, ht, rfl⟩ := (thB hT).mp h
  obtain ⟨fr, hfr, rfl⟩ := rg_nI (N := 29) (by decide) g1.1
  have hfr : fr < 30 := by omega
  obtain ⟨ok, hq⟩ := x_okt hA hT hC ht hA.L.1
  refine x_measure hfr rfl (fun u1 b1 hd hf => ?_)
  have n1 : agr NSx σ u1 := b1.sub fun k i h => by omega
  refine x_lift hA hT ht (n1.sub fun k i h => by omega) (fun u2 b2 hX => ⟨rfl, ?_⟩)
  rw [n1 5 t (by have := hT.1; omega), n1 6 t (by have := hT.1; omega)] at hX
  refine x_follow ok hq (by rw [b2 1 3 (by decide), n1 1 3 (by decide)]) hX (fun u3 b3 hp _ => ?_)
  have n3 : agr NSx σ u3 := n1.tr ((b2.sub fun k i h => by omega).tr (b3.sub fun k i h => by omega))
  refine x_soonest hA hT hC ht hfr n3 hp hd (fun c hc => by rw [b3 51 c (by omega), b2 51 c (by omega)]; exact hf c hc) (fun u4 b4 => ?_)
  try dsimp only
  unfold VX12_hand
  rw [eM_isFree, e1, ite_b2i, if_pos g1, eM_isThing, ite_b2i, if_pos h']
  refine m_spreads hfr e1 hd (fun v1 c1 hf1 => ?_)
  refine m_soonest hA hT hC ht hfr (c1.sub fun k i h => by omega) hf1 (fun v2 c2 => ⟨rfl, ?_⟩)
  exact hI.ag (n3.tr (b4.sub fun k i h => by omega)) ((c1.sub fun k i h => by omega).tr (c2.sub fun k i h => by omega))
noncomputable def fsS (σ : Hp) (L fr : Nat) (w : Int32) (t : Nat) (p : Int32 × Int32) : Int32 × Int32 := if soV σ L t fr = -1 then p else if p.1 = -1 then (nI t, if w = 0 then -soV σ L t fr else lwV σ L t 1 (σ 5 t)) else if (if w = 0 then -soV σ L t fr else lwV σ L t 1 (σ 5 t)) ≤ p.2 then p else (nI t, if w = 0 then -soV σ L t fr else lwV σ L t 1 (σ 5 t))
noncomputable def fsV (σ : Hp) (L fr : Nat) (w : Int32) : Nat → Int32 × Int32 := orb (fsS σ L fr w) (-1, 0)
theorem fsV_ok {σ : Hp} {L fr : Nat} {w : Int32} : ∀ t, t ≤ 5 → okm (fsV σ L fr w t).1
  | 0, _ => Or.inl rfl
  | t + 1, h => by
    have ih := fsV_ok (σ := σ) (L := L) (fr := fr) (w := w) t (by omega)
    have hn : okm (nI t) := Or.inr ⟨t, by omega, rfl⟩
    show okm (fsS σ L fr w t (fsV σ L fr w t)).1
    unfold fsS
    generalize (if w = 0 then -soV σ L t fr else lwV σ L t 1 (σ 5 t)) = g
    split
    · exact ih
    · split
      · exact hn
      · split
        · exact ih
        · exact hn
theorem f_first : ∀ σ τ, Inv σ τ → ∀ (a1 a2 : Int32), VX11_first (fun v u => VX12_first (fun v' u' => v = v' ∧ Inv u u') τ a1 a2) σ a1 a2 := by
  intro σ τ hI a1 a2
  obtain ⟨T, X, L, Z, hA, hT, hP, hC, hS, hJ, hW⟩ := id hI
  have e1 := hI.eqs.1
  have hT5 := hT.1
  unfold VX11_first
  rw [eX_isOpen, ite_b2i]
  by_cases g1 : rg a1 0 29 ∧ ¬ hasb (σ 1 0) a1
  rotate_left
  · rw [if_neg g1]
    try dsimp only
    unfold VX12_first
    rw [eM_isFree, e1, ite_b2i, if_neg g1]
    exact ⟨rfl, hI⟩
  rw [if_pos g1, eX_isChoice, ite_b2i]
  by_cases g2 : rg a2 0 1
  rotate_left
  · rw [if_neg g2]
    try dsimp only
    unfold VX12_first
    rw [eM_isFree, e1, ite_b2i, if_pos g1, eM_in, ite_b2i, if_neg g2]
    exact ⟨rfl, hI⟩
  rw [if_pos g2]
  obtain ⟨fr, hfr, rfl⟩ := rg_nI (N := 29) (by decide) g1.1
  have hfr : fr < 30 := by omega
  have fin : Sp (σ 1 0) (dst (σ 1 0) fr) fr → ∀ (v : Int32) (u : Hp), v = (fsV σ L fr a2 T).1 → agr NSx σ u → VX12_first (fun v' u' => v = v' ∧ Inv u u') τ (nI fr) a2 := by
    intro hd v u hv au
    unfold VX12_first
    rw [eM_isFree, e1, ite_b2i, if_pos g1, eM_in, ite_b2i, if_pos g2]
    refine m_spreads hfr e1 hd (fun w aw hf => ?_)
    refine lpN (S := Hp × Int32 × Int32) (fun m s i => VX12_first_L36 (fun v' u' => v = v' ∧ Inv u u') m s.1 (nI fr) a2 s.2.1 s.2.2 (nI i)) (fun i s => agr PSm w s.1 ∧ s.2 = fsV σ L fr a2 i) T (fun m s hh => ?_) (fun m i s hi hh go => ?_) (w, -1, 0) ⟨agr.rf, rfl⟩
    · show VX12_first_L36 _ (m + 1) s.1 (nI fr) a2 s.2.1 s.2.2 (nI T)
      rw [VX12_first_L36, hh.1 0 2 (by decide), aw 0 2 (by decide), hT.2.2.1, if_pos (nI_le (Nat.le_refl _) (by omega)), hh.2]
      exact ⟨hv, hI.ag au ((aw.sub fun k i h => by omega).tr (hh.1.sub fun k i h => by omega))⟩
    · show VX12_first_L36 _ (m + 1) s.1 (nI fr) a2 s.2.1 s.2.2 (nI i)
      obtain ⟨a, hs⟩ := hh
      have aτ : agr NSm τ s.1 := (aw.sub fun k i h => by omega).tr (a.sub fun k i h => by omega)
      obtain ⟨k1, k2, k3, k4, k5, k6, k7, k8⟩ := hT.2.2.2 i hi
      rw [VX12_first_L36, aτ 0 2 (by decide), hT.2.2.1, if_neg (nI_ge hi (by omega))]
      refine m_soonest hA hT hC hi hfr aτ (fun c hc => by rw [a 18 c (by omega)]; exact hf c hc) (fun u11 a11 => ?_)
      have hst : fsV σ L fr a2 (i + 1) = fsS σ L fr a2 i s.2 := by rw [hs]; rfl
      have b89 : ∀ (w2 : Hp) (g : Int32), agr PSm w w2 → g = (if a2 = 0 then -soV σ L i fr else lwV σ L i 1 (σ 5 i)) → VX12_first_b89 (fun v' u' => v = v' ∧ Inv u u') (VX12_first_L36 (fun v' u' => v = v' ∧ Inv u u') m) w2 (nI fr) a2 s.2.1 s.2.2 (nI i) (soV σ L i fr) g := fun w2 g aw2 hg => by
        unfold fsS at hst
        rw [← hg] at hst
        unfold VX12_first_b89 VX12_first_b114 VX12_first_b127
        have nx : ∀ p, p = fsV σ L fr a2 (i + 1) → ∀ x, x = nI i + 1 → VX12_first_L36 (fun v' u' => v = v' ∧ Inv u u') m w2 (nI fr) a2 p.1 p.2 x := fun p hp x hx => by
          rw [hx, nI_1]; exact go (w2, p) ⟨aw2, hp⟩
        by_cases h1 : soV σ L i fr = -1
        · rw [if_pos h1] at hst
          rw [if_pos h1, if_pos rfl, if_pos rfl]
          exact nx s.2 hst.symm
        rw [if_neg h1] at hst
        rw [if_neg h1]
        by_cases h2 : s.2.1 = -1
        · rw [if_pos h2] at hst
          rw [if_pos h2, if_neg (by decide), if_neg (by decide)]
          exact nx (nI i, g) hst.symm
        rw [if_neg h2] at hst
        rw [if_neg h2]
        by_cases h3 : g ≤ s.2.2
        · rw [if_pos h3] at hst
          rw [if_pos h3, if_pos rfl, if_pos rfl]
          exact nx s.2 hst.symm
        · rw [if_neg h3] at hst
          rw [if_neg h3, if_neg (by decide), if_neg (by decide)]
          exact nx (nI i, g) hst.symm
      by_cases h0 : a2 = 0
      · rw [if_pos h0]
        exact b89 u11 _ (a.tr a11) (by rw [if_pos h0])
      · rw [if_neg h0, nI_clamp (by omega)]
        have a11τ : agr NSm τ u11 := aτ.tr (a11.sub fun k i h => by omega)
        refine ⟨vp_in_nI (by omega) (by decide), vp_in_nI (by omega) (by decide), ?_⟩
        rw [a11τ 4 i (by omega), k7, a11τ 0 1 (by decide), hA.2.2.2.1, a11τ 3 i (by omega), k6]
        refine m_asksT (p := 1) hA hT hC hi (by decide) a11τ (fun u14 a14 => b89 u14 _ (a.tr (a11.tr (a14.sub fun k i h => by omega))) (by rw [if_neg h0]))
  refine x_measure hfr rfl (fun u1 b1 hd hf => ?_)
  have n1 : agr NSx σ u1 := b1.sub fun k i h => by omega
  have fin' := fin hd
  generalize hKe : (fun (v : Int32) (u : Hp) => VX12_first (fun v' u' => v = v' ∧ Inv u u') τ (nI fr) a2) = K
  refine lpN (S := Hp × Int32 × Int32) (fun m s i => VX11_first_L34 K m s.1 (nI fr) a2 s.2.1 s.2.2 (nI i)) (fun i s => agr (fun k _ => BX k 0 ∧ k ≠ 50) u1 s.1 ∧ s.2 = fsV σ L fr a2 i) T (fun m s hh => ?_) (fun m i s hi hh go => ?_) (u1, -1, 0) ⟨agr.rf, rfl⟩
  · show VX11_first_L34 K (m + 1) s.1 (nI fr) a2 s.2.1 s.2.2 (nI T)
    rw [VX11_first_L34, hh.1 1 5 (by decide), n1 1 5 (by decide), hT.2.1, if_pos (nI_le (Nat.le_refl _) (by omega)), hh.2]
    subst hKe
    exact fin' _ _ rfl (n1.tr (hh.1.sub fun k i h => by omega))
  · show VX11_first_L34 K (m + 1) s.1 (nI fr) a2 s.2.1 s.2.2 (nI i)
    obtain ⟨a, hs⟩ := hh
    have aN : agr NSx σ s.1 := n1.tr (a.sub fun k i h => by omega)
    obtain ⟨ok, hq⟩ := x_okt hA hT hC hi hA.L.1
    rw [VX11_first_L34, aN 1 5 (by decide), hT.2.1, if_neg (nI_ge hi (by omega))]
    refine x_lift hA hT hi (aN.sub fun k i h => by omega) (fun u2 b2 hX => ⟨rfl, ?_⟩)
    rw [aN 5 i (by omega), aN 6 i (by omega)] at hX
    refine x_follow ok hq (by rw [b2 1 3 (by decide), aN 1 3 (by decide)]) hX (fun u3 b3 hp _ => ?_)
    have a3 : agr (fun k _ => BX k 0 ∧ k ≠ 50) u1 u3 := a.tr ((b2.sub fun k i h => by omega).tr (b3.sub fun k i h => by omega))
    have n3 : agr NSx σ u3 := n1.tr (a3.sub fun k i h => by omega)
    refine x_soonest hA hT hC hi hfr n3 hp hd (fun c hc => by rw [a3 51 c (by omega)]; exact hf c hc) (fun u4 b4 => ?_)
    have hst : fsV σ L fr a2 (i + 1) = fsS σ L fr a2 i s.2 := by rw [hs]; rfl
    have hok := soV_ok (σ := σ) (L := L) (t := i) (fr := fr)
    have hok2 : okm s.2.1 := by rw [hs]; exact fsV_ok i (by omega)
    have a4 : agr (fun k _ => BX k 0 ∧ k ≠ 50) u1 u4 := a3.tr (b4.sub fun k i h => by omega)
    have b92 : ∀ (w2 : Hp) (g : Int32), agr (fun k _ => BX k 0 ∧ k ≠ 50) u1 w2 → g = (if a2 = 0 then -soV σ L i fr else lwV σ L i 1 (σ 5 i)) → VX11_first_b92 K (VX11_first_L34 K m) w2 (nI fr) a2 s.2.1 s.2.2 (nI i) (soV σ L i fr) g := fun w2 g aw2 hg => by
      unfold fsS at hst
      rw [← hg] at hst
      unfold VX11_first_b92 VX11_first_b110
      have nx : ∀ p, p = fsV σ L fr a2 (i + 1) → ∀ x, x = nI i + 1 → VX11_first_L34 K m w2 (nI fr) a2 p.1 p.2 x := fun p hp x hx => by
        rw [hx, nI_1]; exact go (w2, p) ⟨aw2, hp⟩
      by_cases h1 : soV σ L i fr = -1
      · rw [if_pos h1] at hst
        rw [if_pos ((okm_lt hok).mpr h1)]
        exact nx s.2 hst.symm
      rw [if_neg h1] at hst
      rw [if_neg (fun q => h1 ((okm_lt hok).mp q))]
      by_cases h2 : s.2.1 = -1
      · rw [if_pos h2] at hst
        rw [if_pos ((okm_lt hok2).mpr h2)]
        exact nx (nI i, g) hst.symm
      rw [if_neg h2] at hst
      rw [if_neg (fun q => h2 ((okm_lt hok2).mp q))]
      by_cases h3 : g ≤ s.2.2
      · rw [if_pos h3] at hst ⊢
        exact nx s.2 hst.symm
      · rw [if_neg h3] at hst ⊢
        exact nx (nI i, g) hst.symm
    by_cases h0 : a2 = 0
    · rw [if_pos h0]
      exact b92 u4 _ a4 (by rw [if_pos h0])
    · rw [if_neg h0, nI_clamp (by omega)]
      have n4 : agr NSx σ u4 := n1.tr (a4.sub fun k i h => by omega)
      refine ⟨vp_in_nI (by omega) (by decide), ?_⟩
      rw [n4 5 i (by omega)]
      refine x_saysT (p := 1) hA hT hC hi (by decide) n4 (fun u5 b5 => b92 u5 _ (a4.tr (b5.sub fun k i h => by omega)) (by rw [if_neg h0]))
noncomputable def waV (σ : Hp) (L t : Nat) : Nat → Int32 × Int32 := orb (fun c p => if hasb (σ 1 0) (nI c) then p else if nI c = σ 5 t then p else bst (nI c) (soV σ L t c) p) (-1, -1)
theorem waV_ok {σ : Hp} {L t : Nat} : ∀ c, okm (waV σ L t c).2
  | 0 => Or.inl rfl
  | c + 1 => by
    have ih := waV_ok (σ := σ) (L := L) (t := t) c
    show okm (if hasb (σ 1 0) (nI c) then waV σ L t c else if nI c = σ 5 t then waV σ L t c else bst (nI c) (soV σ L t c) (waV σ L t c)).2
    split
    · exact ih
    · split
      · exact ih
      · exact bst_ok soV_ok ih
theorem f_wait : ∀ σ τ, Inv σ τ → ∀ (a1 a2 : Int32), VX11_wait (fun v u => VX12_wait (fun v' u' => v = v' ∧ Inv u u') τ a1 a2) σ a1 a2 := by
  intro σ τ hI a1 a2
  obtain ⟨T, X, L, Z, hA, hT, hP, hC, hS, hJ, hW⟩ := id hI
  have e1 := hI.eqs.1
  have hT5 := hT.1
  unfold VX11_wait
  rw [eX_isThing, ite_b2i]
  by_cases h : 0 ≤ a1 ∧ a1 < σ 1 5
  rotate_left
  · rw [if_neg h]
    try dsimp only
    unfold VX12_wait
    rw [eM_isThing, ite_b2i, if_neg (fun q => h ((thB hT).mpr ((thC hT).mp q)))]
    exact ⟨rfl, hI⟩
  have h' := (thC hT).mpr ((thB hT).mp h)
  rw [if_pos h, eX_isChoice, ite_b2i]
  by_cases g2 : rg a2 0 1
  rotate_left
  · rw [if_neg g2]
    try dsimp only
    unfold VX12_wait
    rw [eM_isThing, ite_b2i, if_pos h', eM_in, ite_b2i, if_neg g2]
    exact ⟨rfl, hI⟩
  rw [if_pos g2]
  obtain ⟨t, ht, rfl⟩ := (thB hT).mp h
  obtain ⟨ok, hq⟩ := x_okt hA hT hC ht hA.L.1
  obtain ⟨k1, k2, k3, k4, k5, k6, k7, k8⟩ := hT.2.2.2 t ht
  have hst : ∀ c, waV σ L t (c + 1) = if hasb (σ 1 0) (nI c) then waV σ L t c else if nI c = σ 5 t then waV σ L t c else bst (nI c) (soV σ L t c) (waV σ L t c) := fun c => rfl
  have hrg : ∀ i, i < 30 → rg (nI i) 0 29 := fun i hi => ⟨nI_pos' (by omega), nI_le (b := 29) (by omega) (by decide)⟩
  have fin : (∀ c, c < 30 → ¬ hasb (σ 1 0) (nI c) → ¬ nI c = σ 5 t → Sp (σ 1 0) (dst (σ 1 0) c) c) → ∀ (v : Int32) (u : Hp), v = (if a2 = 0 then (waV σ L t 30).1 else (waV σ L t 30).2) → agr NSx σ u → VX12_wait (fun v' u' => v = v' ∧ Inv u u') τ (nI t) a2 := by
    intro hd v u hv au
    unfold VX12_wait
    rw [eM_isThing, ite_b2i, if_pos h', eM_in, ite_b2i, if_pos g2]
    refine lpN (S := Hp × Int32 × Int32) (fun m s i => VX12_wait_L31 (fun v' u' => v = v' ∧ Inv u u') m s.1 (nI t) a2 s.2.1 s.2.2 (nI i)) (fun i s => agr NSm τ s.1 ∧ s.2 = waV σ L t i) 30 (fun m s hh => ?_) (fun m i s hi hh go => ?_) (τ, -1, -1) ⟨agr.rf, rfl⟩
    · show VX12_wait_L31 _ (m + 1) s.1 (nI t) a2 s.2.1 s.2.2 (nI 30)
      rw [VX12_wait_L31, if_pos (show (30 : Int32) ≤ nI 30 by decide), hh.2]
      have hIv : Inv u s.1 := hI.ag au hh.1
      by_cases h0 : a2 = 0
      · rw [if_pos h0] at hv ⊢; exact ⟨hv, hIv⟩
      · rw [if_neg h0] at hv ⊢; exact ⟨hv, hIv⟩
    · show VX12_wait_L31 _ (m + 1) s.1 (nI t) a2 s.2.1 s.2.2 (nI i)
      obtain ⟨a, hs⟩ := hh
      have hsti := hst i
      rw [← hs] at hsti
      have nx : ∀ (w : Hp) p, agr NSm τ w → p = waV σ L t (i + 1) → ∀ x, x = nI i + 1 → VX12_wait_L31 (fun v' u' => v = v' ∧ Inv u u') m w (nI t) a2 p.1 p.2 x := fun w p aw hp x hx => by
        rw [hx, nI_1]; exact go (w, p) ⟨aw, hp⟩
      rw [VX12_wait_L31, if_neg (show ¬ (30 : Int32) ≤ nI i from nI_ge (b := 30) hi (by decide)), eM_isFree, a 1 0 (by decide), e1, ite_b2i]
      by_cases b0 : hasb (σ 1 0) (nI i)
      · rw [if_pos b0] at hsti
        rw [if_neg (fun q => q.2 b0)]
        exact nx _ s.2 a hsti.symm
      rw [if_neg b0] at hsti
      rw [if_pos ⟨hrg i hi, b0⟩, nI_clamp (by omega), a 4 t (by omega), k7]
      refine ⟨vp_in_nI (by omega) (by decide), ?_⟩
      by_cases b1 : nI i = σ 5 t
      · rw [if_pos b1] at hsti ⊢
        exact nx _ s.2 a hsti.symm
      rw [if_neg b1] at hsti ⊢
      refine m_spreads hi (by rw [a 1 0 (by decide)]; exact e1) (hd i hi b0 b1) (fun u16 a16 hf => ?_)
      have a16' : agr NSm τ u16 := a.tr (a16.sub fun k i h => by omega)
      refine m_soonest hA hT hC ht hi a16' hf (fun u18 a18 => ?_)
      have a18' : agr NSm τ u18 := a16'.tr (a18.sub fun k i h => by omega)
      generalize soV σ L t i = k0 at hsti ⊢
      unfold bst at hsti
      unfold VX12_wait_b97 VX12_wait_b110
      by_cases h1 : k0 = -1
      · rw [if_pos h1] at hsti ⊢
        rw [if_pos rfl, if_pos rfl]
        exact nx _ s.2 a18' hsti.symm
      rw [if_neg h1] at hsti ⊢
      by_cases h2 : s.2.2 = -1
      · rw [if_pos h2] at hsti ⊢
        rw [if_neg (by decide), if_neg (by decide)]
        exact nx _ (nI i, k0) a18' hsti.symm
      rw [if_neg h2] at hsti ⊢
      by_cases h3 : s.2.2 ≤ k0
      · rw [if_pos h3] at hsti ⊢
        rw [if_pos rfl, if_pos rfl]
        exact nx _ s.2 a18' hsti.symm
      · rw [if_neg h3] at hsti ⊢
        rw [if_neg (by decide), if_neg (by decide)]
        exact nx _ (nI i, k0) a18' hsti.symm
  refine x_lift hA hT ht agr.rf (fun u1 b1 hX => ⟨rfl, ?_⟩)
  refine x_follow ok hq (b1 1 3 (by decide)) hX (fun u2 b2 hp _ => ?_)
  have n2 : agr NSx σ u2 := (b1.sub fun k i h => by omega).tr (b2.sub fun k i h => by omega)
  generalize hKe : (fun (v : Int32) (u : Hp) => VX12_wait (fun v' u' => v = v' ∧ Inv u u') τ (nI t) a2) = K
  refine lpN (S := Hp × Int32 × Int32) (fun m s i => VX11_wait_L38 K m s.1 (nI t) a2 s.2.1 s.2.2 (nI i)) (fun i s => agr (fun k _ => k ≠ 37 ∧ k ≠ 51 ∧ k ≠ 52) u2 s.1 ∧ s.2 = waV σ L t i ∧ ∀ c, c < i → ¬ hasb (σ 1 0) (nI c) → ¬ nI c = σ 5 t → Sp (σ 1 0) (dst (σ 1 0) c) c) 30 (fun m s hh => ?_) (fun m i s hi hh go => ?_) (u2, -1, -1) ⟨agr.rf, rfl, fun c hc => absurd hc (Nat.not_lt_zero c)⟩
  · show VX11_wait_L38 K (m + 1) s.1 (nI t) a2 s.2.1 s.2.2 (nI 30)
    rw [VX11_wait_L38, if_pos (show (30 : Int32) ≤ nI 30 by decide), hh.2.1]
    have fin' := fin hh.2.2
    subst hKe
    have hN : agr NSx σ s.1 := n2.tr (hh.1.sub fun k i h => by omega)
    by_cases h0 : a2 = 0
    · rw [if_pos h0] at fin' ⊢; exact fin' _ _ rfl hN
    · rw [if_neg h0] at fin' ⊢; exact fin' _ _ rfl hN
  · show VX11_wait_L38 K (m + 1) s.1 (nI t) a2 s.2.1 s.2.2 (nI i)
    obtain ⟨a, hs, hd⟩ := hh
    have aN : agr NSx σ s.1 := n2.tr (a.sub fun k i h => by omega)
    have hsti := hst i
    rw [← hs] at hsti
    have hok2 : okm s.2.2 := by rw [hs]; exact waV_ok i
    have nx : ∀ (w : Hp) p, agr (fun k _ => k ≠ 37 ∧ k ≠ 51 ∧ k ≠ 52) u2 w → p = waV σ L t (i + 1) → (¬ hasb (σ 1 0) (nI i) → ¬ nI i = σ 5 t → Sp (σ 1 0) (dst (σ 1 0) i) i) → ∀ x, x = nI i + 1 → VX11_wait_L38 K m w (nI t) a2 p.1 p.2 x := fun w p aw hp hdi x hx => by
      rw [hx, nI_1]
      refine go (w, p) ⟨aw, hp, fun c hc h1 h2 => ?_⟩
      by_cases hci : c = i
      · rw [hci] at h1 h2 ⊢; exact hdi h1 h2
      · exact hd c (by omega) h1 h2
    rw [VX11_wait_L38, if_neg (show ¬ (30 : Int32) ≤ nI i from nI_ge (b := 30) hi (by decide)), eX_isOpen, aN 1 0 (by decide), ite_b2i]
    by_cases b0 : hasb (σ 1 0) (nI i)
    · rw [if_pos b0] at hsti
      rw [if_neg (fun q => q.2 b0)]
      exact nx _ s.2 a hsti.symm (fun q => absurd b0 q)
    rw [if_neg b0] at hsti
    rw [if_pos ⟨hrg i hi, b0⟩, nI_clamp (by omega), aN 5 t (by omega)]
    refine ⟨vp_in_nI (by omega) (by decide), ?_⟩
    by_cases b1' : nI i = σ 5 t
    · rw [if_pos b1'] at hsti ⊢
      exact nx _ s.2 a hsti.symm (fun _ q => absurd b1' q)
    rw [if_neg b1'] at hsti ⊢
    refine x_measure hi (aN 1 0 (by decide)) (fun u19 a19 hdi hf => ?_)
    have a19' : agr (fun k _ => k ≠ 37 ∧ k ≠ 51 ∧ k ≠ 52) u2 u19 := a.tr (a19.sub fun k i h => by omega)
    have n19 : agr NSx σ u19 := n2.tr (a19'.sub fun k i h => by omega)
    refine x_soonest hA hT hC ht hi n19 (fun k hk => by rw [a19' 50 k (by omega)]; exact hp k hk) hdi hf (fun u20 a20 => ?_)
    have a20' : agr (fun k _ => k ≠ 37 ∧ k ≠ 51 ∧ k ≠ 52) u2 u20 := a19'.tr (a20.sub fun k i h => by omega)
    have hok : okm (soV σ L t i) := soV_ok
    generalize soV σ L t i = k0 at hsti hok ⊢
    unfold bst at hsti
    unfold VX11_wait_b103
    by_cases h1 : k0 = -1
    · rw [if_pos h1] at hsti
      rw [if_pos ((okm_lt hok).mpr h1)]
      exact nx _ s.2 a20' hsti.symm (fun _ _ => hdi)
    rw [if_neg h1] at hsti
    rw [if_neg (fun q => h1 ((okm_lt hok).mp q))]
    by_cases h2 : s.2.2 = -1
    · rw [if_pos h2] at hsti
      rw [if_pos ((okm_lt hok2).mpr h2)]
      exact nx _ (nI i, k0) a20' hsti.symm (fun _ _ => hdi)
    rw [if_neg h2] at hsti
    rw [if_neg (fun q => h2 ((okm_lt hok2).mp q))]
    by_cases h3 : s.2.2 ≤ k0
    · rw [if_pos h3] at hsti ⊢
      exact nx _ s.2 a20' hsti.symm (fun _ _ => hdi)
    · rw [if_neg h3] at hsti ⊢
      exact nx _ (nI i, k0) a20' hsti.symm (fun _ _ => hdi)
