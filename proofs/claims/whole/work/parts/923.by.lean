theorem f_thingsBy : ∀ σ τ, Inv σ τ → ∀ (a1 a2 a3 a4 : Int32), VX11_thingsBy (fun v u => VX12_thingsBy (fun v' u' => v = v' ∧ Inv u u') τ a1 a2 a3 a4) σ a1 a2 a3 a4 := by
  intro σ τ hI a1 a2 a3 a4
  obtain ⟨T, X, L, Z, hA, hT, hP, hC, hS, hJ, hW⟩ := id hI
  have mBad : ∀ (v : Int32), v = -2 → ¬ (rg a1 0 3 ∧ rg a2 0 2 ∧ rg a4 0 5) → VX12_thingsBy (fun v' u' => v = v' ∧ Inv σ u') τ a1 a2 a3 a4 := fun v hv hn => by
    unfold VX12_thingsBy
    simp only [eM_in, ite_b2i]
    by_cases g1 : rg a1 0 3
    rotate_left
    · rw [if_neg g1]; exact ⟨hv, hI⟩
    rw [if_pos g1]
    by_cases g2 : rg a2 0 2
    rotate_left
    · rw [if_neg g2]; exact ⟨hv, hI⟩
    rw [if_pos g2]
    by_cases g4 : rg a4 0 5
    rotate_left
    · rw [if_neg g4]; exact ⟨hv, hI⟩
    exact absurd ⟨g1, g2, g4⟩ hn
  unfold VX11_thingsBy
  rw [eX_isSheet, ite_b2i]
  by_cases g1 : rg a1 0 3
  rotate_left
  · rw [if_neg g1]; exact mBad _ rfl (fun q => g1 q.1)
  rw [if_pos g1]
  by_cases n1 : a2 < 0
  · rw [if_pos n1]; exact mBad _ rfl (fun q => absurd q.2.1.1 (Int32.not_le.mpr n1))
  rw [if_neg n1]
  by_cases n2 : 2 < a2
  · rw [if_pos n2]; exact mBad _ rfl (fun q => absurd q.2.1.2 (Int32.not_le.mpr n2))
  rw [if_neg n2]
  have g2 : rg a2 0 2 := ⟨Int32.not_lt.mp n1, Int32.not_lt.mp n2⟩
  by_cases n3 : a4 < 0
  · rw [if_pos n3]; exact mBad _ rfl (fun q => absurd q.2.2.1 (Int32.not_le.mpr n3))
  rw [if_neg n3]
  by_cases n4 : a4 ≤ 5
  rotate_left
  · rw [if_neg n4]; exact mBad _ rfl (fun q => n4 q.2.2.2)
  rw [if_pos n4]
  have g4 : rg a4 0 5 := ⟨Int32.not_lt.mp n3, n4⟩
  obtain ⟨s, hs, rfl⟩ := rg_nI (N := 3) (by decide) g1
  obtain ⟨n, hn, rfl⟩ := rg_nI (N := 5) (by decide) g4
  have hvs : vp_in (nI s) 4 := vp_in_nI (by omega) (by decide)
  obtain ⟨⟨z, hz, z1, z2⟩, h2, h3, h4⟩ := hS s (by omega)
  rw [nI_clamp (by omega)]
  refine ⟨hvs, fun x8 e8 => ?_⟩
  subst e8
  by_cases b0 : σ (41 + s) 1 = -1
  · rw [if_pos b0]
    try dsimp only
    unfold VX12_thingsBy
    rw [eM_in, ite_b2i, if_pos g1, eM_in, ite_b2i, if_pos g2, eM_in, ite_b2i, if_pos g4, nI_clamp (by omega), h2, if_pos b0]
    exact ⟨hvs, rfl, hI⟩
  rw [if_neg b0]
  by_cases b1 : σ (41 + s) 1 = a2
  rotate_left
  · rw [if_neg b1]
    try dsimp only
    unfold VX12_thingsBy
    rw [eM_in, ite_b2i, if_pos g1, eM_in, ite_b2i, if_pos g2, eM_in, ite_b2i, if_pos g4, nI_clamp (by omega), h2, if_neg b0, if_neg b1]
    exact ⟨hvs, hvs, rfl, hI⟩
  rw [if_pos b1]
  have mEnd : ∀ K : Int32 → Hp → Prop, VX12_thingsBy_L63 K (n + 1) τ (nI s) a3 (nI n) 0 (nI 0) → VX12_thingsBy K τ (nI s) a2 a3 (nI n) := fun K hK => by
    unfold VX12_thingsBy
    rw [eM_in, ite_b2i, if_pos g1, eM_in, ite_b2i, if_pos g2, eM_in, ite_b2i, if_pos g4, nI_clamp (by omega), h2, if_neg b0, if_pos b1]
    exact ⟨hvs, hvs, n + 1, hK⟩
  have fin : ∀ (v : Int32) (u : Hp), VX12_thingsBy_L63 (fun v' u' => v = v' ∧ Inv u u') (n + 1) τ (nI s) a3 (nI n) 0 (nI 0) → VX12_thingsBy (fun v' u' => v = v' ∧ Inv u u') τ (nI s) a2 a3 (nI n) := fun v u h => mEnd _ h
  generalize hKe : (fun (v : Int32) (u : Hp) => VX12_thingsBy (fun v' u' => v = v' ∧ Inv u u') τ (nI s) a2 a3 (nI n)) = KX
  refine lpN (S := Hp × Int32) (fun m q i => VX11_thingsBy_L68 KX m q.1 a3 (nI n) (41 + s) q.2 (nI i)) (fun i q => (∃ v, Inv q.1 v) ∧ agr (fun k _ => 41 ≤ k ∧ k ≤ 48) σ q.1 ∧ (i = 0 ∨ ∃ p, p ≤ 40 ∧ a3 = nI p) ∧ ∀ K : Int32 → Hp → Prop, (∀ v, Inv q.1 v → VX12_thingsBy_L63 K (n + 1 - i) v (nI s) a3 (nI n) q.2 (nI i)) → VX12_thingsBy_L63 K (n + 1) τ (nI s) a3 (nI n) 0 (nI 0)) n (fun m q h => ?_) (fun m i q hq h go => ?_) (σ, 0) ⟨⟨τ, hI⟩, agr.rf, Or.inl rfl, fun K hK => hK τ hI⟩
  · show VX11_thingsBy_L68 KX (m + 1) q.1 a3 (nI n) (41 + s) q.2 (nI n)
    obtain ⟨hex, ax, _, tr⟩ := h
    rw [VX11_thingsBy_L68]
    refine ⟨⟨by omega, by omega⟩, ?_⟩
    rw [if_pos (nI_le (Nat.le_refl _) (by omega))]
    subst hKe
    refine fin _ _ (tr _ (fun v hv => ?_))
    rw [show n + 1 - n = 0 + 1 by omega, VX12_thingsBy_L63, if_pos (nI_le (Nat.le_refl _) (by omega))]
    exact ⟨rfl, hv⟩
  · show VX11_thingsBy_L68 KX (m + 1) q.1 a3 (nI n) (41 + s) q.2 (nI i)
    obtain ⟨⟨v0, hv0⟩, ax, hp0, tr⟩ := h
    obtain ⟨u, c⟩ := q
    simp only at hv0 ax tr go
    rw [VX11_thingsBy_L68]
    refine ⟨⟨by omega, by omega⟩, ?_⟩
    rw [if_neg (nI_ge hq (by omega))]
    intro x12 e12
    rw [show (3 : Int32) * nI i = nI (3 * i) from pk_mul 3 i] at e12
    have uz1 : u (41 + s) 2 = nI z := by rw [ax (41 + s) 2 (by omega)]; exact z1
    have hfu : n + 1 - i = (n - i) + 1 := by omega
    refine x_holds (z := z) ⟨by omega, by omega⟩ hz uz1 (fun p w hpw ep ew => ?_) (fun hno => ?_)
    · have hw3 : 3 = w := (nI_eq (a := 3) (b := w) (by decide) (by omega)).mp ew
      rw [if_neg (by decide)]
      -- where it begins
      have hp : ∃ p0, p0 + 3 * i = p ∧ a3 = nI p0 := by
        rcases hp0 with h0 | ⟨p0, hp1, hp2⟩
        · subst h0
          refine ⟨p, rfl, ?_⟩
          rw [← ep, e12]
          show a3 = a3 + 0
          simp
        · refine ⟨p0, ?_, hp2⟩
          rw [hp2, nI_add, ep] at e12
          exact (nI_eq (by omega) (by omega)).mp e12.symm
      obtain ⟨p0, hpp, e3⟩ := hp
      intro x16 e16
      obtain rfl : x16 = 45 + s := by omega
      rw [ep, nI_clamp (by omega), nI_1, nI_clamp (by omega), show nI p + 2 = nI (p + 2) from nI_add p 2, nI_clamp (by omega)]
      refine ⟨vp_in_nI (by omega) (by decide), fun x17 e17 => ?_⟩
      obtain rfl : x17 = 45 + s := by omega
      refine ⟨vp_in_nI (by omega) (by decide), fun x18 e18 => ?_⟩
      obtain rfl : x18 = 45 + s := by omega
      refine ⟨vp_in_nI (by omega) (by decide), ?_⟩
      -- m's step
      have mst : ∀ (K : Int32 → Hp → Prop) (v : Hp), Inv u v → VX12_thing (fun v18 u19 => if v18 < 0 then (∀ x21 : Int32, x21 = c + 0 → ∀ x22 : Int32, x22 = nI i + 1 → (VX12_thingsBy_L63 K (n - i)) u19 (nI s) a3 (nI n) x21 x22) else (∀ x23 : Int32, x23 = c + 1 → ∀ x24 : Int32, x24 = nI i + 1 → (VX12_thingsBy_L63 K (n - i)) u19 (nI s) a3 (nI n) x23 x24)) v (u (45 + s) p) (u (45 + s) (p + 1)) (u (45 + s) (p + 2)) → VX12_thingsBy_L63 K (n + 1 - i) v (nI s) a3 (nI n) c (nI i) := fun K v hv hK => by
        obtain ⟨T', X', L', Z', _, _, _, _, hS', _, _⟩ := hv
        obtain ⟨⟨z', hz', y1, y2⟩, k2, k3, k4⟩ := hS' s (by omega)
        have hzz : z' = z := (nI_eq (by omega) (by omega)).mp (y1.symm.trans uz1)
        subst hzz
        rw [hfu, VX12_thingsBy_L63, if_neg (nI_ge hq (by omega))]
        intro x13 e13
        rw [show (3 : Int32) * nI i = nI (3 * i) from pk_mul 3 i, e3, nI_add, hpp] at e13
        rw [e13, e3, if_neg (nI_pos (by omega)), if_neg (nI_nlt (by omega) (by omega)), nI_clamp (by omega), y2, show nI z' - 3 = nI (z' - 3) from pk_sub (b := 3) (by omega), if_pos (nI_le (by omega) (by omega))]
        refine ⟨hvs, fun x17 e17 => ?_⟩
        rw [show (40 : Int32) * nI s = nI (40 * s) from pk_mul 40 s, nI_add] at e17
        rw [e17, nI_1, show nI (40 * s + p) + 2 = nI (40 * s + p + 2) from nI_add _ 2, nI_clamp (by omega), nI_clamp (by omega), nI_clamp (by omega), k4 p (by omega), show 40 * s + p + 1 = 40 * s + (p + 1) by omega, show 40 * s + p + 2 = 40 * s + (p + 2) by omega, k4 (p + 1) (by omega), k4 (p + 2) (by omega)]
        rw [e3] at hK
        exact ⟨vp_in_nI (by omega) (by decide), vp_in_nI (by omega) (by decide), vp_in_nI (by omega) (by decide), hK⟩
      have hp40 : i + 1 = 0 ∨ ∃ p, p ≤ 40 ∧ a3 = nI p := Or.inr ⟨p0, by omega, e3⟩
      have hf2 : n + 1 - (i + 1) = n - i := Nat.succ_sub_succ n i
      obtain ⟨T', X', L', Z', hA', hT', hP', hC', hS', hJ', hW'⟩ := id hv0
      have q1u : ∀ v, Inv u v → v 1 0 = u 1 0 := fun v hv => hv.eqs.1
      refine x_thing hT' (u := u) (fun g => ?_) (fun g h5 => ?_) (fun g h5 u' ax' b1 b2 b3 b4 b5 => ?_)
      · rw [if_pos (by decide)]
        intro x22 e22 x23 e23
        rw [e23, nI_1]
        refine go (u, x22) ⟨⟨v0, hv0⟩, ax, hp40, fun K hK => tr K (fun v hv => mst K v hv ?_)⟩
        obtain ⟨T'', _, _, _, _, hT'', _⟩ := id hv
        refine m_thing hT'' (fun _ => ?_) (fun g' => ?_) (fun g' => ?_)
        · rw [if_pos (by decide)]
          intro y21 f21 y22 f22
          rw [f22, nI_1, ← hf2, f21, ← e22]
          exact hK v hv
        · rw [q1u v hv] at g'; exact absurd g' g
        · rw [q1u v hv] at g'; exact absurd g' g
      · rw [if_pos (by decide)]
        intro x22 e22 x23 e23
        rw [e23, nI_1]
        refine go (u, x22) ⟨⟨v0, hv0⟩, ax, hp40, fun K hK => tr K (fun v hv => mst K v hv ?_)⟩
        obtain ⟨T'', _, _, _, _, hT'', _⟩ := id hv
        have hTT : T'' = T' := (nI_eq (by have := hT''.1; omega) (by have := hT'.1; omega)).mp (hT''.2.1.symm.trans hT'.2.1)
        refine m_thing hT'' (fun g' => ?_) (fun _ _ => ?_) (fun _ h => ?_)
        · rw [q1u v hv] at g'; exact absurd g g'
        · rw [if_pos (by decide)]
          intro y21 f21 y22 f22
          rw [f22, nI_1, ← hf2, f21, ← e22]
          exact hK v hv
        · exact absurd h5 (by omega)
      · rw [if_neg (nI_pos (by omega))]
        intro x22 e22 x23 e23
        rw [e23, nI_1]
        have hT5 : T' < 5 := h5
        refine go (u', x22) ⟨?_, ?_, hp40, fun K hK => tr K (fun v hv => mst K v hv ?_)⟩
        · have e1 := hv0.eqs.1
          have h0 : ∃ v', agr (fun k i => (k < 2 ∨ 5 < k) ∧ ¬ (k = 0 ∧ i = 2)) v0 v' ∧ v' 0 2 = nI (T' + 1) ∧ (∀ s1, v' 2 s1 = if s1 = T' then (u (45 + s) p) / 10 else v0 2 s1) ∧ (∀ s1, v' 3 s1 = if s1 = T' then jrem (u (45 + s) p) 10 else v0 3 s1) ∧ (∀ s1, v' 4 s1 = if s1 = T' then (u (45 + s) (p + 1)) else v0 4 s1) ∧ (∀ s1, v' 5 s1 = if s1 = T' then (u (45 + s) (p + 2)) else v0 5 s1) := by
            refine ⟨hup (hup (hup (hup (hup v0 2 T' ((u (45 + s) p) / 10)) 3 T' (jrem (u (45 + s) p) 10)) 4 T' (u (45 + s) (p + 1))) 5 T' (u (45 + s) (p + 2))) 0 2 (nI (T' + 1)), agr.up (agr.up (agr.up (agr.up (agr.up agr.rf (by omega)) (by omega)) (by omega)) (by omega)) (by omega), hup_self, fun s1 => ?_, fun s1 => ?_, fun s1 => ?_, fun s1 => ?_⟩
            · rw [hup_row (by decide), hup_row (by decide), hup_row (by decide), hup_row (by decide), hup_ap, if_pos rfl]
            · rw [hup_row (by decide), hup_row (by decide), hup_row (by decide), hup_ap, if_pos rfl, hup_row (by decide)]
            · rw [hup_row (by decide), hup_row (by decide), hup_ap, if_pos rfl, hup_row (by decide), hup_row (by decide)]
            · rw [hup_row (by decide), hup_ap, if_pos rfl, hup_row (by decide), hup_row (by decide), hup_row (by decide)]
          obtain ⟨v', c0, c1, c2, c3, c4, c5⟩ := h0
          exact ⟨v', hv0.thing hT'.2.1 hT5 g ax' b1 b2 b3 b4 b5 c0 c1 c2 c3 c4 c5⟩
        · exact ax.tr (ax'.sub fun k i h => by omega)
        · obtain ⟨T'', _, _, _, _, hT'', _⟩ := id hv
          have hTT : T'' = T' := (nI_eq (by have := hT''.1; omega) (by have := hT'.1; omega)).mp (hT''.2.1.symm.trans hT'.2.1)
          subst hTT
          refine m_thing hT'' (fun g' => ?_) (fun _ h => absurd h5 (by omega)) (fun _ _ v' c0 c1 c2 c3 c4 c5 => ?_)
          · rw [q1u v hv] at g'; exact absurd g g'
          · rw [if_neg (nI_pos (by omega))]
            intro y21 f21 y22 f22
            rw [f22, nI_1, ← hf2, f21, ← e22]
            exact hK v' (hv.thing hT''.2.1 hT5 g ax' b1 b2 b3 b4 b5 c0 c1 c2 c3 c4 c5)
    · rw [if_pos rfl]
      subst hKe
      refine fin _ _ (tr _ (fun v hv => ?_))
      obtain ⟨T', X', L', Z', _, _, _, _, hS', _, _⟩ := id hv
      obtain ⟨⟨z', hz', y1, y2⟩, k2, k3, k4⟩ := hS' s (by omega)
      have hzz : z' = z := (nI_eq (by omega) (by omega)).mp (y1.symm.trans uz1)
      subst hzz
      rw [hfu, VX12_thingsBy_L63, if_neg (nI_ge hq (by omega))]
      intro x13 e13
      rw [show (3 : Int32) * nI i = nI (3 * i) from pk_mul 3 i, ← e12] at e13
      rw [e13]
      by_cases m1 : a3 < 0
      · rw [if_pos m1]; exact ⟨rfl, hv⟩
      rw [if_neg m1]
      by_cases m2 : x12 < a3
      · rw [if_pos m2]; exact ⟨rfl, hv⟩
      rw [if_neg m2, nI_clamp (by omega), y2]
      refine ⟨hvs, ?_⟩
      by_cases m3 : x12 ≤ nI z' - 3
      · exfalso
        apply hno
        obtain ⟨p, hp, rfl⟩ := nI_of (x := x12) (fun q => m1 (Int32.lt_of_le_of_lt (Int32.not_lt.mp m2) q))
        rw [Int32.le_iff_toInt_le, nI_toInt hp, show nI z' - 3 = nI z' - nI 3 from rfl, pk_sub_toInt (by omega) (by decide)] at m3
        exact ⟨p, 3, by omega, rfl, rfl⟩
      · rw [if_neg m3]; exact ⟨rfl, hv⟩
