/-! ===== one step of a thing in thought: both sides ===== -/
def gx (c w : Int32) : Int32 := jrem c 6 + (if w = 1 then 1 else if w = 3 then -1 else 0)
def gy (c w : Int32) : Int32 := c / 6 + (if w = 2 then 1 else if w = 0 then -1 else 0)
def geo (c w : Int32) : Int32 := if rg (gx c w) 0 5 ∧ rg (gy c w) 0 4 then 6 * gy c w + gx c w else -1
theorem geoT : ∀ i, i < 30 → ∀ j, j < 5 → (rg (gx (nI i) (nI j)) 0 5 ∧ rg (gy (nI i) (nI j)) 0 4 → (6 * gy (nI i) (nI j) + gx (nI i) (nI j)).toNatClampNeg < 30 ∧ 6 * gy (nI i) (nI j) + gx (nI i) (nI j) = nI (6 * gy (nI i) (nI j) + gx (nI i) (nI j)).toNatClampNeg) := by decide +kernel
theorem geo_cs {c w : Int32} (hc : nb c 30) (hw : nb w 5) : geo c w = -1 ∨ nb (geo c w) 30 := by
  obtain ⟨i, hi, rfl⟩ := hc
  obtain ⟨j, hj, rfl⟩ := hw
  unfold geo
  by_cases h : rg (gx (nI i) (nI j)) 0 5 ∧ rg (gy (nI i) (nI j)) 0 4
  · rw [if_pos h]
    obtain ⟨h1, h2⟩ := geoT i hi j hj h
    exact Or.inr ⟨_, h1, h2⟩
  · rw [if_neg h]; exact Or.inl rfl
theorem nb_nm {v : Int32} {N : Nat} (h : nb v N) (hN : N < 2 ^ 31) : ¬ v = -1 := by
  obtain ⟨k, hk, rfl⟩ := h
  intro q
  have := congrArg Int32.toInt q
  rw [nI_toInt (by omega), show (-1 : Int32).toInt = -1 by decide] at this
  omega
theorem nb_n0 {v : Int32} {N : Nat} (h : nb v N) (hN : N < 2 ^ 31) : ¬ v < 0 := by
  obtain ⟨k, hk, rfl⟩ := h
  exact nI_pos (by omega)
theorem nb_ge {v : Int32} {N : Nat} (h : nb v N) (hN : N < 2 ^ 31) : 0 ≤ v := Int32.not_lt.mp (nb_n0 h hN)
theorem eX_b47 {K : Int32 → Hp → Prop} {σ : Hp} {x y0 y1 : Int32} : VX3_beyond_b47 K 1 σ x y0 y1 = (if rg x 0 5 ∧ rg (y1 + y0) 0 4 then (if hasb (σ 1 0) (6 * (y1 + y0) + x) then K (-1) σ else K (6 * (y1 + y0) + x) σ) else K (-1) σ) := by
  unfold VX3_beyond_b47
  rw [forall_eq]
  by_cases h1 : x < 0
  · rw [if_pos h1, if_neg (fun q => absurd q.1.1 (Int32.not_le.mpr h1))]
  rw [if_neg h1]
  by_cases h2 : 6 ≤ x
  · rw [if_pos h2, if_neg (fun q => absurd ((lt_le (a := x) (hi := 6) (hj := 5) rfl).mpr q.1.2) (Int32.not_lt.mpr h2))]
  rw [if_neg h2]
  have h2' : x ≤ 5 := (lt_le (hi := 6) rfl).mp (Int32.not_le.mp h2)
  by_cases h3 : y1 + y0 < 0
  · rw [if_pos h3, if_neg (fun q => absurd q.2.1 (Int32.not_le.mpr h3))]
  rw [if_neg h3]
  by_cases h4 : y1 + y0 < 5
  · rw [if_pos h4, forall_eq, eX_has, ite_b2i, if_pos (show rg x 0 5 ∧ rg (y1 + y0) 0 4 from ⟨⟨Int32.not_lt.mp h1, h2'⟩, ⟨Int32.not_lt.mp h3, (lt_le (hi := 5) rfl).mp h4⟩⟩)]
  · rw [if_neg h4, if_neg (fun q => h4 ((lt_le (a := y1 + y0) (hi := 5) (hj := 4) rfl).mpr q.2.2))]
theorem eX_beyond {K : Int32 → Hp → Prop} {σ : Hp} {c w : Int32} (hc : nb c 30) (hw : nb w 5) : VX3_beyond K σ 1 c w = K (if geo c w = -1 ∨ hasb (σ 1 0) (geo c w) then -1 else geo c w) σ := by
  have key : VX3_beyond K σ 1 c w = (if rg (gx c w) 0 5 ∧ rg (gy c w) 0 4 then (if hasb (σ 1 0) (6 * (gy c w) + gx c w) then K (-1) σ else K (6 * (gy c w) + gx c w) σ) else K (-1) σ) := by
    unfold VX3_beyond
    rw [show (1 ≤ 1 ∧ 1 < 3) = True from eq_true ⟨by decide, by decide⟩, true_and]
    unfold VX3_beyond_b23 gx gy
    by_cases w1 : w = 1
    · subst w1
      simp only [forall_eq, eX_b47, if_true, show ¬ (1 : Int32) = 2 by decide, show ¬ (1 : Int32) = 0 by decide, if_false]
    · by_cases w3 : w = 3
      · subst w3
        simp only [forall_eq, eX_b47, if_true, show ¬ (3 : Int32) = 2 by decide, show ¬ (3 : Int32) = 0 by decide, show ¬ (3 : Int32) = 1 by decide, if_false]
      · by_cases w2 : w = 2
        · subst w2
          simp only [forall_eq, eX_b47, if_true, show ¬ (2 : Int32) = 1 by decide, show ¬ (2 : Int32) = 3 by decide, if_false]
        · by_cases w0 : w = 0
          · subst w0
            simp only [forall_eq, eX_b47, if_true, show ¬ (0 : Int32) = 1 by decide, show ¬ (0 : Int32) = 3 by decide, show ¬ (0 : Int32) = 2 by decide, if_false]
          · simp only [forall_eq, eX_b47, w1, w2, w3, w0, if_false]
  rw [key]
  have hg := geo_cs hc hw
  unfold geo at hg ⊢
  by_cases h : rg (gx c w) 0 5 ∧ rg (gy c w) 0 4
  · rw [if_pos h] at hg ⊢
    rw [if_pos h]
    have hn : ¬ 6 * gy c w + gx c w = -1 := by
      obtain ⟨i, hi, rfl⟩ := hc
      obtain ⟨j, hj, rfl⟩ := hw
      obtain ⟨h1, h2⟩ := geoT i hi j hj h
      exact nb_nm ⟨_, h1, h2⟩ (by decide)
    by_cases hb : hasb (σ 1 0) (6 * gy c w + gx c w)
    · rw [if_pos hb, if_pos (Or.inr hb)]
    · rw [if_neg hb, if_neg (fun q => q.elim hn hb)]
  · rw [if_neg h, if_neg h, if_pos (Or.inl rfl)]
theorem eM_b47 {K : Int32 → Hp → Prop} {σ : Hp} {y x0 x1 : Int32} : VX12_beside_b47 K σ y x0 x1 = K (if rg (x1 + x0) 0 5 ∧ rg y 0 4 then 6 * y + (x1 + x0) else -1) σ := by
  unfold VX12_beside_b47
  rw [forall_eq, eM_in, ite_b2i]
  by_cases h1 : rg y 0 4
  · rw [if_pos h1, eM_in, ite_b2i]
    by_cases h2 : rg (x1 + x0) 0 5
    · rw [if_pos h2, if_pos ⟨h2, h1⟩]
    · rw [if_neg h2, if_neg (fun q => h2 q.1)]
  · rw [if_neg h1, if_neg (fun q => h1 q.2)]
theorem eM_beside {K : Int32 → Hp → Prop} {σ : Hp} {c w : Int32} : VX12_beside K σ c w = K (geo c w) σ := by
  unfold VX12_beside VX12_beside_b22 geo gx gy
  by_cases w1 : w = 1
  · subst w1
    simp only [forall_eq, eM_b47, if_true, show ¬ (1 : Int32) = 2 by decide, show ¬ (1 : Int32) = 0 by decide, if_false]
  · by_cases w3 : w = 3
    · subst w3
      simp only [forall_eq, eM_b47, if_true, show ¬ (3 : Int32) = 2 by decide, show ¬ (3 : Int32) = 0 by decide, show ¬ (3 : Int32) = 1 by decide, if_false]
    · by_cases w2 : w = 2
      · subst w2
        simp only [forall_eq, eM_b47, if_true, show ¬ (2 : Int32) = 1 by decide, show ¬ (2 : Int32) = 3 by decide, show ¬ (2 : Int32) = 0 by decide, if_false]
      · by_cases w0 : w = 0
        · subst w0
          simp only [forall_eq, eM_b47, if_true, show ¬ (0 : Int32) = 1 by decide, show ¬ (0 : Int32) = 3 by decide, show ¬ (0 : Int32) = 2 by decide, if_false]
        · simp only [forall_eq, eM_b47, w1, w2, w3, w0, if_false]
/-- by KIND: blown, touching, moving -/
def blw (kd : Nat) (b w : Int32) : Int32 := if kd = 5 then (if w = 4 then (if b = 4 then w else b) else w) else if kd = 4 then (if b = 4 then w else jrem (b + 2) 4) else if b = 4 then w else b
def tch (kd : Nat) (w : Int32) : Int32 := if kd = 1 ∨ kd = 3 then 4 else if kd = 2 ∨ kd = 4 then jrem (w + 1) 4 else jrem (w + 2) 4
abbrev mvs (kd : Nat) (n mo : Int32) : Prop := kd = 3 → jrem n (jrem mo 3 + 1) = 0
theorem kd6 {kd : Nat} (h : kd < 6) : kd = 0 ∨ kd = 1 ∨ kd = 2 ∨ kd = 3 ∨ kd = 4 ∨ kd = 5 := by omega
theorem eP_blown {K : Int32 → Hp → Prop} {σ : Hp} {kd : Nat} {b w : Int32} (h : kd < 6) : VP_blown K σ (12 + kd) b w = K (blw kd b w) σ := by
  rcases kd6 h with rfl | rfl | rfl | rfl | rfl | rfl
  all_goals simp [VP_blown, VX10_blown, VX0_blown, VX2_blown, blw]
  all_goals (repeat' split)
  all_goals first | rfl | simp_all
theorem eP_touching {K : Int32 → Hp → Prop} {σ : Hp} {kd : Nat} {w : Int32} (h : kd < 6) : VP_touching K σ (12 + kd) w = K (tch kd w) σ := by
  rcases kd6 h with rfl | rfl | rfl | rfl | rfl | rfl
  all_goals simp [VP_touching, VX10_touching, VX7_touching, VX5_touching, tch]
theorem mo3 : ∀ m, m < 10 → (0 : Int32) ≤ (nI m ^^^ 3) ∧ ¬ (jrem (nI m) 3 + 1) = 0 := by decide +kernel
theorem eP_moves {K : Int32 → Hp → Prop} {σ : Hp} {kd : Nat} {n mo : Int32} (h : kd < 6) (hm : nb mo 10) : VP_moves K σ (12 + kd) n mo = K (b2i (mvs kd n mo)) σ := by
  obtain ⟨m, hm, rfl⟩ := hm
  obtain ⟨h1, h2⟩ := mo3 m hm
  have hb : ∀ kd, kd ≠ 3 → b2i (mvs kd n (nI m)) = 1 := fun kd hk => b2i_t (fun q => absurd q hk)
  rcases kd6 h with rfl | rfl | rfl | rfl | rfl | rfl
  · rw [hb 0 (by decide)]; simp [VP_moves, VX10_moves]
  · rw [hb 1 (by decide)]; simp [VP_moves, VX10_moves]
  · rw [hb 2 (by decide)]; simp [VP_moves, VX10_moves]
  · simp [VP_moves, VX8_moves, VJ9_floorMod_7cf53, h1, h2]
    by_cases hj : jrem n (jrem (nI m) 3 + 1) = 0
    · rw [if_pos hj, b2i_t hj]
    · rw [if_neg hj, b2i_f hj]
  · rw [hb 4 (by decide)]; simp [VP_moves, VX10_moves]
  · rw [hb 5 (by decide)]; simp [VP_moves, VX10_moves]
/-- a step behind the wind; a step -/
def mvw (W : Int32) (kd : Nat) (mo n c w : Int32) : Int32 × Int32 := if w = 4 ∨ ¬ mvs kd n mo then (c, w) else if geo c w = -1 ∨ hasb W (geo c w) then (c, tch kd w) else (geo c w, w)
def stp (W N F : Int32) (kd : Nat) (mo : Int32) (B : Int32 → Int32 → Int32) (n : Int32) (q : Int32 × Int32) : Int32 × Int32 := if hasb N q.1 then (q.1, 4) else mvw W kd mo n q.1 (if hasb F q.1 then blw kd (B q.1 n) q.2 else q.2)
def okq (q : Int32 × Int32) : Prop := nb q.1 30 ∧ nb q.2 5
theorem clm_nb {H : Nat} {v : Int32} (hH : H < 2 ^ 31) : nb (clm (nI H) v) (H + 1) := by
  unfold clm
  by_cases h1 : v < nI H
  · rw [if_pos h1]
    by_cases h2 : 0 < v
    · rw [if_pos h2]
      obtain ⟨j, hj, rfl⟩ := nI_of (x := v) (fun q => Int32.lt_irrefl (Int32.lt_trans h2 q))
      exact ⟨j, by rw [nI_ltI hj hH] at h1; omega, rfl⟩
    · rw [if_neg h2]; exact ⟨0, by omega, rfl⟩
  · rw [if_neg h1]
    by_cases h2 : 0 < nI H
    · rw [if_pos h2]; exact ⟨H, by omega, rfl⟩
    · rw [if_neg h2]; exact ⟨0, by omega, rfl⟩
theorem sayB_nb {r st : Nat → Int32} {c n th mo : Int32} : nb (sayR r st 0 c n th mo) 5 := clm_nb (H := 4) (by decide)
theorem blwT : ∀ kd, kd < 6 → ∀ b, b < 5 → ∀ w, w < 5 → (blw kd (nI b) (nI w)).toNatClampNeg < 5 ∧ blw kd (nI b) (nI w) = nI (blw kd (nI b) (nI w)).toNatClampNeg := by decide +kernel
theorem tchT : ∀ kd, kd < 6 → ∀ w, w < 5 → (tch kd (nI w)).toNatClampNeg < 5 ∧ tch kd (nI w) = nI (tch kd (nI w)).toNatClampNeg := by decide +kernel
theorem blw_nb {kd : Nat} {b w : Int32} (hk : kd < 6) (hb : nb b 5) (hw : nb w 5) : nb (blw kd b w) 5 := by
  obtain ⟨i, hi, rfl⟩ := hb
  obtain ⟨j, hj, rfl⟩ := hw
  exact ⟨_, (blwT kd hk i hi j hj).1, (blwT kd hk i hi j hj).2⟩
theorem tch_nb {kd : Nat} {w : Int32} (hk : kd < 6) (hw : nb w 5) : nb (tch kd w) 5 := by
  obtain ⟨j, hj, rfl⟩ := hw
  exact ⟨_, (tchT kd hk j hj).1, (tchT kd hk j hj).2⟩
theorem mvw_ok {W : Int32} {kd : Nat} {mo n c w : Int32} (hk : kd < 6) (hc : nb c 30) (hw : nb w 5) : okq (mvw W kd mo n c w) := by
  unfold mvw
  by_cases h1 : w = 4 ∨ ¬ mvs kd n mo
  · rw [if_pos h1]; exact ⟨hc, hw⟩
  rw [if_neg h1]
  by_cases h2 : geo c w = -1 ∨ hasb W (geo c w)
  · rw [if_pos h2]; exact ⟨hc, tch_nb hk hw⟩
  rw [if_neg h2]
  exact ⟨(geo_cs hc hw).resolve_left (fun q => h2 (Or.inl q)), hw⟩
/-- the step of a thing t of kind kd, more mo, by a text of codes r, starts st -/
def GS (W F N : Int32) (kd : Nat) (t mo : Int32) (r st : Nat → Int32) : Int32 → Int32 × Int32 → Int32 × Int32 := stp W N F kd mo (fun c n => sayR r st 0 c n t mo)
theorem GS_ok {W F N : Int32} {kd : Nat} {t mo : Int32} {r st : Nat → Int32} {n : Int32} {q : Int32 × Int32} (hk : kd < 6) (hq : okq q) : okq (GS W F N kd t mo r st n q) := by
  unfold GS stp
  by_cases h1 : hasb N q.1
  · rw [if_pos h1]; exact ⟨hq.1, 4, by decide, rfl⟩
  rw [if_neg h1]
  by_cases h2 : hasb F q.1
  · rw [if_pos h2]; exact mvw_ok hk hq.1 (blw_nb hk sayB_nb hq.2)
  · rw [if_neg h2]; exact mvw_ok hk hq.1 hq.2
def XB (W F N : Int32) (R kd : Nat) (t mo : Int32) (r st : Nat → Int32) (u : Hp) (q : Int32 × Int32) : Prop := u 1 0 = W ∧ u 1 2 = F ∧ u (25 + R) = r ∧ u (31 + R) = st ∧ u 49 1 = nI (19 + R + 1) ∧ u 49 2 = nI (12 + kd + 1) ∧ u 49 3 = N ∧ u 49 4 = t ∧ u 49 5 = mo ∧ u 49 6 = q.1 ∧ u 49 7 = q.2
abbrev PSx (k i : Nat) : Prop := k ≠ 37 ∧ ¬ (k = 49 ∧ (i = 6 ∨ i = 7))
theorem XB_49 {W F N : Int32} {R kd : Nat} {t mo : Int32} {r st : Nat → Int32} {u u' : Hp} {q q' : Int32 × Int32} (h : XB W F N R kd t mo r st u q) (hR : R < 6) (ha : agr PSx u u') (h1 : u' 49 6 = q'.1) (h2 : u' 49 7 = q'.2) : XB W F N R kd t mo r st u' q' := by
  obtain ⟨a1, a2, a3, a4, a5, a6, a7, a8, a9, a10, a11⟩ := h
  refine ⟨?_, ?_, ?_, ?_, ?_, ?_, ?_, ?_, ?_, h1, h2⟩
  · rw [ha 1 0 ⟨by decide, by decide⟩]; exact a1
  · rw [ha 1 2 ⟨by decide, by decide⟩]; exact a2
  · rw [ha.row (fun i => ⟨by omega, by omega⟩)]; exact a3
  · rw [ha.row (fun i => ⟨by omega, by omega⟩)]; exact a4
  · rw [ha 49 1 ⟨by decide, by decide⟩]; exact a5
  · rw [ha 49 2 ⟨by decide, by decide⟩]; exact a6
  · rw [ha 49 3 ⟨by decide, by decide⟩]; exact a7
  · rw [ha 49 4 ⟨by decide, by decide⟩]; exact a8
  · rw [ha 49 5 ⟨by decide, by decide⟩]; exact a9
theorem x_b95 {K : Hp → Prop} {W F N : Int32} {R kd : Nat} {t mo n : Int32} {r st : Nat → Int32} {u : Hp} {q : Int32 × Int32} (hR : R < 6) (hkd : kd < 6) (hmo : nb mo 10) (hq : okq q) (hX : XB W F N R kd t mo r st u q) (hK : ∀ u', agr PSx u u' → XB W F N R kd t mo r st u' (mvw W kd mo n q.1 q.2) → K u') : VX1_pass_b95 K u n := by
  obtain ⟨a1, a2, a3, a4, a5, a6, a7, a8, a9, a10, a11⟩ := id hX
  unfold VX1_pass_b95
  have hz : ¬ nI (12 + kd + 1) = 0 := nI_ne0 (by omega) (by omega)
  have ho : (nI (12 + kd + 1)).toNatClampNeg - 1 = 12 + kd := by rw [nI_clamp (by omega)]; rfl
  have hrf : q = (q.1, q.2) := rfl
  unfold mvw at hK
  rw [a11]
  by_cases h4 : q.2 = 4
  · rw [if_pos h4]
    rw [if_pos (Or.inl h4)] at hK
    exact hK u agr.rf (XB_49 hX hR agr.rf a10 a11)
  rw [if_neg h4, a6, a9]
  refine ⟨hz, fun x18 h18 => ?_⟩
  rw [ho] at h18
  subst h18
  refine ⟨⟨by omega, by omega⟩, ?_⟩
  rw [eP_moves hkd hmo, ite_b2i]
  by_cases hm : mvs kd n mo
  · rw [if_pos hm, a10, a11, eX_beyond hq.1 hq.2, a1, a6, a11]
    rw [if_neg (fun p => p.elim h4 (fun p2 => p2 hm))] at hK
    by_cases hg : geo q.1 q.2 = -1 ∨ hasb W (geo q.1 q.2)
    · rw [if_pos hg] at hK ⊢
      rw [if_neg (by decide)]
      refine ⟨hz, fun x26 h26 => ?_⟩
      rw [ho] at h26
      subst h26
      refine ⟨⟨by omega, by omega⟩, ?_⟩
      rw [eP_touching hkd]
      intro u29 h29
      subst h29
      have hag : agr PSx u (hup u 49 7 (tch kd q.2)) := agr.up agr.rf (fun p => p.2 ⟨rfl, Or.inr rfl⟩)
      exact hK _ hag (XB_49 hX hR hag (by rw [hup_col (by decide)]; exact a10) hup_self)
    · rw [if_neg hg] at hK ⊢
      have hgn : nb (geo q.1 q.2) 30 := (geo_cs hq.1 hq.2).resolve_left (fun p => hg (Or.inl p))
      rw [if_pos (nb_ge hgn (by decide))]
      intro u25 h25
      subst h25
      have hag : agr PSx u (hup u 49 6 (geo q.1 q.2)) := agr.up agr.rf (fun p => p.2 ⟨rfl, Or.inl rfl⟩)
      exact hK _ hag (XB_49 hX hR hag hup_self (by rw [hup_col (by decide)]; exact a11))
  · rw [if_neg hm]
    rw [if_pos (Or.inr hm)] at hK
    exact hK u agr.rf (XB_49 hX hR agr.rf a10 a11)
theorem x_pass {K : Hp → Prop} {W F N : Int32} {R kd : Nat} {t mo n : Int32} {r st : Nat → Int32} {u : Hp} {q : Int32 × Int32} (hR : R < 6) (hkd : kd < 6) (hmo : nb mo 10) (hT : TW r st) (hq : okq q) (hX : XB W F N R kd t mo r st u q) (hK : ∀ u', agr PSx u u' → XB W F N R kd t mo r st u' (GS W F N kd t mo r st n q) → K u') : VX1_pass K u n := by
  obtain ⟨a1, a2, a3, a4, a5, a6, a7, a8, a9, a10, a11⟩ := id hX
  have hz1 : ¬ nI (19 + R + 1) = 0 := nI_ne0 (by omega) (by omega)
  have ho1 : (nI (19 + R + 1)).toNatClampNeg - 1 = 19 + R := by rw [nI_clamp (by omega)]; rfl
  have hz : ¬ nI (12 + kd + 1) = 0 := nI_ne0 (by omega) (by omega)
  have ho : (nI (12 + kd + 1)).toNatClampNeg - 1 = 12 + kd := by rw [nI_clamp (by omega)]; rfl
  unfold VX1_pass
  rw [a5, a6, a7, a10]
  refine ⟨hz1, fun x1 _ => ⟨by omega, hz, fun x2 _ => ⟨by omega, ?_⟩⟩⟩
  rw [eX_has, ite_b2i]
  unfold GS stp at hK
  by_cases hN : hasb N q.1
  · rw [if_pos hN] at hK ⊢
    intro u16 h16
    subst h16
    have hag : agr PSx u (hup u 49 7 4) := agr.up agr.rf (fun p => p.2 ⟨rfl, Or.inr rfl⟩)
    exact hK _ hag (XB_49 hX hR hag (by rw [hup_col (by decide)]; exact a10) hup_self)
  rw [if_neg hN] at hK ⊢
  rw [a2, a10, eX_has, ite_b2i]
  by_cases hF : hasb F q.1
  · rw [if_pos hF] at hK ⊢
    rw [a6, a5]
    refine ⟨hz, fun x9 h9 => ?_⟩
    rw [ho] at h9
    subst h9
    refine ⟨⟨by omega, by omega⟩, hz1, fun x10 h10 => ?_⟩
    rw [ho1] at h10
    subst h10
    refine ⟨⟨by omega, by omega⟩, ?_⟩
    rw [a10, a8, a9]
    refine x_says (p := 0) hR (by decide) (by rw [a3, a4]; exact hT) (fun u2 hu2 => ?_)
    have ag2 : agr PSx u u2 := hu2.sub (fun k i h => h.1)
    rw [a3, a4, eP_blown hkd]
    intro u15 h15
    have hw7 : u2 49 7 = q.2 := by rw [hu2 49 7 (by decide)]; exact a11
    rw [hw7] at h15
    have ag3 : agr PSx u u15 := by rw [h15]; exact agr.up ag2 (fun p => p.2 ⟨rfl, Or.inr rfl⟩)
    refine x_b95 (q := (q.1, blw kd (sayR r st 0 q.1 n t mo) q.2)) hR hkd hmo ⟨hq.1, blw_nb hkd sayB_nb hq.2⟩ (XB_49 hX hR ag3 ?_ ?_) (fun u' ha' hX' => hK u' (ag3.tr ha') hX')
    · rw [h15, hup_col (by decide), hu2 49 6 (by decide)]; exact a10
    · rw [h15]; exact hup_self
  · rw [if_neg hF] at hK ⊢
    exact x_b95 hR hkd hmo hq hX hK
/-! m's step -/
theorem eM_touching {K : Int32 → Hp → Prop} {σ : Hp} {t kd : Nat} {w : Int32} (ht : t < 5) (h : kd < 6) (hk : σ 2 t = nI kd) : VX12_touching K σ (nI t) w = K (tch kd w) σ := by
  unfold VX12_touching
  rw [nI_clamp (by omega), hk, show vp_in (nI t) 5 = True from eq_true (vp_in_nI ht (by decide)), true_and, forall_eq]
  rcases kd6 h with rfl | rfl | rfl | rfl | rfl | rfl
  · rw [if_neg (by decide), if_neg (by decide), if_neg (by decide), if_neg (by decide)]; rfl
  · rw [if_pos (by decide)]; rfl
  · rw [if_neg (by decide), if_neg (by decide), if_pos (by decide)]; rfl
  · rw [if_neg (by decide), if_pos (by decide)]; rfl
  · rw [if_neg (by decide), if_neg (by decide), if_neg (by decide), if_pos (by decide)]; rfl
  · rw [if_neg (by decide), if_neg (by decide), if_neg (by decide), if_neg (by decide)]; rfl
theorem eM_blown {K : Int32 → Hp → Prop} {σ : Hp} {t kd : Nat} {b w : Int32} (ht : t < 5) (h : kd < 6) (hk : σ 2 t = nI kd) : VX12_blown K σ (nI t) b w = K (blw kd b w) σ := by
  unfold VX12_blown VX12_blown_b15 blw
  rw [nI_clamp (by omega), hk, show vp_in (nI t) 5 = True from eq_true (vp_in_nI ht (by decide)), true_and, true_and]
  have n5 : (nI kd = 5) = (kd = 5) := propext (nI_eq (b := 5) (by omega) (by decide))
  have n4 : (nI kd = 4) = (kd = 4) := propext (nI_eq (b := 4) (by omega) (by decide))
  by_cases k5 : kd = 5
  · rw [if_pos (n5 ▸ k5), if_pos k5]
    by_cases w4 : w = 4
    · rw [if_pos w4, if_pos w4]
      by_cases b4 : b = 4
      · rw [if_pos b4, if_pos b4]
      · rw [if_neg b4, if_neg b4, if_neg (by rw [n4]; omega)]
    · rw [if_neg w4, if_neg w4]
  · rw [if_neg (by rw [n5]; exact k5), if_neg k5]
    by_cases b4 : b = 4
    · rw [if_pos b4, if_pos b4, if_pos b4]
      by_cases k4 : kd = 4
      · rw [if_pos k4]
      · rw [if_neg k4]
    · rw [if_neg b4, if_neg b4, if_neg b4]
      by_cases k4 : kd = 4
      · rw [if_pos (n4 ▸ k4), if_pos k4]
      · rw [if_neg (by rw [n4]; exact k4), if_neg k4]
def MB (W F N : Int32) (R kd t : Nat) (mo : Int32) (r st : Nat → Int32) (u : Hp) (q : Int32 × Int32) : Prop := u 1 0 = W ∧ u 1 2 = F ∧ u 1 1 = N ∧ u 0 12 = nI R ∧ u 2 t = nI kd ∧ u 3 t = mo ∧ (∀ p, p ≤ 3 → u 8 (4 * R + p) = st p) ∧ (∀ k, k < (st 3).toNatClampNeg → u 7 (200 * R + k) = mcd (r k)) ∧ u 0 32 = q.1 ∧ u 0 33 = q.2
abbrev PSm (k i : Nat) : Prop := k ≠ 16 ∧ k ≠ 17 ∧ ¬ (k = 0 ∧ (i = 32 ∨ i = 33))
theorem MB_ag {W F N : Int32} {R kd t : Nat} {mo : Int32} {r st : Nat → Int32} {u u' : Hp} {q q' : Int32 × Int32} (h : MB W F N R kd t mo r st u q) (ha : agr PSm u u') (h1 : u' 0 32 = q'.1) (h2 : u' 0 33 = q'.2) : MB W F N R kd t mo r st u' q' := by
  obtain ⟨a1, a2, a3, a4, a5, a6, a7, a8, a9, a10⟩ := h
  have n : ∀ k i, 1 ≤ k → k ≤ 8 → u' k i = u k i := fun k i h1 h2 => ha k i ⟨by omega, by omega, by omega⟩
  refine ⟨?_, ?_, ?_, ?_, ?_, ?_, fun p hp => ?_, fun k hk => ?_, h1, h2⟩
  · rw [n 1 0 (by decide) (by decide)]; exact a1
  · rw [n 1 2 (by decide) (by decide)]; exact a2
  · rw [n 1 1 (by decide) (by decide)]; exact a3
  · rw [ha 0 12 ⟨by decide, by decide, by decide⟩]; exact a4
  · rw [n 2 t (by decide) (by decide)]; exact a5
  · rw [n 3 t (by decide) (by decide)]; exact a6
  · rw [n 8 _ (by decide) (by decide)]; exact a7 p hp
  · rw [n 7 _ (by decide) (by decide)]; exact a8 k hk
theorem m_b98 {K : Hp → Prop} {W F N : Int32} {R kd t : Nat} {mo : Int32} {r st : Nat → Int32} {u : Hp} {q : Int32 × Int32} (ht : t < 5) (hkd : kd < 6) (hq : okq q) (hX : MB W F N R kd t mo r st u q) (hK : ∀ u', agr PSm u u' → MB W F N R kd t mo r st u' (if geo q.1 q.2 = -1 ∨ hasb W (geo q.1 q.2) then (q.1, tch kd q.2) else (geo q.1 q.2, q.2)) → K u') : VX12_steps_b98 K u (nI t) 1 := by
  obtain ⟨a1, a2, a3, a4, a5, a6, a7, a8, a9, a10⟩ := id hX
  unfold VX12_steps_b98 VX12_steps_b132
  rw [if_neg (by decide), a9, a10, eM_beside, a10]
  have tt : (geo q.1 q.2 = -1 ∨ hasb W (geo q.1 q.2)) → VX12_touching (fun v24 u25 => ∀ u26 : Hp, u26 = hup u25 0 33 v24 → K u26) u (nI t) q.2 := fun hg => by
    rw [if_pos hg] at hK
    rw [eM_touching ht hkd a5, forall_eq]
    have hag : agr PSm u (hup u 0 33 (tch kd q.2)) := agr.up agr.rf (fun p => p.2.2 ⟨rfl, Or.inr rfl⟩)
    exact hK _ hag (MB_ag hX hag (by rw [hup_col (by decide)]; exact a9) hup_self)
  by_cases h1 : geo q.1 q.2 = -1
  · rw [if_pos h1]; exact tt (Or.inl h1)
  · rw [if_neg h1, eM_has0, a1, ite_b2i]
    by_cases h2 : hasb W (geo q.1 q.2)
    · rw [if_pos h2, a10]; exact tt (Or.inr h2)
    · rw [if_neg h2, forall_eq]
      rw [if_neg (fun p => p.elim h1 h2)] at hK
      have hag : agr PSm u (hup u 0 32 (geo q.1 q.2)) := agr.up agr.rf (fun p => p.2.2 ⟨rfl, Or.inl rfl⟩)
      exact hK _ hag (MB_ag hX hag hup_self (by rw [hup_col (by decide)]; exact a10))
theorem m_b60 {K : Hp → Prop} {W F N : Int32} {R kd t : Nat} {mo n : Int32} {r st : Nat → Int32} {u : Hp} {q : Int32 × Int32} (ht : t < 5) (hkd : kd < 6) (hmo : nb mo 10) (hq : okq q) (hX : MB W F N R kd t mo r st u q) (hK : ∀ u', agr PSm u u' → MB W F N R kd t mo r st u' (mvw W kd mo n q.1 q.2) → K u') : VX12_steps_b60 K u (nI t) n := by
  obtain ⟨a1, a2, a3, a4, a5, a6, a7, a8, a9, a10⟩ := id hX
  have stay : (mvw W kd mo n q.1 q.2 = (q.1, q.2)) → VX12_steps_b98 K u (nI t) 0 := fun h => by
    unfold VX12_steps_b98
    rw [if_pos rfl]
    rw [h] at hK
    exact hK u agr.rf hX
  have hv : vp_in (nI t) 5 := vp_in_nI ht (by decide)
  have h3 : (nI kd = 3) = (kd = 3) := propext (nI_eq (b := 3) (by omega) (by decide))
  unfold VX12_steps_b60
  rw [a10, nI_clamp (by omega), a5, a6]
  by_cases h4 : q.2 = 4
  · rw [if_pos h4]; exact stay (by unfold mvw; rw [if_pos (Or.inl h4)])
  rw [if_neg h4]
  refine ⟨hv, ?_⟩
  have goes : mvs kd n mo → VX12_steps_b98 K u (nI t) 1 := fun hm => by
    unfold mvw at hK
    rw [if_neg (fun p => p.elim h4 (fun p2 => p2 hm))] at hK
    exact m_b98 ht hkd hq hX hK
  by_cases k3 : kd = 3
  · rw [if_pos (h3 ▸ k3)]
    obtain ⟨m, hm, rfl⟩ := hmo
    refine ⟨hv, (mo3 m hm).2, ?_⟩
    by_cases hj : jrem n (jrem (nI m) 3 + 1) = 0
    · rw [if_pos hj]; exact goes (fun _ => hj)
    · rw [if_neg hj]; exact stay (by unfold mvw; rw [if_pos (Or.inr (fun p => hj (p k3)))])
  · rw [if_neg (by rw [h3]; exact k3)]; exact goes (fun p => absurd p k3)
theorem m_steps {K : Hp → Prop} {W F N : Int32} {R kd t : Nat} {mo n : Int32} {r st : Nat → Int32} {u : Hp} {q : Int32 × Int32} (hR : R < 6) (ht : t < 5) (hkd : kd < 6) (hmo : nb mo 10) (hT : TW r st) (hq : okq q) (hX : MB W F N R kd t mo r st u q) (hK : ∀ u', agr PSm u u' → MB W F N R kd t mo r st u' (GS W F N kd (nI t) mo r st n q) → K u') : VX12_steps K u (nI t) n := by
  obtain ⟨a1, a2, a3, a4, a5, a6, a7, a8, a9, a10⟩ := id hX
  unfold VX12_steps
  rw [a9, eM_has1, a3, ite_b2i]
  unfold GS stp at hK
  by_cases hN : hasb N q.1
  · rw [if_pos hN] at hK ⊢
    rw [forall_eq]
    have hag : agr PSm u (hup u 0 33 4) := agr.up agr.rf (fun p => p.2.2 ⟨rfl, Or.inr rfl⟩)
    exact hK _ hag (MB_ag hX hag (by rw [hup_col (by decide)]; exact a9) hup_self)
  rw [if_neg hN] at hK ⊢
  rw [a9, eM_has2, a2, ite_b2i]
  by_cases hF : hasb F q.1
  · rw [if_pos hF] at hK ⊢
    refine ⟨vp_in_nI ht (by decide), ?_⟩
    rw [a9, nI_clamp (by omega), a6]
    refine m_asksOf (p := 0) (r := r) (st := st) hR (by decide) a4 hT a7 a8 (fun u2 hu2 => ?_)
    have ag2 : agr PSm u u2 := hu2.sub (fun k i h => ⟨h.1, h.2.1⟩)
    have hk2 : u2 2 t = nI kd := by rw [hu2 2 t ⟨by decide, by decide⟩]; exact a5
    rw [eM_blown ht hkd hk2, hu2 0 33 ⟨by decide, by decide⟩, a10, forall_eq]
    have ag3 : agr PSm u (hup u2 0 33 (blw kd (sayR r st 0 q.1 n (nI t) mo) q.2)) := agr.up ag2 (fun p => p.2.2 ⟨rfl, Or.inr rfl⟩)
    refine m_b60 (q := (q.1, blw kd (sayR r st 0 q.1 n (nI t) mo) q.2)) ht hkd hmo ⟨hq.1, blw_nb hkd sayB_nb hq.2⟩ (MB_ag hX ag3 ?_ hup_self) (fun u' ha' hX' => hK u' (ag3.tr ha') hX')
    rw [hup_col (by decide), hu2 0 32 ⟨by decide, by decide⟩]; exact a9
  · rw [if_neg hF] at hK ⊢
    exact m_b60 ht hkd hmo hq hX hK
