/-! ===== bits; house, image, back ===== -/
def bt (b : Int32) (j : Nat) : Bool := b.toBitVec.getLsbD j
theorem bt_ext {a b : Int32} (h : ∀ j, j < 32 → bt a j = bt b j) : a = b := Int32.toBitVec_inj.mp (BitVec.eq_of_getLsbD_eq h)
theorem bt_or {a b : Int32} {j : Nat} : bt (a ||| b) j = (bt a j || bt b j) := by unfold bt; simp
theorem bt_and {a b : Int32} {j : Nat} : bt (a &&& b) j = (bt a j && bt b j) := by unfold bt; simp
theorem bt_xor {a b : Int32} {j : Nat} : bt (a ^^^ b) j = (bt a j ^^ bt b j) := by unfold bt; simp
theorem bt_m1 {j : Nat} (h : j < 32) : bt (-1) j = true := by
  unfold bt
  rw [show (-1 : Int32).toBitVec = BitVec.allOnes 32 by decide, BitVec.getLsbD_allOnes]
  exact decide_eq_true h
theorem bt_1T : ∀ i, i < 32 → ((1 : Int32) <<< (nI i &&& 31)).toBitVec = BitVec.twoPow 32 i := by decide +kernel
theorem bt_1 {i j : Nat} (h : i < 32) : bt ((1 : Int32) <<< (nI i &&& 31)) j = decide (i = j) := by
  unfold bt
  rw [bt_1T i h, BitVec.getLsbD_twoPow]
  simp [h]
theorem bt_one {j : Nat} : bt 1 j = decide (0 = j) := by
  have := bt_1 (i := 0) (j := j) (by decide)
  rw [show ((1 : Int32) <<< (nI 0 &&& 31)) = 1 by decide] at this
  exact this
theorem sh_T : ∀ i, i < 32 → ((nI i &&& 31).toBitVec.smod 32).toNat = i := by decide +kernel
theorem hasb_bt {b : Int32} {i : Nat} (h : i < 32) : hasb b (nI i) ↔ bt b i = true := by
  have hs : bt (b >>> (nI i &&& 31)) 0 = bt b i := by
    unfold bt
    rw [Int32.toBitVec_shiftRight, BitVec.getLsbD_sshiftRight', sh_T i h]
    simp [h]
  rw [← hs]
  constructor
  · intro hh
    have := congrArg (fun x => bt x 0) (show ((b >>> (nI i &&& 31)) &&& 1) = 1 from hh)
    simp only [bt_and, bt_one] at this
    simpa using this
  · intro hh
    refine bt_ext (fun j hj => ?_)
    rw [bt_and, bt_one]
    by_cases h0 : 0 = j
    · rw [← h0, hh]; rfl
    · rw [decide_eq_false h0, Bool.and_false]
theorem bt_set {b : Int32} {i : Nat} (h : i < 32) (hb : hasb b (nI i)) : b ||| (1 <<< (nI i &&& 31)) = b := bt_ext fun j hj => by
  rw [bt_or, bt_1 h]
  by_cases hij : i = j
  · rw [← hij, (hasb_bt h).mp hb]; rfl
  · rw [decide_eq_false hij, Bool.or_false]
theorem bt_flS {b : Int32} {i : Nat} (h : i < 32) (hb : ¬ hasb b (nI i)) : b ^^^ (1 <<< (nI i &&& 31)) = b ||| (1 <<< (nI i &&& 31)) := bt_ext fun j hj => by
  rw [bt_or, bt_xor, bt_1 h]
  by_cases hij : i = j
  · have : bt b i = false := by rw [← Bool.not_eq_true]; exact fun q => hb ((hasb_bt h).mpr q)
    rw [← hij, this]; simp
  · rw [decide_eq_false hij, Bool.or_false, Bool.xor_false]
theorem bt_flC {b : Int32} {i : Nat} (h : i < 32) (hb : hasb b (nI i)) : b ^^^ (1 <<< (nI i &&& 31)) = b &&& ((1 <<< (nI i &&& 31)) ^^^ (-1)) := bt_ext fun j hj => by
  rw [bt_and, bt_xor, bt_xor, bt_1 h, bt_m1 hj]
  by_cases hij : i = j
  · rw [← hij, (hasb_bt h).mp hb]; simp
  · rw [decide_eq_false hij]; simp
theorem bt_clr {b : Int32} {i : Nat} (h : i < 32) (hb : ¬ hasb b (nI i)) : b &&& ((1 <<< (nI i &&& 31)) ^^^ (-1)) = b := bt_ext fun j hj => by
  rw [bt_and, bt_xor, bt_1 h, bt_m1 hj]
  by_cases hij : i = j
  · have : bt b i = false := by rw [← Bool.not_eq_true]; exact fun q => hb ((hasb_bt h).mpr q)
    rw [← hij, this]; simp
  · rw [decide_eq_false hij]; simp
theorem bt_orC {b : Int32} {i : Nat} (h : i < 32) (hb : ¬ hasb b (nI i)) : (b ||| (1 <<< (nI i &&& 31))) &&& ((1 <<< (nI i &&& 31)) ^^^ (-1)) = b := bt_ext fun j hj => by
  rw [bt_and, bt_xor, bt_or, bt_1 h, bt_m1 hj]
  by_cases hij : i = j
  · have : bt b i = false := by rw [← Bool.not_eq_true]; exact fun q => hb ((hasb_bt h).mpr q)
    rw [← hij, this]; simp
  · rw [decide_eq_false hij]; simp
/-! is any thing in a cell -/
theorem x_any {K : Int32 → Hp → Prop} {σ : Hp} {T : Nat} {c : Int32} (hT5 : T ≤ 5) (hTT : σ 1 5 = nI T) (h1 : (∃ t, t < T ∧ σ 5 t = c) → K 1 σ) (h0 : (¬ ∃ t, t < T ∧ σ 5 t = c) → K 0 σ) : VX11_isAnyThingIn K σ c := by
  refine lpN (S := Unit) (fun n _ i => VX11_isAnyThingIn_L2 K n σ c (nI i)) (fun i _ => ∀ t, t < i → ¬ σ 5 t = c) T (fun n s h => ?_) (fun n i s hi h go => ?_) () (fun j hj => absurd hj (Nat.not_lt_zero j))
  · show VX11_isAnyThingIn_L2 K (n + 1) σ c (nI T)
    rw [VX11_isAnyThingIn_L2, hTT, if_pos (nI_le (Nat.le_refl _) (by omega))]
    exact h0 (fun ⟨t, ht, e⟩ => h t ht e)
  · show VX11_isAnyThingIn_L2 K (n + 1) σ c (nI i)
    rw [VX11_isAnyThingIn_L2, hTT, if_neg (nI_ge hi (by omega)), nI_clamp (by omega)]
    refine ⟨vp_in_nI (by omega) (by decide), ?_⟩
    by_cases hc : σ 5 i = c
    · rw [if_pos hc]; exact h1 ⟨i, hi, hc⟩
    · rw [if_neg hc]
      intro x3 e3
      rw [e3, nI_1]
      refine go () (fun j hj => ?_)
      by_cases hji : j = i
      · rw [hji]; exact hc
      · exact h j (by omega)
theorem m_any {K : Int32 → Hp → Prop} {τ : Hp} {T : Nat} {c : Int32} (hT5 : T ≤ 5) (hTT : τ 0 2 = nI T) (h1 : (∃ t, t < T ∧ τ 4 t = c) → K 1 τ) (h0 : (¬ ∃ t, t < T ∧ τ 4 t = c) → K 0 τ) : VX12_isThere K τ c := by
  refine lpN (S := Unit) (fun n _ i => VX12_isThere_L2 K n τ c (nI i)) (fun i _ => ∀ t, t < i → ¬ τ 4 t = c) T (fun n s h => ?_) (fun n i s hi h go => ?_) () (fun j hj => absurd hj (Nat.not_lt_zero j))
  · show VX12_isThere_L2 K (n + 1) τ c (nI T)
    rw [VX12_isThere_L2, hTT, if_pos (nI_le (Nat.le_refl _) (by omega))]
    exact h0 (fun ⟨t, ht, e⟩ => h t ht e)
  · show VX12_isThere_L2 K (n + 1) τ c (nI i)
    rw [VX12_isThere_L2, hTT, if_neg (nI_ge hi (by omega)), nI_clamp (by omega)]
    refine ⟨vp_in_nI (by omega) (by decide), ?_⟩
    by_cases hc : τ 4 i = c
    · rw [if_pos hc]; exact h1 ⟨i, hi, hc⟩
    · rw [if_neg hc]
      intro x3 e3
      rw [e3, nI_1]
      refine go () (fun j hj => ?_)
      by_cases hji : j = i
      · rw [hji]; exact hc
      · exact h j (by omega)
/-- a set of cells becomes another, on both sides -/
theorem Inv.sets {σ τ : Hp} {w : Nat} {b : Int32} (hI : Inv σ τ) (hw : w < 3) : Inv (hup σ 1 w b) (hup τ 1 w b) := by
  obtain ⟨T, X, L, Z, ⟨h1, h2, h3, h4, h5, h6, h7, h8, h9, h10, h11⟩, hT, hP, hC, hS, hJ, hW⟩ := hI
  have ax : agr (fun k i => ¬ (k = 1 ∧ i = w)) σ (hup σ 1 w b) := agr.up agr.rf (by omega)
  have am : agr (fun k i => ¬ (k = 1 ∧ i = w)) τ (hup τ 1 w b) := agr.up agr.rf (by omega)
  refine ⟨T, X, L, Z, ⟨?_, ?_, ?_, ?_, ?_, ?_, ?_, h8, h9, ?_, ?_⟩, hT.ag (ax.sub fun k i h => by omega) (am.sub fun k i h => by omega), hP.ag (ax.sub fun k i h => by omega) (am.sub fun k i h => by omega), hC.ag h9 (ax.sub fun k i h => by omega) (am.sub fun k i h => by omega), hS.ag (ax.sub fun k i h => by omega) (am.sub fun k i h => by omega), hJ.ag (ax.sub fun k i h => by omega) (am.sub fun k i h => by omega), hW.ag (ax.sub fun k i h => by omega) (am.sub fun k i h => by omega)⟩
  · simp only [hup_ap, if_true]
    split
    · rfl
    · exact h1
  · simp only [hup_ap, if_true]
    split
    · rfl
    · exact h2
  · simp only [hup_ap, if_true]
    split
    · rfl
    · exact h3
  · rw [ax 1 3 (by omega), am 0 1 (by omega)]; exact h4
  · rw [ax 1 3 (by omega)]; exact h5
  · rw [ax 1 4 (by omega)]; exact h6
  · rw [am 0 12 (by omega)]; exact h7
  · rw [ax 0 5 (by omega)]; exact h10
  · rw [am 0 11 (by omega)]; exact h11
theorem hup_id {σ : Hp} {k i : Nat} : hup σ k i (σ k i) = σ := by
  funext k' i'
  rw [hup_ap]
  by_cases h : k' = k
  · rw [if_pos h]
    by_cases h2 : i' = i
    · rw [if_pos h2, h, h2]
    · rw [if_neg h2, h]
  · rw [if_neg h]
theorem f_house : ∀ σ τ, Inv σ τ → ∀ (a1 a2 a3 : Int32), VX11_house (fun v u => VX12_house (fun v' u' => v = v' ∧ Inv u u') τ a1 a2 a3) σ a1 a2 a3 := by
  intro σ τ hI a1 a2 a3
  obtain ⟨T, X, L, Z, hA, hT, hP, hC, hS, hJ, hW⟩ := id hI
  obtain ⟨q1, q2, q3, q4, q5, q6, q7, q8⟩ := hI.eqs
  have hT5 := hT.1
  have mNone : ∀ (v : Int32), v = -1 → ¬ rg a1 0 2 → VX12_house (fun v' u' => v = v' ∧ Inv σ u') τ a1 a2 a3 := fun v hv hn => by
    unfold VX12_house
    rw [eM_in, ite_b2i, if_neg hn]
    exact ⟨hv, hI⟩
  have mBad : ∀ (v : Int32), v = -2 → rg a1 0 2 → ¬ (rg a2 0 29 ∧ rg a3 0 1) → VX12_house (fun v' u' => v = v' ∧ Inv σ u') τ a1 a2 a3 := fun v hv hp hn => by
    unfold VX12_house
    rw [eM_in, ite_b2i, if_pos hp, eM_isCell, ite_b2i]
    by_cases g2 : rg a2 0 29
    · rw [if_pos g2, eM_in, ite_b2i, if_neg (fun q => hn ⟨g2, q⟩)]; exact ⟨hv, hI⟩
    · rw [if_neg g2]; exact ⟨hv, hI⟩
  unfold VX11_house
  by_cases n1 : a1 < 0
  · rw [if_pos n1]
    exact mNone _ rfl (fun q => absurd q.1 (Int32.not_le.mpr n1))
  rw [if_neg n1]
  by_cases n2 : a1 ≤ 2
  rotate_left
  · rw [if_neg n2]
    exact mNone _ rfl (fun q => n2 q.2)
  rw [if_pos n2, eX_isCell, ite_b2i]
  have g1 : rg a1 0 2 := ⟨Int32.not_lt.mp n1, n2⟩
  by_cases g2 : rg a2 0 29
  rotate_left
  · rw [if_neg g2]
    exact mBad _ rfl g1 (fun q => g2 q.1)
  rw [if_pos g2]
  by_cases n3 : a3 < 0
  · rw [if_pos n3]
    exact mBad _ rfl g1 (fun q => absurd q.2.1 (Int32.not_le.mpr n3))
  rw [if_neg n3]
  by_cases n4 : a3 ≤ 1
  rotate_left
  · rw [if_neg n4]
    exact mBad _ rfl g1 (fun q => n4 q.2.2)
  rw [if_pos n4]
  have g3 : rg a3 0 1 := ⟨Int32.not_lt.mp n3, n4⟩
  obtain ⟨c, hc, rfl⟩ := rg_nI (N := 29) (by decide) g2
  obtain ⟨w, hw, rfl⟩ := rg02.mp g1
  have h3 : a3 = 0 ∨ a3 = 1 := ch01.mpr g3
  have hsame : ∀ w', w' < 3 → τ 1 w' = σ 1 w' := fun w' hw' => by
    rcases (show w' = 0 ∨ w' = 1 ∨ w' = 2 by omega) with rfl | rfl | rfl
    · exact q1
    · exact q2
    · exact q3
  have eHas : ∀ (K : Int32 → Hp → Prop), VX12_has K τ (nI w) (nI c) = K (b2i (hasb (σ 1 w) (nI c))) τ := fun K => by
    rcases (show w = 0 ∨ w = 1 ∨ w = 2 by omega) with rfl | rfl | rfl
    · exact (eM_has0 (K := K)).trans (by rw [q1])
    · exact (eM_has1 (K := K)).trans (by rw [q2])
    · exact (eM_has2 (K := K)).trans (by rw [q3])
  -- m's last part
  have m50 : ∀ (v : Int32) (u : Hp), v = b2i (hasb (σ 1 w) (nI c)) → u = hup σ 1 w (if a3 = 1 then σ 1 w ||| (1 <<< (nI c &&& 31)) else σ 1 w &&& ((1 <<< (nI c &&& 31)) ^^^ (-1))) → VX12_house_b50 (fun v' u' => v = v' ∧ Inv u u') τ (nI w) (nI c) a3 := by
    intro v u hv hu
    unfold VX12_house_b50
    rw [eHas, ite_b2i]
    have key : ∀ s0, v = s0 → VX12_house_b64 (fun v' u' => v = v' ∧ Inv u u') τ (nI w) (nI c) a3 s0 := by
      intro s0 hs0
      have hv3 : vp_in (nI w) 3 := vp_in_nI hw (by decide)
      unfold VX12_house_b64
      rw [nI_clamp (by omega), hsame w hw]
      by_cases h1 : a3 = 1
      · rw [if_pos h1] at hu ⊢
        refine ⟨hv3, hv3, fun u20 e20 => ?_⟩
        rw [e20, hu]
        exact ⟨hs0, hI.sets hw⟩
      · rw [if_neg h1] at hu ⊢
        refine ⟨hv3, hv3, fun u20 e20 => ?_⟩
        rw [e20, hu]
        exact ⟨hs0, hI.sets hw⟩
    by_cases hb : hasb (σ 1 w) (nI c)
    · rw [if_pos hb]; rw [b2i_t hb] at hv; exact key 1 hv
    · rw [if_neg hb]; rw [b2i_f hb] at hv; exact key 0 hv
  have m50' : ∀ (v : Int32) (u : Hp), v = b2i (hasb (σ 1 w) (nI c)) → u = hup σ 1 w (if a3 = 1 then σ 1 w ||| (1 <<< (nI c &&& 31)) else σ 1 w &&& ((1 <<< (nI c &&& 31)) ^^^ (-1))) → (nI w = 0 → a3 = 1 → ¬ ∃ t, t < T ∧ σ 5 t = nI c) → VX12_house (fun v' u' => v = v' ∧ Inv u u') τ (nI w) (nI c) a3 := by
    intro v u hv hu hno
    have hm := m50 v u hv hu
    unfold VX12_house
    rw [eM_in, ite_b2i, if_pos g1, eM_isCell, ite_b2i, if_pos g2, eM_in, ite_b2i, if_pos g3]
    by_cases z0 : nI w = 0
    · rw [if_pos z0]
      by_cases z1 : a3 = 1
      · rw [if_pos z1]
        refine m_any hT5 hT.2.2.1 (fun ⟨t, ht, e⟩ => absurd ⟨t, ht, by rw [← (hT.2.2.2 t ht).2.2.2.2.2.2.1]; exact e⟩ (hno z0 z1)) (fun _ => ?_)
        rw [if_pos rfl]
        exact hm
      · rw [if_neg z1]; exact hm
    · rw [if_neg z0]; exact hm
  have x50 : (nI w = 0 → a3 = 1 → ¬ ∃ t, t < T ∧ σ 5 t = nI c) → VX11_house_b50 (fun v u => VX12_house (fun v' u' => v = v' ∧ Inv u u') τ (nI w) (nI c) a3) σ (nI w) (nI c) a3 := by
    intro hno
    have eb : ∀ (K : Int32 → Hp → Prop), VX3_bits K σ 1 (nI w) = K (σ 1 w) σ := fun K => by
      unfold VX3_bits
      rw [show (1 ≤ 1 ∧ 1 < 3) = True from eq_true ⟨by decide, by decide⟩, true_and]
      rcases (show w = 0 ∨ w = 1 ∨ w = 2 by omega) with rfl | rfl | rfl
      · rw [if_pos (show nI 0 = 0 from rfl)]
      · rw [if_neg (show ¬ nI 1 = 0 by decide), if_pos (show nI 1 = 1 from rfl)]
      · rw [if_neg (show ¬ nI 2 = 0 by decide), if_neg (show ¬ nI 2 = 1 by decide)]
    have ef : ∀ (K : Hp → Prop), K (hup σ 1 w (σ 1 w ^^^ (1 <<< (nI c &&& 31)))) → VX3_flip K σ 1 (nI w) (nI c) := fun K hK => by
      unfold VX3_flip
      refine ⟨⟨by decide, by decide⟩, ?_⟩
      rcases (show w = 0 ∨ w = 1 ∨ w = 2 by omega) with rfl | rfl | rfl
      · rw [if_pos (show nI 0 = 0 from rfl)]; intro u5 e5; rw [e5]; exact hK
      · rw [if_neg (show ¬ nI 1 = 0 by decide), if_pos (show nI 1 = 1 from rfl)]; intro u5 e5; rw [e5]; exact hK
      · rw [if_neg (show ¬ nI 2 = 0 by decide), if_neg (show ¬ nI 2 = 1 by decide)]; intro u5 e5; rw [e5]; exact hK
    unfold VX11_house_b50 VX11_house_b70
    rw [eb, eX_has, ite_b2i]
    by_cases hb : hasb (σ 1 w) (nI c)
    · rw [if_pos hb]
      by_cases z1 : (1 : Int32) = a3
      · rw [if_pos z1]
        exact m50' _ _ (b2i_t hb).symm (by rw [if_pos z1.symm, bt_set (by omega) hb, hup_id]) hno
      · rw [if_neg z1]
        refine ef _ (m50' _ _ (b2i_t hb).symm ?_ hno)
        rw [if_neg (fun q => z1 q.symm), bt_flC (by omega) hb]
    · rw [if_neg hb]
      by_cases z1 : (0 : Int32) = a3
      · rw [if_pos z1]
        exact m50' _ _ (b2i_f hb).symm (by rw [if_neg (by rw [← z1]; decide), bt_clr (by omega) hb, hup_id]) hno
      · rw [if_neg z1]
        have z2 : a3 = 1 := h3.resolve_left (fun q => z1 q.symm)
        refine ef _ (m50' _ _ (b2i_f hb).symm ?_ hno)
        rw [if_pos z2, bt_flS (by omega) hb]
  by_cases z0 : nI w = 0
  · rw [if_pos z0]
    by_cases z1 : a3 = 1
    · rw [if_pos z1]
      refine x_any hT5 hT.2.1 (fun hex => ?_) (fun hno => ?_)
      · rw [if_neg (by decide)]
        try dsimp only
        unfold VX12_house
        rw [eM_in, ite_b2i, if_pos g1, eM_isCell, ite_b2i, if_pos g2, eM_in, ite_b2i, if_pos g3, if_pos z0, if_pos z1]
        refine m_any hT5 hT.2.2.1 (fun _ => ?_) (fun hno => ?_)
        · rw [if_neg (by decide)]; exact ⟨rfl, hI⟩
        · obtain ⟨t, ht, e⟩ := hex
          exact absurd ⟨t, ht, by rw [(hT.2.2.2 t ht).2.2.2.2.2.2.1]; exact e⟩ hno
      · rw [if_pos rfl]; exact x50 (fun _ _ => hno)
    · rw [if_neg z1]; exact x50 (fun _ q => absurd q z1)
  · rw [if_neg z0]; exact x50 (fun q _ => absurd q z0)
