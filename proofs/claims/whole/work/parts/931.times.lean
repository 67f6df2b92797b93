/-! ===== times ===== -/
def bl (b : Int64) (j : Nat) : Bool := b.toBitVec.getLsbD j
theorem bl_ext {a b : Int64} (h : ∀ j, j < 64 → bl a j = bl b j) : a = b := Int64.toBitVec_inj.mp (BitVec.eq_of_getLsbD_eq h)
theorem bl_or {a b : Int64} {j : Nat} : bl (a ||| b) j = (bl a j || bl b j) := by unfold bl; simp
theorem bl_and {a b : Int64} {j : Nat} : bl (a &&& b) j = (bl a j && bl b j) := by unfold bl; simp
theorem bl_xor {a b : Int64} {j : Nat} : bl (a ^^^ b) j = (bl a j ^^ bl b j) := by unfold bl; simp
theorem bl_m1 {j : Nat} (h : j < 64) : bl (-1) j = true := by
  unfold bl
  rw [show (-1 : Int64).toBitVec = BitVec.allOnes 64 by decide, BitVec.getLsbD_allOnes]
  exact decide_eq_true h
theorem bl_1T : ∀ i, i < 41 → ((1 : Int64) <<< ((nI i).toInt64 &&& 63)).toBitVec = BitVec.twoPow 64 i := by decide +kernel
theorem bl_1 {i j : Nat} (h : i < 41) : bl ((1 : Int64) <<< ((nI i).toInt64 &&& 63)) j = decide (i = j) := by
  unfold bl
  rw [bl_1T i h, BitVec.getLsbD_twoPow]
  simp
  omega
theorem bl_all : ∀ j, j < 64 → bl 2199023255551 j = decide (j < 41) := by decide +kernel
theorem bl_0 {j : Nat} : bl 0 j = false := by unfold bl; simp
/-- things t below T told right, behind k steps -/
def tiP (σ : Hp) (L s T k : Nat) : Bool := decide (feV σ L k s T = -1)
theorem tiP_iff {σ : Hp} {L s T k : Nat} (hT : T < 1000) : tiP σ L s T k = true ↔ ∀ t, t < T → (EQ σ (σ 1 1) L t k).1 = σ (45 + s) t := by
  unfold tiP feV
  rw [decide_eq_true_iff, fiL_m1 hT]
  constructor
  · intro h t ht
    have := h t ht
    unfold feP at this
    exact Decidable.of_not_not (of_decide_eq_false this)
  · intro h t ht
    exact decide_eq_false (fun q => q (h t ht))
theorem f_times : ∀ σ τ, Inv σ τ → ∀ (a1 : Int32), VX11_times (fun v u => VX12_times (fun v' u' => v = v' ∧ Inv u u') τ a1) σ a1 := by
  intro σ τ hI a1
  obtain ⟨T, X, L, Z, hA, hT, hP, hC, hS, hJ, hW⟩ := id hI
  have hT5 := hT.1
  have hX6 := hA.L
  unfold VX11_times
  refine x_ref ?_
  by_cases h : rfV σ a1 = 0
  rotate_left
  · rw [if_neg h]
    try dsimp only
    unfold VX12_times
    refine m_ref hT hS ?_
    rw [if_neg h]
    exact ⟨rfl, hI⟩
  rw [if_pos h]
  obtain ⟨s, hs, rfl⟩ := rf_s h
  have fin : ∀ (v : Int64) (u : Hp), (∀ j, j < 64 → bl v j = (decide (j < 41) && tiP σ L s T j)) → agr NSx σ u → VX12_times (fun v' u' => v = v' ∧ Inv u u') τ (nI s) := by
    intro v u hv au
    unfold VX12_times
    refine m_ref hT hS ?_
    rw [if_pos h]
    generalize hKe : (fun (v' : Int64) (u' : Hp) => v = v' ∧ Inv u u') = K
    refine lpN (S := Hp × Int64) (fun m q i => VX12_times_L17 K m q.1 (nI s) q.2 (nI i)) (fun i q => agr PSm τ q.1 ∧ ∀ j, j < 64 → bl q.2 j = (decide (j < i) && tiP σ L s T j)) 41 (fun m q hh => ?_) (fun m i q hi hh go => ?_) (τ, 0) ⟨agr.rf, fun j hj => by rw [decide_eq_false (Nat.not_lt_zero j), Bool.false_and]; exact bl_0⟩
    · show VX12_times_L17 K (m + 1) q.1 (nI s) q.2 (nI 41)
      rw [VX12_times_L17, if_pos (show (40 : Int32) < nI 41 by decide)]
      subst hKe
      exact ⟨bl_ext (fun j hj => by rw [hv j hj, hh.2 j hj]), hI.ag au (hh.1.sub fun k i h => by omega)⟩
    · show VX12_times_L17 K (m + 1) q.1 (nI s) q.2 (nI i)
      obtain ⟨aq, hq⟩ := hh
      rw [VX12_times_L17, if_neg (show ¬ (40 : Int32) < nI i from nI_nlt (a := 40) (by omega) (by omega))]
      refine m_fe hA hT hC hS hA.L.1 hs (by omega) (aq.sub fun k i h => by omega) (by rw [aq 0 12 (by decide)]; exact hA.2.2.2.2.2.2.1) (fun v9 a9 => ?_)
      by_cases hf : feV σ L i s T = -1
      · rw [if_pos hf]
        intro x10 e10 x11 e11
        rw [e11, nI_1]
        refine go (v9, x10) ⟨aq.tr a9, fun j hj => ?_⟩
        show bl x10 j = _
        rw [e10, bl_or, hq j hj, bl_1 hi]
        by_cases hij : i = j
        · rw [← hij, decide_eq_false (Nat.lt_irrefl i), decide_eq_true (show i < i + 1 by omega), show tiP σ L s T i = true from decide_eq_true hf]; simp
        · rw [decide_eq_false hij, Bool.or_false, show decide (j < i + 1) = decide (j < i) from by rw [decide_eq_decide]; omega]
      · rw [if_neg hf]
        intro x10 e10 x11 e11
        rw [e11, nI_1]
        refine go (v9, x10) ⟨aq.tr a9, fun j hj => ?_⟩
        show bl x10 j = _
        rw [e10, bl_or, hq j hj, bl_0, Bool.or_false]
        by_cases hij : i = j
        · rw [← hij, decide_eq_false (Nat.lt_irrefl i), show tiP σ L s T i = false from decide_eq_false hf, Bool.and_false, Bool.and_false]
        · rw [show decide (j < i + 1) = decide (j < i) from by rw [decide_eq_decide]; omega]
  generalize hKe : (fun (v : Int64) (u : Hp) => VX12_times (fun v' u' => v = v' ∧ Inv u u') τ (nI s)) = K
  refine lpN (S := Hp × Int64) (fun m q i => VX11_times_L19 K m q.1 (nI s) q.2 (nI i)) (fun i q => agr (fun k _ => BX k 0 ∧ k ≠ 50) σ q.1 ∧ ∀ j, j < 64 → bl q.2 j = (decide (j < 41) && tiP σ L s i j)) T (fun m q hh => ?_) (fun m i q hi hh go => ?_) (σ, 2199023255551) ⟨agr.rf, fun j hj => ?_⟩
  · show VX11_times_L19 K (m + 1) q.1 (nI s) q.2 (nI T)
    obtain ⟨aq, hq⟩ := hh
    rw [VX11_times_L19, aq 1 5 (by decide), hT.2.1, if_pos (nI_le (Nat.le_refl _) (by omega))]
    subst hKe
    exact fin _ _ hq (aq.sub fun k i h => by omega)
  · show VX11_times_L19 K (m + 1) q.1 (nI s) q.2 (nI i)
    obtain ⟨aq, hq⟩ := hh
    have aqN : agr NSx σ q.1 := aq.sub fun k i h => by omega
    obtain ⟨ok, hok⟩ := x_okt hA hT hC hi hA.L.1
    rw [VX11_times_L19, aq 1 5 (by decide), hT.2.1, if_neg (nI_ge hi (by omega))]
    refine x_lift hA hT hi (aqN.sub fun k i h => by omega) (fun u1 b1 hX => ⟨rfl, ?_⟩)
    rw [aqN 5 i (by omega), aqN 6 i (by omega)] at hX
    refine x_follow ok hok (by rw [b1 1 3 (by decide), aqN 1 3 (by decide)]) hX (fun u2 b2 hp _ => ?_)
    have a2 : agr (fun k _ => BX k 0 ∧ k ≠ 50) σ u2 := aq.tr ((b1.sub fun k i h => by omega).tr (b2.sub fun k i h => by omega))
    refine lpN (S := Int64) (fun m' b k => VX11_times_L44 K (VX11_times_L19 K m) m' u2 (nI s) b (nI i) (nI k)) (fun k b => ∀ j, j < 64 → bl b j = (decide (j < 41) && tiP σ L s i j && decide (j < k → (EQ σ (σ 1 1) L i j).1 = σ (45 + s) i))) 41 (fun m' b hb => ?_) (fun m' k b hk hb go2 => ?_) q.2 (fun j hj => ?_)
    · show VX11_times_L44 K (VX11_times_L19 K m) (m' + 1) u2 (nI s) b (nI i) (nI 41)
      rw [VX11_times_L44, if_pos (show (40 : Int32) < nI 41 by decide)]
      intro x10 e10
      rw [e10, nI_1]
      refine go (u2, b) ⟨a2, fun j hj => ?_⟩
      show bl b j = _
      rw [hb j hj, Bool.and_assoc]
      by_cases hj41 : j < 41
      · rw [decide_eq_true hj41, Bool.true_and, Bool.true_and]
        have : (tiP σ L s i j && decide (j < 41 → (EQ σ (σ 1 1) L i j).1 = σ (45 + s) i)) = true ↔ tiP σ L s (i + 1) j = true := by
          rw [Bool.and_eq_true, tiP_iff (by omega), tiP_iff (by omega), decide_eq_true_iff]
          constructor
          · rintro ⟨h1, h2⟩ t ht
            by_cases hti : t = i
            · rw [hti]; exact h2 hj41
            · exact h1 t (by omega)
          · intro h1
            exact ⟨fun t ht => h1 t (by omega), fun _ => h1 i (by omega)⟩
        exact Bool.eq_iff_iff.mpr this
      · rw [decide_eq_false hj41, Bool.false_and, Bool.false_and]
    · show VX11_times_L44 K (VX11_times_L19 K m) (m' + 1) u2 (nI s) b (nI i) (nI k)
      rw [VX11_times_L44, if_neg (show ¬ (40 : Int32) < nI k from nI_nlt (a := 40) (by omega) (by omega)), nI_clamp (by omega), nI_clamp (by omega), nI_clamp (by omega)]
      refine ⟨vp_in_nI (by omega) (by decide), vp_in_nI hs (by decide), fun x11 e11 x12 e12 => ?_⟩
      obtain rfl : x12 = 45 + s := by omega
      refine ⟨vp_in_nI (by omega) (by decide), ?_⟩
      rw [hp k (by omega), a2 (45 + s) i (by omega)]
      by_cases hc : (EQ σ (σ 1 1) L i k).1 = σ (45 + s) i
      · rw [if_pos (show (OB σ (σ 1 1) L i (σ 5 i, σ 6 i) k).1 = σ (45 + s) i from hc)]
        intro x14 e14
        rw [e14, nI_1]
        refine go2 b (fun j hj => ?_)
        rw [hb j hj]
        congr 1
        rw [decide_eq_decide]
        constructor
        · intro h1 h2
          by_cases hjk : j = k
          · rw [hjk]; exact hc
          · exact h1 (by omega)
        · intro h1 h2
          exact h1 (by omega)
      · rw [if_neg (show ¬ (OB σ (σ 1 1) L i (σ 5 i, σ 6 i) k).1 = σ (45 + s) i from hc)]
        intro x15 e15 x16 e16
        rw [e16, nI_1]
        refine go2 x15 (fun j hj => ?_)
        rw [e15, bl_and, bl_xor, bl_1 hk, bl_m1 hj, hb j hj]
        by_cases hjk : k = j
        · rw [← hjk, decide_eq_true (rfl : k = k), show decide (k < k + 1 → (EQ σ (σ 1 1) L i k).1 = σ (45 + s) i) = false from decide_eq_false (fun q => hc (q (by omega)))]
          simp
        · rw [decide_eq_false hjk, show decide (j < k + 1 → (EQ σ (σ 1 1) L i j).1 = σ (45 + s) i) = decide (j < k → (EQ σ (σ 1 1) L i j).1 = σ (45 + s) i) from by
            rw [decide_eq_decide]
            constructor
            · intro h1 h2; exact h1 (by omega)
            · intro h1 h2; exact h1 (by omega)]
          simp
    · rw [hq j hj, decide_eq_true (show j < 0 → (EQ σ (σ 1 1) L i j).1 = σ (45 + s) i from fun q => absurd q (Nat.not_lt_zero j)), Bool.and_true]
  · show bl 2199023255551 j = _
    rw [bl_all j hj, show tiP σ L s 0 j = true from (tiP_iff (by decide)).mpr (fun t ht => absurd ht (Nat.not_lt_zero t)), Bool.and_true]
