/-! ===== how far cells are: both searches ===== -/
def nei (W : Int32) (b c : Nat) : Prop := c < 30 ∧ ¬ hasb W (nI c) ∧ ∃ w, w < 4 ∧ geo (nI b) (nI w) = nI c
def Sp (W : Int32) (D : Nat → Int32) (fr : Nat) : Prop := (∀ c, c < 30 → D c = -1 ∨ nb (D c) 30) ∧ D fr = 0 ∧ (∀ c, c < 30 → D c = 0 → c = fr) ∧ (∀ c, c < 30 → ∀ d, d < 29 → D c = nI (d + 1) → ∃ b, b < 30 ∧ D b = nI d ∧ nei W b c) ∧ (∀ b, b < 30 → ∀ d, d < 30 → D b = nI d → ∀ c, nei W b c → ∃ d', d' ≤ d + 1 ∧ d' < 30 ∧ D c = nI d')
theorem Sp_le {W : Int32} {D D' : Nat → Int32} {fr : Nat} (h : Sp W D fr) (h' : Sp W D' fr) : ∀ d, d < 30 → ∀ c, c < 30 → D c = nI d → ∃ d', d' ≤ d ∧ d' < 30 ∧ D' c = nI d'
  | 0, _, c, hc, hd => ⟨0, Nat.le_refl _, by decide, by rw [h.2.2.1 c hc hd]; exact h'.2.1⟩
  | d + 1, hd30, c, hc, hd => by
    obtain ⟨b, hb, hbd, hn⟩ := h.2.2.2.1 c hc d (by omega) hd
    obtain ⟨e, he, he30, heq⟩ := Sp_le h h' d (by omega) b hb hbd
    obtain ⟨d', h1, h2, h3⟩ := h'.2.2.2.2 b hb e he30 heq c hn
    exact ⟨d', by omega, h2, h3⟩
theorem Sp_uq {W : Int32} {D D' : Nat → Int32} {fr : Nat} (h : Sp W D fr) (h' : Sp W D' fr) : ∀ c, c < 30 → D c = D' c := by
  intro c hc
  rcases h.1 c hc with h1 | ⟨d, hd, h1⟩
  · rcases h'.1 c hc with h2 | ⟨d', hd', h2⟩
    · rw [h1, h2]
    · obtain ⟨e, _, he, h3⟩ := Sp_le h' h d' hd' c hc h2
      rw [h1] at h3
      exact absurd h3.symm (nI_nm1 (by omega))
  · obtain ⟨e, he1, he2, h3⟩ := Sp_le h h' d hd c hc h1
    obtain ⟨e', he1', he2', h3'⟩ := Sp_le h' h e he2 c hc h3
    have := (nI_eq (by omega) (by omega)).mp (h1.symm.trans h3')
    have : d = e := by omega
    rw [h1, h3, this]
noncomputable def dst (W : Int32) (fr : Nat) : Nat → Int32 := @dite _ (∃ D, Sp W D fr) (Classical.propDecidable _) (fun h => h.choose) (fun _ _ => 0)
theorem dst_sp {W : Int32} {fr : Nat} (h : ∃ D, Sp W D fr) : Sp W (dst W fr) fr := by
  unfold dst
  rw [dif_pos h]
  exact h.choose_spec
theorem sm_lt {f : Nat → Nat} {k : Nat} (h1 : ∀ i, f i ≤ 1) (hk : f k = 0) : ∀ n, k < n → sm f n < n
  | 0, h => absurd h (Nat.not_lt_zero k)
  | n + 1, h => by
    show sm f n + f n < n + 1
    by_cases hkn : k = n
    · have := sm_le (f := f) (b := 1) n (fun i _ => h1 i)
      rw [← hkn, hk, hkn]; omega
    · have := sm_lt h1 hk n (by omega)
      have := h1 n
      omega
/-- the queue q, its levels d -/
def QI (W : Int32) (fr : Nat) (q d : Nat → Nat) (s : Hp) (used i : Nat) : Prop := (1 ≤ used ∧ used ≤ 30) ∧ (∀ j, j < used → s 52 j = nI (q j) ∧ q j < 30 ∧ s 51 (q j) = nI (d j) ∧ d j ≤ j) ∧ (∀ c, c < 30 → s 51 c = -1 ∨ ∃ j, j < used ∧ q j = c) ∧ (∀ j j', j ≤ j' → j' < used → d j ≤ d j') ∧ (∀ j, j < used → i < used → d j ≤ d i + 1) ∧ (q 0 = fr ∧ d 0 = 0 ∧ ∀ j, 0 < j → j < used → 0 < d j ∧ ∃ j', j' < used ∧ d j = d j' + 1 ∧ nei W (q j') (q j)) ∧ (∀ j, j < i → j < used → ∀ c, nei W (q j) c → ∃ j', j' < used ∧ q j' = c ∧ d j' ≤ d j + 1) ∧ sm (fun c => if s 51 c = -1 then 0 else 1) 30 = used
theorem QI_used {W : Int32} {fr used i c : Nat} {q d : Nat → Nat} {s : Hp} (h : QI W fr q d s used i) (hc : c < 30) (hm : s 51 c = -1) : used < 30 := by
  obtain ⟨_, _, _, _, _, _, _, h8⟩ := h
  rw [← h8]
  refine sm_lt (k := c) (fun i => ?_) ?_ 30 hc
  · show (if s 51 i = -1 then 0 else 1) ≤ 1
    split <;> omega
  · show (if s 51 c = -1 then 0 else 1) = 0
    rw [if_pos hm]
theorem QI_push {W : Int32} {fr used i c : Nat} {q d : Nat → Nat} {s : Hp} (h : QI W fr q d s used i) (hi : i < used) (hc : c < 30) (hm : s 51 c = -1) (hn : nei W (q i) c) : QI W fr (fun j => if j = used then c else q j) (fun j => if j = used then d i + 1 else d j) (hup (hup s 51 c (nI (d i + 1))) 52 used (nI c)) (used + 1) i := by
  have hu := QI_used h hc hm
  obtain ⟨h1, h2, h3, h4, h5, h6, h7, h8⟩ := h
  have r51 : ∀ c', hup (hup s 51 c (nI (d i + 1))) 52 used (nI c) 51 c' = if c' = c then nI (d i + 1) else s 51 c' := fun c' => by rw [hup_row (by decide), hup_ap, if_pos rfl]
  have r52 : ∀ j, hup (hup s 51 c (nI (d i + 1))) 52 used (nI c) 52 j = if j = used then nI c else s 52 j := fun j => by rw [hup_ap, if_pos rfl, hup_row (by decide)]
  have hdi := (h2 i hi).2.2.2
  have hqc : ∀ j, j < used → q j ≠ c := fun j hj he => by
    have := (h2 j hj).2.2.1
    rw [he, hm] at this
    have hdj := (h2 j hj).2.2.2
    exact nI_nm1 (by omega) this.symm
  refine ⟨⟨by omega, by omega⟩, fun j hj => ?_, fun c' hc' => ?_, fun j j' hjj hj' => ?_, fun j hj _ => ?_, ⟨?_, ?_, fun j hj0 hj => ?_⟩, fun j hji hj c' hn' => ?_, ?_⟩
  · rw [r51, r52]
    by_cases hju : j = used
    · simp only [hju, if_true]
      exact ⟨trivial, hc, trivial, by omega⟩
    · simp only [hju, if_false]
      rw [if_neg (hqc j (by omega))]
      exact h2 j (by omega)
  · rw [r51]
    by_cases hcc : c' = c
    · exact Or.inr ⟨used, by omega, by show (if used = used then c else q used) = c'; rw [if_pos rfl]; exact hcc.symm⟩
    · rw [if_neg hcc]
      rcases h3 c' hc' with q1 | ⟨j, hj, hq⟩
      · exact Or.inl q1
      · exact Or.inr ⟨j, by omega, by show (if j = used then c else q j) = c'; rw [if_neg (by omega)]; exact hq⟩
  · show (if j = used then d i + 1 else d j) ≤ (if j' = used then d i + 1 else d j')
    by_cases hju : j = used
    · rw [if_pos hju, if_pos (by omega)]; exact Nat.le_refl _
    · rw [if_neg hju]
      by_cases hju' : j' = used
      · rw [if_pos hju']; exact h5 j (by omega) hi
      · rw [if_neg hju']; exact h4 j j' hjj (by omega)
  · show (if j = used then d i + 1 else d j) ≤ (if i = used then d i + 1 else d i) + 1
    rw [if_neg (show ¬ i = used by omega)]
    by_cases hju : j = used
    · rw [if_pos hju]; exact Nat.le_refl _
    · rw [if_neg hju]; exact h5 j (by omega) hi
  · show (if 0 = used then c else q 0) = fr
    rw [if_neg (by omega)]; exact h6.1
  · show (if 0 = used then d i + 1 else d 0) = 0
    rw [if_neg (by omega)]; exact h6.2.1
  · show 0 < (if j = used then d i + 1 else d j) ∧ ∃ j', j' < used + 1 ∧ (if j = used then d i + 1 else d j) = (if j' = used then d i + 1 else d j') + 1 ∧ nei W (if j' = used then c else q j') (if j = used then c else q j)
    by_cases hju : j = used
    · rw [if_pos hju, if_pos hju]
      refine ⟨by omega, i, by omega, ?_, ?_⟩
      · rw [if_neg (show ¬ i = used by omega)]
      · rw [if_neg (show ¬ i = used by omega)]; exact hn
    · rw [if_neg hju, if_neg hju]
      obtain ⟨g1, j', g2, g3, g4⟩ := h6.2.2 j hj0 (by omega)
      refine ⟨g1, j', by omega, ?_, ?_⟩
      · rw [if_neg (show ¬ j' = used by omega)]; exact g3
      · rw [if_neg (show ¬ j' = used by omega)]; exact g4
  · show ∃ j', j' < used + 1 ∧ (if j' = used then c else q j') = c' ∧ (if j' = used then d i + 1 else d j') ≤ (if j = used then d i + 1 else d j) + 1
    rw [if_neg (show ¬ j = used by omega)]
    have hn2 : nei W (q j) c' := by
      have hn3 : nei W (if j = used then c else q j) c' := hn'
      rw [if_neg (show ¬ j = used by omega)] at hn3
      exact hn3
    obtain ⟨j', g1, g2, g3⟩ := h7 j hji (by omega) c' hn2
    exact ⟨j', by omega, by rw [if_neg (by omega)]; exact g2, by rw [if_neg (by omega)]; exact g3⟩
  · have e : sm (fun c' => if hup (hup s 51 c (nI (d i + 1))) 52 used (nI c) 51 c' = -1 then 0 else 1) 30 = sm (fun c' => (if s 51 c' = -1 then 0 else 1) + (if c = c' then 1 else 0) * 1) 30 := sm_cg 30 (fun c' _ => by
      rw [r51]
      by_cases hcc : c' = c
      · rw [if_pos hcc, if_neg (nI_nm1 (by omega)), hcc, if_pos hm, if_pos rfl]
      · rw [if_neg hcc, if_neg (show ¬ c = c' from fun q => hcc q.symm)]; rfl)
    rw [e, sm_add, h8, sm_dl (f := fun _ => 1), if_pos hc]
theorem QI_sp {W : Int32} {fr used i : Nat} {q d : Nat → Nat} {s : Hp} (hfr : fr < 30) (h : QI W fr q d s used i) (hu : used ≤ i) : Sp W (s 51) fr := by
  obtain ⟨h1, h2, h3, h4, h5, h6, h7, h8⟩ := h
  have at' : ∀ c, c < 30 → ∀ e, e < 2 ^ 31 → s 51 c = nI e → ∃ j, j < used ∧ q j = c ∧ d j = e := fun c hc e he hce => by
    rcases h3 c hc with q1 | ⟨j, hj, hq⟩
    · rw [q1] at hce; exact absurd hce.symm (nI_nm1 he)
    · refine ⟨j, hj, hq, ?_⟩
      have := (h2 j hj).2.2.1
      have hdj := (h2 j hj).2.2.2
      rw [hq, hce] at this
      exact ((nI_eq he (by omega)).mp this).symm
  refine ⟨fun c hc => ?_, ?_, fun c hc h0 => ?_, fun c hc e he hce => ?_, fun b hb e he hbe c hn => ?_⟩
  · rcases h3 c hc with q1 | ⟨j, hj, hq⟩
    · exact Or.inl q1
    · obtain ⟨g1, g2, g3, g4⟩ := h2 j hj
      refine Or.inr ⟨d j, by omega, ?_⟩
      rw [← hq]; exact g3
  · have := (h2 0 (by omega)).2.2.1
    rw [h6.1, h6.2.1] at this
    exact this
  · obtain ⟨j, hj, hq, hd⟩ := at' c hc 0 (by decide) h0
    by_cases hj0 : j = 0
    · rw [hj0, h6.1] at hq; exact hq.symm
    · have := (h6.2.2 j (by omega) hj).1
      omega
  · obtain ⟨j, hj, hq, hd⟩ := at' c hc (e + 1) (by omega) hce
    by_cases hj0 : j = 0
    · rw [hj0, h6.2.1] at hd; omega
    · obtain ⟨_, j', g2, g3, g4⟩ := h6.2.2 j (by omega) hj
      obtain ⟨k1, k2, k3, k4⟩ := h2 j' g2
      refine ⟨q j', k2, ?_, by rw [← hq]; exact g4⟩
      rw [k3, show d j' = e by omega]
  · obtain ⟨j, hj, hq, hd⟩ := at' b hb e (by omega) hbe
    obtain ⟨j', g1, g2, g3⟩ := h7 j (by omega) hj c (by rw [hq]; exact hn)
    obtain ⟨k1, k2, k3, k4⟩ := h2 j' g1
    exact ⟨d j', by omega, by omega, by rw [← g2]; exact k3⟩
abbrev B51 (k _ : Nat) : Prop := k ≠ 51 ∧ k ≠ 52
theorem x_measure {K : Hp → Prop} {W : Int32} {fr : Nat} {u : Hp} (hfr : fr < 30) (hW : u 1 0 = W) (hK : ∀ u', agr B51 u u' → Sp W (dst W fr) fr → (∀ c, c < 30 → u' 51 c = dst W fr c) → K u') : VX11_measure K u (nI fr) := by
  have hK2 : ∀ u' used i q d, agr B51 u u' → QI W fr q d u' used i → used ≤ i → K u' := fun u' used i q d a hq hui => by
    have hs := QI_sp hfr hq hui
    have hd := dst_sp ⟨_, hs⟩
    exact hK u' a hd (Sp_uq hs hd)
  refine lpN (S := Hp) (fun m s i => VX11_measure_L2 K m s (nI fr) (nI i)) (fun i s => agr B51 u s ∧ ∀ c, c < i → s 51 c = -1) 30 (fun m s h => ?_) (fun m i s hi h go => ?_) u ⟨agr.rf, fun j hj => absurd hj (Nat.not_lt_zero j)⟩
  · show VX11_measure_L2 K (m + 1) s (nI fr) (nI 30)
    obtain ⟨a, hs⟩ := h
    rw [VX11_measure_L2, if_pos (show (30 : Int32) ≤ nI 30 by decide), nI_clamp (by omega)]
    refine ⟨vp_in_nI hfr (by decide), fun u2 e2 u3 e3 => ?_⟩
    have a3 : agr B51 u u3 := by rw [e3, e2]; exact agr.up (agr.up a (by omega)) (by omega)
    have r51 : ∀ c, c < 30 → u3 51 c = if c = fr then 0 else -1 := fun c hc => by
      rw [e3, hup_row (by decide), e2, hup_ap, if_pos rfl]
      by_cases hcf : c = fr
      · rw [if_pos hcf, if_pos hcf]
      · rw [if_neg hcf, if_neg hcf]; exact hs c hc
    have hq0 : QI W fr (fun _ => fr) (fun _ => 0) u3 1 0 := by
      refine ⟨⟨by omega, by omega⟩, fun j hj => ?_, fun c hc => ?_, fun j j' _ _ => Nat.le_refl _, fun j _ _ => Nat.zero_le _, ⟨rfl, rfl, fun j h0 h1 => absurd h0 (by omega)⟩, fun j hj => absurd hj (Nat.not_lt_zero j), ?_⟩
      · obtain rfl : j = 0 := by omega
        refine ⟨by rw [e3, hup_self], hfr, ?_, Nat.le_refl _⟩
        show u3 51 fr = nI 0
        rw [r51 fr hfr, if_pos rfl]; rfl
      · rw [r51 c hc]
        by_cases hcf : c = fr
        · exact Or.inr ⟨0, by omega, hcf.symm⟩
        · rw [if_neg hcf]; exact Or.inl rfl
      · rw [sm_cg (g := fun c => (if fr = c then 1 else 0) * 1) 30 (fun c hc => by
          show (if u3 51 c = -1 then 0 else 1) = _
          rw [r51 c hc]
          by_cases hcf : c = fr
          · rw [if_pos hcf, if_neg (by decide), if_pos hcf.symm]
          · rw [if_neg hcf, if_pos rfl, if_neg (fun q => hcf q.symm)]), sm_dl (f := fun _ => 1), if_pos hfr]
    refine lpN (S := Hp × Nat) (fun m s i => VX11_measure_L39 K m s.1 (nI s.2) (nI i)) (fun i s => agr B51 u s.1 ∧ ∃ q d, QI W fr q d s.1 s.2 i) 30 (fun m s h => ?_) (fun m i s hi h go => ?_) (u3, 1) ⟨a3, _, _, hq0⟩
    · show VX11_measure_L39 K (m + 1) s.1 (nI s.2) (nI 30)
      obtain ⟨a', q, d, hq⟩ := h
      have hu := hq.1
      rw [VX11_measure_L39, if_pos (nI_le hu.2 (by decide))]
      exact hK2 _ _ _ _ _ a' hq hu.2
    · show VX11_measure_L39 K (m + 1) s.1 (nI s.2) (nI i)
      obtain ⟨s, used⟩ := s
      obtain ⟨a', q, d, hq⟩ := h
      simp only at a' hq go ⊢
      have hu := hq.1
      rw [VX11_measure_L39]
      by_cases hui : used ≤ i
      · rw [if_pos (nI_le hui (by omega))]
        exact hK2 _ _ _ _ _ a' hq hui
      rw [if_neg (nI_ge (by omega) (by omega)), if_neg (show ¬ (30 : Int32) ≤ nI i from nI_ge (b := 30) hi (by decide))]
      have hiu : i < used := by omega
      refine lpN (S := Hp × Nat) (fun m' s w => VX11_measure_L53 K (VX11_measure_L39 K m) m' s.1 (nI s.2) (nI i) (nI w)) (fun w s => agr B51 u s.1 ∧ i < s.2 ∧ ∃ q d, QI W fr q d s.1 s.2 i ∧ ∀ w', w' < w → ∀ c, c < 30 → ¬ hasb W (nI c) → geo (nI (q i)) (nI w') = nI c → ∃ j', j' < s.2 ∧ q j' = c ∧ d j' ≤ d i + 1) 4 (fun m' s h => ?_) (fun m' w s hw h go2 => ?_) (s, used) ⟨a', hiu, q, d, hq, fun w' hw' => absurd hw' (Nat.not_lt_zero w')⟩
      · show VX11_measure_L53 K (VX11_measure_L39 K m) (m' + 1) s.1 (nI s.2) (nI i) (nI 4)
        obtain ⟨a2, hiu2, q2, d2, hq2, hall⟩ := h
        rw [VX11_measure_L53, if_pos (show (4 : Int32) ≤ nI 4 by decide)]
        intro x9 e9
        rw [e9, nI_1]
        obtain ⟨h1, h2, h3, h4, h5, h6, h7, h8⟩ := hq2
        refine go s ⟨a2, q2, d2, h1, h2, h3, h4, fun j hj hi1 => ?_, h6, fun j hj hju c hn => ?_, h8⟩
        · have := h5 j hj hiu2
          have := h4 i (i + 1) (by omega) hi1
          omega
        · by_cases hji : j = i
          · rw [hji] at hn ⊢
            obtain ⟨n1, n2, w, n3, n4⟩ := hn
            exact hall w n3 c n1 n2 n4
          · exact h7 j (by omega) hju c hn
      · show VX11_measure_L53 K (VX11_measure_L39 K m) (m' + 1) s.1 (nI s.2) (nI i) (nI w)
        obtain ⟨s, us⟩ := s
        obtain ⟨a2, hiu2, q2, d2, hq2, hall⟩ := h
        simp only at a2 hiu2 hq2 hall go2 ⊢
        have hu2 := hq2.1
        obtain ⟨g1, g2, g3, g4⟩ := hq2.2.1 i hiu2
        rw [VX11_measure_L53, if_neg (show ¬ (4 : Int32) ≤ nI w from nI_ge (b := 4) hw (by decide)), nI_clamp (by omega), g1]
        refine ⟨vp_in_nI hi (by decide), ?_⟩
        rw [eX_beyond ⟨_, g2, rfl⟩ ⟨w, by omega, rfl⟩, a2 1 0 (by decide), hW]
        have skip : (∀ c, c < 30 → ¬ hasb W (nI c) → geo (nI (q2 i)) (nI w) = nI c → ∃ j', j' < us ∧ q2 j' = c ∧ d2 j' ≤ d2 i + 1) → ∀ x, x = nI w + 1 → VX11_measure_L53 K (VX11_measure_L39 K m) m' s (nI us) (nI i) x := fun hx x ex => by
          rw [ex, nI_1]
          refine go2 (s, us) ⟨a2, hiu2, q2, d2, hq2, fun w' hw' => ?_⟩
          by_cases hww : w' = w
          · rw [hww]; exact hx
          · exact hall w' (by omega)
        by_cases hg : geo (nI (q2 i)) (nI w) = -1 ∨ hasb W (geo (nI (q2 i)) (nI w))
        · rw [if_pos hg, if_pos (by decide)]
          refine skip (fun c hc hcw hcg => ?_)
          rw [hcg] at hg
          exact absurd hg (fun p => p.elim (nI_nm1 (by omega)) hcw)
        · rw [if_neg hg]
          obtain ⟨c, hc, ec⟩ := (geo_cs ⟨_, g2, rfl⟩ ⟨w, by omega, rfl⟩).resolve_left (fun p => hg (Or.inl p))
          rw [ec] at hg ⊢
          have hcw : ¬ hasb W (nI c) := fun p => hg (Or.inr p)
          rw [if_neg (nI_pos (by omega)), nI_clamp (by omega)]
          refine ⟨vp_in_nI hc (by decide), ?_⟩
          have cuq : ∀ c', c' < 30 → geo (nI (q2 i)) (nI w) = nI c' → c' = c := fun c' hc' hcg' => (nI_eq (by omega) (by omega)).mp (hcg'.symm.trans ec)
          by_cases hm : s 51 c = -1
          · have hus := QI_used hq2 hc hm
            rw [if_neg (show ¬ (0 : Int32) ≤ s 51 c by rw [hm]; decide), if_neg (show ¬ (30 : Int32) ≤ nI us from nI_ge (b := 30) hus (by decide)), nI_clamp (by omega), g1, nI_clamp (by omega), g3, nI_1]
            refine ⟨vp_in_nI hi (by decide), vp_in_nI g2 (by decide), vp_in_nI hc (by decide), fun u18 e18 => ⟨vp_in_nI hus (by decide), fun u19 e19 x20 e20 x21 e21 => ?_⟩⟩
            rw [e20, e21, nI_1, nI_1]
            have hp := QI_push hq2 hiu2 hc hm ⟨hc, hcw, w, hw, ec⟩
            rw [← e18, ← e19] at hp
            refine go2 (u19, us + 1) ⟨?_, by show i < us + 1; omega, _, _, hp, fun w' hw' c' hc' hcw' hcg' => ?_⟩
            · show agr B51 u u19
              rw [e19, e18]; exact agr.up (agr.up a2 (by omega)) (by omega)
            · show ∃ j', j' < us + 1 ∧ (if j' = us then c else q2 j') = c' ∧ (if j' = us then d2 i + 1 else d2 j') ≤ (if i = us then d2 i + 1 else d2 i) + 1
              have hcg2 : geo (nI (if i = us then c else q2 i)) (nI w') = nI c' := hcg'
              rw [if_neg (show ¬ i = us by omega)] at hcg2 ⊢
              by_cases hww : w' = w
              · rw [hww] at hcg2
                exact ⟨us, by omega, by rw [if_pos rfl]; exact (cuq c' hc' hcg2).symm, by rw [if_pos rfl]; exact Nat.le_refl _⟩
              · obtain ⟨j', k1, k2, k3⟩ := hall w' (by omega) c' hc' hcw' hcg2
                exact ⟨j', by omega, by rw [if_neg (by omega)]; exact k2, by rw [if_neg (by omega)]; exact k3⟩
          · obtain ⟨j, hj, hqj⟩ := (hq2.2.2.1 c hc).resolve_left hm
            obtain ⟨k1, k2, k3, k4⟩ := hq2.2.1 j hj
            rw [hqj] at k3
            rw [k3, if_pos (nI_pos' (by omega))]
            refine skip (fun c' hc' _ hcg' => ⟨j, hj, ?_, hq2.2.2.2.2.1 j hj hiu2⟩)
            rw [hqj]; exact (cuq c' hc' hcg').symm
  · show VX11_measure_L2 K (m + 1) s (nI fr) (nI i)
    rw [VX11_measure_L2, if_neg (show ¬ (30 : Int32) ≤ nI i from nI_ge (b := 30) hi (by decide)), nI_clamp (by omega)]
    refine ⟨vp_in_nI hi (by decide), fun u4 e4 x5 e5 => ?_⟩
    rw [e5, nI_1]
    refine go u4 ⟨by rw [e4]; exact agr.up h.1 (by omega), fun c hc => ?_⟩
    by_cases hci : c = i
    · rw [e4, hci, hup_self]
    · rw [e4, hup_col hci]; exact h.2 c (by omega)
def lv (D : Nat → Int32) (n c : Nat) : Prop := ∃ d, d ≤ n ∧ d < 30 ∧ D c = nI d
theorem m_spreads {K : Hp → Prop} {W : Int32} {fr : Nat} {v : Hp} {D : Nat → Int32} (hfr : fr < 30) (hW : v 1 0 = W) (hS : Sp W D fr) (hK : ∀ v', agr (fun k _ => k ≠ 18) v v' → (∀ c, c < 30 → v' 18 c = D c) → K v') : VX12_spreads K v (nI fr) := by
  obtain ⟨s1, s2, s3, s4, s5⟩ := id hS
  refine lpN (S := Hp) (fun m s i => VX12_spreads_L2 K m s (nI fr) (nI i)) (fun i s => agr (fun k _ => k ≠ 18) v s ∧ ∀ c, c < i → s 18 c = if c = fr then 0 else -1) 30 (fun m s h => ?_) (fun m i s hi h go => ?_) v ⟨agr.rf, fun j hj => absurd hj (Nat.not_lt_zero j)⟩
  · show VX12_spreads_L2 K (m + 1) s (nI fr) (nI 30)
    obtain ⟨a, hs⟩ := h
    rw [VX12_spreads_L2, if_pos (show (30 : Int32) ≤ nI 30 by decide)]
    refine lpN (S := Hp) (fun m s n => VX12_spreads_L32 K m s (nI n)) (fun n s => agr (fun k _ => k ≠ 18) v s ∧ ∀ c, c < 30 → (s 18 c = D c ∨ s 18 c = -1) ∧ (lv D n c → s 18 c = D c)) 30 (fun m s h => ?_) (fun m n s hn h go => ?_) s ⟨a, fun c hc => ?_⟩
    · show VX12_spreads_L32 K (m + 1) s (nI 30)
      obtain ⟨a', hs'⟩ := h
      rw [VX12_spreads_L32, if_pos (show (30 : Int32) ≤ nI 30 by decide)]
      refine hK s a' (fun c hc => ?_)
      rcases s1 c hc with g | ⟨d, hd, g⟩
      · rcases (hs' c hc).1 with q | q
        · exact q
        · rw [q, g]
      · exact (hs' c hc).2 ⟨d, by omega, hd, g⟩
    · show VX12_spreads_L32 K (m + 1) s (nI n)
      obtain ⟨a', hs'⟩ := h
      rw [VX12_spreads_L32, if_neg (show ¬ (30 : Int32) ≤ nI n from nI_ge (b := 30) hn (by decide))]
      refine lpN (S := Hp) (fun m' s k => VX12_spreads_L40 K (VX12_spreads_L32 K m) m' s (nI n) (nI k)) (fun k s => agr (fun k _ => k ≠ 18) v s ∧ (∀ c, c < 30 → (s 18 c = D c ∨ s 18 c = -1) ∧ (lv D n c → s 18 c = D c)) ∧ ∀ k', k' < k → ∀ c, c < 30 → D (k' / 4) = nI n → ¬ hasb W (nI c) → geo (nI (k' / 4)) (nI (k' % 4)) = nI c → s 18 c = D c) 120 (fun m' s h => ?_) (fun m' k s hk h go2 => ?_) s ⟨a', hs', fun k' hk' => absurd hk' (Nat.not_lt_zero k')⟩
      · show VX12_spreads_L40 K (VX12_spreads_L32 K m) (m' + 1) s (nI n) (nI 120)
        obtain ⟨a2, hs2, hall⟩ := h
        rw [VX12_spreads_L40, if_pos (show (120 : Int32) ≤ nI 120 by decide)]
        intro x9 e9
        rw [e9, nI_1]
        refine go s ⟨a2, fun c hc => ⟨(hs2 c hc).1, fun ⟨d, hd1, hd2, hd3⟩ => ?_⟩⟩
        by_cases hdn : d = n + 1
        · subst hdn
          obtain ⟨b, hb, hbd, n1, n2, w, n3, n4⟩ := s4 c hc n (by omega) hd3
          have e1 : (4 * b + w) / 4 = b := by omega
          have e2 : (4 * b + w) % 4 = w := by omega
          exact hall (4 * b + w) (by omega) c hc (by rw [e1]; exact hbd) n2 (by rw [e1, e2]; exact n4)
        · exact (hs2 c hc).2 ⟨d, by omega, hd2, hd3⟩
      · show VX12_spreads_L40 K (VX12_spreads_L32 K m) (m' + 1) s (nI n) (nI k)
        obtain ⟨a2, hs2, hall⟩ := h
        have hb30 : k / 4 < 30 := by omega
        have hkd : nI k / 4 = nI (k / 4) := pk_div (d := 4) (by omega) (by decide) (by decide)
        have hkm : jrem (nI k) 4 = nI (k % 4) := pk_rem (d := 4) (by omega) (by decide) (by decide)
        rw [VX12_spreads_L40, if_neg (show ¬ (120 : Int32) ≤ nI k from nI_ge (b := 120) hk (by decide)), hkd, hkm, nI_clamp (by omega)]
        refine ⟨vp_in_nI hb30 (by decide), ?_⟩
        have hw4 : k % 4 < 5 := by omega
        have nxt : ∀ s' : Hp, agr (fun k _ => k ≠ 18) v s' → (∀ c, c < 30 → (s' 18 c = D c ∨ s' 18 c = -1) ∧ (lv D n c → s' 18 c = D c)) → (∀ c, c < 30 → s 18 c = D c → s' 18 c = D c) → (∀ c, c < 30 → D (k / 4) = nI n → ¬ hasb W (nI c) → geo (nI (k / 4)) (nI (k % 4)) = nI c → s' 18 c = D c) → ∀ x, x = nI k + 1 → VX12_spreads_L40 K (VX12_spreads_L32 K m) m' s' (nI n) x := fun s' a3 h3 hmon hnew x ex => by
          rw [ex, nI_1]
          refine go2 s' ⟨a3, h3, fun k' hk' c hc h4 h5 h6 => ?_⟩
          by_cases hkk : k' = k
          · rw [hkk] at h4 h6; exact hnew c hc h4 h5 h6
          · exact hmon c hc (hall k' (by omega) c hc h4 h5 h6)
        unfold VX12_spreads_b71
        by_cases hbn : s 18 (k / 4) = nI n
        · rw [if_pos hbn, eM_beside]
          have hDb : D (k / 4) = nI n := by
            rcases (hs2 _ hb30).1 with q | q
            · rw [← q]; exact hbn
            · rw [q] at hbn; exact absurd hbn.symm (nI_nm1 (by omega))
          rcases geo_cs (c := nI (k / 4)) (w := nI (k % 4)) ⟨_, hb30, rfl⟩ ⟨_, hw4, rfl⟩ with hg | ⟨c0, hc0, hg⟩
          · rw [if_pos hg]
            refine nxt s a2 hs2 (fun c _ q => q) (fun c hc _ _ h6 => ?_)
            rw [hg] at h6
            exact absurd h6.symm (nI_nm1 (by omega))
          · rw [hg, if_neg (nI_nm1 (by omega)), eM_has0, a2 1 0 (by decide), hW, ite_b2i]
            have cuq : ∀ c', c' < 30 → geo (nI (k / 4)) (nI (k % 4)) = nI c' → c' = c0 := fun c' hc' hcg' => (nI_eq (by omega) (by omega)).mp (hcg'.symm.trans hg)
            by_cases hcw : hasb W (nI c0)
            · rw [if_pos hcw]
              refine nxt s a2 hs2 (fun c _ q => q) (fun c hc _ h5 h6 => ?_)
              rw [cuq c hc h6] at h5
              exact absurd hcw h5
            rw [if_neg hcw, nI_clamp (by omega)]
            refine ⟨vp_in_nI hc0 (by decide), ?_⟩
            by_cases hm : s 18 c0 = -1
            · rw [if_pos hm]
              refine ⟨vp_in_nI hc0 (by decide), fun u21 e21 => ?_⟩
              obtain ⟨d', d1, d2, d3⟩ := s5 _ hb30 n hn hDb c0 ⟨hc0, hcw, k % 4, by omega, hg⟩
              have hd' : d' = n + 1 := by
                by_cases hdn : d' ≤ n
                · have := (hs2 c0 hc0).2 ⟨d', hdn, d2, d3⟩
                  rw [hm, d3] at this
                  exact absurd this.symm (nI_nm1 (by omega))
                · omega
              rw [hd'] at d3
              have r18 : ∀ c, u21 18 c = if c = c0 then D c0 else s 18 c := fun c => by rw [e21, hup_ap, if_pos rfl, d3, nI_1]
              refine nxt u21 (by rw [e21]; exact agr.up a2 (by omega)) (fun c hc => ?_) (fun c hc q => ?_) (fun c hc _ _ h6 => ?_)
              · rw [r18]
                by_cases hcc : c = c0
                · rw [if_pos hcc, hcc]; exact ⟨Or.inl rfl, fun _ => rfl⟩
                · rw [if_neg hcc]; exact hs2 c hc
              · rw [r18]
                by_cases hcc : c = c0
                · rw [if_pos hcc, hcc]
                · rw [if_neg hcc]; exact q
              · rw [r18, if_pos (cuq c hc h6), cuq c hc h6]
            · rw [if_neg hm]
              refine nxt s a2 hs2 (fun c _ q => q) (fun c hc _ _ h6 => ?_)
              rw [cuq c hc h6]
              exact (hs2 c0 hc0).1.resolve_right hm
        · rw [if_neg hbn, if_pos rfl]
          refine nxt s a2 hs2 (fun c _ q => q) (fun c hc h4 _ _ => ?_)
          have := (hs2 _ hb30).2 ⟨n, Nat.le_refl _, hn, h4⟩
          rw [h4] at this
          exact absurd this hbn
    · rw [hs c hc]
      by_cases hcf : c = fr
      · rw [if_pos hcf, hcf, s2]; exact ⟨Or.inl rfl, fun _ => rfl⟩
      · rw [if_neg hcf]
        refine ⟨Or.inr rfl, fun ⟨d, d1, d2, d3⟩ => ?_⟩
        obtain rfl : d = 0 := by omega
        exact absurd (s3 c hc d3) hcf
  · show VX12_spreads_L2 K (m + 1) s (nI fr) (nI i)
    rw [VX12_spreads_L2, if_neg (show ¬ (30 : Int32) ≤ nI i from nI_ge (b := 30) hi (by decide)), nI_clamp (by omega)]
    have nx : ∀ (w : Hp) (z : Int32), z = (if i = fr then 0 else -1) → w = hup s 18 i z → ∀ x, x = nI i + 1 → VX12_spreads_L2 K m w (nI fr) x := fun w z hz hw x ex => by
      rw [ex, nI_1]
      refine go w ⟨by rw [hw]; exact agr.up h.1 (by omega), fun c hc => ?_⟩
      by_cases hci : c = i
      · rw [hw, hci, hup_self, hz]
      · rw [hw, hup_col hci]; exact h.2 c (by omega)
    by_cases hif : i = fr
    · rw [if_pos (by rw [hif])]
      refine ⟨vp_in_nI hi (by decide), fun u5 e5 => nx u5 0 (by rw [if_pos hif]) e5⟩
    · rw [if_neg (fun q => hif ((nI_eq (by omega) (by omega)).mp q))]
      refine ⟨vp_in_nI hi (by decide), fun u5 e5 => nx u5 (-1) (by rw [if_neg hif]) e5⟩
