/-! ===== a thing in thought, over many steps ===== -/
abbrev EX (k i : Nat) : Prop := NSx k i ∧ k ≠ 5 ∧ k ≠ 6 ∧ k < 41
abbrev EM (k i : Nat) : Prop := NSm k i ∧ k ≠ 4 ∧ k ≠ 5 ∧ ¬ (k = 1 ∧ i = 1) ∧ ¬ (k = 0 ∧ i = 12) ∧ ¬ (9 ≤ k ∧ k ≤ 12)
def GI (σ : Hp) (N : Int32) (R t : Nat) : Int32 → Int32 × Int32 → Int32 × Int32 := GS (σ 1 0) (σ 1 2) N (σ 3 t).toNatClampNeg (nI t) (σ 4 t) (σ (25 + R)) (σ (31 + R))
def OB (σ : Hp) (N : Int32) (R t : Nat) (q : Int32 × Int32) : Nat → Int32 × Int32 := orb (fun k => GI σ N R t (σ 1 3 + nI k)) q
def OT (σ : Hp) (N : Int32) (R t : Nat) (at' : Int32) (q : Int32 × Int32) : Nat → Int32 × Int32 := orb (fun k q => GI σ N R t (σ 1 3 + nI k) (if nI k = at' then (q.1, trn q.2) else q)) q
def OKt (σ : Hp) (R t : Nat) : Prop := R < 6 ∧ t < 5 ∧ nb (σ 3 t) 6 ∧ nb (σ 4 t) 10 ∧ TW (σ (25 + R)) (σ (31 + R))
def XBs (σ : Hp) (N : Int32) (R t : Nat) (u : Hp) (q : Int32 × Int32) : Prop := XB (σ 1 0) (σ 1 2) N R (σ 3 t).toNatClampNeg (nI t) (σ 4 t) (σ (25 + R)) (σ (31 + R)) u q
def MBs (σ : Hp) (N : Int32) (R t : Nat) (u : Hp) (q : Int32 × Int32) : Prop := MB (σ 1 0) (σ 1 2) N R (σ 3 t).toNatClampNeg t (σ 4 t) (σ (25 + R)) (σ (31 + R)) u q
theorem nb_cl {v : Int32} {N : Nat} (h : nb v N) (hN : N < 2 ^ 31) : v.toNatClampNeg < N := by
  obtain ⟨k, hk, rfl⟩ := h
  rw [nI_clamp (by omega)]; exact hk
theorem nb_eq {v : Int32} {N : Nat} (h : nb v N) (hN : N < 2 ^ 31) : nI v.toNatClampNeg = v := by
  obtain ⟨k, hk, rfl⟩ := h
  rw [nI_clamp (by omega)]
theorem GI_ok {σ : Hp} {N : Int32} {R t : Nat} {n : Int32} {q : Int32 × Int32} (ok : OKt σ R t) (hq : okq q) : okq (GI σ N R t n q) := GS_ok (nb_cl ok.2.2.1 (by decide)) hq
theorem OB_ok {σ : Hp} {N : Int32} {R t : Nat} {q : Int32 × Int32} (ok : OKt σ R t) (hq : okq q) : ∀ k, okq (OB σ N R t q k)
  | 0 => hq
  | k + 1 => GI_ok ok (OB_ok ok hq k)
theorem OT_ok {σ : Hp} {N : Int32} {R t : Nat} {a : Int32} {q : Int32 × Int32} (ok : OKt σ R t) (hq : okq q) : ∀ k, okq (OT σ N R t a q k)
  | 0 => hq
  | k + 1 => by
    refine GI_ok ok ?_
    have h := OT_ok (N := N) (a := a) ok hq k
    show okq (if nI k = a then ((OT σ N R t a q k).1, trn (OT σ N R t a q k).2) else OT σ N R t a q k)
    by_cases hk : nI k = a
    · rw [if_pos hk]; exact ⟨h.1, trn_nb h.2⟩
    · rw [if_neg hk]; exact h
theorem nI_nm1 {k : Nat} (h : k < 2 ^ 31) : ¬ nI k = -1 := by
  intro q
  have := congrArg Int32.toInt q
  rw [nI_toInt h, show (-1 : Int32).toInt = -1 by decide] at this
  omega
theorem OT_OB {σ : Hp} {N : Int32} {R t : Nat} {q : Int32 × Int32} {k : Nat} (hk : k ≤ 1000) : OT σ N R t (-1) q k = OB σ N R t q k := by
  unfold OT OB
  refine orb_cg (n := 1000) (fun j hj q => ?_) k hk
  show GI σ N R t (σ 1 3 + nI j) (if nI j = -1 then (q.1, trn q.2) else q) = GI σ N R t (σ 1 3 + nI j) q
  rw [if_neg (nI_nm1 (by omega))]
theorem x_passAllL {K : Hp → Prop} {σ : Hp} {N : Int32} {R t n : Nat} {q : Int32 × Int32} (ok : OKt σ R t) (hq : okq q) (hn : n < 2 ^ 31) : ∀ (m i : Nat) (u : Hp), i + m = n → XBs σ N R t u (OB σ N R t q i) → (∀ u', agr PSx u u' → XBs σ N R t u' (OB σ N R t q n) → K u') → VX1_passAll_L2 K (m + 1) u (σ 1 3) (nI n) (nI i) := by
  intro m
  induction m with
  | zero =>
    intro i u h hX hK
    rw [VX1_passAll_L2, if_pos (nI_le (by omega) (by omega))]
    obtain rfl : i = n := h
    exact hK u agr.rf hX
  | succ m ih =>
    intro i u h hX hK
    rw [VX1_passAll_L2, if_neg (nI_ge (by omega) (by omega))]
    refine x_pass ok.1 (nb_cl ok.2.2.1 (by decide)) ok.2.2.2.1 ok.2.2.2.2 (OB_ok ok hq i) hX (fun u' ha hX' => ?_)
    intro x4 h4
    rw [h4, nI_1]
    exact ih (i + 1) u' (by omega) hX' (fun u'' ha' => hK u'' (ha.tr ha'))
theorem x_passAll {K : Hp → Prop} {σ : Hp} {N : Int32} {R t n : Nat} {q : Int32 × Int32} {u : Hp} (ok : OKt σ R t) (hq : okq q) (hn : n < 2 ^ 31) (hX : XBs σ N R t u q) (hK : ∀ u', agr PSx u u' → XBs σ N R t u' (OB σ N R t q n) → K u') : VX1_passAll K u (σ 1 3) (nI n) :=
  ⟨n + 1, x_passAllL ok hq hn n 0 u (Nat.zero_add _) hX hK⟩
theorem m_goesL {K : Hp → Prop} {σ : Hp} {N : Int32} {R t n : Nat} {q : Int32 × Int32} (ok : OKt σ R t) (hq : okq q) (hn : n < 2 ^ 31) : ∀ (m i : Nat) (u : Hp), i + m = n → u 0 1 = σ 1 3 → MBs σ N R t u (OB σ N R t q i) → (∀ u', agr PSm u u' → MBs σ N R t u' (OB σ N R t q n) → K u') → VX12_goesBehind_L2 K (m + 1) u (nI t) (nI n) (nI i) := by
  intro m
  induction m with
  | zero =>
    intro i u h h1 hX hK
    rw [VX12_goesBehind_L2, if_pos (nI_le (by omega) (by omega))]
    obtain rfl : i = n := h
    exact hK u agr.rf hX
  | succ m ih =>
    intro i u h h1 hX hK
    rw [VX12_goesBehind_L2, if_neg (nI_ge (by omega) (by omega)), h1]
    refine m_steps ok.1 ok.2.1 (nb_cl ok.2.2.1 (by decide)) ok.2.2.2.1 ok.2.2.2.2 (OB_ok ok hq i) hX (fun u' ha hX' => ?_)
    intro x4 h4
    rw [h4, nI_1]
    exact ih (i + 1) u' (by omega) (by rw [ha 0 1 (by decide)]; exact h1) hX' (fun u'' ha' => hK u'' (ha.tr ha'))
theorem m_goes {K : Hp → Prop} {σ : Hp} {N : Int32} {R t n : Nat} {q : Int32 × Int32} {u : Hp} (ok : OKt σ R t) (hq : okq q) (hn : n < 2 ^ 31) (h1 : u 0 1 = σ 1 3) (hX : MBs σ N R t u q) (hK : ∀ u', agr PSm u u' → MBs σ N R t u' (OB σ N R t q n) → K u') : VX12_goesBehind K u (nI t) (nI n) :=
  ⟨n + 1, m_goesL ok hq hn n 0 u (Nat.zero_add _) h1 hX hK⟩
abbrev PFx (k i : Nat) : Prop := k ≠ 37 ∧ k ≠ 50 ∧ ¬ (k = 49 ∧ (i = 6 ∨ i = 7))
theorem x_followL {K : Hp → Prop} {σ : Hp} {N : Int32} {R t : Nat} {a : Int32} {q : Int32 × Int32} (ok : OKt σ R t) (hq : okq q) : ∀ (m i : Nat) (u : Hp), i + m = 41 → u 1 3 = σ 1 3 → XBs σ N R t u (OT σ N R t a q i) → (∀ k, k < i → u 50 k = (OT σ N R t a q k).1) → (∀ u', agr PFx u u' → (∀ k, k ≤ 40 → u' 50 k = (OT σ N R t a q k).1) → XBs σ N R t u' (OT σ N R t a q 41) → K u') → VX11_followTurned_L2 K 49 (m + 1) u a (nI i) := by
  intro m
  induction m with
  | zero =>
    intro i u h h1 hX hP hK
    obtain rfl : i = 41 := h
    rw [VX11_followTurned_L2, if_pos (show (40 : Int32) < nI 41 by decide)]
    exact hK u agr.rf (fun k hk => hP k (by omega)) hX
  | succ m ih =>
    intro i u h h1 hX hP hK
    rw [VX11_followTurned_L2, if_neg (show ¬ (40 : Int32) < nI i from nI_nlt (a := 40) (by omega) (by omega))]
    refine ⟨vp_in_nI (by omega) (by decide), fun u2 h2 => ?_⟩
    rw [nI_clamp (by omega)] at h2
    have hc : u 49 6 = (OT σ N R t a q i).1 := hX.2.2.2.2.2.2.2.2.2.1
    have hw : u 49 7 = (OT σ N R t a q i).2 := hX.2.2.2.2.2.2.2.2.2.2
    have n2 : ∀ k', k' ≠ 50 → u2 k' = u k' := fun k' hk' => by rw [h2, hup_row hk']
    have hX2 : XBs σ N R t u2 (OT σ N R t a q i) := by
      unfold XBs XB
      rw [n2 1 (by decide), n2 49 (by decide), n2 (25 + R) (by have := ok.1; omega), n2 (31 + R) (by have := ok.1; omega)]
      exact hX
    have hP2 : ∀ k, k < i + 1 → u2 50 k = (OT σ N R t a q k).1 := fun k hk => by
      rw [h2]
      by_cases hki : k = i
      · rw [hki, hup_self]; exact hc
      · rw [hup_col hki]; exact hP k (by omega)
    have a2 : agr PFx u u2 := by rw [h2]; exact agr.up agr.rf (fun p => p.2.1 rfl)
    have go : ∀ (u3 : Hp) (q' : Int32 × Int32), agr PFx u u3 → okq q' → (∀ k, k < i + 1 → u3 50 k = (OT σ N R t a q k).1) → u3 1 3 = σ 1 3 → XBs σ N R t u3 q' → GI σ N R t (σ 1 3 + nI i) q' = OT σ N R t a q (i + 1) → VX11_followTurned_b34 K (VX11_followTurned_L2 K 49 (m + 1)) 49 u3 a (nI i) := fun u3 q' a3 hq' hP3 h13 hX3 hG => by
      unfold VX11_followTurned_b34
      rw [h13]
      refine x_pass ok.1 (nb_cl ok.2.2.1 (by decide)) ok.2.2.2.1 ok.2.2.2.2 hq' hX3 (fun u4 a4 hX4 => ?_)
      intro x9 h9
      rw [h9, nI_1]
      have hX4' : XBs σ N R t u4 (GI σ N R t (σ 1 3 + nI i) q') := hX4
      rw [hG] at hX4'
      refine ih (i + 1) u4 (by omega) (by rw [a4 1 3 (by decide)]; exact h13) hX4' (fun k hk => by rw [a4 50 k (by omega)]; exact hP3 k hk) (fun u' a' => hK u' ((a3.tr (a4.sub fun k i h => by omega)).tr a'))
    have h13 : u2 1 3 = σ 1 3 := by rw [n2 1 (by decide)]; exact h1
    have hok := OT_ok (N := N) (a := a) ok hq i
    have hstep : OT σ N R t a q (i + 1) = GI σ N R t (σ 1 3 + nI i) (if nI i = a then ((OT σ N R t a q i).1, trn (OT σ N R t a q i).2) else OT σ N R t a q i) := rfl
    by_cases hia : nI i = a
    · rw [if_pos hia, n2 49 (by decide), hw, eX_turned]
      intro u6 h6
      rw [if_pos hia] at hstep
      have a6 : agr PFx u u6 := by rw [h6]; exact agr.up a2 (fun p => p.2.2 ⟨rfl, Or.inr rfl⟩)
      refine go u6 ((OT σ N R t a q i).1, trn (OT σ N R t a q i).2) a6 ⟨hok.1, trn_nb hok.2⟩ (fun k hk => by rw [h6, hup_row (by decide)]; exact hP2 k hk) (by rw [h6, hup_row (by decide)]; exact h13) ?_ hstep.symm
      have : agr PSx u2 u6 := by rw [h6]; exact agr.up agr.rf (fun p => p.2 ⟨rfl, Or.inr rfl⟩)
      exact XB_49 hX2 ok.1 this (by rw [h6, hup_col (by decide), n2 49 (by decide)]; exact hc) (by rw [h6]; exact hup_self)
    · rw [if_neg hia]
      rw [if_neg hia] at hstep
      exact go u2 _ a2 hok hP2 h13 hX2 hstep.symm
theorem x_followT {K : Hp → Prop} {σ : Hp} {N : Int32} {R t : Nat} {a : Int32} {q : Int32 × Int32} {u : Hp} (ok : OKt σ R t) (hq : okq q) (h1 : u 1 3 = σ 1 3) (hX : XBs σ N R t u q) (hK : ∀ u', agr PFx u u' → (∀ k, k ≤ 40 → u' 50 k = (OT σ N R t a q k).1) → XBs σ N R t u' (OT σ N R t a q 41) → K u') : VX11_followTurned K u 49 a :=
  ⟨⟨by decide, by decide⟩, 42, x_followL ok hq 41 0 u rfl h1 hX (fun k hk => absurd hk (Nat.not_lt_zero k)) hK⟩
theorem x_follow {K : Hp → Prop} {σ : Hp} {N : Int32} {R t : Nat} {q : Int32 × Int32} {u : Hp} (ok : OKt σ R t) (hq : okq q) (h1 : u 1 3 = σ 1 3) (hX : XBs σ N R t u q) (hK : ∀ u', agr PFx u u' → (∀ k, k ≤ 40 → u' 50 k = (OB σ N R t q k).1) → XBs σ N R t u' (OB σ N R t q 41) → K u') : VX11_follow K u 49 :=
  ⟨⟨by decide, by decide⟩, x_followT ok hq h1 hX (fun u' a hp hx => hK u' a (fun k hk => by rw [hp k hk, OT_OB (by omega)]) (by rw [← OT_OB (by decide)]; exact hx))⟩
/-! the machine begins to think of t -/
abbrev N49 (k _ : Nat) : Prop := k ≠ 49
theorem x_lift {K : Nat → Hp → Prop} {σ τ u : Hp} {X L T t : Nat} (hA : IA σ τ X L) (hT : IT σ τ T) (ht : t < T) (ha : agr EX σ u) (hK : ∀ u', agr N49 u u' → XBs σ (σ 1 1) L t u' (u 5 t, u 6 t) → K 49 u') : VX11_lift K u (nI t) := by
  obtain ⟨h1, h2, h3, h4, h5, h6, h7, h8, h9, h10, h11⟩ := hA
  obtain ⟨t1, t2, t3, t4⟩ := hT
  obtain ⟨k1, k2, k3, k4, k5, k6, k7, k8⟩ := t4 t ht
  unfold VX11_lift VX11_law
  rw [ha 1 4 (by decide), h6, nI_clamp (by omega), nI_clamp (by omega)]
  refine ⟨vp_in_nI (by omega) (by decide), fun v1 hv1 => ⟨by omega, fun u3 e3 u4 e4 u5 e5 => ?_⟩⟩
  have hv : vp_in (nI t) 5 := vp_in_nI (by omega) (by decide)
  have n5 : ∀ k, k ≠ 49 → u5 k = u k := fun k hk => by rw [e5, hup_row hk, e4, hup_row hk, e3, hup_row hk]
  have e3k : u5 3 t = σ 3 t := by rw [n5 3 (by decide), ha 3 t (by omega)]
  refine ⟨hv, by rw [e3k]; exact vp_nb k1 (by decide), fun x6 e6 u7 e7 => ⟨hv, fun u8 e8 => ⟨hv, fun u9 e9 => ⟨hv, fun u10 e10 => ?_⟩⟩⟩⟩
  have n10 : ∀ k, k ≠ 49 → u10 k = u k := fun k hk => by rw [e10, hup_row hk, e9, hup_row hk, e8, hup_row hk, e7, hup_row hk, n5 k hk]
  have m7 : u7 4 t = σ 4 t := by rw [e7, hup_row (by decide), n5 4 (by decide), ha 4 t (by omega)]
  have m8 : u8 5 t = u 5 t := by rw [e8, hup_row (by decide), e7, hup_row (by decide), n5 5 (by decide)]
  have m9 : u9 6 t = u 6 t := by rw [e9, hup_row (by decide), e8, hup_row (by decide), e7, hup_row (by decide), n5 6 (by decide)]
  have m3 : u3 1 1 = σ 1 1 := by rw [e3, hup_row (by decide), ha 1 1 (by decide)]
  rw [e3k] at e6
  rw [m7] at e8
  rw [m8] at e9
  rw [m9] at e10
  rw [m3] at e4
  refine hK u10 (fun k i hk => by rw [n10 k hk]) ?_
  unfold XBs XB
  rw [n10 1 (by decide), n10 (25 + L) (by omega), n10 (31 + L) (by omega), ha 1 0 (by decide), ha 1 2 (by decide), ha.row (k := 25 + L) (fun i => by omega), ha.row (k := 31 + L) (fun i => by omega)]
  refine ⟨rfl, rfl, rfl, rfl, ?_, ?_, ?_, ?_, ?_, ?_, ?_⟩
  all_goals rw [e10]; simp only [hup_ap, if_true, e9, e8, e7, e5, e4, e3, e6, hv1]
  all_goals simp
  all_goals rfl
theorem x_okt {σ τ : Hp} {X L T t R : Nat} (hA : IA σ τ X L) (hT : IT σ τ T) (hC : IC σ τ X) (ht : t < T) (hR : R < X) : OKt σ R t ∧ okq (σ 5 t, σ 6 t) := by
  obtain ⟨h1, h2, h3, h4, h5, h6, h7, h8, h9, h10, h11⟩ := hA
  obtain ⟨t1, t2, t3, t4⟩ := hT
  obtain ⟨k1, k2, k3, k4, k5, k6, k7, k8⟩ := t4 t ht
  exact ⟨⟨by omega, by omega, k1, k2, (hC R hR).1⟩, k3, k4⟩
abbrev N032 (k i : Nat) : Prop := ¬ (k = 0 ∧ (i = 32 ∨ i = 33))
theorem m_mbs {σ τ u : Hp} {X L T t R : Nat} {N : Int32} {q : Int32 × Int32} (hA : IA σ τ X L) (hT : IT σ τ T) (hC : IC σ τ X) (ht : t < T) (hR : R < X) (ha : agr EM τ u) (hN : u 1 1 = N) (hr : u 0 12 = nI R) (h32 : u 0 32 = q.1) (h33 : u 0 33 = q.2) : MBs σ N R t u q := by
  obtain ⟨h1, h2, h3, h4, h5, h6, h7, h8, h9, h10, h11⟩ := hA
  obtain ⟨t1, t2, t3, t4⟩ := hT
  obtain ⟨k1, k2, k3, k4, k5, k6, k7, k8⟩ := t4 t ht
  obtain ⟨c1, c2, c3⟩ := hC R hR
  refine ⟨?_, ?_, hN, hr, ?_, ?_, fun p hp => ?_, fun k hk => ?_, h32, h33⟩
  · rw [ha 1 0 (by decide)]; exact h1
  · rw [ha 1 2 (by decide)]; exact h3
  · rw [ha 2 t (by omega), k5]; exact (nb_eq k1 (by decide)).symm
  · rw [ha 3 t (by omega)]; exact k6
  · rw [ha 8 _ (by omega)]; exact c2 p hp
  · rw [ha 7 _ (by omega)]; exact c3 k hk
theorem m_begins {K : Hp → Prop} {σ τ u : Hp} {X L T t R : Nat} {N : Int32} (hA : IA σ τ X L) (hT : IT σ τ T) (hC : IC σ τ X) (ht : t < T) (hR : R < X) (ha : agr EM τ u) (hN : u 1 1 = N) (hr : u 0 12 = nI R) (hK : ∀ u', agr N032 u u' → MBs σ N R t u' (u 4 t, u 5 t) → K u') : VX12_begins K u (nI t) := by
  have t5 : t < 5 := Nat.lt_of_lt_of_le ht hT.1
  unfold VX12_begins
  rw [nI_clamp (by omega)]
  have hv : vp_in (nI t) 5 := vp_in_nI t5 (by decide)
  refine ⟨hv, fun u1 e1 => ⟨hv, fun u2 e2 => ?_⟩⟩
  have m5 : u1 5 t = u 5 t := by rw [e1, hup_row (by decide)]
  rw [m5] at e2
  have a2 : agr N032 u u2 := by
    rw [e2, e1]
    exact agr.up (agr.up agr.rf (fun p => p ⟨rfl, Or.inl rfl⟩)) (fun p => p ⟨rfl, Or.inr rfl⟩)
  refine hK u2 a2 (m_mbs hA hT hC ht hR (ha.tr (a2.sub fun k i h => by omega)) ?_ ?_ ?_ ?_)
  · rw [a2 1 1 (by decide)]; exact hN
  · rw [a2 0 12 (by decide)]; exact hr
  · rw [e2, hup_col (by decide), e1]; exact hup_self
  · rw [e2]; exact hup_self
