/-! ===== what a text says: both sides ===== -/
theorem i32m1 {a : Nat} : nI (a + 1) + (-1) = nI a := pk_m1 a
theorem x_saysL {K : Int32 → Hp → Prop} {R p e : Nat} {c n th mo : Int32} {r : Nat → Int32} (hR : R < 6) (hp : p < 3) (he : e ≤ 160) : ∀ (m i : Nat) (s : List Int32) (u : Hp), i + m = e → u (31 + R) (p + 1) = nI e → u (25 + R) = r → stk (u 37) s → s.length ≤ i → dok r i m s.length → (∀ u', agr P37 u u' → K (clm (mst p) ((ev r c n th mo i m s).headD 0)) u') → VX9_says_L11 K (19 + R) (m + 1) u (nI p) c n th mo (nI s.length) (nI i) := by
  intro m
  induction m with
  | zero =>
    intro i s u hie h1 hr hs hl hd hK
    rw [VX9_says_L11]
    intro x3 hx3
    obtain rfl : x3 = 31 + R := by omega
    rw [nI_1, nI_clamp (by omega), h1]
    refine ⟨vp_in_nI (by omega) (by decide), ?_⟩
    rw [if_pos (nI_le (by omega) (by omega))]
    obtain ⟨a, rfl⟩ := List.length_eq_one_iff.mp (show s.length = 1 from hd)
    have h0 : u 37 0 = a := hs.1
    have hk := hK u agr.rf
    unfold VX9_says_b198
    rw [h0]
    rcases (show p = 0 ∨ p = 1 ∨ p = 2 by omega) with rfl | rfl | rfl
    · rw [if_pos (show nI 0 = 0 from rfl)]; exact hk
    · rw [if_neg (by decide), if_pos (show nI 1 = 1 from rfl)]; exact hk
    · rw [if_neg (by decide), if_neg (by decide)]; exact hk
  | succ m ih =>
    intro i s u hie h1 hr hs hl hd hK
    rw [VX9_says_L11]
    intro x3 hx3
    obtain rfl : x3 = 31 + R := by omega
    rw [nI_1, nI_clamp (by omega), h1]
    refine ⟨vp_in_nI (by omega) (by decide), ?_⟩
    rw [if_neg (nI_ge (by omega) (by omega))]
    intro x7 hx7
    obtain rfl : x7 = 25 + R := by omega
    refine ⟨vp_in_nI (by omega) (by decide), ?_⟩
    intro x8 hx8
    rw [nI_clamp (by omega), hr] at hx8
    have hd' : rg (r i) (-15) 9999 ∧ (if r i < -6 then (if r i < -8 then 2 ≤ s.length ∧ dok r (i + 1) m (s.length - 1) else 1 ≤ s.length ∧ dok r (i + 1) m s.length) else dok r (i + 1) m (s.length + 1)) := hd
    rw [← hx8] at hd'
    have hev : ev r c n th mo i (m + 1) s = ev r c n th mo (i + 1) m (evs x8 c n th mo s) := by rw [ev, hx8]
    rw [hev] at hK
    by_cases hx : x8 < -6
    · rw [if_pos hx] at hd' ⊢
      unfold VX9_says_b72
      by_cases h8 : x8 < -8
      · rw [if_pos h8] at hd' ⊢
        obtain ⟨-, h2, hd2⟩ := hd'
        obtain ⟨b, a, s', rfl⟩ : ∃ b a s', s = b :: a :: s' := match s, h2 with | b :: a :: s', _ => ⟨b, a, s', rfl⟩
        have hlen : (b :: a :: s').length = s'.length + 2 := rfl
        rw [hlen] at hl hd2 ⊢
        have hE : evs x8 c n th mo (b :: a :: s') = joinv x8 a b :: s' := by simp only [evs, if_pos hx, if_pos h8]
        rw [hE] at hK
        have ea : u 37 s'.length = a := hs.2.1
        have eb : u 37 (s'.length + 1) = b := hs.1
        unfold VX9_says_b133
        rw [if_neg (show ¬ nI (s'.length + 2) ≤ 1 from nI_ge (a := 1) (by omega) (by omega))]
        intro x28 hx28
        obtain rfl : x28 = nI (s'.length + 1) := by rw [hx28]; exact pk_m1 _
        rw [nI_pred, eX_joined, nI_clamp (by omega), nI_clamp (by omega), ea, eb]
        refine ⟨vp_in_nI (by omega) (by decide), vp_in_nI (by omega) (by decide), vp_in_nI (by omega) (by decide), ?_⟩
        intro u31 hu31 x32 hx32
        subst hx32 hu31
        rw [nI_1]
        exact ih (i + 1) (joinv x8 a b :: s') _ (by omega) (by rw [hup_row (by omega)]; exact h1) (by rw [hup_row (by omega)]; exact hr) ⟨hup_self, by unfold hup hset; rw [if_pos rfl]; exact stk_up (Nat.le_refl _) hs.2.2⟩ (by simp only [List.length_cons]; omega) hd2 (fun u' hu' => hK u' (agr.tr (agr.up agr.rf (fun q => q rfl)) hu'))
      · rw [if_neg h8] at hd' ⊢
        obtain ⟨-, h2, hd2⟩ := hd'
        obtain ⟨a, s', rfl⟩ : ∃ a s', s = a :: s' := match s, h2 with | a :: s', _ => ⟨a, s', rfl⟩
        have hlen : (a :: s').length = s'.length + 1 := rfl
        rw [hlen] at hl hd2 ⊢
        have hE : evs x8 c n th mo (a :: s') = (if x8 = -8 then -a else if a = 0 then 1 else 0) :: s' := by simp only [evs, if_pos hx, if_neg h8]
        rw [hE] at hK
        have ea : u 37 s'.length = a := hs.1
        rw [if_neg (show ¬ nI (s'.length + 1) ≤ 0 from nI_ge (a := 0) (by omega) (by omega)), nI_pred, nI_clamp (by omega), ea]
        have hv : vp_in (nI s'.length) 160 := vp_in_nI (by omega) (by decide)
        have go : ∀ v : Int32, v = (if x8 = -8 then -a else if a = 0 then 1 else 0) → VX9_says_L11 K (19 + R) (m + 1) (hup u 37 s'.length v) (nI p) c n th mo (nI (s'.length + 1)) (nI (i + 1)) := fun v hv' => by
          rw [← hv'] at hK
          exact ih (i + 1) (v :: s') _ (by omega) (by rw [hup_row (by omega)]; exact h1) (by rw [hup_row (by omega)]; exact hr) ⟨hup_self, by unfold hup hset; rw [if_pos rfl]; exact stk_up (Nat.le_refl _) hs.2⟩ (by simp only [List.length_cons]; omega) hd2 (fun u' hu' => hK u' (agr.tr (agr.up agr.rf (fun q => q rfl)) hu'))
        by_cases h9 : x8 = -8
        · rw [if_pos h9]
          refine ⟨hv, hv, fun u24 h24 x25 h25 => ?_⟩
          subst h24 h25
          rw [nI_1]
          exact go _ (by rw [if_pos h9])
        · rw [if_neg h9]
          refine ⟨hv, ?_⟩
          by_cases h0 : a = 0
          · rw [if_pos h0]
            refine ⟨hv, fun u24 h24 x25 h25 => ?_⟩
            subst h24 h25
            rw [nI_1]
            exact go _ (by rw [if_neg h9, if_pos h0])
          · rw [if_neg h0]
            refine ⟨hv, fun u24 h24 x25 h25 => ?_⟩
            subst h24 h25
            rw [nI_1]
            exact go _ (by rw [if_neg h9, if_neg h0])
    · rw [if_neg hx] at hd' ⊢
      rw [if_neg (show ¬ 160 ≤ nI s.length from nI_ge (b := 160) (by omega) (by omega)), eX_leaf]
      refine ⟨vp_in_nI (by omega) (by decide), fun u13 h13 x14 h14 x15 h15 => ?_⟩
      have hE : evs x8 c n th mo s = leafv x8 c n th mo :: s := by simp only [evs, if_neg hx]
      rw [hE] at hK
      subst h13 h14 h15
      rw [nI_1, nI_1, nI_clamp (by omega)]
      exact ih (i + 1) (leafv x8 c n th mo :: s) _ (by omega) (by rw [hup_row (by omega)]; exact h1) (by rw [hup_row (by omega)]; exact hr) ⟨hup_self, by unfold hup hset; rw [if_pos rfl]; exact stk_up (Nat.le_refl _) hs⟩ (by simp only [List.length_cons]; omega) hd'.2 (fun u' hu' => hK u' (agr.tr (agr.up agr.rf (fun q => q rfl)) hu'))
theorem x_says {K : Int32 → Hp → Prop} {R p : Nat} {c n th mo : Int32} {u : Hp} (hR : R < 6) (hp : p < 3) (hT : TW (u (25 + R)) (u (31 + R))) (hK : ∀ u', agr P37 u u' → K (sayR (u (25 + R)) (u (31 + R)) p c n th mo) u') : VX9_says K u (19 + R) (nI p) c n th mo := by
  obtain ⟨e, h1, h2, h3, h4, h5⟩ := hT
  have a1 : e p ≤ e (p + 1) := h4 p hp
  have a2 : e (p + 1) ≤ 160 := by
    rcases (show p = 0 ∨ p = 1 ∨ p = 2 by omega) with rfl | rfl | rfl
    · have q1 : e 1 ≤ e 2 := h4 1 (by omega)
      have q2 : e 2 ≤ e 3 := h4 2 (by omega)
      show e 1 ≤ 160
      omega
    · have q2 : e 2 ≤ e 3 := h4 2 (by omega)
      show e 2 ≤ 160
      omega
    · exact h3
  unfold VX9_says
  refine ⟨⟨by omega, by omega⟩, fun x1 hx1 => ?_⟩
  obtain rfl : x1 = 31 + R := by omega
  refine ⟨vp_in_nI (by omega) (by decide), fun x2 hx2 => ⟨e (p + 1) - e p + 1, ?_⟩⟩
  rw [nI_clamp (by omega), h1 p (by omega)] at hx2
  subst hx2
  refine x_saysL hR hp a2 (e (p + 1) - e p) (e p) [] u (by omega) (h1 (p + 1) (by omega)) rfl trivial (Nat.zero_le _) (h5 p hp) (fun u' hu' => ?_)
  have := hK u' hu'
  unfold sayR at this
  rw [h1 p (by omega), h1 (p + 1) (by omega), nI_clamp (by omega), nI_clamp (by omega)] at this
  exact this
/-- a code of x as a code of m -/
def mcd (x : Int32) : Int32 := if x < -6 then (if x = -7 then 13 else if x = -8 then 19 else if x = -9 then 16 else if x = -10 then 17 else if x = -11 then 18 else if x = -12 then 14 else if x = -13 then 15 else if x = -14 then 12 else 11) else if x < 0 then -1 - x else 100000 + x
theorem mneg {P : Int32 → Prop} (h : ∀ k, k < 15 → P (-nI (k + 1))) {x : Int32} (h1 : -15 ≤ x) (h2 : x < 0) : P x := by
  have e1 : (-15 : Int32).toInt = -15 := by decide
  have e2 : (0 : Int32).toInt = 0 := by decide
  rw [Int32.le_iff_toInt_le, e1] at h1
  rw [Int32.lt_iff_toInt_lt, e2] at h2
  have : x = -nI ((-x.toInt - 1).toNat + 1) := by
    apply Int32.toInt_inj.mp
    rw [sb_negT (by omega)]
    omega
  rw [this]
  exact h _ (by omega)
/-- the names' values, as m keeps them -/
def nam (u : Hp) (c n th mo : Int32) : Prop := u 17 0 = c ∧ u 17 1 = jrem c 6 ∧ u 17 2 = c / 6 ∧ u 17 3 = n ∧ u 17 4 = th ∧ u 17 5 = mo
theorem mc_un : ∀ k, k < 15 → ¬ (-nI (k + 1)) < -6 → (0 : Int32) ≤ mcd (-nI (k + 1)) ∧ ¬ (100000 : Int32) ≤ mcd (-nI (k + 1)) ∧ ¬ (11 : Int32) ≤ mcd (-nI (k + 1)) ∧ (mcd (-nI (k + 1))).toNatClampNeg < 6 := by decide +kernel
theorem mc_o1 : ∀ k, k < 15 → (-nI (k + 1)) < (-6 : Int32) → ¬ (100000 : Int32) ≤ mcd (-nI (k + 1)) ∧ (11 : Int32) ≤ mcd (-nI (k + 1)) ∧ (mcd (-nI (k + 1)) = 13 ↔ -nI (k + 1) = (-7 : Int32)) ∧ (mcd (-nI (k + 1)) = 19 ↔ -nI (k + 1) = (-8 : Int32)) := by decide +kernel
theorem mc_o2 : ∀ k, k < 15 → (-nI (k + 1) < (-8 : Int32) → mcd (-nI (k + 1)) = 16 ∧ -nI (k + 1) = (-9 : Int32) ∨ mcd (-nI (k + 1)) = 17 ∧ -nI (k + 1) = (-10 : Int32) ∨ mcd (-nI (k + 1)) = 18 ∧ -nI (k + 1) = (-11 : Int32) ∨ mcd (-nI (k + 1)) = 14 ∧ -nI (k + 1) = (-12 : Int32) ∨ mcd (-nI (k + 1)) = 15 ∧ -nI (k + 1) = (-13 : Int32) ∨ mcd (-nI (k + 1)) = 12 ∧ -nI (k + 1) = (-14 : Int32) ∨ mcd (-nI (k + 1)) = 11 ∧ -nI (k + 1) = (-15 : Int32)) := by decide +kernel
theorem mc_o3 : ∀ k, k < 15 → (-nI (k + 1)) < (-6 : Int32) → (¬ -nI (k + 1) < (-8 : Int32) → -nI (k + 1) = (-8 : Int32) ∨ -nI (k + 1) = (-7 : Int32)) := by decide +kernel
theorem mc_nm : ∀ k, k < 15 → ¬ (-nI (k + 1)) < -6 → mcd (-nI (k + 1)) = 0 ∧ -nI (k + 1) = (-1 : Int32) ∨ mcd (-nI (k + 1)) = 1 ∧ -nI (k + 1) = (-2 : Int32) ∨ mcd (-nI (k + 1)) = 2 ∧ -nI (k + 1) = (-3 : Int32) ∨ mcd (-nI (k + 1)) = 3 ∧ -nI (k + 1) = (-4 : Int32) ∨ mcd (-nI (k + 1)) = 4 ∧ -nI (k + 1) = (-5 : Int32) ∨ mcd (-nI (k + 1)) = 5 ∧ -nI (k + 1) = (-6 : Int32) := by decide +kernel
theorem eM_two {K : Int32 → Hp → Prop} {σ : Hp} {x y a b : Int32} (h : y = 16 ∧ x = -9 ∨ y = 17 ∧ x = -10 ∨ y = 18 ∧ x = -11 ∨ y = 14 ∧ x = -12 ∨ y = 15 ∧ x = -13 ∨ y = 12 ∧ x = -14 ∨ y = 11 ∧ x = -15) : VX12_two K σ y a b = K (joinv x a b) σ := by
  rcases h with ⟨rfl, rfl⟩ | ⟨rfl, rfl⟩ | ⟨rfl, rfl⟩ | ⟨rfl, rfl⟩ | ⟨rfl, rfl⟩ | ⟨rfl, rfl⟩ | ⟨rfl, rfl⟩
  all_goals
    unfold VX12_two joinv
    simp
    try (repeat' split)
    all_goals rfl
abbrev P16 (k _ : Nat) : Prop := k ≠ 16
