theorem m_saysL {K : Int32 → Hp → Prop} {R p e : Nat} {c n th mo : Int32} {r : Nat → Int32} (hR : R < 6) (hp : p < 3) (he : e ≤ 160) : ∀ (m i : Nat) (s : List Int32) (u : Hp), i + m = e → u 0 12 = nI R → u 8 (4 * R + p + 1) = nI e → (∀ k, k < e → u 7 (200 * R + k) = mcd (r k)) → nam u c n th mo → stk (u 16) s → s.length ≤ i → dok r i m s.length → (∀ u', agr P16 u u' → K ((ev r c n th mo i m s).headD 0) u') → VX12_says_L16 K (m + 1) u (nI p) (nI s.length) (nI i) := by
  intro m
  induction m with
  | zero =>
    intro i s u hie h12 h1 hr hn hs hl hd hK
    rw [VX12_says_L16, h12, show (4 : Int32) * nI R = nI (4 * R) from pk_mul 4 R, nI_add, nI_1, nI_clamp (by omega), h1]
    refine ⟨vp_in_nI (by omega) (by decide), ?_⟩
    rw [if_pos (nI_le (by omega) (by omega))]
    obtain ⟨a, rfl⟩ := List.length_eq_one_iff.mp (show s.length = 1 from hd)
    have h0 : u 16 0 = a := hs.1
    have hk := hK u agr.rf
    rw [h0]
    exact hk
  | succ m ih =>
    intro i s u hie h12 h1 hr hn hs hl hd hK
    rw [VX12_says_L16, h12, show (4 : Int32) * nI R = nI (4 * R) from pk_mul 4 R, show (200 : Int32) * nI R = nI (200 * R) from pk_mul 200 R, nI_add, nI_add, nI_1, nI_clamp (by omega), nI_clamp (by omega), h1, hr i (by omega)]
    refine ⟨vp_in_nI (by omega) (by decide), ?_⟩
    rw [if_neg (nI_ge (by omega) (by omega))]
    refine ⟨vp_in_nI (by omega) (by decide), ?_⟩
    intro x3 hx3
    have hd' : rg (r i) (-15) 9999 ∧ (if r i < -6 then (if r i < -8 then 2 ≤ s.length ∧ dok r (i + 1) m (s.length - 1) else 1 ≤ s.length ∧ dok r (i + 1) m s.length) else dok r (i + 1) m (s.length + 1)) := hd
    have hev : ev r c n th mo i (m + 1) s = ev r c n th mo (i + 1) m (evs (r i) c n th mo s) := by rw [ev]
    rw [hev] at hK
    generalize r i = x8 at hx3 hd' hK
    have next : ∀ (v : Int32) (s' : List Int32), s'.length ≤ i → stk (u 16) s' → dok r (i + 1) m (s'.length + 1) → (∀ u', agr P16 u u' → K ((ev r c n th mo (i + 1) m (v :: s')).headD 0) u') → VX12_says_L16 K (m + 1) (hup u 16 s'.length v) (nI p) (nI (s'.length + 1)) (nI (i + 1)) := fun v s' hl' hs' hdd hKK => by
      have hne : ∀ k', k' ≠ 16 → (hup u 16 s'.length v) k' = u k' := fun k' hk' => hup_row hk'
      refine ih (i + 1) (v :: s') _ (by omega) (by rw [hne 0 (by decide)]; exact h12) (by rw [hne 8 (by decide)]; exact h1) (by rw [hne 7 (by decide)]; exact hr) ?_ ⟨hup_self, by unfold hup hset; rw [if_pos rfl]; exact stk_up (Nat.le_refl _) hs'⟩ (by simp only [List.length_cons]; omega) hdd (fun u' hu' => hKK u' (agr.tr (agr.up agr.rf (fun q => q rfl)) hu'))
      unfold nam
      rw [hne 17 (by decide)]
      exact hn
    by_cases hx : x8 < -6
    · rw [if_pos hx] at hd'
      obtain ⟨hrg, hd'⟩ := hd'
      have hz6 : x8 < 0 := Int32.lt_trans hx (by decide)
      obtain ⟨o1, o2, o3, o4⟩ := mneg (P := fun x => x < (-6 : Int32) → ¬ (100000 : Int32) ≤ mcd x ∧ (11 : Int32) ≤ mcd x ∧ (mcd x = 13 ↔ x = (-7 : Int32)) ∧ (mcd x = 19 ↔ x = (-8 : Int32))) mc_o1 hrg.1 hz6 hx
      have o5 := mneg (P := fun x => (x < (-8 : Int32) → mcd x = 16 ∧ x = (-9 : Int32) ∨ mcd x = 17 ∧ x = (-10 : Int32) ∨ mcd x = 18 ∧ x = (-11 : Int32) ∨ mcd x = 14 ∧ x = (-12 : Int32) ∨ mcd x = 15 ∧ x = (-13 : Int32) ∨ mcd x = 12 ∧ x = (-14 : Int32) ∨ mcd x = 11 ∧ x = (-15 : Int32))) mc_o2 hrg.1 hz6
      have o6 := mneg (P := fun x => x < (-6 : Int32) → (¬ x < (-8 : Int32) → x = (-8 : Int32) ∨ x = (-7 : Int32))) mc_o3 hrg.1 hz6 hx
      rw [← hx3] at o1 o2 o3 o4 o5
      rw [if_neg o1, if_pos o2]
      by_cases h8 : x8 < -8
      · rw [if_pos h8] at hd'
        obtain ⟨h2, hd2⟩ := hd'
        obtain ⟨b, a, s', rfl⟩ : ∃ b a s', s = b :: a :: s' := match s, h2 with | b :: a :: s', _ => ⟨b, a, s', rfl⟩
        have hlen : (b :: a :: s').length = s'.length + 2 := rfl
        rw [hlen] at hl hd2 ⊢
        have hE : evs x8 c n th mo (b :: a :: s') = joinv x8 a b :: s' := by simp only [evs, if_pos hx, if_pos h8]
        rw [hE] at hK
        have ea : u 16 s'.length = a := hs.2.1
        have eb : u 16 (s'.length + 1) = b := hs.1
        rw [if_neg (fun q => absurd (o3.mp q ▸ h8) (by decide)), if_neg (fun q => absurd (o4.mp q ▸ h8) (by decide))]
        intro y8 hy8
        obtain rfl : y8 = nI (s'.length + 1) := by rw [hy8]; exact pk_m1 _
        rw [nI_pred, nI_clamp (by omega), nI_clamp (by omega), ea, eb, eM_two (o5 h8)]
        refine ⟨vp_in_nI (by omega) (by decide), vp_in_nI (by omega) (by decide), vp_in_nI (by omega) (by decide), ?_⟩
        intro u11 hu11 x12 hx12
        subst hx12 hu11
        rw [nI_1]
        exact next _ s' (by omega) hs.2.2 hd2 hK
      · rw [if_neg h8] at hd'
        obtain ⟨h2, hd2⟩ := hd'
        obtain ⟨a, s', rfl⟩ : ∃ a s', s = a :: s' := match s, h2 with | a :: s', _ => ⟨a, s', rfl⟩
        have hlen : (a :: s').length = s'.length + 1 := rfl
        rw [hlen] at hl hd2 ⊢
        have hE : evs x8 c n th mo (a :: s') = (if x8 = -8 then -a else if a = 0 then 1 else 0) :: s' := by simp only [evs, if_pos hx, if_neg h8]
        rw [hE] at hK
        have ea : u 16 s'.length = a := hs.1
        have hv : vp_in (nI s'.length) 200 := vp_in_nI (by omega) (by decide)
        rw [nI_pred, nI_clamp (by omega), ea]
        rcases o6 h8 with h9 | h9
        · rw [if_neg (fun q => absurd ((o3.mp q).symm.trans h9) (by decide)), if_pos (o4.mpr h9)]
          rw [if_pos h9] at hK
          refine ⟨hv, hv, fun u24 h24 x25 h25 => ?_⟩
          subst h24 h25
          rw [nI_1]
          exact next _ s' (by omega) hs.2 hd2 hK
        · rw [if_pos (o3.mpr h9)]
          rw [if_neg (fun q => absurd (q.symm.trans h9) (by decide))] at hK
          refine ⟨hv, ?_⟩
          by_cases h0 : a = 0
          · rw [if_pos h0] at hK ⊢
            refine ⟨hv, fun u24 h24 x25 h25 => ?_⟩
            subst h24 h25
            rw [nI_1]
            exact next _ s' (by omega) hs.2 hd2 hK
          · rw [if_neg h0] at hK ⊢
            refine ⟨hv, fun u24 h24 x25 h25 => ?_⟩
            subst h24 h25
            rw [nI_1]
            exact next _ s' (by omega) hs.2 hd2 hK
    · rw [if_neg hx] at hd'
      obtain ⟨hrg, hd2⟩ := hd'
      have hE : evs x8 c n th mo s = leafv x8 c n th mo :: s := by simp only [evs, if_neg hx]
      rw [hE] at hK
      have hv : vp_in (nI s.length) 200 := vp_in_nI (by omega) (by decide)
      by_cases h0 : x8 < 0
      · have hnm := mneg (P := fun x => ¬ x < (-6 : Int32) → mcd x = 0 ∧ x = (-1 : Int32) ∨ mcd x = 1 ∧ x = (-2 : Int32) ∨ mcd x = 2 ∧ x = (-3 : Int32) ∨ mcd x = 3 ∧ x = (-4 : Int32) ∨ mcd x = 4 ∧ x = (-5 : Int32) ∨ mcd x = 5 ∧ x = (-6 : Int32)) mc_nm hrg.1 h0 hx
        rw [← hx3] at hnm
        have fin : ¬ (100000 : Int32) ≤ x3 ∧ ¬ (11 : Int32) ≤ x3 ∧ vp_in x3 6 ∧ u 17 x3.toNatClampNeg = leafv x8 c n th mo := by
          obtain ⟨n0, n1, n2, n3, n4, n5⟩ := hn
          rcases hnm with ⟨ha, hb⟩ | ⟨ha, hb⟩ | ⟨ha, hb⟩ | ⟨ha, hb⟩ | ⟨ha, hb⟩ | ⟨ha, hb⟩
          · rw [ha, hb]; exact ⟨by decide, by decide, vp_in_nI (n := 0) (by decide) (by decide), n0⟩
          · rw [ha, hb]; exact ⟨by decide, by decide, vp_in_nI (n := 1) (by decide) (by decide), n1⟩
          · rw [ha, hb]; exact ⟨by decide, by decide, vp_in_nI (n := 2) (by decide) (by decide), n2⟩
          · rw [ha, hb]; exact ⟨by decide, by decide, vp_in_nI (n := 3) (by decide) (by decide), n3⟩
          · rw [ha, hb]; exact ⟨by decide, by decide, vp_in_nI (n := 4) (by decide) (by decide), n4⟩
          · rw [ha, hb]; exact ⟨by decide, by decide, vp_in_nI (n := 5) (by decide) (by decide), n5⟩
        obtain ⟨f1, f2, f3, f4⟩ := fin
        rw [if_neg f1, if_neg f2]
        unfold VX12_says_b66
        rw [if_neg f2, f4, nI_clamp (by omega)]
        refine ⟨f3, hv, fun u24 h24 x25 h25 x26 h26 => ?_⟩
        subst h24 h25 h26
        rw [nI_1, nI_1]
        exact next _ s hl hs hd2 hK
      · obtain ⟨v, hv9, rfl⟩ := rg_nI (a := x8) (N := 9999) (by decide) ⟨Int32.not_lt.mp h0, hrg.2⟩
        have hm : mcd (nI v) = nI (100000 + v) := by
          unfold mcd
          rw [if_neg hx, if_neg h0]
          exact nI_add 100000 v
        rw [hm] at hx3
        subst hx3
        rw [if_pos (show (100000 : Int32) ≤ nI (100000 + v) from nI_le (a := 100000) (by omega) (by omega))]
        unfold VX12_says_b66
        rw [if_pos (show (11 : Int32) ≤ nI (100000 + v) from nI_le (a := 11) (by omega) (by omega)), show nI (100000 + v) - 100000 = nI v from (pk_sub (a := 100000 + v) (b := 100000) (by omega)).trans (by rw [Nat.add_sub_cancel_left]), nI_clamp (by omega)]
        have hlf : leafv (nI v) c n th mo = nI v := by
          have hq : ∀ k, k < 6 → ¬ nI v = -nI (k + 1) := fun k hk q => by
            have := congrArg Int32.toInt q
            rw [nI_toInt (by omega), sb_negT (by omega)] at this
            omega
          unfold leafv
          rw [if_neg (show ¬ nI v = -6 from hq 5 (by omega)), if_neg (show ¬ nI v = -5 from hq 4 (by omega)), if_neg (show ¬ nI v = -4 from hq 3 (by omega)), if_neg (show ¬ nI v = -3 from hq 2 (by omega)), if_neg (show ¬ nI v = -2 from hq 1 (by omega)), if_neg (show ¬ nI v = -1 from hq 0 (by omega))]
        rw [hlf] at hK
        refine ⟨hv, fun u24 h24 x25 h25 x26 h26 => ?_⟩
        subst h24 h25 h26
        rw [nI_1, nI_1]
        exact next _ s hl hs hd2 hK
/-- text t is alike on both sides, and as it should be -/
def CT (σ τ : Hp) (t : Nat) : Prop := TW (σ (25 + t)) (σ (31 + t)) ∧ (∀ p, p ≤ 3 → τ 8 (4 * t + p) = σ (31 + t) p) ∧ ∀ k, k < (σ (31 + t) 3).toNatClampNeg → τ 7 (200 * t + k) = mcd (σ (25 + t) k)
abbrev P67 (k _ : Nat) : Prop := k ≠ 16 ∧ k ≠ 17
theorem eM_wi {K : Int32 → Hp → Prop} {σ : Hp} {v hi : Int32} (hh : (0 : Int32) < hi) : VX12_within K σ v 0 hi = K (clm hi v) σ := by
  have hz : (0 : Int32).toInt = 0 := by decide
  have h0 := Int32.lt_iff_toInt_lt.mp hh
  unfold VX12_within clm
  by_cases h1 : 0 ≤ v
  · rw [if_pos h1]
    by_cases h2 : v ≤ hi
    · rw [if_pos h2]
      have hm : (if v < hi then v else hi) = v := by
        by_cases h3 : v < hi
        · rw [if_pos h3]
        · rw [if_neg h3]; exact Int32.le_antisymm (Int32.not_lt.mp h3) h2
      rw [hm]
      by_cases h4 : 0 < v
      · rw [if_pos h4]
      · rw [if_neg h4, Int32.le_antisymm (Int32.not_lt.mp h4) h1]
    · rw [if_neg h2, if_neg (fun q => h2 (Int32.le_of_lt q)), if_pos hh]
  · rw [if_neg h1]
    have h3 : v < hi := Int32.lt_trans (Int32.not_le.mp h1) hh
    rw [if_pos h3, if_neg (fun q => h1 (Int32.le_of_lt q))]
theorem m_asksOf {K : Int32 → Hp → Prop} {R p : Nat} {c n th mo : Int32} {u : Hp} {r st : Nat → Int32} (hR : R < 6) (hp : p < 3) (h12 : u 0 12 = nI R) (hT : TW r st) (hst : ∀ p, p ≤ 3 → u 8 (4 * R + p) = st p) (hcd : ∀ k, k < (st 3).toNatClampNeg → u 7 (200 * R + k) = mcd (r k)) (hK : ∀ u', agr P67 u u' → K (sayR r st p c n th mo) u') : VX12_asksOf K u (nI p) c n th mo := by
  obtain ⟨e, h1, h2, h3, h4, h5⟩ := hT
  have a1 : e p ≤ e (p + 1) := h4 p hp
  have a2 : e (p + 1) ≤ e 3 := by
    rcases (show p = 0 ∨ p = 1 ∨ p = 2 by omega) with rfl | rfl | rfl
    · have q1 : e 1 ≤ e 2 := h4 1 (by omega)
      have q2 : e 2 ≤ e 3 := h4 2 (by omega)
      exact Nat.le_trans q1 q2
    · exact h4 2 (by omega)
    · exact Nat.le_refl _
  unfold VX12_asksOf
  intro u1 e1 u2 e2 u3 e3 u4 e4 u5 e5 u6 e6
  have hne : ∀ k, k ≠ 17 → u6 k = u k := fun k hk => by
    rw [e6, hup_row hk, e5, hup_row hk, e4, hup_row hk, e3, hup_row hk, e2, hup_row hk, e1, hup_row hk]
  have hag : agr P67 u u6 := fun k i hk => by rw [hne k hk.2]
  have hnam : nam u6 c n th mo := by
    unfold nam
    subst e6 e5 e4 e3 e2 e1
    refine ⟨?_, ?_, ?_, ?_, ?_, ?_⟩
    all_goals simp [hup_ap]
  clear e1 e2 e3 e4 e5 e6
  unfold VX12_says
  have hz : (4 : Int32) * nI R + nI p = nI (4 * R + p) := by rw [show (4 : Int32) * nI R = nI (4 * R) from pk_mul 4 R, nI_add]
  rw [hne 0 (by decide), hne 8 (by decide), h12, hz, nI_clamp (by omega), hst p (by omega), h1 p (by omega)]
  refine ⟨vp_in_nI (by omega) (by decide), fun x2 hx2 => ⟨e (p + 1) - e p + 1, ?_⟩⟩
  subst hx2
  refine m_saysL (r := r) (e := e (p + 1)) (c := c) (n := n) (th := th) (mo := mo) hR hp (by omega) (e (p + 1) - e p) (e p) [] u6 (by omega) (by rw [hne 0 (by decide)]; exact h12) (by rw [hne 8 (by decide), Nat.add_assoc, hst (p + 1) (by omega)]; exact h1 (p + 1) (by omega)) (fun k hk => ?_) hnam trivial (Nat.zero_le _) (h5 p hp) (fun u' hu' => ?_)
  · rw [hne 7 (by decide)]
    refine hcd k ?_
    rw [h1 3 (by omega), nI_clamp (by omega)]
    omega
  have hk := hK u' (hag.tr (hu'.sub (fun k i h => h.1)))
  unfold sayR at hk
  rw [h1 p (by omega), h1 (p + 1) (by omega), nI_clamp (by omega), nI_clamp (by omega)] at hk
  generalize (ev r c n th mo (e p) (e (p + 1) - e p) []).headD 0 = v at hk ⊢
  rcases (show p = 0 ∨ p = 1 ∨ p = 2 by omega) with rfl | rfl | rfl
  · rw [if_pos (show nI 0 = 0 from rfl), eM_wi (by decide)]; exact hk
  · rw [if_neg (by decide), if_pos (show nI 1 = 1 from rfl), eM_wi (by decide)]; exact hk
  · rw [if_neg (by decide), if_neg (by decide), eM_wi (by decide)]; exact hk
