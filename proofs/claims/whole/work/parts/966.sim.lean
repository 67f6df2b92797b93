/-! ===== x's reader against m's machine ===== -/
def lvl (t : Nat) : Nat := if t = 0 then 1 else if t = 1 then 2 else if t = 2 then 3 else if t = 3 then 5 else if t = 4 then 6 else 7
def PRE (t : Nat) (c : Int32) (H : List Int32) (my : Int32) : Prop := (t = 0 → hdr H < 1) ∧ (t = 1 → hdr H < 2) ∧ (t = 2 → hdr H < 4) ∧ (t = 3 → hdr H < 5) ∧ (t = 4 → hdr H < 6) ∧ (t ≤ 2 → my = 1) ∧ (3 ≤ t → c = -7 → my = 0 ∨ cnt H = 5)
def TK (t : Nat) (c : Int32) (HM LM : List Int32) : Prop := (t ≤ 4 → c ≠ -11) ∧ (t ≤ 3 → c ≠ -9 ∧ c ≠ -10) ∧ (t ≤ 2 → c = -12 ∨ c = -13 → (uw 5 HM LM).1 ≠ [] ∧ hdr (uw 5 HM LM).1 = 4) ∧ (t ≤ 1 → c ≠ -14) ∧ (t ≤ 0 → c ≠ -15)
def PN (σ τ : Hp) (b : Nat → Int32) (Z X lv t k p : Nat) (H Lx : List Int32) (my : Int32) (u : Hp) : Prop := ∃ p' S HM LM, okS S ∧ XS σ b Z X p' (S.reverse ++ Lx) u ∧ p + k ≤ p' ∧ p' ≤ Z ∧ H.length + (S.reverse ++ Lx).length ≤ p' ∧ HM.length + LM.length ≤ p' ∧ uw lv HM LM = uw lv H ((S.reverse ++ Lx).map mcd) ∧ TK t (tC b Z p') HM LM ∧ ∀ Km, MG0 Km τ b Z X p' HM LM → MG1 Km τ b Z X my p H (Lx.map mcd)
def PF (σ τ : Hp) (b : Nat → Int32) (Z X p : Nat) (H Lx : List Int32) (my : Int32) (u : Hp) : Prop := ∃ q, q ≤ Z ∧ XF σ X (tS b Z q) u ∧ ∀ Km, (∀ v, MF τ b Z X q v → Km 0 v) → MG1 Km τ b Z X my p H (Lx.map mcd)
def SIM (σ τ : Hp) (b : Nat → Int32) (Z X f t : Nat) : Prop := ∀ (K : Hp → Prop) (u : Hp) (p o : Nat) (H Lx : List Int32) (my : Int32), XS σ b Z X p Lx u → p ≤ Z → o = cnt H → o ≤ 5 → PRE t (tC b Z p) H my → H.length + Lx.length ≤ p → 6 * (5 - o) + (6 - t) ≤ f → (∀ u', PN σ τ b Z X (lvl t) t 0 p H Lx my u' → K u') → (∀ u', PF σ τ b Z X p H Lx my u' → K u') → VREC f t K u (nI o)
theorem bsg_rg {c s : Int32} (h : bsg c s) : -15 ≤ c ∧ c < -8 := by
  rcases h with ⟨rfl, rfl⟩ | ⟨rfl, rfl⟩ | ⟨rfl, rfl⟩ | ⟨rfl, rfl⟩ | ⟨rfl, rfl⟩ | ⟨rfl, rfl⟩ | ⟨rfl, rfl⟩ <;> decide
section SIMS
variable {σ τ : Hp} {b : Nat → Int32} {Z X : Nat}
theorem sim_loop (hC : CX τ b Z X) (hR : RB σ b Z) {f t o p : Nat} {H Lx : List Int32} {my : Int32} {K : Hp → Prop} {u : Hp} (ht : t = 0 ∨ t = 1 ∨ t = 3 ∨ t = 4) (ih : SIM σ τ b Z X f (t + 1)) (V : Nat → Hp → Int32 → Prop) (isop : Int32 → Prop) (hop : ∀ c, isop c → ∃ s, bsg c s ∧ rnk s = lvl t ∧ mcd c = s ∧ (t ≤ 1 → ¬ 12 < s) ∧ (3 ≤ t → 12 < s)) (hno : ∀ c HM LM, ¬ isop c → TK (t + 1) c HM LM → TK t c HM LM) (hn30 : ¬ isop (-30)) (hn31 : ¬ isop (-31)) (hv0 : ∀ n u, K u → V (n + 1) u 160) (hv1 : ∀ n u k, k < 160 → ¬ isop (u 38 2) → K u → V (n + 1) u (nI k)) (hv2 : ∀ n u k, k < 160 → isop (u 38 2) → VX4_goOn (fun u6 => VREC f (t + 1) (fun u8 => AD (fun u11 => ∀ x : Int32, x = nI k + 1 → V n u11 x) u8 (u 38 2)) u6 (nI o)) u → V (n + 1) u (nI k)) (ho : o = cnt H) (ho5 : o ≤ 5) (hP : PRE t (tC b Z p) H my) (hf : 6 * (5 - o) + (6 - t) ≤ f + 1) (hK : ∀ u', PN σ τ b Z X (lvl t) t 0 p H Lx my u' → K u') (hKF : ∀ u', PF σ τ b Z X p H Lx my u' → K u') (h0 : PN σ τ b Z X (lvl (t + 1)) (t + 1) 0 p H Lx my u ∨ PF σ τ b Z X p H Lx my u) : ∃ n, V n u 0 := by
  have hz := hC.1.2.1
  have hlv : lvl t ≤ lvl (t + 1) := by rcases ht with rfl | rfl | rfl | rfl <;> decide
  have hlv4 : lvl t ≠ 4 := by rcases ht with rfl | rfl | rfl | rfl <;> decide
  have hH : hdr H < lvl t := by
    obtain ⟨q0, q1, q2, q3, q4, _⟩ := hP
    rcases ht with rfl | rfl | rfl | rfl
    · exact q0 rfl
    · exact q1 rfl
    · exact q3 rfl
    · exact q4 rfl
  refine lpN (fun n u k => V n u (nI k)) (fun k u => PN σ τ b Z X (lvl t) (t + 1) k p H Lx my u ∨ PF σ τ b Z X p H Lx my u) 160 (fun n s h => ?_) (fun n k s hk h go => ?_) u ?_
  · refine hv0 n s ?_
    rcases h with ⟨p', S, HM, LM, k1, k2, k3, k4, k5, k6, k7, k8, k9⟩ | h
    · have e30 : tC b Z p' = -30 := tC_end (by omega)
      refine hK s ⟨p', S, HM, LM, k1, k2, by omega, k4, k5, k6, k7, ?_, k9⟩
      exact hno _ _ _ (by rw [e30]; exact hn30) k8
    · exact hKF s h
  · rcases h with ⟨p', S, HM, LM, k1, k2, k3, k4, k5, k6, k7, k8, k9⟩ | h
    · have e2 : s 38 2 = tC b Z p' := k2.2.2.2.1
      by_cases hi : isop (tC b Z p')
      rotate_left
      · refine hv1 n s k hk (by rw [e2]; exact hi) (hK s ⟨p', S, HM, LM, k1, k2, by omega, k4, k5, k6, k7, hno _ _ _ hi k8, k9⟩)
      obtain ⟨s0, g1, g2, g3, g4, g5⟩ := hop _ hi
      obtain ⟨b1, b2, b3, b4, b5⟩ := bsgT g1
      have hne : tC b Z p' ≠ -30 := fun q => hn30 (by rw [← q]; exact hi)
      have hlt := tC_lt k4 hne
      have hle := (tE_le (b := b) k4).2.1
      have hul : ulv s0 = lvl t := by unfold ulv; rw [if_neg (by rw [g2]; exact hlv4), g2]
      have huw : uw (ulv s0) HM LM = (H, (S.reverse ++ Lx).map mcd) := by rw [hul, k7]; exact uw_id (Or.inr hH)
      have hcn : cnt (s0 :: H) = cnt H := by show opn s0 + cnt H = _; rw [b2, Nat.zero_add]
      have chain : ∀ Km, MG1 Km τ b Z X (if 12 < s0 then 0 else 1) (tE b Z p') (s0 :: H) ((S.reverse ++ Lx).map mcd) → MG1 Km τ b Z X my p H (Lx.map mcd) := fun Km hm => by
        refine k9 Km (st_bin hC k4 k6 g1 (fun q => absurd (g2.symm.trans q) hlv4) ?_)
        rw [huw]; exact hm
      refine hv2 n s k hk (by rw [e2]; exact hi) ?_
      rw [e2]
      refine xs_goOn hR hC.2.2 k4 k2 (fun u6 h6 => ?_)
      refine ih _ u6 (tE b Z p') o (s0 :: H) (S.reverse ++ Lx) (if 12 < s0 then 0 else 1) h6 hle (by rw [hcn]; exact ho) ho5 ?_ ?_ (by omega) (fun u8 h8 => ?_) (fun u8 h8 => ?_)
      · have hh : hdr (s0 :: H) = lvl t := g2
        refine ⟨fun q => by omega, fun q => ?_, fun q => ?_, fun q => ?_, fun q => ?_, fun q => ?_, fun q _ => ?_⟩
        · rw [hh, show t = 0 by omega]; decide
        · rw [hh, show t = 1 by omega]; decide
        · omega
        · rw [hh, show t = 3 by omega]; decide
        · rw [if_neg (g4 (by omega))]
        · rw [if_pos (g5 (by omega))]; exact Or.inl rfl
      · simp only [List.length_cons]; omega
      · obtain ⟨p2, S2, HM2, LM2, m1, m2, m3, m4, m5, m6, m7, m8, m9⟩ := h8
        have hl2 : H.length + 1 + (S2.reverse ++ (S.reverse ++ Lx)).length ≤ p2 := m5
        have hrev : (S ++ S2 ++ [tC b Z p']).reverse ++ Lx = tC b Z p' :: (S2.reverse ++ (S.reverse ++ Lx)) := by simp [List.reverse_append, List.append_assoc]
        refine xs_add hC.2.2 (by omega) m2 (fun u11 h11 x hx => ?_)
        rw [hx, nI_1]
        refine go u11 (Or.inl ⟨p2, S ++ S2 ++ [tC b Z p'], HM2, LM2, okS_bin k1 m1 (bsg_rg g1).1 (bsg_rg g1).2, by rw [hrev]; exact h11, by omega, m4, ?_, m6, ?_, m8, fun Km hm => chain Km (m9 Km hm)⟩)
        · rw [hrev]; simp only [List.length_cons]; omega
        · rw [hrev, ← uw_uw hlv HM2 LM2, m7, uw_uw hlv]
          show uw (lvl t) (s0 :: H) _ = uw (lvl t) H (mcd (tC b Z p') :: _)
          rw [g3]
          show (if rnk s0 < lvl t then (s0 :: H, _) else uw (lvl t) H (s0 :: _)) = _
          rw [if_neg (by omega)]
      · obtain ⟨q, n1, n2, n3⟩ := h8
        refine xf_add hC.2.2 n2 (fun u11 h11 x hx => ?_)
        rw [hx, nI_1]
        exact go u11 (Or.inr ⟨q, n1, h11, fun Km hm => chain Km (n3 Km hm)⟩)
    · obtain ⟨q, n1, n2, n3⟩ := id h
      exact hv1 n s k hk (by rw [n2.2.2.2.1]; exact hn31) (hKF s h)
  · rcases h0 with ⟨p', S, HM, LM, k1, k2, k3, k4, k5, k6, k7, k8, k9⟩ | h
    · refine Or.inl ⟨p', S, HM, LM, k1, k2, k3, k4, k5, k6, ?_, k8, k9⟩
      rw [← uw_uw hlv HM LM, k7, uw_uw hlv]
    · exact Or.inr h
/-- ONE -/
theorem sim_one (hC : CX τ b Z X) (hR : RB σ b Z) {f : Nat} (ih : ∀ t, t < 6 → SIM σ τ b Z X f t) {K : Hp → Prop} {u : Hp} {p o : Nat} {H Lx : List Int32} {my : Int32} (hX : XS σ b Z X p Lx u) (hp : p ≤ Z) (ho : o = cnt H) (ho5 : o ≤ 5) (hP : tC b Z p = -7 → my = 0 ∨ cnt H = 5) (hl : H.length + Lx.length ≤ p) (hf : 6 * (5 - o) + 1 ≤ f + 1) (hK : ∀ u', PN σ τ b Z X 7 5 0 p H Lx my u' → K u') (hKF : ∀ u', PF σ τ b Z X p H Lx my u' → K u') : BX4_readOne (VREC f) K u (nI o) := by
  have hz := hC.1.2.1
  have hle := (tE_le (b := b) hp).2.1
  have e2 : u 38 2 = tC b Z p := hX.2.2.2.1
  have tk5 : ∀ c HM LM, TK 5 c HM LM := fun c HM LM => ⟨fun q => by omega, fun q => by omega, fun q => by omega, fun q => by omega, fun q => by omega⟩
  unfold BX4_readOne
  rw [e2]
  by_cases h6 : tC b Z p < -6
  rotate_left
  · rw [if_neg h6]
    have hrg : rg (tC b Z p) (-6) 9999 := ⟨Int32.not_lt.mp h6, by
      by_cases h0 : 0 ≤ tC b Z p
      · exact tC_9999 hp h0
      · exact Int32.le_of_lt (Int32.lt_trans (Int32.not_le.mp h0) (by decide))⟩
    have hlt : p < tE b Z p := tC_lt hp (fun q => by rw [q] at h6; exact absurd h6 (by decide))
    have huw := uw_len (r := 7) H (mcd (tC b Z p) :: Lx.map mcd)
    simp only [List.length_cons, List.length_map] at huw
    refine xs_add hC.2.2 (by omega) hX (fun u13 h13 => ?_)
    refine xs_goOn hR hC.2.2 hp h13 (fun u15 h15 => hK u15 ⟨tE b Z p, [tC b Z p], (uw 7 H (mcd (tC b Z p) :: Lx.map mcd)).1, (uw 7 H (mcd (tC b Z p) :: Lx.map mcd)).2, okS_leaf hrg, h15, by omega, hle, ?_, by omega, ?_, tk5 _ _ _, fun Km hm => st_opnd hC hp (by rw [List.length_map]; exact hl) hrg hm⟩)
    · show H.length + (Lx.length + 1) ≤ _
      omega
    · exact uw_uw (Nat.le_refl _) _ _
  rw [if_pos h6]
  have b98 : (tC b Z p = -10 → cnt H = 5) → (tC b Z p = -20 → cnt H = 5) → VX4_readOne_b98 (VREC f) K u := fun h10 h20 => by
    unfold VX4_readOne_b98
    refine xs_fail hC.2.2 hp hz (by omega) hX (fun u' h' => hKF u' ⟨p, hp, h', fun Km hm => ?_⟩)
    exact st_f1 hC hp (by rw [List.length_map]; exact hl) (fun q => absurd (Int32.lt_of_le_of_lt q h6) (by decide)) (by omega) hP h10 h20 hm
  have b64 : (tC b Z p = -10 → cnt H = 5) → VX4_readOne_b64 (VREC f) K u (nI o) := fun h10 => by
    unfold VX4_readOne_b64
    rw [e2]
    by_cases h20 : tC b Z p = -20
    rotate_left
    · rw [if_neg h20]; exact b98 h10 (fun q => absurd q h20)
    rw [if_pos h20]
    by_cases h5 : 5 ≤ o
    · rw [if_pos (show (5 : Int32) ≤ nI o from nI_le (a := 5) h5 (by omega))]
      exact b98 h10 (fun _ => by omega)
    rw [if_neg (show ¬ (5 : Int32) ≤ nI o from nI_ge (b := 5) (by omega) (by decide)), nI_1]
    have hlt : p < tE b Z p := tC_lt hp (by rw [h20]; decide)
    have chain : ∀ Km, MG1 Km τ b Z X 1 (tE b Z p) (0 :: H) (Lx.map mcd) → MG1 Km τ b Z X my p H (Lx.map mcd) := fun Km hm => st_opn hC hp (by rw [List.length_map]; exact hl) h20 (by omega) hm
    refine xs_goOn hR hC.2.2 hp hX (fun u19 h19 => ?_)
    refine ih 0 (by decide) _ u19 (tE b Z p) (o + 1) (0 :: H) Lx 1 h19 hle (by rw [ho]; show _ = opn 0 + cnt H; rw [show opn 0 = 1 from rfl, Nat.add_comm]) (by omega) ?_ ?_ (by omega) (fun u21 h21 => ?_) (fun u21 h21 => ?_)
    · exact ⟨fun _ => by show rnk 0 < 1; decide, fun q => by omega, fun q => by omega, fun q => by omega, fun q => by omega, fun _ => rfl, fun q => by omega⟩
    · simp only [List.length_cons]; omega
    · obtain ⟨p', S, HM, LM, k1, k2, k3, k4, k5, k6, k7, k8, k9⟩ := h21
      have k5' : H.length + 1 + (S.reverse ++ Lx).length ≤ p' := k5
      have hu1 : uw 1 HM LM = (0 :: H, (S.reverse ++ Lx).map mcd) := by rw [show (1 : Nat) = lvl 0 from rfl, k7]; exact uw_id (Or.inr (by show rnk 0 < 1; decide))
      unfold VX4_take
      have e2' : u21 38 2 = tC b Z p' := k2.2.2.2.1
      have hle' := (tE_le (b := b) k4).2.1
      rw [e2']
      by_cases h21 : tC b Z p' = -21
      · rw [if_pos h21, if_neg (by rw [h21]; decide)]
        have hlt' : p' < tE b Z p' := tC_lt k4 (by rw [h21]; decide)
        have huw := uw_len (r := 7) H ((S.reverse ++ Lx).map mcd)
        rw [List.length_map] at huw
        refine xs_goOn hR hC.2.2 k4 k2 (fun u23 h23 => hK u23 ⟨tE b Z p', S, (uw 7 H ((S.reverse ++ Lx).map mcd)).1, (uw 7 H ((S.reverse ++ Lx).map mcd)).2, k1, h23, by omega, hle', by omega, by omega, uw_uw (Nat.le_refl _) _ _, tk5 _ _ _, fun Km hm => chain Km (k9 Km (st_close hC k4 k6 h21 hu1 hm))⟩)
      · rw [if_neg h21]
        refine xs_fail hC.2.2 k4 hz (by omega) k2 (fun u' h' => hKF u' ⟨p', k4, h', fun Km hm => chain Km (k9 Km (st_f0 hC k4 k6 hm ?_))⟩)
        obtain ⟨t1, t2, t3, t4, t5⟩ := k8
        by_cases h22 : tC b Z p' = -22
        · exact Or.inl ⟨h22, by rw [hu1]; simp⟩
        by_cases h12 : tC b Z p' = -12 ∨ tC b Z p' = -13
        · exact Or.inr (Or.inr (Or.inl ⟨h12, t3 (by decide) h12⟩))
        exact Or.inr (Or.inr (Or.inr ⟨h22, h21, t5 (by decide), t4 (by decide), fun q => h12 (Or.inl q), fun q => h12 (Or.inr q), (t2 (by decide)).1, (t2 (by decide)).2, t1 (by decide)⟩))
    · obtain ⟨q, n1, n2, n3⟩ := h21
      unfold VX4_take
      rw [n2.2.2.2.1, if_neg (by decide)]
      exact xf_fail hC.2.2 n2 (fun u' h' => hKF u' ⟨q, n1, h', fun Km hm => chain Km (n3 Km hm)⟩)
  by_cases h10 : tC b Z p = -10
  rotate_left
  · rw [if_neg h10]; exact b64 (fun q => absurd q h10)
  rw [if_pos h10]
  by_cases h5 : 5 ≤ o
  · rw [if_pos (show (5 : Int32) ≤ nI o from nI_le (a := 5) h5 (by omega))]
    exact b64 (fun _ => by omega)
  rw [if_neg (show ¬ (5 : Int32) ≤ nI o from nI_ge (b := 5) (by omega) (by decide)), nI_1]
  have hlt : p < tE b Z p := tC_lt hp (by rw [h10]; decide)
  have chain : ∀ Km, MG1 Km τ b Z X 0 (tE b Z p) (19 :: H) (Lx.map mcd) → MG1 Km τ b Z X my p H (Lx.map mcd) := fun Km hm => st_neg hC hp (by rw [List.length_map]; exact hl) h10 (by omega) hm
  refine xs_goOn hR hC.2.2 hp hX (fun u5 h5' => ?_)
  refine ih 5 (by decide) _ u5 (tE b Z p) (o + 1) (19 :: H) Lx 0 h5' hle (by rw [ho]; show _ = opn 19 + cnt H; rw [show opn 19 = 1 from rfl, Nat.add_comm]) (by omega) ?_ ?_ (by omega) (fun u7 h7 => ?_) (fun u7 h7 => ?_)
  · exact ⟨fun q => by omega, fun q => by omega, fun q => by omega, fun q => by omega, fun q => by omega, fun q => by omega, fun _ _ => Or.inl rfl⟩
  · simp only [List.length_cons]; omega
  · obtain ⟨p', S, HM, LM, k1, k2, k3, k4, k5, k6, k7, k8, k9⟩ := h7
    have k5' : H.length + 1 + (S.reverse ++ Lx).length ≤ p' := k5
    have hrev : (S ++ [-8]).reverse ++ Lx = (-8 : Int32) :: (S.reverse ++ Lx) := by simp [List.reverse_append]
    refine xs_add hC.2.2 (by omega) k2 (fun u10 h10' => hK u10 ⟨p', S ++ [-8], HM, LM, okS_un k1 (Or.inr rfl), by rw [hrev]; exact h10', by omega, k4, by rw [hrev]; simp only [List.length_cons]; omega, k6, ?_, tk5 _ _ _, fun Km hm => chain Km (k9 Km hm)⟩)
    rw [hrev, show (7 : Nat) = lvl 5 from rfl, k7]
    rfl
  · obtain ⟨q, n1, n2, n3⟩ := h7
    exact xf_add hC.2.2 n2 (fun u10 h10' => hKF u10 ⟨q, n1, h10', fun Km hm => chain Km (n3 Km hm)⟩)
end SIMS
