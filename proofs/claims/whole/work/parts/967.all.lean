section SIMN
variable {σ τ : Hp} {b : Nat → Int32} {Z X : Nat}
theorem sim_not (hC : CX τ b Z X) (hR : RB σ b Z) {f : Nat} (ih : ∀ t, t < 6 → SIM σ τ b Z X f t) {K : Hp → Prop} {u : Hp} {p o : Nat} {H Lx : List Int32} {my : Int32} (hX : XS σ b Z X p Lx u) (hp : p ≤ Z) (ho : o = cnt H) (ho5 : o ≤ 5) (hP : PRE 2 (tC b Z p) H my) (hl : H.length + Lx.length ≤ p) (hf : 6 * (5 - o) + 4 ≤ f + 1) (hK : ∀ u', PN σ τ b Z X 3 2 0 p H Lx my u' → K u') (hKF : ∀ u', PF σ τ b Z X p H Lx my u' → K u') : BX4_readNot (VREC f) K u (nI o) := by
  have hz := hC.1.2.1
  have hle := (tE_le (b := b) hp).2.1
  have e2 : u 38 2 = tC b Z p := hX.2.2.2.1
  have hH : hdr H < 4 := hP.2.2.1 rfl
  have hmy : my = 1 := hP.2.2.2.2.2.1 (by decide)
  have b35 : (tC b Z p = -7 → cnt H = 5) → VX4_readNot_b35 (VREC f) K u (nI o) := fun h7 => by
    unfold VX4_readNot_b35
    refine ih 3 (by decide) _ u p o H Lx my hX hp ho ho5 ⟨fun q => by omega, fun q => by omega, fun q => by omega, fun _ => by omega, fun q => by omega, fun q => by omega, fun _ q => Or.inr (h7 q)⟩ hl (by omega) (fun u11 h11 => ?_) (fun u11 h11 => ?_)
    · obtain ⟨p', S, HM, LM, k1, k2, k3, k4, k5, k6, k7, k8, k9⟩ := h11
      have e2' : u11 38 2 = tC b Z p' := k2.2.2.2.1
      have hu5 : uw 5 HM LM = (H, (S.reverse ++ Lx).map mcd) := by rw [show (5 : Nat) = lvl 3 from rfl, k7]; exact uw_id (Or.inr (by show hdr H < 5; omega))
      obtain ⟨t1, t2, t3, t4, t5⟩ := k8
      have b58 : (tC b Z p' = -12 ∨ tC b Z p' = -13) → VX4_readNot_b58 (VREC f) K u11 (nI o) := fun hc => by
        have hbs : ∃ s, bsg (tC b Z p') s ∧ rnk s = 4 ∧ mcd (tC b Z p') = s ∧ 12 < s := by
          rcases hc with e | e
          · exact ⟨14, Or.inr (Or.inr (Or.inl ⟨e, rfl⟩)), by decide, by rw [e]; decide, by decide⟩
          · exact ⟨15, Or.inr (Or.inr (Or.inr (Or.inl ⟨e, rfl⟩))), by decide, by rw [e]; decide, by decide⟩
        obtain ⟨s, g1, g2, g3, g4⟩ := hbs
        obtain ⟨b1, b2, b3, b4, b5⟩ := bsgT g1
        have hul : ulv s = 5 := by unfold ulv; rw [if_pos g2]
        have hcn : cnt (s :: H) = cnt H := by show opn s + cnt H = _; rw [b2, Nat.zero_add]
        have hlt : p' < tE b Z p' := tC_lt k4 (by rcases hc with e | e <;> rw [e] <;> decide)
        have hle' := (tE_le (b := b) k4).2.1
        have chain : ∀ Km, MG1 Km τ b Z X 0 (tE b Z p') (s :: H) ((S.reverse ++ Lx).map mcd) → MG1 Km τ b Z X my p H (Lx.map mcd) := fun Km hm => by
          refine k9 Km (st_bin hC k4 k6 g1 (fun _ q => ?_) ?_)
          · rw [hu5] at q
            have := q.2
            have : hdr H = 4 := this
            omega
          · rw [hul, hu5, if_pos g4]; exact hm
        unfold VX4_readNot_b58
        intro x14 hx
        rw [e2'] at hx
        subst hx
        refine xs_goOn hR hC.2.2 k4 k2 (fun u16 h16 => ?_)
        have hh : hdr (s :: H) = 4 := g2
        refine ih 3 (by decide) _ u16 (tE b Z p') o (s :: H) (S.reverse ++ Lx) 0 h16 hle' (by rw [hcn]; exact ho) ho5 ⟨fun q => by omega, fun q => by omega, fun q => by omega, fun _ => by omega, fun q => by omega, fun q => by omega, fun _ _ => Or.inl rfl⟩ (by simp only [List.length_cons]; omega) (by omega) (fun u18 h18 => ?_) (fun u18 h18 => ?_)
        · obtain ⟨p2, S2, HM2, LM2, m1, m2, m3, m4, m5, m6, m7, m8, m9⟩ := h18
          have hl2 : H.length + 1 + (S2.reverse ++ (S.reverse ++ Lx)).length ≤ p2 := m5
          have hrev : (S ++ S2 ++ [tC b Z p']).reverse ++ Lx = tC b Z p' :: (S2.reverse ++ (S.reverse ++ Lx)) := by simp [List.reverse_append, List.append_assoc]
          have hu5' : uw 5 HM2 LM2 = (s :: H, (S2.reverse ++ (S.reverse ++ Lx)).map mcd) := by rw [show (5 : Nat) = lvl 3 from rfl, m7]; exact uw_id (Or.inr (by show hdr (s :: H) < 5; omega))
          obtain ⟨r1, r2, r3, r4, r5⟩ := m8
          refine xs_add hC.2.2 (by omega) m2 (fun u21 h21 => hK u21 ⟨p2, S ++ S2 ++ [tC b Z p'], HM2, LM2, okS_bin k1 m1 (bsg_rg g1).1 (bsg_rg g1).2, by rw [hrev]; exact h21, by omega, m4, by rw [hrev]; simp only [List.length_cons]; omega, m6, ?_, ⟨fun _ => r1 (by decide), fun _ => r2 (by decide), fun _ _ => ⟨by rw [hu5']; simp, by rw [hu5']; exact hh⟩, fun q => by omega, fun q => by omega⟩, fun Km hm => chain Km (m9 Km hm)⟩)
          rw [hrev, ← uw_uw (show 3 ≤ 5 by decide) HM2 LM2, hu5']
          show uw 3 (s :: H) _ = uw 3 H (mcd (tC b Z p') :: _)
          rw [g3]
          show (if rnk s < 3 then (s :: H, _) else uw 3 H (s :: _)) = _
          rw [if_neg (by omega)]
        · obtain ⟨q, n1, n2, n3⟩ := h18
          exact xf_add hC.2.2 n2 (fun u21 h21 => hKF u21 ⟨q, n1, h21, fun Km hm => chain Km (n3 Km hm)⟩)
      rw [e2']
      by_cases h12 : tC b Z p' = -12
      · rw [if_pos h12]; exact b58 (Or.inl h12)
      rw [if_neg h12]
      by_cases h13 : tC b Z p' = -13
      · rw [if_pos h13]; exact b58 (Or.inr h13)
      rw [if_neg h13]
      refine hK u11 ⟨p', S, HM, LM, k1, k2, k3, k4, k5, k6, ?_, ⟨fun _ => t1 (by decide), fun _ => t2 (by decide), fun _ q => absurd q (fun q => q.elim h12 h13), fun q => by omega, fun q => by omega⟩, k9⟩
      rw [← uw_uw (show 3 ≤ 5 by decide) HM LM, hu5]
    · obtain ⟨q, n1, n2, n3⟩ := id h11
      rw [n2.2.2.2.1, if_neg (by decide), if_neg (by decide)]
      exact hKF u11 h11
  unfold BX4_readNot
  rw [e2]
  by_cases h7 : tC b Z p = -7
  rotate_left
  · rw [if_neg h7]; exact b35 (fun q => absurd q h7)
  rw [if_pos h7]
  by_cases h5 : 5 ≤ o
  · rw [if_pos (show (5 : Int32) ≤ nI o from nI_le (a := 5) h5 (by omega))]
    exact b35 (fun _ => by omega)
  rw [if_neg (show ¬ (5 : Int32) ≤ nI o from nI_ge (b := 5) (by omega) (by decide)), nI_1]
  have hlt : p < tE b Z p := tC_lt hp (by rw [h7]; decide)
  have chain : ∀ Km, MG1 Km τ b Z X 1 (tE b Z p) (13 :: H) (Lx.map mcd) → MG1 Km τ b Z X my p H (Lx.map mcd) := fun Km hm => by
    rw [hmy]
    exact st_not hC hp (by rw [List.length_map]; exact hl) h7 (by omega) hm
  refine xs_goOn hR hC.2.2 hp hX (fun u4 h4 => ?_)
  refine ih 2 (by decide) _ u4 (tE b Z p) (o + 1) (13 :: H) Lx 1 h4 hle (by rw [ho]; show _ = opn 13 + cnt H; rw [show opn 13 = 1 from rfl, Nat.add_comm]) (by omega) ?_ ?_ (by omega) (fun u6 h6 => ?_) (fun u6 h6 => ?_)
  · exact ⟨fun q => by omega, fun q => by omega, fun _ => by show rnk 13 < 4; decide, fun q => by omega, fun q => by omega, fun _ => rfl, fun q => by omega⟩
  · simp only [List.length_cons]; omega
  · obtain ⟨p', S, HM, LM, k1, k2, k3, k4, k5, k6, k7, k8, k9⟩ := h6
    have k5' : H.length + 1 + (S.reverse ++ Lx).length ≤ p' := k5
    have hrev : (S ++ [-7]).reverse ++ Lx = (-7 : Int32) :: (S.reverse ++ Lx) := by simp [List.reverse_append]
    refine xs_add hC.2.2 (by omega) k2 (fun u9 h9 => hK u9 ⟨p', S ++ [-7], HM, LM, okS_un k1 (Or.inl rfl), by rw [hrev]; exact h9, by omega, k4, by rw [hrev]; simp only [List.length_cons]; omega, k6, ?_, k8, fun Km hm => chain Km (k9 Km hm)⟩)
    rw [hrev, show (3 : Nat) = lvl 2 from rfl, k7]
    rfl
  · obtain ⟨q, n1, n2, n3⟩ := h6
    exact xf_add hC.2.2 n2 (fun u9 h9 => hKF u9 ⟨q, n1, h9, fun Km hm => chain Km (n3 Km hm)⟩)
theorem sim (hC : CX τ b Z X) (hR : RB σ b Z) : ∀ f t, t < 6 → SIM σ τ b Z X f t
  | 0, t, ht => fun K u p o H Lx my hX hp ho ho5 hP hl hf hK hKF => absurd hf (by omega)
  | f + 1, t, ht => fun K u p o H Lx my hX hp ho ho5 hP hl hf hK hKF => by
    have ih := sim hC hR f
    obtain ⟨q0, q1, q2, q3, q4, q5, q6⟩ := id hP
    rcases (show t = 0 ∨ t = 1 ∨ t = 2 ∨ t = 3 ∨ t = 4 ∨ t = 5 by omega) with rfl | rfl | rfl | rfl | rfl | rfl
    · have hh := q0 rfl
      have lp : ∀ u2, PN σ τ b Z X (lvl 1) 1 0 p H Lx my u2 ∨ PF σ τ b Z X p H Lx my u2 → ∃ n, VX4_readOr_L7 (VREC f) K n u2 (nI o) 0 := fun u2 h2 => by
        refine sim_loop (t := 0) (o := o) (p := p) (H := H) (Lx := Lx) (my := my) (K := K) hC hR (by decide) (ih 1 (by decide)) (fun n u x => VX4_readOr_L7 (VREC f) K n u (nI o) x) (fun c => c = -15) (fun c hc => ⟨11, (Or.inl ⟨hc, rfl⟩), by decide, by rw [hc]; decide, by decide, by decide⟩) (fun c HM LM hn h => ⟨fun _ => h.1 (by decide), fun _ => h.2.1 (by decide), fun _ => h.2.2.1 (by decide), fun _ => h.2.2.2.1 (by decide), fun _ => hn⟩) (by decide) (by decide) (fun n u hk => ?_) (fun n u k hk hi hg => ?_) (fun n u k hk hi hg => ?_) ho ho5 hP hf hK hKF h2
        · show VX4_readOr_L7 (VREC f) K (n + 1) u (nI o) 160
          rw [VX4_readOr_L7, if_pos (by decide)]; exact hk
        · show VX4_readOr_L7 (VREC f) K (n + 1) u (nI o) (nI k)
          rw [VX4_readOr_L7, if_neg (show ¬ (160 : Int32) ≤ nI k from nI_ge (b := 160) hk (by decide)), if_neg hi]; exact hg
        · show VX4_readOr_L7 (VREC f) K (n + 1) u (nI o) (nI k)
          rw [VX4_readOr_L7, if_neg (show ¬ (160 : Int32) ≤ nI k from nI_ge (b := 160) hk (by decide)), if_pos hi]; rw [hi] at hg; exact hg
      unfold VREC
      rw [if_pos rfl]
      unfold BX4_readOr
      exact ih 1 (by decide) _ u p o H Lx my hX hp ho ho5 ⟨fun q => by omega, fun _ => by omega, fun q => by omega, fun q => by omega, fun q => by omega, fun _ => q5 (by decide), fun q => by omega⟩ hl (by omega) (fun u2 h2 => lp u2 (Or.inl h2)) (fun u2 h2 => lp u2 (Or.inr h2))
    · have hh := q1 rfl
      have lp : ∀ u2, PN σ τ b Z X (lvl 2) 2 0 p H Lx my u2 ∨ PF σ τ b Z X p H Lx my u2 → ∃ n, VX4_readAnd_L7 (VREC f) K n u2 (nI o) 0 := fun u2 h2 => by
        refine sim_loop (t := 1) (o := o) (p := p) (H := H) (Lx := Lx) (my := my) (K := K) hC hR (by decide) (ih 2 (by decide)) (fun n u x => VX4_readAnd_L7 (VREC f) K n u (nI o) x) (fun c => c = -14) (fun c hc => ⟨12, (Or.inr (Or.inl ⟨hc, rfl⟩)), by decide, by rw [hc]; decide, by decide, by decide⟩) (fun c HM LM hn h => ⟨fun _ => h.1 (by decide), fun _ => h.2.1 (by decide), fun _ => h.2.2.1 (by decide), fun _ => hn, fun q => by omega⟩) (by decide) (by decide) (fun n u hk => ?_) (fun n u k hk hi hg => ?_) (fun n u k hk hi hg => ?_) ho ho5 hP hf hK hKF h2
        · show VX4_readAnd_L7 (VREC f) K (n + 1) u (nI o) 160
          rw [VX4_readAnd_L7, if_pos (by decide)]; exact hk
        · show VX4_readAnd_L7 (VREC f) K (n + 1) u (nI o) (nI k)
          rw [VX4_readAnd_L7, if_neg (show ¬ (160 : Int32) ≤ nI k from nI_ge (b := 160) hk (by decide)), if_neg hi]; exact hg
        · show VX4_readAnd_L7 (VREC f) K (n + 1) u (nI o) (nI k)
          rw [VX4_readAnd_L7, if_neg (show ¬ (160 : Int32) ≤ nI k from nI_ge (b := 160) hk (by decide)), if_pos hi]; rw [hi] at hg; exact hg
      unfold VREC
      rw [if_neg (by decide), if_pos rfl]
      unfold BX4_readAnd
      exact ih 2 (by decide) _ u p o H Lx my hX hp ho ho5 ⟨fun q => by omega, fun q => by omega, fun _ => by omega, fun q => by omega, fun q => by omega, fun _ => q5 (by decide), fun q => by omega⟩ hl (by omega) (fun u2 h2 => lp u2 (Or.inl h2)) (fun u2 h2 => lp u2 (Or.inr h2))
    · unfold VREC
      rw [if_neg (by decide), if_neg (by decide), if_pos rfl]
      exact sim_not hC hR ih hX hp ho ho5 hP hl (by omega) hK hKF
    · have hh := q3 rfl
      have lp : ∀ u2, PN σ τ b Z X (lvl 4) 4 0 p H Lx my u2 ∨ PF σ τ b Z X p H Lx my u2 → ∃ n, VX4_readSum_L7 (VREC f) K n u2 (nI o) 0 := fun u2 h2 => by
        refine sim_loop (t := 3) (o := o) (p := p) (H := H) (Lx := Lx) (my := my) (K := K) hC hR (by decide) (ih 4 (by decide)) (fun n u x => VX4_readSum_L7 (VREC f) K n u (nI o) x) (fun c => c = -9 ∨ c = -10) (fun c hc => hc.elim (fun hc => ⟨16, (Or.inr (Or.inr (Or.inr (Or.inr (Or.inl ⟨hc, rfl⟩))))), by decide, by rw [hc]; decide, by decide, by decide⟩) (fun hc => ⟨17, (Or.inr (Or.inr (Or.inr (Or.inr (Or.inr (Or.inl ⟨hc, rfl⟩)))))), by decide, by rw [hc]; decide, by decide, by decide⟩)) (fun c HM LM hn h => ⟨fun _ => h.1 (by decide), fun _ => ⟨fun q => hn (Or.inl q), fun q => hn (Or.inr q)⟩, fun q => by omega, fun q => by omega, fun q => by omega⟩) (by decide) (by decide) (fun n u hk => ?_) (fun n u k hk hi hg => ?_) (fun n u k hk hi hg => ?_) ho ho5 hP hf hK hKF h2
        · show VX4_readSum_L7 (VREC f) K (n + 1) u (nI o) 160
          rw [VX4_readSum_L7, if_pos (by decide)]; exact hk
        · show VX4_readSum_L7 (VREC f) K (n + 1) u (nI o) (nI k)
          rw [VX4_readSum_L7, if_neg (show ¬ (160 : Int32) ≤ nI k from nI_ge (b := 160) hk (by decide)), if_neg (fun q => hi (Or.inl q)), if_neg (fun q => hi (Or.inr q))]; exact hg
        · show VX4_readSum_L7 (VREC f) K (n + 1) u (nI o) (nI k)
          have hb : VX4_readSum_b32 (VREC f) K (VX4_readSum_L7 (VREC f) K n) u (nI o) (nI k) := fun x6 hx => by subst hx; exact hg
          rw [VX4_readSum_L7, if_neg (show ¬ (160 : Int32) ≤ nI k from nI_ge (b := 160) hk (by decide))]
          rcases hi with hi | hi
          · rw [if_pos hi]; exact hb
          · by_cases h9 : u 38 2 = -9
            · rw [if_pos h9]; exact hb
            · rw [if_neg h9, if_pos hi]; exact hb
      unfold VREC
      rw [if_neg (by decide), if_neg (by decide), if_neg (by decide), if_pos rfl]
      unfold BX4_readSum
      exact ih 4 (by decide) _ u p o H Lx my hX hp ho ho5 ⟨fun q => by omega, fun q => by omega, fun q => by omega, fun q => by omega, fun _ => by omega, fun q => by omega, fun _ => q6 (by decide)⟩ hl (by omega) (fun u2 h2 => lp u2 (Or.inl h2)) (fun u2 h2 => lp u2 (Or.inr h2))
    · have hh := q4 rfl
      have lp : ∀ u2, PN σ τ b Z X (lvl 5) 5 0 p H Lx my u2 ∨ PF σ τ b Z X p H Lx my u2 → ∃ n, VX4_readTerm_L7 (VREC f) K n u2 (nI o) 0 := fun u2 h2 => by
        refine sim_loop (t := 4) (o := o) (p := p) (H := H) (Lx := Lx) (my := my) (K := K) hC hR (by decide) (ih 5 (by decide)) (fun n u x => VX4_readTerm_L7 (VREC f) K n u (nI o) x) (fun c => c = -11) (fun c hc => ⟨18, (Or.inr (Or.inr (Or.inr (Or.inr (Or.inr (Or.inr ⟨hc, rfl⟩)))))), by decide, by rw [hc]; decide, by decide, by decide⟩) (fun c HM LM hn h => ⟨fun _ => hn, fun q => by omega, fun q => by omega, fun q => by omega, fun q => by omega⟩) (by decide) (by decide) (fun n u hk => ?_) (fun n u k hk hi hg => ?_) (fun n u k hk hi hg => ?_) ho ho5 hP hf hK hKF h2
        · show VX4_readTerm_L7 (VREC f) K (n + 1) u (nI o) 160
          rw [VX4_readTerm_L7, if_pos (by decide)]; exact hk
        · show VX4_readTerm_L7 (VREC f) K (n + 1) u (nI o) (nI k)
          rw [VX4_readTerm_L7, if_neg (show ¬ (160 : Int32) ≤ nI k from nI_ge (b := 160) hk (by decide)), if_neg hi]; exact hg
        · show VX4_readTerm_L7 (VREC f) K (n + 1) u (nI o) (nI k)
          rw [VX4_readTerm_L7, if_neg (show ¬ (160 : Int32) ≤ nI k from nI_ge (b := 160) hk (by decide)), if_pos hi]; rw [hi] at hg; exact hg
      unfold VREC
      rw [if_neg (by decide), if_neg (by decide), if_neg (by decide), if_neg (by decide), if_pos rfl]
      unfold BX4_readTerm
      exact ih 5 (by decide) _ u p o H Lx my hX hp ho ho5 ⟨fun q => by omega, fun q => by omega, fun q => by omega, fun q => by omega, fun q => by omega, fun q => by omega, fun _ => q6 (by decide)⟩ hl (by omega) (fun u2 h2 => lp u2 (Or.inl h2)) (fun u2 h2 => lp u2 (Or.inr h2))
    · unfold VREC
      rw [if_neg (by decide), if_neg (by decide), if_neg (by decide), if_neg (by decide), if_neg (by decide), if_pos rfl]
      exact sim_one hC hR ih hX hp ho ho5 (q6 (by decide)) hl (by omega) hK hKF
end SIMN
