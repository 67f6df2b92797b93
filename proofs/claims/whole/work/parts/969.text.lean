/-! ===== text() ===== -/
theorem IC.agX {σ τ u v : Hp} {X : Nat} (h : IC σ τ X) (hX : X ≤ 6) (a : agr (fun k _ => (25 ≤ k ∧ k < 25 + X) ∨ (31 ≤ k ∧ k < 31 + X)) σ u) (b : agr (fun k i => (k = 7 ∧ i < 200 * X) ∨ (k = 8 ∧ i < 4 * X)) τ v) : IC u v X := by
  intro t ht
  obtain ⟨h1, h2, h3⟩ := h t ht
  unfold CT
  rw [a.row (k := 25 + t) (fun i => by omega), a.row (k := 31 + t) (fun i => by omega)]
  obtain ⟨e, w1, w2, w3, w4, w5⟩ := id h1
  refine ⟨h1, fun p hp => ?_, fun k hk => ?_⟩
  · rw [b 8 _ (by omega)]; exact h2 p hp
  · have hk2 := hk
    rw [w1 3 (by decide), nI_clamp (by omega)] at hk2
    rw [b 7 _ (by omega)]; exact h3 k hk
theorem stk_sf {r : Nat → Int32} : ∀ (A B : List Int32), stk r (A ++ B) → stk r B
  | [], _, h => h
  | _ :: A, B, h => stk_sf A B h.2
theorem stk_dok {r : Nat → Int32} : ∀ (S L : List Int32) (d : Nat), stk r (S.reverse ++ L) → dr S d = some 1 → dok r L.length S.length d
  | [], L, d, _, h => by
    have : d = 1 := by
      have h' : some d = some 1 := h
      exact Option.some.inj h'
    exact this
  | x :: S, L, d, hs, h => by
    have hs' : stk r (S.reverse ++ (x :: L)) := by
      rw [List.reverse_cons, List.append_assoc] at hs
      exact hs
    have hx : r L.length = x := (stk_sf _ _ hs').1
    show rg (r L.length) (-15) 9999 ∧ (if r L.length < -6 then (if r L.length < -8 then 2 ≤ d ∧ dok r (L.length + 1) S.length (d - 1) else 1 ≤ d ∧ dok r (L.length + 1) S.length d) else dok r (L.length + 1) S.length (d + 1))
    rw [hx]
    unfold dr at h
    by_cases h1 : rg x (-15) 9999
    rotate_left
    · rw [if_neg h1] at h; exact absurd h (by simp)
    rw [if_pos h1] at h
    refine ⟨h1, ?_⟩
    by_cases h6 : x < -6
    · rw [if_pos h6] at h ⊢
      by_cases h8 : x < -8
      · rw [if_pos h8] at h ⊢
        by_cases h2 : 2 ≤ d
        · rw [if_pos h2] at h
          exact ⟨h2, stk_dok S (x :: L) (d - 1) hs' h⟩
        · rw [if_neg h2] at h; exact absurd h (by simp)
      · rw [if_neg h8] at h ⊢
        by_cases h2 : 1 ≤ d
        · rw [if_pos h2] at h
          exact ⟨h2, stk_dok S (x :: L) d hs' h⟩
        · rw [if_neg h2] at h; exact absurd h (by simp)
    · rw [if_neg h6] at h ⊢
      exact stk_dok S (x :: L) (d + 1) hs' h
theorem stk_map {r r' : Nat → Int32} {f : Int32 → Int32} : ∀ {L : List Int32}, stk r L → stk r' (L.map f) → ∀ k, k < L.length → r' k = f (r k)
  | [], _, _, k, hk => absurd hk (Nat.not_lt_zero k)
  | a :: L, h, h', k, hk => by
    by_cases hkl : k = L.length
    · have h1 : r' (L.map f).length = f a := h'.1
      rw [List.length_map] at h1
      rw [hkl, h1, h.1]
    · have : k < L.length + 1 := hk
      exact stk_map h.2 h'.2 k (by omega)
theorem txt0 {Km : Int32 → Hp → Prop} {τ : Hp} {X : Nat} (hX : X < 6) (h11 : τ 0 11 = nI X) (h : MGT Km τ X 0 0 []) : VX12_text Km τ := by
  unfold VX12_text
  rw [h11, if_neg (show ¬ nI X = 6 from fun q => absurd ((nI_eq (b := 6) (by omega) (by decide)).mp q) (by omega))]
  intro u2 e2 u3 e3
  obtain ⟨n, hn⟩ := h
  refine ⟨n, hn u3 ⟨?_, ?_, ?_, trivial⟩⟩
  · rw [e3, e2]; exact agr.up (agr.up agr.rf (by omega)) (by omega)
  · rw [e3, hup_col (by decide), e2, hup_self]; rfl
  · rw [e3, hup_self]; rfl
theorem m_end {Km : Int32 → Hp → Prop} {τ : Hp} {b : Nat → Int32} {Z X p : Nat} {L : List Int32} (hC : CX τ b Z X) (hp : p ≤ Z) (hl : L.length ≤ 160) (h1 : tC b Z p = -30 → ∀ v, agr (fun k i => FM X k i ∧ ¬ (k = 0 ∧ (i = 8 ∨ i = 11)) ∧ ¬ (k = 8 ∧ i = 4 * X + 3)) τ v → v 0 8 = 0 → v 0 11 = nI (X + 1) → v 8 (4 * X + 3) = nI L.length → stk (fun i => v 7 (200 * X + i)) L → Km (nI X) v) (h0 : ¬ tC b Z p = -30 → FK Km τ X (tS b Z p)) : MGT Km τ X 3 p L := by
  have hX := hC.2.2
  refine ⟨1, fun v hv => ?_⟩
  rw [VX12_text_L26, if_pos (by decide)]
  unfold VX12_text_b101
  rw [if_neg (by decide)]
  refine MD.nx (v' := v) hC hp hv (fun v' hM hN => ?_)
  have hcd : cdX (tC b Z p) := tC_cd (fun j hj => (hC.1.2.2.1 j hj).1) hp hC.1.2.1
  rw [hN.2.2.1]
  by_cases h30 : tC b Z p = -30
  rotate_left
  · rw [if_neg (fun q => h30 ((mt_end hcd).mp q))]
    exact b122F rfl (h0 h30) hX (hM.1.sub fun k i h => by omega) hC.2.1 hN.2.1
  rw [if_pos ((mt_end hcd).mpr h30)]
  have g11 : v' 0 11 = nI X := by rw [hM.1 0 11 (by omega)]; exact hC.2.1
  unfold VX12_text_b122
  rw [g11, show (4 : Int32) * nI X = nI (4 * X) from pk_mul 4 X, show nI (4 * X) + 3 = nI (4 * X + 3) from nI_add _ 3, nI_clamp (by omega), hM.2.2.1]
  refine ⟨vp_in_nI (by omega) (by decide), fun u22 e22 u23 e23 => ?_⟩
  rw [if_neg (by decide)]
  intro u25 e25
  have g23 : u23 0 11 = nI X := by rw [e23, hup_col (by decide), e22, hup_row (by decide)]; exact g11
  rw [g23, nI_1] at e25
  have k11 : u25 0 11 = nI (X + 1) := by rw [e25, hup_self]
  rw [k11, nI_pred]
  refine h1 h30 u25 ?_ ?_ k11 ?_ ?_
  · rw [e25, e23, e22]; exact agr.up (agr.up (agr.up (hM.1.sub fun k i h => by omega) (by omega)) (by omega)) (by omega)
  · rw [e25, hup_col (by decide), e23, hup_self]
  · rw [e25, hup_row (by decide), e23, hup_row (by decide), e22, hup_self]
  · have : u25 7 = v' 7 := by rw [e25, hup_row (by decide), e23, hup_row (by decide), e22, hup_row (by decide)]
    rw [this]; exact hM.2.2.2
theorem f_text : ∀ σ τ, Inv σ τ → ∀ (_ : Unit), VX11_text (fun v u => VX12_text (fun v' u' => v = v' ∧ Inv u u') τ) σ := by
  intro σ τ hI _
  obtain ⟨T, X, L, Z, hA, hT, hP, hC, hS, hJ, hW⟩ := id hI
  obtain ⟨i1, i2, i3, i4, i5, i6, i7, i8, hX6, i10, i11⟩ := id hA
  have hz := hP.1
  unfold VX11_text
  rw [i10]
  by_cases hX : X < 6
  rotate_left
  · obtain rfl : X = 6 := by omega
    rw [if_neg (by decide)]
    try dsimp only
    unfold VX12_text
    rw [i11, if_pos (by decide)]
    exact ⟨rfl, hI⟩
  rw [if_pos (show nI X < 6 from nI_lt (b := 6) hX (by decide)), nI_clamp (by omega)]
  refine ⟨vp_in_nI hX (by decide), fun x2 ex2 => ?_⟩
  obtain rfl : x2 = 19 + X := ex2
  have hCX : CX τ (τ 6) Z X := ⟨⟨hP.2.2.1, hz, fun j hj => ⟨(hP.2.2.2 j hj).1, rfl⟩, hW.1⟩, i11, hX⟩
  -- the end, BROKEN at s
  have finF : ∀ s u', XBK σ X s u' → (∀ Km, FK Km τ X s → MGT Km τ X 0 0 []) → ∀ u5 : Hp, u5 = hup u' 38 1 0 → if u' 38 5 < 0 then (∀ u7 : Hp, u7 = hup u5 0 5 ((u5 0 5) + 1) → VX12_text (fun v' u' => (u7 0 5) - 1 = v' ∧ Inv u7 u') τ) else VX12_text (fun v' w => (-100) - u' 38 5 = v' ∧ Inv u5 w) τ := fun s u' hu hch u5 e5 => by
    obtain ⟨hs1, hs2⟩ := hu.2.1.2.1
    rw [hs1, if_neg (Int32.not_lt.mpr (nI_pos' (by omega)))]
    refine txt0 hX i11 (hch _ (fun v hv h8 => ⟨rfl, T, X, L, 0, ?_⟩))
    have ax : agr (fun k i => FXG X k i ∧ ¬ (k = 38 ∧ i = 1)) σ u5 := by rw [e5]; exact agr.up (hu.1.sub fun k i h => h.1) (by omega)
    refine ⟨hA.ag (ax.sub fun k i h => by omega) (hv.sub fun k i h => by omega), hT.ag (ax.sub fun k i h => by omega) (hv.sub fun k i h => by omega), ⟨by decide, ?_, h8, fun i hi => absurd hi (Nat.not_lt_zero i)⟩, hC.agX hX6 (ax.sub fun k i h => by omega) (hv.sub fun k i h => by omega), hS.ag (ax.sub fun k i h => by omega) (hv.sub fun k i h => by omega), hJ.ag (ax.sub fun k i h => by omega) (hv.sub fun k i h => by omega), hW.ag (ax.sub fun k i h => by omega) (hv.sub fun k i h => by omega)⟩
    rw [e5, hup_self]; rfl
  unfold VX4_read
  refine ⟨⟨by omega, by omega⟩, fun u1 e1 => ?_⟩
  have k6 : u1 38 6 = nI (19 + X + 1) := by rw [e1, hup_self]
  rw [k6]
  refine ⟨nI_ne0 (by omega) (by omega), fun x2 ex2 => ⟨by rw [nI_clamp (by omega)] at ex2; omega, nI_ne0 (by omega) (by omega), fun x3 ex3 => ?_⟩⟩
  rw [nI_clamp (by omega)] at ex3
  obtain rfl : x3 = 19 + X := ex3
  refine ⟨⟨by omega, by omega⟩, ?_⟩
  unfold VX9_clear
  refine ⟨⟨by omega, by omega⟩, fun v1 f1 v2 f2 u6 e6 u7 e7 => ?_⟩
  have a7 : agr (FXG X) σ u7 := by rw [e7, e6, f2, f1, e1]; exact agr.up (agr.up (agr.up (agr.up (agr.up agr.rf (by omega)) (by omega)) (by omega)) (by omega)) (by omega)
  have hR7 : RB u7 (τ 6) Z := by
    refine ⟨by rw [a7 38 1 (by omega)]; exact hP.2.1, hz, fun j hj => ?_⟩
    rw [a7 39 j (by omega)]
    exact hP.2.2.2 j hj
  refine x_goOn (p := 0) (Nat.zero_le _) hR7 (by rw [e7, hup_col (by decide), e6, hup_self]; decide) (by rw [e7, hup_self]; rfl) (fun u9 a9 c2 c3 c4 => ?_)
  have b9 : agr (FXG X) σ u9 := a7.tr (a9.sub fun k i h => by omega)
  have r19 : u9 (19 + X) = v2 (19 + X) := by rw [a9.row (k := 19 + X) (fun i => by omega), e7, hup_row (by omega), e6, hup_row (by omega)]
  have h9 : XS u9 (τ 6) Z X 0 [] u9 := by
    refine ⟨agr.rf, ?_, ?_, c2, c3, c4, ?_, trivial⟩
    · rw [a9 38 5 (by decide), e7, hup_col (by decide), e6, hup_self]
    · rw [a9 38 6 (by decide), e7, hup_col (by decide), e6, hup_col (by decide), f2, hup_row (by omega), f1, hup_row (by omega)]; exact k6
    · rw [r19, f2, hup_col (by decide), f1, hup_self]; rfl
  have h94 : u9 (19 + X) 4 = nI 0 := by rw [r19, f2, hup_self]; rfl
  rw [show (-23 : Int32) = key 0 by decide, show (-24 : Int32) = key 1 by decide, show (-25 : Int32) = key 2 by decide]
  have kn : ∀ j, j < 3 → key j ≠ -31 := fun j hj => (kyT j hj).2.1
  refine pt (j := 0) (τ := τ) (by decide) (hR7.ag (a9.sub fun k i h => by omega)) h9 h94 (Nat.zero_le _) (Nat.le_refl _) hCX (fun u11 p1 S0 g1 g2 g3 g4 g5 g6 g7 g8 g9 => ?_) (fun u11 q hq hb hch => ?_)
  rotate_left
  · have hb' : XBK σ X (tS (τ 6) Z q) u11 := ⟨b9.tr hb.1, hb.2⟩
    refine xb_part hX hb' (kn 1 (by decide)) (fun u13 hb2 => xb_part hX hb2 (kn 2 (by decide)) (fun u15 hb3 => xb_take hX hb3 (by decide) (fun u17 hb4 => finF _ u17 hb4 hch)))
  have b11 : agr (FXG X) σ u11 := b9.tr g5
  have r31 : ∀ i, i ≤ 0 → u11 (31 + X) i = 0 := fun i hi => by
    obtain rfl : i = 0 := Nat.le_zero.mp hi
    rw [b11 (31 + X) 0 (by omega)]; exact hW.2 X hX
  generalize hL1 : S0.reverse ++ ([] : List Int32) = L1 at *
  refine pt (j := 1) (L := L1) (τ := hup τ 8 (4 * X + 0) (nI ([] : List Int32).length)) (by decide) (hR7.ag ((a9.sub (Q := fun k i => k = 39 ∨ (k = 38 ∧ i = 1)) fun k i h => by omega).tr (g5.sub fun k i h => by omega))) g2 g6 g3 g4 hCX.hup (fun u13 p2 S1 m1 m2 m3 m4 m5 m6 m7 m8 m9 => ?_) (fun u13 q hq hb hch => ?_)
  rotate_left
  · have hb' : XBK σ X (tS (τ 6) Z q) u13 := ⟨b11.tr hb.1, hb.2⟩
    refine xb_part hX hb' (kn 2 (by decide)) (fun u15 hb3 => xb_take hX hb3 (by decide) (fun u17 hb4 => finF _ u17 hb4 (fun Km hm => g9 Km (hch Km (hm.up (agr.up agr.rf (by omega)))))))
  have b13 : agr (FXG X) σ u13 := b11.tr m5
  generalize hL2 : S1.reverse ++ L1 = L2 at *
  refine pt (j := 2) (L := L2) (τ := hup (hup τ 8 (4 * X + 0) (nI ([] : List Int32).length)) 8 (4 * X + 1) (nI L1.length)) (by decide) (hR7.ag ((a9.sub (Q := fun k i => k = 39 ∨ (k = 38 ∧ i = 1)) fun k i h => by omega).tr ((g5.tr m5).sub fun k i h => by omega))) m2 m6 m3 m4 hCX.hup.hup (fun u15 p3 S2 n1 n2 n3 n4 n5 n6 n7 n8 n9 => ?_) (fun u15 q hq hb hch => ?_)
  rotate_left
  · have hb' : XBK σ X (tS (τ 6) Z q) u15 := ⟨b13.tr hb.1, hb.2⟩
    refine xb_take hX hb' (by decide) (fun u17 hb4 => finF _ u17 hb4 (fun Km hm => g9 Km (m9 Km (hch Km ((hm.up (agr.up agr.rf (by omega))).up (agr.up agr.rf (by omega)))))))
  have b15 : agr (FXG X) σ u15 := b13.tr n5
  generalize hL3 : S2.reverse ++ L2 = L3 at *
  have hC3 : CX (hup (hup (hup τ 8 (4 * X + 0) (nI ([] : List Int32).length)) 8 (4 * X + 1) (nI L1.length)) 8 (4 * X + 2) (nI L2.length)) (τ 6) Z X := hCX.hup.hup.hup
  have q2 : u15 38 2 = tC (τ 6) Z p3 := n2.2.2.2.1
  unfold VX4_take
  rw [q2]
  by_cases h30 : tC (τ 6) Z p3 = -30
  rotate_left
  · rw [if_neg h30]
    refine xs_fail hX n3 hz (by omega) n2 (fun u17 h17 => ?_)
    refine finF (tS (τ 6) Z p3) u17 ⟨b15.tr (h17.1.sub fun k i h => by omega), h17.self, 3, by decide, ?_⟩ (fun Km hm => g9 Km (m9 Km (n9 Km (m_end hC3 n3 (by rw [List.length_map]; omega) (fun q => absurd q h30) (fun _ => ?_)))))
    · rw [h17.1 (19 + X) 4 (by omega)]; exact n6
    · exact ((hm.up (agr.up agr.rf (by omega))).up (agr.up agr.rf (by omega))).up (agr.up agr.rf (by omega))
  rw [if_pos h30, if_pos h30]
  intro u5 e5
  rw [show u15 38 5 = -1 from n2.2.1, if_pos (by decide)]
  intro w ew
  have g05 : u5 0 5 = nI X := by rw [e5, hup_row (by decide), b15 0 5 (by omega)]; exact i10
  rw [g05, nI_1] at ew
  have k05 : w 0 5 = nI (X + 1) := by rw [ew, hup_self]
  rw [k05, nI_pred]
  refine txt0 hX i11 (g9 _ (m9 _ (n9 _ (m_end hC3 n3 (by rw [List.length_map]; omega) (fun _ v hv h8 h11 hst hcd => ?_) (fun q => absurd h30 q)))))
  have ax : agr (fun k i => FXG X k i ∧ ¬ (k = 38 ∧ i = 1) ∧ ¬ (k = 0 ∧ i = 5)) σ w := by rw [ew, e5]; exact agr.up (agr.up (b15.sub fun k i h => h.1) (by omega)) (by omega)
  have am : agr (fun k i => FMH X k i ∧ ¬ (k = 0 ∧ i = 11)) τ v := ((agr.up (agr.up (agr.up agr.rf (by omega)) (by omega)) (by omega) : agr (fun k i => FMH X k i ∧ ¬ (k = 0 ∧ i = 11)) τ _)).tr (hv.sub fun k i h => by omega)
  have w31 : w (31 + X) = u15 (31 + X) := by rw [ew, hup_row (by omega), e5, hup_row (by omega)]
  have w25 : w (25 + X) = u15 (25 + X) := by rw [ew, hup_row (by omega), e5, hup_row (by omega)]
  have s0 : u15 (31 + X) 0 = nI 0 := by rw [n7 0 (by decide), m7 0 (by decide)]; exact r31 0 (by decide)
  have s1 : u15 (31 + X) 1 = nI L1.length := by rw [n7 1 (by decide)]; rw [m7 1 (by decide)]; exact g8
  have s2 : u15 (31 + X) 2 = nI L2.length := by rw [n7 2 (by decide)]; exact m8
  have s3 : u15 (31 + X) 3 = nI L3.length := n8
  have st3 : stk (u15 (25 + X)) L3 := n2.2.2.2.2.2.2.2
  have len1 : L1.length = 0 + S0.length := by rw [← hL1]; simp
  have len2 : L2.length = L1.length + S1.length := by rw [← hL2]; simp [Nat.add_comm]
  have len3 : L3.length = L2.length + S2.length := by rw [← hL3]; simp [Nat.add_comm]
  have st2 : stk (u15 (25 + X)) L2 := stk_sf S2.reverse L2 (by rw [hL3]; exact st3)
  have st1 : stk (u15 (25 + X)) L1 := stk_sf S1.reverse L1 (by rw [hL2]; exact st2)
  refine ⟨rfl, T, X + 1, L, 0, ⟨?_, ?_, ?_, ?_, ?_, ?_, ?_, by omega, by omega, k05, h11⟩, hT.ag (ax.sub fun k i h => by omega) (am.sub fun k i h => by omega), ⟨by decide, ?_, h8, fun i hi => absurd hi (Nat.not_lt_zero i)⟩, ?_, hS.ag (ax.sub fun k i h => by omega) (am.sub fun k i h => by omega), ?_, hW.ag (ax.sub fun k i h => by omega) (am.sub fun k i h => by omega)⟩
  · rw [ax 1 0 (by omega), am 1 0 (by omega)]; exact i1
  · rw [ax 1 1 (by omega), am 1 1 (by omega)]; exact i2
  · rw [ax 1 2 (by omega), am 1 2 (by omega)]; exact i3
  · rw [ax 1 3 (by omega), am 0 1 (by omega)]; exact i4
  · rw [ax 1 3 (by omega)]; exact i5
  · rw [ax 1 4 (by omega)]; exact i6
  · rw [am 0 12 (by omega)]; exact i7
  · rw [ew, hup_row (by decide), e5, hup_self]; rfl
  · intro t ht
    by_cases htX : t < X
    · exact hC.agX hX6 (u := w) (v := v) (ax.sub fun k i h => by omega) (am.sub fun k i h => by omega) t htX
    obtain rfl : t = X := by omega
    unfold CT
    rw [w31, w25]
    have e8 : ∀ p, p < 3 → v 8 (4 * t + p) = (hup (hup (hup τ 8 (4 * t + 0) (nI ([] : List Int32).length)) 8 (4 * t + 1) (nI L1.length)) 8 (4 * t + 2) (nI L2.length)) 8 (4 * t + p) := fun p hp => hv 8 (4 * t + p) (by omega)
    refine ⟨⟨fun p => if p = 0 then 0 else if p = 1 then L1.length else if p = 2 then L2.length else L3.length, fun p hp => ?_, rfl, ?_, fun p hp => ?_, fun p hp => ?_⟩, fun p hp => ?_, fun k hk => ?_⟩
    · rcases (show p = 0 ∨ p = 1 ∨ p = 2 ∨ p = 3 by omega) with rfl | rfl | rfl | rfl
      · exact s0
      · exact s1
      · exact s2
      · exact s3
    · show L3.length ≤ 160
      omega
    · rcases (show p = 0 ∨ p = 1 ∨ p = 2 by omega) with rfl | rfl | rfl
      · show 0 ≤ L1.length
        omega
      · show L1.length ≤ L2.length
        omega
      · show L2.length ≤ L3.length
        omega
    · rcases (show p = 0 ∨ p = 1 ∨ p = 2 by omega) with rfl | rfl | rfl
      · show dok (u15 (25 + t)) 0 (L1.length - 0) 0
        rw [show L1.length - 0 = S0.length by omega]
        exact stk_dok S0 [] 0 (by rw [hL1]; exact st1) (g1 0)
      · show dok (u15 (25 + t)) L1.length (L2.length - L1.length) 0
        rw [show L2.length - L1.length = S1.length by omega]
        exact stk_dok S1 L1 0 (by rw [hL2]; exact st2) (m1 0)
      · show dok (u15 (25 + t)) L2.length (L3.length - L2.length) 0
        rw [show L3.length - L2.length = S2.length by omega]
        exact stk_dok S2 L2 0 (by rw [hL3]; exact st3) (n1 0)
    · rcases (show p = 0 ∨ p = 1 ∨ p = 2 ∨ p = 3 by omega) with rfl | rfl | rfl | rfl
      · rw [e8 0 (by decide), hup_col (by omega), hup_col (by omega), hup_self, s0]; rfl
      · rw [e8 1 (by decide), hup_col (by omega), hup_self, s1]
      · rw [e8 2 (by decide), hup_self, s2]
      · rw [hst, List.length_map, s3]
    · rw [s3, nI_clamp (by omega)] at hk
      exact stk_map (r' := fun i => v 7 (200 * t + i)) st3 hcd k hk
  · refine ⟨?_, fun hn => ?_⟩
    · rw [ax 0 2 (by omega), am 0 13 (by omega)]; exact hJ.1
    · rw [ax 0 2 (by omega)] at hn
      obtain ⟨TI, LI, hi⟩ := hJ.2 hn
      have hi' := hi.ag (u := w) (v := v) (ax.sub fun k i h => by omega) (am.sub fun k i h => by omega)
      obtain ⟨y1, y2, y3⟩ := hi'
      exact ⟨TI, LI, y1, by omega, y3⟩
