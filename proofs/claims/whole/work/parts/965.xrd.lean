/-! ===== x's reader: its states ===== -/
abbrev FX (X k i : Nat) : Prop := ¬ (k = 38 ∧ 2 ≤ i ∧ i ≤ 6) ∧ k ≠ 25 + X ∧ ¬ (k = 19 + X ∧ i = 3)
def XS (σ : Hp) (b : Nat → Int32) (Z X p : Nat) (L : List Int32) (u : Hp) : Prop := agr (FX X) σ u ∧ u 38 5 = -1 ∧ u 38 6 = nI (19 + X + 1) ∧ u 38 2 = tC b Z p ∧ u 38 3 = nI (tS b Z p) ∧ u 38 4 = nI (tE b Z p) ∧ u (19 + X) 3 = nI L.length ∧ stk (u (25 + X)) L
def XF (σ : Hp) (X s : Nat) (u : Hp) : Prop := agr (FX X) σ u ∧ (u 38 5 = nI s ∧ s ≤ 160) ∧ u 38 6 = nI (19 + X + 1) ∧ u 38 2 = -31 ∧ ∃ k, k ≤ 160 ∧ u (19 + X) 3 = nI k
/-- codes in their order: the depth behind them -/
def dr : List Int32 → Nat → Option Nat
  | [], d => some d
  | x :: S, d => if rg x (-15) 9999 then (if x < -6 then (if x < -8 then (if 2 ≤ d then dr S (d - 1) else none) else (if 1 ≤ d then dr S d else none)) else dr S (d + 1)) else none
theorem dr_ap : ∀ (S S' : List Int32) (d : Nat), dr (S ++ S') d = (dr S d).bind (dr S')
  | [], S', d => rfl
  | x :: S, S', d => by
    show dr (x :: (S ++ S')) d = _
    unfold dr
    split
    · split
      · split
        · split
          · exact dr_ap S S' _
          · rfl
        · split
          · exact dr_ap S S' _
          · rfl
      · exact dr_ap S S' _
    · rfl
def okS (S : List Int32) : Prop := ∀ d, dr S d = some (d + 1)
theorem okS_leaf {x : Int32} (h : rg x (-6) 9999) : okS [x] := fun d => by
  unfold dr
  rw [if_pos (show rg x (-15) 9999 from ⟨Int32.le_trans (by decide) h.1, h.2⟩), if_neg (Int32.not_lt.mpr h.1)]
  rfl
theorem okS_un {S : List Int32} {x : Int32} (h : okS S) (hx : x = -7 ∨ x = -8) : okS (S ++ [x]) := fun d => by
  rw [dr_ap, h d]
  rcases hx with rfl | rfl <;> simp [dr] <;> decide
theorem okS_bin {S S' : List Int32} {x : Int32} (h : okS S) (h' : okS S') (h1 : -15 ≤ x) (h2 : x < -8) : okS (S ++ S' ++ [x]) := fun d => by
  rw [dr_ap, dr_ap, h d]
  show ((dr S' (d + 1))).bind (dr [x]) = _
  rw [h' (d + 1)]
  show dr [x] (d + 1 + 1) = some (d + 1)
  unfold dr
  rw [if_pos (show rg x (-15) 9999 from ⟨h1, Int32.le_of_lt (Int32.lt_trans h2 (by decide))⟩), if_pos (Int32.lt_trans h2 (by decide)), if_pos h2, if_pos (by omega)]
  rfl
section XR
variable {σ : Hp} {b : Nat → Int32} {Z X p : Nat} {L : List Int32} {u : Hp}
theorem XS.rb (hR : RB σ b Z) (hX : X < 6) (h : XS σ b Z X p L u) : RB u b Z := hR.ag (h.1.sub fun k i h => by omega)
theorem xs_goOn {K : Hp → Prop} (hR : RB σ b Z) (hX : X < 6) (hp : p ≤ Z) (h : XS σ b Z X p L u) (hK : ∀ u', XS σ b Z X (tE b Z p) L u' → K u') : VX4_goOn K u := by
  have he := tE_le (b := b) hp
  have hRu := h.rb hR hX
  obtain ⟨h1, h2, h3, h4, h5, h6, h7, h8⟩ := h
  refine x_goOn he.2.1 hRu (by rw [h2]; decide) h6 (fun u' a c2 c3 c4 => hK u' ⟨?_, ?_, ?_, c2, c3, c4, ?_, ?_⟩)
  · exact h1.tr (a.sub fun k i h => by omega)
  · rw [a 38 5 (by decide)]; exact h2
  · rw [a 38 6 (by decide)]; exact h3
  · rw [a (19 + X) 3 (by omega)]; exact h7
  · rw [a.row (k := 25 + X) (fun i => by omega)]; exact h8
theorem xs_fail {K : Hp → Prop} (hX : X < 6) (hp : p ≤ Z) (hz : Z ≤ 160) (hl : L.length ≤ 160) (h : XS σ b Z X p L u) (hK : ∀ u', XF σ X (tS b Z p) u' → K u') : VX4_fail K u := by
  have hs := tS_le (b := b) hp
  obtain ⟨h1, h2, h3, h4, h5, h6, h7, h8⟩ := h
  unfold VX4_fail
  rw [h2, if_neg (by decide)]
  intro u3 e3 u4 e4
  rw [h5] at e3
  refine hK u4 ⟨?_, ⟨?_, by omega⟩, ?_, ?_, L.length, hl, ?_⟩
  · rw [e4, e3]; exact agr.up (agr.up h1 (by omega)) (by omega)
  · rw [e4, hup_col (by decide), e3, hup_self]
  · rw [e4, hup_col (by decide), e3, hup_col (by decide)]; exact h3
  · rw [e4, hup_self]
  · rw [e4, hup_row (by omega), e3, hup_row (by omega)]; exact h7
theorem xf_fail {K : Hp → Prop} {s : Nat} (hX : X < 6) (h : XF σ X s u) (hK : ∀ u', XF σ X s u' → K u') : VX4_fail K u := by
  obtain ⟨h1, ⟨h2, hs⟩, h3, h4, k, hk, h5⟩ := h
  unfold VX4_fail
  rw [h2, if_pos (nI_pos' (by omega))]
  intro u2 e2
  refine hK u2 ⟨?_, ⟨?_, hs⟩, ?_, ?_, k, hk, ?_⟩
  · rw [e2]; exact agr.up h1 (by omega)
  · rw [e2, hup_col (by decide)]; exact h2
  · rw [e2, hup_col (by decide)]; exact h3
  · rw [e2, hup_self]
  · rw [e2, hup_row (by omega)]; exact h5
/-- out.add(..) -/
def AD (K : Hp → Prop) (u : Hp) (a : Int32) : Prop := (¬ u 38 6 = 0) ∧ ∀ x9 : Nat, x9 = (u 38 6).toNatClampNeg - 1 → (19 ≤ x9 ∧ x9 < 25) ∧ VX9_add K u x9 a
theorem xs_add {K : Hp → Prop} {a : Int32} (hX : X < 6) (hl : L.length < 160) (h : XS σ b Z X p L u) (hK : ∀ u', XS σ b Z X p (a :: L) u' → K u') : AD K u a := by
  obtain ⟨h1, h2, h3, h4, h5, h6, h7, h8⟩ := h
  unfold AD
  rw [h3]
  refine ⟨nI_ne0 (by omega) (by omega), fun x9 e9 => ?_⟩
  rw [nI_clamp (by omega)] at e9
  obtain rfl : x9 = 19 + X := e9
  refine ⟨⟨by omega, by omega⟩, ?_⟩
  unfold VX9_add
  refine ⟨⟨by omega, by omega⟩, ?_⟩
  rw [h7, if_neg (show ¬ (160 : Int32) ≤ nI L.length from nI_ge (b := 160) hl (by decide)), nI_clamp (by omega)]
  intro x2 e2
  obtain rfl : x2 = 25 + X := by omega
  refine ⟨vp_in_nI hl (by decide), fun u3 e3 u4 e4 => ?_⟩
  have g7 : u3 (19 + X) 3 = nI L.length := by rw [e3, hup_row (by omega)]; exact h7
  rw [g7, nI_1] at e4
  have r38 : u4 38 = u 38 := by rw [e4, hup_row (by omega), e3, hup_row (by omega)]
  refine hK u4 ⟨?_, ?_, ?_, ?_, ?_, ?_, ?_, ?_⟩
  · rw [e4, e3]; exact agr.up (agr.up h1 (by omega)) (by omega)
  · rw [r38]; exact h2
  · rw [r38]; exact h3
  · rw [r38]; exact h4
  · rw [r38]; exact h5
  · rw [r38]; exact h6
  · rw [e4, hup_self]; rfl
  · refine ⟨?_, ?_⟩
    · show u4 (25 + X) L.length = a
      rw [e4, hup_row (by omega), e3, hup_self]
    · refine stk_cg (fun i hi => ?_) h8
      rw [e4, hup_row (by omega), e3, hup_col (by omega)]
theorem xf_add {K : Hp → Prop} {a : Int32} {s : Nat} (hX : X < 6) (h : XF σ X s u) (hK : ∀ u', XF σ X s u' → K u') : AD K u a := by
  obtain ⟨h1, ⟨h2, hs⟩, h3, h4, k, hk, h5⟩ := id h
  unfold AD
  rw [h3]
  refine ⟨nI_ne0 (by omega) (by omega), fun x9 e9 => ?_⟩
  rw [nI_clamp (by omega)] at e9
  obtain rfl : x9 = 19 + X := e9
  refine ⟨⟨by omega, by omega⟩, ?_⟩
  unfold VX9_add
  refine ⟨⟨by omega, by omega⟩, ?_⟩
  rw [h5]
  by_cases hk160 : 160 ≤ k
  · rw [if_pos (show (160 : Int32) ≤ nI k from nI_le (a := 160) hk160 (by omega))]
    exact hK u h
  rw [if_neg (show ¬ (160 : Int32) ≤ nI k from nI_ge (b := 160) (by omega) (by decide)), nI_clamp (by omega)]
  intro x2 e2
  obtain rfl : x2 = 25 + X := by omega
  refine ⟨vp_in_nI (by omega) (by decide), fun u3 e3 u4 e4 => ?_⟩
  have g7 : u3 (19 + X) 3 = nI k := by rw [e3, hup_row (by omega)]; exact h5
  rw [g7, nI_1] at e4
  have r38 : u4 38 = u 38 := by rw [e4, hup_row (by omega), e3, hup_row (by omega)]
  refine hK u4 ⟨?_, ⟨?_, hs⟩, ?_, ?_, k + 1, by omega, ?_⟩
  · rw [e4, e3]; exact agr.up (agr.up h1 (by omega)) (by omega)
  · rw [r38]; exact h2
  · rw [r38]; exact h3
  · rw [r38]; exact h4
  · rw [e4, hup_self]
theorem xf_goOn {K : Hp → Prop} {s : Nat} (h : XF σ X s u) (hK : K u) : VX4_goOn K u := by
  obtain ⟨h1, ⟨h2, hs⟩, _⟩ := h
  exact x_goOnF (by rw [h2]; exact nI_pos (by omega)) hK
/-- once BROKEN, nothing more is read -/
theorem xf_rec {s : Nat} (hX : X < 6) : ∀ (f t : Nat) (K : Hp → Prop) (u : Hp) (a1 : Int32), t < 6 → 6 ≤ f + t → XF σ X s u → (∀ u', XF σ X s u' → K u') → VREC f t K u a1
  | 0, t, K, u, a1, ht, hf, _, _ => absurd hf (by omega)
  | f + 1, t, K, u, a1, ht, hf, h, hK => by
    have ih := xf_rec (s := s) hX f
    rcases (show t = 0 ∨ t = 1 ∨ t = 2 ∨ t = 3 ∨ t = 4 ∨ t = 5 by omega) with rfl | rfl | rfl | rfl | rfl | rfl
    · unfold VREC
      rw [if_pos rfl]
      unfold BX4_readOr
      refine ih 1 _ u a1 (by decide) (by omega) h (fun u2 h2 => ⟨1, ?_⟩)
      rw [VX4_readOr_L7, if_neg (by decide), h2.2.2.2.1, if_neg (by decide)]
      exact hK u2 h2
    · unfold VREC
      rw [if_neg (by decide), if_pos rfl]
      unfold BX4_readAnd
      refine ih 2 _ u a1 (by decide) (by omega) h (fun u2 h2 => ⟨1, ?_⟩)
      rw [VX4_readAnd_L7, if_neg (by decide), h2.2.2.2.1, if_neg (by decide)]
      exact hK u2 h2
    · unfold VREC
      rw [if_neg (by decide), if_neg (by decide), if_pos rfl]
      unfold BX4_readNot VX4_readNot_b35
      rw [h.2.2.2.1, if_neg (by decide)]
      refine ih 3 _ u a1 (by decide) (by omega) h (fun u2 h2 => ?_)
      rw [h2.2.2.2.1, if_neg (by decide), if_neg (by decide)]
      exact hK u2 h2
    · unfold VREC
      rw [if_neg (by decide), if_neg (by decide), if_neg (by decide), if_pos rfl]
      unfold BX4_readSum
      refine ih 4 _ u a1 (by decide) (by omega) h (fun u2 h2 => ⟨1, ?_⟩)
      rw [VX4_readSum_L7, if_neg (by decide), h2.2.2.2.1, if_neg (by decide), if_neg (by decide)]
      exact hK u2 h2
    · unfold VREC
      rw [if_neg (by decide), if_neg (by decide), if_neg (by decide), if_neg (by decide), if_pos rfl]
      unfold BX4_readTerm
      refine ih 5 _ u a1 (by decide) (by omega) h (fun u2 h2 => ⟨1, ?_⟩)
      rw [VX4_readTerm_L7, if_neg (by decide), h2.2.2.2.1, if_neg (by decide)]
      exact hK u2 h2
    · unfold VREC
      rw [if_neg (by decide), if_neg (by decide), if_neg (by decide), if_neg (by decide), if_neg (by decide), if_pos rfl]
      unfold BX4_readOne VX4_readOne_b64 VX4_readOne_b98
      rw [h.2.2.2.1, if_pos (by decide), if_neg (by decide), if_neg (by decide)]
      exact xf_fail hX h hK
end XR
