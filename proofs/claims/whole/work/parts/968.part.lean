/-! ===== a part of a text ===== -/
abbrev FXG (X k i : Nat) : Prop := ¬ (k = 38 ∧ 2 ≤ i ∧ i ≤ 6) ∧ k ≠ 25 + X ∧ ¬ (k = 19 + X ∧ 3 ≤ i ∧ i ≤ 4) ∧ ¬ (k = 31 + X ∧ 1 ≤ i)
abbrev FMG (X k i : Nat) : Prop := ¬ (k = 0 ∧ 21 ≤ i ∧ i ≤ 29) ∧ k ≠ 15 ∧ ¬ (k = 7 ∧ 200 * X ≤ i) ∧ ¬ (k = 8 ∧ 4 * X ≤ i ∧ i ≤ 4 * X + 3)
abbrev FMH (X k i : Nat) : Prop := FMG X k i ∧ ¬ (k = 0 ∧ i = 8)
def XBK (σ : Hp) (X s : Nat) (u : Hp) : Prop := agr (FXG X) σ u ∧ XF u X s u ∧ ∃ j, j ≤ 3 ∧ u (19 + X) 4 = nI j
def key (j : Nat) : Int32 := -nI (23 + j)
def kmt (K : Int32 → Hp → Prop) (n j : Nat) (v : Int32) (u : Hp) : Prop := if v = 0 then (∀ x20 : Int32, x20 = nI j + 1 → VX12_text_L26 K n u 0 x20) else (∀ x21 : Int32, x21 = nI j + 1 → VX12_text_L26 K n u 1 x21)
def FK (K : Int32 → Hp → Prop) (τ : Hp) (X s : Nat) : Prop := ∀ v, agr (FMH X) τ v → v 0 8 = 0 → K (-100 - nI s) v
def MGT (K : Int32 → Hp → Prop) (τ : Hp) (X j p : Nat) (L : List Int32) : Prop := ∃ n, ∀ v, MD τ X p L v → VX12_text_L26 K n v 1 (nI j)
theorem FK.up {K : Int32 → Hp → Prop} {τ τ' : Hp} {X s : Nat} (h : FK K τ X s) (a : agr (FMH X) τ τ') : FK K τ' X s := fun v hv h8 => h v (a.tr hv) h8
section PARTS
variable {σ u : Hp} {b : Nat → Int32} {Z X s p : Nat} {L : List Int32}
theorem XF.self (h : XF σ X s u) : XF u X s u := ⟨agr.rf, h.2⟩
theorem XS.self (h : XS σ b Z X p L u) : XS u b Z X p L u := ⟨agr.rf, h.2⟩
theorem xf_end {K : Hp → Prop} {u4 : Hp} {j : Nat} (hX : X < 6) (h : XF u X s u4) (hj : j ≤ 3) (hj4 : u (19 + X) 4 = nI j) (hK : ∀ u', XBK u X s u' → K u') : (¬ u4 38 6 = 0) ∧ ∀ x5 : Nat, x5 = (u4 38 6).toNatClampNeg - 1 → (19 ≤ x5 ∧ x5 < 25) ∧ VX9_endPart (fun u7 => VX4_take (fun u9 => K u9) u7 (-22)) u4 x5 := by
  obtain ⟨h1, ⟨h2, hs⟩, h3, h4, k, hk, h5⟩ := id h
  rw [h3]
  refine ⟨nI_ne0 (by omega) (by omega), fun x5 e5 => ?_⟩
  rw [nI_clamp (by omega)] at e5
  obtain rfl : x5 = 19 + X := e5
  refine ⟨⟨by omega, by omega⟩, ?_⟩
  have g4 : u4 (19 + X) 4 = nI j := by rw [h1 (19 + X) 4 (by omega)]; exact hj4
  have fin : ∀ w, agr (FXG X) u w → XF w X s w → (∃ j, j ≤ 3 ∧ w (19 + X) 4 = nI j) → VX4_take (fun u9 => K u9) w (-22) := fun w a hw hj => by
    unfold VX4_take
    rw [hw.2.2.2.1, if_neg (by decide)]
    refine xf_fail hX hw (fun u' h' => hK u' ⟨a.tr (h'.1.sub fun k i h => by omega), h'.self, ?_⟩)
    rw [h'.1 (19 + X) 4 (by omega)]
    exact hj
  unfold VX9_endPart
  refine ⟨⟨by omega, by omega⟩, ?_⟩
  rw [g4]
  by_cases hj3 : 3 ≤ j
  · rw [if_pos (show (3 : Int32) ≤ nI j from nI_le (a := 3) hj3 (by omega))]
    exact fin u4 (h1.sub fun k i h => by omega) h.self ⟨j, hj, g4⟩
  rw [if_neg (show ¬ (3 : Int32) ≤ nI j from nI_ge (b := 3) (by omega) (by decide))]
  intro u2 e2 x3 e3
  obtain rfl : x3 = 31 + X := by omega
  have g : u2 (19 + X) 4 = nI (j + 1) := by rw [e2, hup_self, nI_1]
  rw [g, nI_clamp (by omega)]
  refine ⟨vp_in_nI (by omega) (by decide), fun w ew => ?_⟩
  have r38 : w 38 = u4 38 := by rw [ew, hup_row (by omega), e2, hup_row (by omega)]
  refine fin w ?_ ⟨agr.rf, ⟨by rw [r38]; exact h2, hs⟩, by rw [r38]; exact h3, by rw [r38]; exact h4, k, hk, ?_⟩ ⟨j + 1, by omega, ?_⟩
  · rw [ew, e2]; exact agr.up (agr.up (h1.sub fun k i h => by omega) (by omega)) (by omega)
  · rw [ew, hup_row (by omega), e2, hup_col (by omega)]; exact h5
  · rw [ew, hup_row (by omega)]; exact g
theorem xb_part {K : Hp → Prop} {a : Int32} (hX : X < 6) (h : XBK σ X s u) (ha : a ≠ -31) (hK : ∀ u', XBK σ X s u' → K u') : VX4_readPart K u a := by
  obtain ⟨h1, h2, j, hj, h4⟩ := h
  unfold VX4_readPart VX4_take
  rw [h2.2.2.2.1, if_neg (fun q => ha q.symm)]
  refine xf_fail hX h2 (fun u2 g2 => ?_)
  refine xf_rec hX 64 0 _ u2 0 (by decide) (by decide) g2 (fun u4 g4 => ?_)
  exact xf_end hX g4 hj h4 (fun u' hu' => hK u' ⟨h1.tr hu'.1, hu'.2⟩)
theorem xb_take {K : Hp → Prop} {a : Int32} (hX : X < 6) (h : XBK σ X s u) (ha : a ≠ -31) (hK : ∀ u', XBK σ X s u' → K u') : VX4_take K u a := by
  obtain ⟨h1, h2, j, hj, h4⟩ := h
  unfold VX4_take
  rw [h2.2.2.2.1, if_neg (fun q => ha q.symm)]
  refine xf_fail hX h2 (fun u2 g2 => hK u2 ⟨h1.tr (g2.1.sub fun k i h => by omega), g2.self, j, hj, ?_⟩)
  rw [g2.1 (19 + X) 4 (by omega)]; exact h4
end PARTS
section PARTM
variable {K : Int32 → Hp → Prop} {τ : Hp} {b : Nat → Int32} {Z X j p : Nat} {L : List Int32}
theorem kyT : ∀ j, j < 3 → key j ≠ -30 ∧ key j ≠ -31 ∧ mtk (key j) = 3 ∧ mvl (key j) = nI j := by decide +kernel
theorem kyU : ∀ k, k < 31 → ∀ j, j < 3 → mtk (-nI (k + 1)) = 3 → mvl (-nI (k + 1)) = nI j → -nI (k + 1) = key j := by decide +kernel
theorem ky0 : ∀ k, k < 31 → (mtk (-nI (k + 1)) = 0 ↔ -nI (k + 1) = (-30 : Int32)) := by decide +kernel
theorem mt_end {c : Int32} (h : cdX c) : mtk c = 0 ↔ c = -30 := by
  rcases h with h0 | ⟨k, hk, rfl⟩
  · have t1 : mtk c = 1 := by unfold mtk; rw [if_pos h0]
    rw [t1]
    exact ⟨fun q => absurd q (by decide), fun q => by rw [q] at h0; exact absurd h0 (by decide)⟩
  · exact ky0 k hk
theorem mt_key {c : Int32} (h : cdX c) (hj : j < 3) (h1 : mtk c = 3) (h2 : mvl c = nI j) : c = key j := by
  rcases h with h0 | ⟨k, hk, rfl⟩
  · have t1 : mtk c = 1 := by unfold mtk; rw [if_pos h0]
    rw [t1] at h1
    exact absurd h1 (by decide)
  · exact kyU k hk j hj h1 h2
theorem b122F {s : Nat} {v : Hp} {w : Int32} (hw : w = 0) (hF : FK K τ X s) (hX : X < 6) (a : agr (FMG X) τ v) (h11 : τ 0 11 = nI X) (h22 : v 0 22 = nI s) : VX12_text_b122 K v w := by
  unfold VX12_text_b122
  rw [a 0 11 (by omega), h11, show (4 : Int32) * nI X = nI (4 * X) from pk_mul 4 X, show nI (4 * X) + 3 = nI (4 * X + 3) from nI_add _ 3, nI_clamp (by omega)]
  refine ⟨vp_in_nI (by omega) (by decide), fun u22 e22 u23 e23 => ?_⟩
  rw [if_pos hw, e23, hup_col (by decide), e22, hup_row (by decide), h22]
  refine hF _ ?_ hup_self
  exact agr.up (agr.up (a.sub fun k i h => h.1) (by omega)) (by omega)
theorem l26F {s n : Nat} {v : Hp} {l2 : Int32} (hF : FK K τ X s) (hX : X < 6) (a : agr (FMG X) τ v) (h11 : τ 0 11 = nI X) (h22 : v 0 22 = nI s) : VX12_text_L26 K (n + 1) v 0 l2 := by
  have hb : VX12_text_b101 K v 0 := by
    unfold VX12_text_b101
    rw [if_pos rfl]
    exact b122F rfl hF hX a h11 h22
  rw [VX12_text_L26]
  split
  · exact hb
  · rw [if_pos rfl]; exact hb
theorem kmtF {s n j : Nat} {v : Hp} (hF : FK K τ X s) (hX : X < 6) (a : agr (FMG X) τ v) (h11 : τ 0 11 = nI X) (h22 : v 0 22 = nI s) : kmt K (n + 1) j 0 v := by
  unfold kmt
  rw [if_pos rfl]
  exact fun x _ => l26F hF hX a h11 h22
theorem b60_st {v : Hp} {R : Hp → Int32 → Int32 → Prop} {s0 : Int32} (hX : X < 6) (hj : j < 3) (h11 : τ 0 11 = nI X) (a : agr (FM X) τ v) (h29 : v 0 29 = nI L.length) (hK : ∀ w, w = hup v 8 (4 * X + j) (nI L.length) → if s0 = 0 then (∀ x16 : Int32, x16 = nI j + 1 → R w 0 x16) else (VX12_eRead (fun v17 u18 => if v17 = 0 then (∀ x20 : Int32, x20 = nI j + 1 → R u18 0 x20) else (∀ x21 : Int32, x21 = nI j + 1 → R u18 1 x21)) w)) : VX12_text_b60 K R v (nI j) s0 := by
  unfold VX12_text_b60
  rw [a 0 11 (by omega), h11, show (4 : Int32) * nI X = nI (4 * X) from pk_mul 4 X, nI_add, nI_clamp (by omega), h29]
  exact ⟨vp_in_nI (by omega) (by decide), hK⟩
theorem hup_agr {P : Nat → Nat → Prop} {v : Hp} {k i : Nat} {x : Int32} (a : agr P τ v) : agr P (hup τ k i x) (hup v k i x) := fun k' i' h => by
  by_cases hk : k' = k
  · by_cases hi : i' = i
    · rw [hk, hi, hup_self, hup_self]
    · rw [hk, hup_col hi, hup_col hi, ← hk]; exact a k' i' h
  · rw [hup_row hk, hup_row hk]; exact a k' i' h
theorem MD.nx {v v' : Hp} (hC : CX τ b Z X) (hp : p ≤ Z) (h : MD τ X p L v) {Kx : Hp → Prop} (hK : ∀ v', MD τ X (tE b Z p) L v' → NX v' b Z p → Kx v') : VX12_next Kx v := by
  obtain ⟨h1, h2, h3, h4⟩ := h
  refine m_next hp (hC.1.ag (h1.sub fun k i h => by omega)) h2 (fun v' a hN => hK v' ⟨h1.tr (a.sub fun k i h => by omega), hN.1, ?_, ?_⟩ hN)
  · rw [a 0 29 (by decide)]; exact h3
  · rw [a.row (k := 7) (fun i => by omega)]; exact h4
theorem m_key {n : Nat} (hC : CX τ b Z X) (hp : p ≤ Z) (hj : j < 3) (hk : tC b Z p = key j) (h : MG1 (kmt K n j) (hup τ 8 (4 * X + j) (nI L.length)) b Z X 1 (tE b Z p) [] L) : MGT K τ X j p L := by
  obtain ⟨m, hm⟩ := h
  obtain ⟨t1, t2, t3, t4⟩ := kyT j hj
  refine ⟨n + 1, fun v hv => ?_⟩
  rw [VX12_text_L26, if_neg (show ¬ (3 : Int32) ≤ nI j from nI_ge (b := 3) hj (by decide)), if_neg (by decide)]
  refine MD.nx (v' := v) hC hp hv (fun v' hM hN => ?_)
  rw [hN.2.2.1, hk, t3, if_pos rfl, hN.2.2.2 (Or.inr (Or.inr (by rw [hk]; exact t3))), hk, t4, if_pos rfl]
  refine b60_st (L := L) hC.2.2 hj hC.2.1 hM.1 hM.2.2.1 (fun w hw => ?_)
  rw [if_neg (by decide)]
  unfold VX12_eRead
  intro u1 e1 u2 e2
  refine ⟨m, hm u2 ⟨⟨?_, ?_, trivial, ?_, ?_, ?_⟩, ?_⟩⟩
  · rw [e2, e1, hw]; exact agr.up (agr.up (hup_agr hM.1) (by omega)) (by omega)
  · rw [e2, hup_col (by decide), e1, hup_self]; rfl
  · rw [e2, hup_self]; rfl
  · rw [e2, hup_col (by decide), e1, hup_col (by decide), hw, hup_row (by decide)]; exact hM.2.2.1
  · have : u2 7 = v' 7 := by rw [e2, hup_row (by decide), e1, hup_row (by decide), hw, hup_row (by decide)]
    rw [this]; exact hM.2.2.2
  · rw [e2, hup_col (by decide), e1, hup_col (by decide), hw, hup_row (by decide)]; exact hM.2.1
theorem m_keyF (hC : CX τ b Z X) (hp : p ≤ Z) (hj : j < 3) (hk : ¬ tC b Z p = key j) (hF : FK K τ X (tS b Z p)) : MGT K τ X j p L := by
  refine ⟨2, fun v hv => ?_⟩
  rw [VX12_text_L26, if_neg (show ¬ (3 : Int32) ≤ nI j from nI_ge (b := 3) hj (by decide)), if_neg (by decide)]
  refine MD.nx (v' := v) hC hp hv (fun v' hM hN => ?_)
  have hcd : cdX (tC b Z p) := tC_cd (fun j hj => (hC.1.2.2.1 j hj).1) hp hC.1.2.1
  have no : VX12_text_b60 K (VX12_text_L26 K 1) v' (nI j) 0 := by
    refine b60_st (L := L) hC.2.2 hj hC.2.1 hM.1 hM.2.2.1 (fun w hw => ?_)
    rw [if_pos rfl]
    intro x _
    refine l26F hF hC.2.2 (v := w) ?_ hC.2.1 ?_
    · rw [hw]; exact agr.up (hM.1.sub fun k i h => by omega) (by omega)
    · rw [hw, hup_row (by decide)]; exact hN.2.1
  by_cases h3 : v' 0 23 = 3
  · rw [if_pos h3]
    by_cases h4 : v' 0 24 = nI j
    · refine absurd ?_ hk
      rw [hN.2.2.1] at h3
      rw [hN.2.2.2 (Or.inr (Or.inr h3))] at h4
      exact mt_key hcd hj h3 h4
    · rw [if_neg h4]; exact no
  · rw [if_neg h3]; exact no
end PARTM
theorem MF.fmg {τ' τ v : Hp} {b : Nat → Int32} {Z X j q : Nat} {x : Int32} (hj : j < 3) (h : MF (hup τ 8 (4 * X + j) x) b Z X q v) : agr (FMG X) τ v := by
  have a : agr (FMG X) τ (hup τ 8 (4 * X + j) x) := agr.up agr.rf (by omega)
  exact a.tr (h.1.sub fun k i h => by omega)
theorem CX.hup {τ : Hp} {b : Nat → Int32} {Z X i : Nat} {x : Int32} (h : CX τ b Z X) : CX (hup τ 8 i x) b Z X := by
  refine ⟨h.1.ag (agr.up agr.rf (by omega)), ?_, h.2.2⟩
  rw [hup_row (by decide)]; exact h.2.1
theorem pt {K : Hp → Prop} {u τ : Hp} {b : Nat → Int32} {Z X j p : Nat} {L : List Int32} (hj : j < 3) (hR : RB u b Z) (h : XS u b Z X p L u) (h4 : u (19 + X) 4 = nI j) (hp : p ≤ Z) (hl : L.length ≤ p) (hC : CX τ b Z X) (hN : ∀ u' p' S, okS S → XS u' b Z X p' (S.reverse ++ L) u' → p' ≤ Z → (S.reverse ++ L).length ≤ p' → agr (FXG X) u u' → u' (19 + X) 4 = nI (j + 1) → (∀ i, i ≤ j → u' (31 + X) i = u (31 + X) i) → u' (31 + X) (j + 1) = nI (S.reverse ++ L).length → (∀ Km, MGT Km (hup τ 8 (4 * X + j) (nI L.length)) X (j + 1) p' ((S.reverse ++ L).map mcd) → MGT Km τ X j p (L.map mcd)) → K u') (hF : ∀ u' q, q ≤ Z → XBK u X (tS b Z q) u' → (∀ Km, FK Km τ X (tS b Z q) → MGT Km τ X j p (L.map mcd)) → K u') : VX4_readPart K u (key j) := by
  have hz := hC.1.2.1
  have hX := hC.2.2
  obtain ⟨t1, t2, t3, t4⟩ := kyT j hj
  have hle := (tE_le (b := b) hp).2.1
  have e2 : u 38 2 = tC b Z p := h.2.2.2.1
  unfold VX4_readPart VX4_take
  rw [e2]
  by_cases hk : tC b Z p = key j
  rotate_left
  · rw [if_neg hk]
    refine xs_fail hX hp hz (by omega) h (fun u2 g2 => ?_)
    refine xf_rec hX 64 0 _ u2 0 (by decide) (by decide) g2 (fun u4 g4 => ?_)
    exact xf_end hX g4 (by omega) h4 (fun u' hu' => hF u' p hp hu' (fun Km hm => m_keyF hC hp hj hk hm))
  rw [if_pos hk, if_neg (by rw [hk]; exact t1)]
  have hlt : p < tE b Z p := tC_lt hp (by rw [hk]; exact t1)
  have hC' : CX (hup τ 8 (4 * X + j) (nI L.length)) b Z X := hC.hup
  have ch : ∀ (Km : Int32 → Hp → Prop) n, MG1 (kmt Km n j) (hup τ 8 (4 * X + j) (nI L.length)) b Z X 1 (tE b Z p) [] (L.map mcd) → MGT Km τ X j p (L.map mcd) := fun Km n hm => m_key hC hp hj hk (by rw [List.length_map]; exact hm)
  have chF : ∀ (Km : Int32 → Hp → Prop) (q : Nat), FK Km τ X (tS b Z q) → ∀ v, MF (hup τ 8 (4 * X + j) (nI L.length)) b Z X q v → kmt Km 1 j 0 v := fun Km q hF v hv => kmtF hF hX (hv.fmg (τ' := τ) hj) hC.2.1 hv.2
  refine xs_goOn hR hX hp h (fun u2 g2 => ?_)
  have hsim := sim hC' hR 64 0 (by decide)
  refine hsim _ u2 (tE b Z p) 0 [] L 1 g2 hle rfl (by decide) ⟨fun _ => by decide, fun q => by omega, fun q => by omega, fun q => by omega, fun q => by omega, fun _ => rfl, fun q => by omega⟩ (by show 0 + L.length ≤ _; omega) (by decide) (fun u4 g4 => ?_) (fun u4 g4 => ?_)
  · obtain ⟨p', S, HM, LM, k1, k2, k3, k4, k5, k6, k7, k8, k9⟩ := g4
    have k5' : 0 + (S.reverse ++ L).length ≤ p' := k5
    have hu1 : uw 1 HM LM = ([], (S.reverse ++ L).map mcd) := k7
    obtain ⟨f1, f2, f3, f4, f5, f6, f7, f8⟩ := k2
    rw [f3]
    refine ⟨nI_ne0 (by omega) (by omega), fun x5 e5 => ?_⟩
    rw [nI_clamp (by omega)] at e5
    obtain rfl : x5 = 19 + X := e5
    refine ⟨⟨by omega, by omega⟩, ?_⟩
    unfold VX9_endPart
    refine ⟨⟨by omega, by omega⟩, ?_⟩
    have g4 : u4 (19 + X) 4 = nI j := by rw [f1 (19 + X) 4 (by omega)]; exact h4
    rw [g4, if_neg (show ¬ (3 : Int32) ≤ nI j from nI_ge (b := 3) hj (by decide))]
    intro v2 e2 x3 e3
    obtain rfl : x3 = 31 + X := by omega
    have g : v2 (19 + X) 4 = nI (j + 1) := by rw [e2, hup_self, nI_1]
    have g3 : v2 (19 + X) 3 = nI (S.reverse ++ L).length := by rw [e2, hup_col (by decide)]; exact f7
    rw [g, nI_clamp (by omega), g3]
    refine ⟨vp_in_nI (by omega) (by decide), fun w ew => ?_⟩
    have r38 : w 38 = u4 38 := by rw [ew, hup_row (by omega), e2, hup_row (by omega)]
    have aw : agr (FXG X) u w := by rw [ew, e2]; exact agr.up (agr.up (f1.sub fun k i h => by omega) (by omega)) (by omega)
    have hw : XS w b Z X p' (S.reverse ++ L) w := by
      refine ⟨agr.rf, ?_, ?_, ?_, ?_, ?_, ?_, ?_⟩
      · rw [r38]; exact f2
      · rw [r38]; exact f3
      · rw [r38]; exact f4
      · rw [r38]; exact f5
      · rw [r38]; exact f6
      · rw [ew, hup_row (by omega)]; exact g3
      · have : w (25 + X) = u4 (25 + X) := by rw [ew, hup_row (by omega), e2, hup_row (by omega)]
        rw [this]; exact f8
    have hw4 : w (19 + X) 4 = nI (j + 1) := by rw [ew, hup_row (by omega)]; exact g
    have hRw : RB w b Z := hR.ag (aw.sub fun k i h => by omega)
    try dsimp only
    have ew2 : w 38 2 = tC b Z p' := hw.2.2.2.1
    rw [ew2]
    by_cases h22 : tC b Z p' = -22
    · rw [if_pos h22, if_neg (by rw [h22]; decide)]
      have hle' := (tE_le (b := b) k4).2.1
      have hlt' : p' < tE b Z p' := tC_lt k4 (by rw [h22]; decide)
      refine xs_goOn hRw hX k4 hw (fun u' h' => ?_)
      have a' : agr (FXG X) u u' := aw.tr (h'.1.sub fun k i h => by omega)
      refine hN u' (tE b Z p') S k1 h'.self hle' (by omega) a' ?_ (fun i hi => ?_) ?_ (fun Km hm => ?_)
      · rw [h'.1 (19 + X) 4 (by omega)]; exact hw4
      · rw [h'.1 (31 + X) i (by omega), ew, hup_col (by omega), e2, hup_row (by omega), f1 (31 + X) i (by omega)]
      · rw [h'.1 (31 + X) (j + 1) (by omega), ew, hup_self]
      · obtain ⟨n, hn⟩ := hm
        refine ch Km n (k9 _ (st_semi hC' k4 k6 h22 hu1 (fun v hv => ?_)))
        unfold kmt
        rw [if_neg (by decide)]
        intro x hx
        rw [hx, nI_1]
        exact hn v hv
    · rw [if_neg h22]
      refine xs_fail hX k4 hz (by omega) hw (fun u' h' => hF u' p' k4 ⟨aw.tr (h'.1.sub fun k i h => by omega), h'.self, j + 1, by omega, ?_⟩ (fun Km hm => ch Km 1 (k9 _ (st_f0 hC' k4 k6 (chF Km p' hm) ?_))))
      · rw [h'.1 (19 + X) 4 (by omega)]; exact hw4
      · obtain ⟨t1, t2, t3, t4, t5⟩ := k8
        by_cases h21 : tC b Z p' = -21
        · exact Or.inr (Or.inl ⟨h21, by rw [hu1]⟩)
        by_cases h12 : tC b Z p' = -12 ∨ tC b Z p' = -13
        · exact Or.inr (Or.inr (Or.inl ⟨h12, t3 (by decide) h12⟩))
        exact Or.inr (Or.inr (Or.inr ⟨h22, h21, t5 (by decide), t4 (by decide), fun q => h12 (Or.inl q), fun q => h12 (Or.inr q), (t2 (by decide)).1, (t2 (by decide)).2, t1 (by decide)⟩))
  · obtain ⟨q, n1, n2, n3⟩ := g4
    exact xf_end hX n2 (by omega) h4 (fun u' hu' => hF u' q n1 hu' (fun Km hm => ch Km 1 (n3 _ (chF Km q hm))))
