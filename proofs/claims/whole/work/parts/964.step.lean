/-! ===== m's machine, a token at a time ===== -/
section STEPS
variable {K : Int32 → Hp → Prop} {τ : Hp} {b : Nat → Int32} {Z X p : Nat} {H L : List Int32} {my : Int32}
theorem st_opnd (hC : CX τ b Z X) (hp : p ≤ Z) (hl : H.length + L.length ≤ p) (hX : rg (tC b Z p) (-6) 9999) (h : MG0 K τ b Z X (tE b Z p) (uw 7 H (mcd (tC b Z p) :: L)).1 (uw 7 H (mcd (tC b Z p) :: L)).2) : MG1 K τ b Z X my p H L := by
  obtain ⟨n, hn⟩ := h
  have hz := hC.1.2.1
  have hlt : p < tE b Z p := tC_lt hp (fun q => by rw [q] at hX; exact absurd hX (by decide))
  have hle := (tE_le (b := b) hp).2.1
  refine ⟨n + 1, fun v hv => ?_⟩
  rw [VX12_eRead_L14]
  refine m_tok hC hp hv (fun v' hM' hN => ?_)
  obtain ⟨n1, n2, n3, n4⟩ := id hN
  rw [if_neg (by decide)]
  have b61 : ∀ a, a = mcd (tC b Z p) → VX12_eRead_b61 K (VX12_eRead_L14 K n) v' my a := fun a ha => by
    unfold VX12_eRead_b61
    rw [ha]
    refine m_puts hC.2.2 hC.2.1 hM' (by omega) (fun u1 a1 hM1 => ?_)
    refine m_unwinds (r := 7) hC.2.2 hC.2.1 (by decide) (by decide) hM1 (by simp only [List.length_cons]; omega) (fun u2 a2 hM2 => ?_)
    exact hn my u2 ⟨hM2, by rw [a2 0 21 (by decide), a1 0 21 (by decide)]; exact n1⟩
  unfold VX12_eRead_b38
  by_cases h0 : 0 ≤ tC b Z p
  · have t1 : mtk (tC b Z p) = 1 := by unfold mtk; rw [if_pos h0]
    have hv : v' 0 24 = tC b Z p := by rw [n4 (Or.inl t1)]; unfold mvl; rw [if_pos h0]
    rw [n3, t1, if_pos rfl, if_pos rfl, hv]
    refine b61 _ ?_
    unfold mcd
    rw [if_neg (fun q => absurd (Int32.lt_of_le_of_lt h0 q) (by decide)), if_neg (Int32.not_lt.mpr h0)]
  · have t2 : mtk (tC b Z p) = 2 ∧ mvl (tC b Z p) = mcd (tC b Z p) := by
      refine mneg (P := fun x => -6 ≤ x → mtk x = 2 ∧ mvl x = mcd x) (by decide +kernel) (Int32.le_trans (by decide) hX.1) (Int32.not_le.mp h0) hX.1
    rw [n3, t2.1, if_neg (by decide), if_pos rfl, if_neg (by decide), n4 (Or.inr (Or.inl t2.1))]
    exact b61 _ t2.2
theorem st_not (hC : CX τ b Z X) (hp : p ≤ Z) (hl : H.length + L.length ≤ p) (hX : tC b Z p = -7) (hc : cnt H < 5) (h : MG1 K τ b Z X 1 (tE b Z p) (13 :: H) L) : MG1 K τ b Z X 1 p H L := by
  obtain ⟨n, hn⟩ := h
  have hz := hC.1.2.1
  refine ⟨n + 1, fun v hv => ?_⟩
  rw [VX12_eRead_L14]
  refine m_tok hC hp hv (fun v' hM' hN => ?_)
  obtain ⟨n1, n2, n3, n4⟩ := id hN
  rw [if_neg (by decide), n3, hX, if_neg (by decide), if_neg (by decide), if_pos (by decide), if_neg (by decide)]
  refine m_opens hM' (by omega) (by omega) rfl (fun q => by omega) (fun _ u2 a2 hM2 => ?_)
  rw [if_neg (by decide)]
  exact hn u2 ⟨hM2, by rw [a2 0 21 (by decide)]; exact n1⟩
theorem st_neg (hC : CX τ b Z X) (hp : p ≤ Z) (hl : H.length + L.length ≤ p) (hX : tC b Z p = -10) (hc : cnt H < 5) (h : MG1 K τ b Z X 0 (tE b Z p) (19 :: H) L) : MG1 K τ b Z X my p H L := by
  obtain ⟨n, hn⟩ := h
  have hz := hC.1.2.1
  refine ⟨n + 1, fun v hv => ?_⟩
  rw [VX12_eRead_L14]
  refine m_tok hC hp hv (fun v' hM' hN => ?_)
  obtain ⟨n1, n2, n3, n4⟩ := id hN
  rw [if_neg (by decide), n3, hX, if_neg (by decide), if_neg (by decide), if_neg (by decide)]
  unfold VX12_eRead_b99
  rw [n3, hX, if_pos (by decide)]
  refine m_opens hM' (by omega) (by omega) rfl (fun q => by omega) (fun _ u2 a2 hM2 => ?_)
  rw [if_neg (by decide)]
  exact hn u2 ⟨hM2, by rw [a2 0 21 (by decide)]; exact n1⟩
theorem st_opn (hC : CX τ b Z X) (hp : p ≤ Z) (hl : H.length + L.length ≤ p) (hX : tC b Z p = -20) (hc : cnt H < 5) (h : MG1 K τ b Z X 1 (tE b Z p) (0 :: H) L) : MG1 K τ b Z X my p H L := by
  obtain ⟨n, hn⟩ := h
  have hz := hC.1.2.1
  refine ⟨n + 1, fun v hv => ?_⟩
  rw [VX12_eRead_L14]
  refine m_tok hC hp hv (fun v' hM' hN => ?_)
  obtain ⟨n1, n2, n3, n4⟩ := id hN
  rw [if_neg (by decide), n3, hX, if_neg (by decide), if_neg (by decide), if_neg (by decide)]
  unfold VX12_eRead_b99
  rw [n3, hX, if_neg (by decide), if_pos (by decide)]
  refine m_opens hM' (by omega) (by omega) rfl (fun q => by omega) (fun _ u2 a2 hM2 => ?_)
  rw [if_neg (by decide)]
  exact hn u2 ⟨hM2, by rw [a2 0 21 (by decide)]; exact n1⟩
/-- x's codes -/
def cdX (c : Int32) : Prop := 0 ≤ c ∨ ∃ k, k < 31 ∧ c = -nI (k + 1)
theorem mtkT : ∀ k, k < 31 → ¬ (-6 : Int32) ≤ -nI (k + 1) → (mtk (-nI (k + 1)) ≠ 1 ∧ mtk (-nI (k + 1)) ≠ 2) ∧ (mtk (-nI (k + 1)) = 6 ↔ -nI (k + 1) = (-7 : Int32)) ∧ (mtk (-nI (k + 1)) = 45 ↔ -nI (k + 1) = (-10 : Int32)) ∧ (mtk (-nI (k + 1)) = 40 ↔ -nI (k + 1) = (-20 : Int32)) := by decide +kernel
theorem mtkT0 : ∀ k, k < 31 → (mtk (-nI (k + 1)) = 59 ↔ -nI (k + 1) = (-22 : Int32)) ∧ (mtk (-nI (k + 1)) = 41 ↔ -nI (k + 1) = (-21 : Int32)) := by decide +kernel
theorem mtkT1 : ∀ k, k < 31 → (mtk (-nI (k + 1)) = 4 ↔ -nI (k + 1) = (-15 : Int32)) ∧ (mtk (-nI (k + 1)) = 5 ↔ -nI (k + 1) = (-14 : Int32)) ∧ (mtk (-nI (k + 1)) = 60 ↔ -nI (k + 1) = (-12 : Int32)) ∧ (mtk (-nI (k + 1)) = 61 ↔ -nI (k + 1) = (-13 : Int32)) := by decide +kernel
theorem mtkT2 : ∀ k, k < 31 → (mtk (-nI (k + 1)) = 43 ↔ -nI (k + 1) = (-9 : Int32)) ∧ (mtk (-nI (k + 1)) = 45 ↔ -nI (k + 1) = (-10 : Int32)) ∧ (mtk (-nI (k + 1)) = 42 ↔ -nI (k + 1) = (-11 : Int32)) := by decide +kernel
theorem sgX_cd : ∀ k, k < 256 → (sgX (nI k)).toInt < 0 ∧ -31 ≤ (sgX (nI k)).toInt := by decide +kernel
theorem cd_of {c : Int32} (h1 : -31 ≤ c.toInt) (h2 : c.toInt < 0) : cdX c := by
  refine Or.inr ⟨(-c.toInt - 1).toNat, by omega, ?_⟩
  apply Int32.toInt_inj.mp
  rw [sb_negT (by omega)]
  omega
theorem ite_p {P : Int32 → Prop} {c : Prop} [Decidable c] {x y : Int32} (hx : P x) (hy : P y) : P (if c then x else y) := by
  split
  · exact hx
  · exact hy
theorem wcX_cd {S E : Nat} : (wcX b S E).toInt < 0 ∧ -31 ≤ (wcX b S E).toInt := by
  unfold wcX
  refine ite_p (P := fun x : Int32 => x.toInt < 0 ∧ -31 ≤ x.toInt) (by decide) ?_
  refine ite_p (P := fun x : Int32 => x.toInt < 0 ∧ -31 ≤ x.toInt) (by decide) ?_
  refine ite_p (P := fun x : Int32 => x.toInt < 0 ∧ -31 ≤ x.toInt) (by decide) ?_
  refine ite_p (P := fun x : Int32 => x.toInt < 0 ∧ -31 ≤ x.toInt) (by decide) ?_
  refine ite_p (P := fun x : Int32 => x.toInt < 0 ∧ -31 ≤ x.toInt) (by decide) ?_
  refine ite_p (P := fun x : Int32 => x.toInt < 0 ∧ -31 ≤ x.toInt) (by decide) ?_
  refine ite_p (P := fun x : Int32 => x.toInt < 0 ∧ -31 ≤ x.toInt) (by decide) ?_
  refine ite_p (P := fun x : Int32 => x.toInt < 0 ∧ -31 ≤ x.toInt) (by decide) ?_
  refine ite_p (P := fun x : Int32 => x.toInt < 0 ∧ -31 ≤ x.toInt) (by decide) ?_
  refine ite_p (P := fun x : Int32 => x.toInt < 0 ∧ -31 ≤ x.toInt) (by decide) ?_
  refine ite_p (P := fun x : Int32 => x.toInt < 0 ∧ -31 ≤ x.toInt) (by decide) ?_
  refine ite_p (P := fun x : Int32 => x.toInt < 0 ∧ -31 ≤ x.toInt) (by decide) ?_
  decide
theorem tC_cd (hb : ∀ j, j < Z → nb (b j) 256) (hp : p ≤ Z) (hz : Z ≤ 160) : cdX (tC b Z p) := by
  have hs := tS_le (b := b) hp
  unfold tC
  by_cases h1 : tS b Z p < Z
  · rw [if_pos h1]
    by_cases h2 : isDg (b (tS b Z p)) = true
    · rw [if_pos h2]
      by_cases h3 : tE b Z p - tS b Z p ≤ 4
      · rw [if_pos h3]
        have hE : tE b Z p = rn isDg b Z (tS b Z p) := by unfold tE; rw [if_pos h1, if_pos h2]
        obtain ⟨v, hv, ev⟩ := vlN_nb (b := b) (s := tS b Z p) _ h3 (fun j hj => rn_in (P := isDg) (b := b) (Z := Z) (tS b Z p) _ (by omega) (by rw [← hE]; omega))
        have hp4 : 10 ^ (tE b Z p - tS b Z p) ≤ 10 ^ 4 := Nat.pow_le_pow_right (by decide) h3
        rw [ev]
        exact Or.inl (nI_pos' (by omega))
      · rw [if_neg h3]; exact cd_of (by decide) (by decide)
    · rw [if_neg h2]
      by_cases h3 : isLt (b (tS b Z p)) = true
      · rw [if_pos h3]; exact cd_of wcX_cd.2 wcX_cd.1
      · rw [if_neg h3]
        obtain ⟨k, hk, ek⟩ := hb _ h1
        rw [ek]
        exact cd_of (sgX_cd k hk).2 (sgX_cd k hk).1
  · rw [if_neg h1]; exact cd_of (by decide) (by decide)
theorem tC_9999 (hp : p ≤ Z) (h0 : 0 ≤ tC b Z p) : tC b Z p ≤ 9999 := by
  have hs := tS_le (b := b) hp
  revert h0
  unfold tC
  by_cases h1 : tS b Z p < Z
  · rw [if_pos h1]
    by_cases h2 : isDg (b (tS b Z p)) = true
    · rw [if_pos h2]
      by_cases h3 : tE b Z p - tS b Z p ≤ 4
      · rw [if_pos h3]
        have hE : tE b Z p = rn isDg b Z (tS b Z p) := by unfold tE; rw [if_pos h1, if_pos h2]
        obtain ⟨v, hv, ev⟩ := vlN_nb (b := b) (s := tS b Z p) _ h3 (fun j hj => rn_in (P := isDg) (b := b) (Z := Z) (tS b Z p) _ (by omega) (by rw [← hE]; omega))
        have hp4 : 10 ^ (tE b Z p - tS b Z p) ≤ 10 ^ 4 := Nat.pow_le_pow_right (by decide) h3
        intro _
        rw [ev]
        exact nI_le (b := 9999) (by omega) (by decide)
      · rw [if_neg h3]; intro _; decide
    · rw [if_neg h2]
      by_cases h3 : isLt (b (tS b Z p)) = true
      · rw [if_pos h3]
        intro _
        rw [Int32.le_iff_toInt_le]
        have := (wcX_cd (b := b) (S := tS b Z p) (E := tE b Z p)).1
        have e : (9999 : Int32).toInt = 9999 := by decide
        omega
      · rw [if_neg h3]
        intro h0
        have : ∀ x : Int32, 0 ≤ sgX x → sgX x ≤ 9999 := fun x => by
          unfold sgX
          repeat' split
          all_goals decide
        exact this _ h0
  · rw [if_neg h1]; intro _; decide
theorem st_f1 (hC : CX τ b Z X) (hp : p ≤ Z) (hl : H.length + L.length ≤ p) (hX : ¬ -6 ≤ tC b Z p) (hc : cnt H ≤ 5) (h1 : tC b Z p = -7 → my = 0 ∨ cnt H = 5) (h2 : tC b Z p = -10 → cnt H = 5) (h3 : tC b Z p = -20 → cnt H = 5) (hF : ∀ v, MF τ b Z X p v → K 0 v) : MG1 K τ b Z X my p H L := by
  have hz := hC.1.2.1
  refine ⟨1, fun v hv => ?_⟩
  rw [VX12_eRead_L14]
  refine m_tok hC hp hv (fun v' hM' hN => ?_)
  obtain ⟨n1, n2, n3, n4⟩ := id hN
  have hk0 : K 0 v' := hF v' (hM'.mf hN)
  have hcd : cdX (tC b Z p) := tC_cd (fun j hj => (hC.1.2.2.1 j hj).1) hp hz
  rcases hcd with h0 | ⟨k, hk, ek⟩
  · exact absurd (Int32.le_trans (by decide) h0) hX
  obtain ⟨⟨t1, t2⟩, t6, t45, t40⟩ := mtkT k hk (by rw [← ek]; exact hX)
  rw [← ek] at t1 t2 t6 t45 t40
  rw [if_neg (by decide), n3, if_neg t1, if_neg t2]
  have b99 : VX12_eRead_b99 K (VX12_eRead_L14 K 0) v' 1 := by
    unfold VX12_eRead_b99
    rw [n3]
    by_cases c45 : mtk (tC b Z p) = 45
    · rw [if_pos c45]
      refine m_opens hM' (by omega) hc rfl (fun q => ?_) (fun q => absurd (h2 (t45.mp c45)) (by omega))
      rw [if_pos rfl]; exact hk0
    rw [if_neg c45]
    by_cases c40 : mtk (tC b Z p) = 40
    · rw [if_pos c40]
      refine m_opens hM' (by omega) hc rfl (fun q => ?_) (fun q => absurd (h3 (t40.mp c40)) (by omega))
      rw [if_pos rfl]; exact hk0
    rw [if_neg c40]; exact hk0
  by_cases c6 : mtk (tC b Z p) = 6
  · rw [if_pos c6]
    by_cases hmy : my = 0
    · rw [if_pos hmy]; exact b99
    · rw [if_neg hmy]
      have hc5 : cnt H = 5 := (h1 (t6.mp c6)).resolve_left hmy
      refine m_opens hM' (by omega) hc rfl (fun q => ?_) (fun q => absurd hc5 (by omega))
      rw [if_pos rfl]; exact hk0
  · rw [if_neg c6]; exact b99
theorem eM_signOf {σ : Hp} {K : Int32 → Hp → Prop} {s : Int32} (h : σ 0 23 = mtk (tC b Z p)) (hcd : cdX (tC b Z p)) (hs : (tC b Z p = -15 ∧ s = 11) ∨ (tC b Z p = -14 ∧ s = 12) ∨ (tC b Z p = -12 ∧ s = 14) ∨ (tC b Z p = -13 ∧ s = 15) ∨ (tC b Z p = -9 ∧ s = 16) ∨ (tC b Z p = -10 ∧ s = 17) ∨ (tC b Z p = -11 ∧ s = 18) ∨ (s = -1 ∧ tC b Z p ≠ -15 ∧ tC b Z p ≠ -14 ∧ tC b Z p ≠ -12 ∧ tC b Z p ≠ -13 ∧ tC b Z p ≠ -9 ∧ tC b Z p ≠ -10 ∧ tC b Z p ≠ -11)) (hK : K s σ) : VX12_signOf K σ := by
  unfold VX12_signOf
  rw [h]
  rcases hs with ⟨e, rfl⟩ | ⟨e, rfl⟩ | ⟨e, rfl⟩ | ⟨e, rfl⟩ | ⟨e, rfl⟩ | ⟨e, rfl⟩ | ⟨e, rfl⟩ | ⟨rfl, h15, h14, h12, h13, h9, h10, h11⟩
  · rw [e, if_pos (by decide)]; exact hK
  · rw [e, if_neg (by decide), if_pos (by decide)]; exact hK
  · rw [e, if_neg (by decide), if_neg (by decide), if_pos (by decide)]; exact hK
  · rw [e, if_neg (by decide), if_neg (by decide), if_neg (by decide), if_pos (by decide)]; exact hK
  · rw [e, if_neg (by decide), if_neg (by decide), if_neg (by decide), if_neg (by decide), if_pos (by decide)]; exact hK
  · rw [e, if_neg (by decide), if_neg (by decide), if_neg (by decide), if_neg (by decide), if_neg (by decide), if_pos (by decide)]; exact hK
  · rw [e, if_neg (by decide), if_neg (by decide), if_neg (by decide), if_neg (by decide), if_neg (by decide), if_neg (by decide), if_pos (by decide)]; exact hK
  · rcases hcd with h0 | ⟨k, hk, ek⟩
    · have t1 : mtk (tC b Z p) = 1 := by unfold mtk; rw [if_pos h0]
      rw [t1]
      rw [if_neg (by decide), if_neg (by decide), if_neg (by decide), if_neg (by decide), if_neg (by decide), if_neg (by decide), if_neg (by decide)]
      exact hK
    · obtain ⟨t4, t5, t60, t61⟩ := mtkT1 k hk
      obtain ⟨t43, t45, t42⟩ := mtkT2 k hk
      rw [← ek] at t4 t5 t60 t61 t43 t45 t42
      rw [if_neg (fun q => h15 (t4.mp q)), if_neg (fun q => h14 (t5.mp q)), if_neg (fun q => h12 (t60.mp q)), if_neg (fun q => h13 (t61.mp q)), if_neg (fun q => h9 (t43.mp q)), if_neg (fun q => h10 (t45.mp q)), if_neg (fun q => h11 (t42.mp q))]
      exact hK
theorem mt0 (hcd : cdX (tC b Z p)) : (mtk (tC b Z p) = 59 ↔ tC b Z p = -22) ∧ (mtk (tC b Z p) = 41 ↔ tC b Z p = -21) := by
  rcases hcd with h0 | ⟨k, hk, ek⟩
  · have t1 : mtk (tC b Z p) = 1 := by unfold mtk; rw [if_pos h0]
    rw [t1]
    refine ⟨⟨fun q => absurd q (by decide), fun q => ?_⟩, ⟨fun q => absurd q (by decide), fun q => ?_⟩⟩
    · rw [q] at h0; exact absurd h0 (by decide)
    · rw [q] at h0; exact absurd h0 (by decide)
  · have := mtkT0 k hk
    rw [← ek] at this
    exact this
/-- a sign between two -/
def bsg (c : Int32) (s : Int32) : Prop := (c = -15 ∧ s = 11) ∨ (c = -14 ∧ s = 12) ∨ (c = -12 ∧ s = 14) ∨ (c = -13 ∧ s = 15) ∨ (c = -9 ∧ s = 16) ∨ (c = -10 ∧ s = 17) ∨ (c = -11 ∧ s = 18)
def ulv (s : Int32) : Nat := if rnk s = 4 then 5 else rnk s
theorem m_between {K' : Int32 → Hp → Prop} {v : Hp} {s : Int32} (hC : CX τ b Z X) (hM : MH τ X (cnt H) H L v) (hl : H.length + L.length ≤ 160) (hr : 1 ≤ rnk s) (ho : opn s = 0) (h0 : rnk s = 4 → ((uw 5 H L).1 ≠ [] ∧ hdr (uw 5 H L).1 = 4) → ∀ v', agr G6 v v' → agr (FM X) τ v' → K' 0 v') (hK : (rnk s = 4 → ¬ ((uw 5 H L).1 ≠ [] ∧ hdr (uw 5 H L).1 = 4)) → ∀ v', agr G6 v v' → MH τ X (cnt (s :: (uw (ulv s) H L).1)) (s :: (uw (ulv s) H L).1) (uw (ulv s) H L).2 v' → K' 1 v') : VX12_between K' v s := by
  have hlen := uw_len (r := ulv s) H L
  have hr7 := rnk_le (a := s)
  have b17 : VX12_between_b17 K' v s (nI (ulv s)) := by
    unfold VX12_between_b17
    refine m_unwinds hC.2.2 hC.2.1 (by unfold ulv; split <;> omega) (by unfold ulv; split <;> omega) hM hl (fun u7 a7 hM7 => ?_)
    rw [eM_rank]
    have b55 : (rnk s = 4 → ¬ ((uw 5 H L).1 ≠ [] ∧ hdr (uw 5 H L).1 = 4)) → VX12_between_b55 K' u7 s := fun hq => by
      unfold VX12_between_b55
      refine m_holds (c := cnt (uw (ulv s) H L).1) hM7 (by omega) (fun u16 a16 hM16 => hK hq u16 (a7.tr a16) ?_)
      have : cnt (s :: (uw (ulv s) H L).1) = cnt (uw (ulv s) H L).1 := by
        show opn s + cnt (uw (ulv s) H L).1 = _
        rw [ho, Nat.zero_add]
      rw [this]
      exact hM16
    by_cases h4 : rnk s = 4
    · rw [if_pos (show nI (rnk s) = 4 by rw [h4]; rfl)]
      have hu : ulv s = 5 := by unfold ulv; rw [if_pos h4]
      rw [hu] at hM7 hlen
      rw [hM7.2.1]
      cases hH : (uw 5 H L).1 with
      | nil =>
        rw [if_pos (by decide)]
        exact b55 (fun _ q => q.1 hH)
      | cons h1 H1 =>
        rw [hH] at hM7 hlen
        have hll : (h1 :: H1).length = H1.length + 1 := rfl
        rw [hll, if_neg (show ¬ nI (H1.length + 1) ≤ 0 from nI_ge (a := 0) (by omega) (by rw [hll] at hlen; omega)), nI_pred, nI_clamp (by rw [hll] at hlen; omega)]
        have e15 : u7 15 H1.length = h1 := hM7.2.2.1.1
        rw [e15, eM_rank]
        refine ⟨vp_in_nI (by rw [hll] at hlen; omega) (by decide), ?_⟩
        have hr1 := rnk_le (a := h1)
        by_cases h14 : rnk h1 = 4
        · rw [if_pos (show nI (rnk h1) = 4 by rw [h14]; rfl)]
          exact h0 h4 ⟨by rw [hH]; simp, by rw [hH]; exact h14⟩ u7 a7 hM7.1
        · rw [if_neg (show ¬ nI (rnk h1) = 4 from fun q => h14 ((nI_eq (b := 4) (by omega) (by decide)).mp q))]
          exact b55 (fun _ q => by rw [hH] at q; exact h14 q.2)
    · rw [if_neg (show ¬ nI (rnk s) = 4 from fun q => h4 ((nI_eq (b := 4) (by omega) (by decide)).mp q))]
      exact b55 (fun q => absurd q h4)
  unfold VX12_between
  rw [eM_rank]
  by_cases h4 : rnk s = 4
  · rw [if_pos (show nI (rnk s) = 4 by rw [h4]; rfl)]
    have hu : ulv s = 5 := by unfold ulv; rw [if_pos h4]
    rw [hu] at b17
    exact b17
  · rw [if_neg (show ¬ nI (rnk s) = 4 from fun q => h4 ((nI_eq (b := 4) (by omega) (by decide)).mp q)), eM_rank]
    have hu : ulv s = rnk s := by unfold ulv; rw [if_neg h4]
    rw [hu] at b17
    exact b17
theorem bsgT {c s : Int32} (h : bsg c s) : 1 ≤ rnk s ∧ opn s = 0 ∧ s ≠ -1 ∧ c ≠ -22 ∧ c ≠ -21 := by
  rcases h with ⟨rfl, rfl⟩ | ⟨rfl, rfl⟩ | ⟨rfl, rfl⟩ | ⟨rfl, rfl⟩ | ⟨rfl, rfl⟩ | ⟨rfl, rfl⟩ | ⟨rfl, rfl⟩ <;> decide
theorem bsg_so {c s : Int32} (h : bsg c s) : (c = -15 ∧ s = 11) ∨ (c = -14 ∧ s = 12) ∨ (c = -12 ∧ s = 14) ∨ (c = -13 ∧ s = 15) ∨ (c = -9 ∧ s = 16) ∨ (c = -10 ∧ s = 17) ∨ (c = -11 ∧ s = 18) ∨ (s = -1 ∧ c ≠ -15 ∧ c ≠ -14 ∧ c ≠ -12 ∧ c ≠ -13 ∧ c ≠ -9 ∧ c ≠ -10 ∧ c ≠ -11) := by
  rcases h with h | h | h | h | h | h | h
  · exact Or.inl h
  · exact Or.inr (Or.inl h)
  · exact Or.inr (Or.inr (Or.inl h))
  · exact Or.inr (Or.inr (Or.inr (Or.inl h)))
  · exact Or.inr (Or.inr (Or.inr (Or.inr (Or.inl h))))
  · exact Or.inr (Or.inr (Or.inr (Or.inr (Or.inr (Or.inl h)))))
  · exact Or.inr (Or.inr (Or.inr (Or.inr (Or.inr (Or.inr (Or.inl h))))))
theorem st_bin {s : Int32} (hC : CX τ b Z X) (hp : p ≤ Z) (hl : H.length + L.length ≤ p) (hb : bsg (tC b Z p) s) (hn4 : rnk s = 4 → ¬ ((uw 5 H L).1 ≠ [] ∧ hdr (uw 5 H L).1 = 4)) (h : MG1 K τ b Z X (if 12 < s then 0 else 1) (tE b Z p) (s :: (uw (ulv s) H L).1) (uw (ulv s) H L).2) : MG0 K τ b Z X p H L := by
  obtain ⟨n, hn⟩ := h
  have hz := hC.1.2.1
  obtain ⟨b1, b2, b3, b4, b5⟩ := bsgT hb
  refine ⟨n + 1, fun my v hv => ?_⟩
  rw [VX12_eRead_L14]
  refine m_tok hC hp hv (fun v' hM' hN => ?_)
  obtain ⟨n1, n2, n3, n4⟩ := id hN
  have hcd : cdX (tC b Z p) := tC_cd (fun j hj => (hC.1.2.2.1 j hj).1) hp hz
  obtain ⟨t59, t41⟩ := mt0 hcd
  rw [if_pos rfl, n3, if_neg (fun q => b4 (t59.mp q)), if_neg (fun q => b5 (t41.mp q))]
  refine eM_signOf n3 hcd (bsg_so hb) ?_
  rw [if_neg b3]
  refine m_between hC hM' (by omega) b1 b2 (fun h4 q => absurd q (hn4 h4)) (fun _ u12 a12 hM12 => ?_)
  rw [if_neg (by decide)]
  by_cases hs : 12 < s
  · rw [if_pos hs] at hn ⊢
    exact hn u12 ⟨hM12, by rw [a12 0 21 (by decide)]; exact n1⟩
  · rw [if_neg hs] at hn ⊢
    exact hn u12 ⟨hM12, by rw [a12 0 21 (by decide)]; exact n1⟩
theorem st_close {H1 L1 : List Int32} (hC : CX τ b Z X) (hp : p ≤ Z) (hl : H.length + L.length ≤ p) (hX : tC b Z p = -21) (hu : uw 1 H L = (0 :: H1, L1)) (h : MG0 K τ b Z X (tE b Z p) (uw 7 H1 L1).1 (uw 7 H1 L1).2) : MG0 K τ b Z X p H L := by
  obtain ⟨n, hn⟩ := h
  have hz := hC.1.2.1
  have hlen := uw_len (r := 1) H L
  rw [hu] at hlen
  have hlen' : H1.length + 1 + L1.length = H.length + L.length := hlen
  refine ⟨n + 1, fun my v hv => ?_⟩
  rw [VX12_eRead_L14]
  refine m_tok hC hp hv (fun v' hM' hN => ?_)
  obtain ⟨n1, n2, n3, n4⟩ := id hN
  rw [if_pos rfl, n3, hX, if_neg (by decide), if_pos (by decide)]
  refine m_unwinds (r := 1) hC.2.2 hC.2.1 (by decide) (by decide) hM' (by omega) (fun u16 a16 hM16 => ?_)
  rw [hu] at hM16
  obtain ⟨g1, g2, g3, g4, g5, g6⟩ := hM16
  have g2' : u16 0 27 = nI (H1.length + 1) := g2
  rw [g2', if_neg (nI_ne0 (by omega) (by omega))]
  intro u18 e18 u19 e19
  rw [nI_pred] at e18
  have g4' : u18 0 28 = nI (1 + cnt H1) := by rw [e18, hup_col (by decide)]; exact g4
  rw [g4', show nI (1 + cnt H1) - 1 = nI (cnt H1) from (pk_sub (a := 1 + cnt H1) (b := 1) (by omega)).trans (by rw [Nat.add_sub_cancel_left])] at e19
  have hM19 : MH τ X (cnt H1) H1 L1 u19 := by
    refine ⟨?_, ?_, ?_, ?_, ?_, ?_⟩
    · rw [e19, e18]; exact agr.up (agr.up g1 (by omega)) (by omega)
    · rw [e19, hup_col (by decide), e18, hup_self]
    · rw [e19, hup_row (by decide), e18, hup_row (by decide)]; exact g3.2
    · rw [e19, hup_self]
    · rw [e19, hup_col (by decide), e18, hup_col (by decide)]; exact g5
    · have : u19 7 = u16 7 := by rw [e19, hup_row (by decide), e18, hup_row (by decide)]
      rw [this]; exact g6
  refine m_unwinds (r := 7) hC.2.2 hC.2.1 (by decide) (by decide) hM19 (by omega) (fun u21 a21 hM21 => ?_)
  refine hn my u21 ⟨hM21, ?_⟩
  rw [a21 0 21 (by decide), e19, hup_col (by decide), e18, hup_col (by decide), a16 0 21 (by decide)]; exact n1
/-- an E read to its ; -/
def MD (τ : Hp) (X p : Nat) (L : List Int32) (v : Hp) : Prop := agr (FM X) τ v ∧ v 0 21 = nI p ∧ v 0 29 = nI L.length ∧ stk (fun i => v 7 (200 * X + i)) L
theorem st_semi {L1 : List Int32} (hC : CX τ b Z X) (hp : p ≤ Z) (hl : H.length + L.length ≤ p) (hX : tC b Z p = -22) (hu : uw 1 H L = ([], L1)) (h : ∀ v, MD τ X (tE b Z p) L1 v → K 1 v) : MG0 K τ b Z X p H L := by
  have hz := hC.1.2.1
  refine ⟨1, fun my v hv => ?_⟩
  rw [VX12_eRead_L14]
  refine m_tok hC hp hv (fun v' hM' hN => ?_)
  obtain ⟨n1, n2, n3, n4⟩ := id hN
  rw [if_pos rfl, n3, hX, if_pos (by decide)]
  refine m_unwinds (r := 1) hC.2.2 hC.2.1 (by decide) (by decide) hM' (by omega) (fun u16 a16 hM16 => ?_)
  rw [hu] at hM16
  obtain ⟨g1, g2, g3, g4, g5, g6⟩ := hM16
  have g2' : u16 0 27 = 0 := g2
  rw [g2', if_pos rfl]
  exact h u16 ⟨g1, by rw [a16 0 21 (by decide)]; exact n1, g5, g6⟩
theorem st_f0 (hC : CX τ b Z X) (hp : p ≤ Z) (hl : H.length + L.length ≤ p) (hF : ∀ v, MF τ b Z X p v → K 0 v) (hw : (tC b Z p = -22 ∧ (uw 1 H L).1 ≠ []) ∨ (tC b Z p = -21 ∧ (uw 1 H L).1 = []) ∨ ((tC b Z p = -12 ∨ tC b Z p = -13) ∧ (uw 5 H L).1 ≠ [] ∧ hdr (uw 5 H L).1 = 4) ∨ (tC b Z p ≠ -22 ∧ tC b Z p ≠ -21 ∧ tC b Z p ≠ -15 ∧ tC b Z p ≠ -14 ∧ tC b Z p ≠ -12 ∧ tC b Z p ≠ -13 ∧ tC b Z p ≠ -9 ∧ tC b Z p ≠ -10 ∧ tC b Z p ≠ -11)) : MG0 K τ b Z X p H L := by
  have hz := hC.1.2.1
  refine ⟨1, fun my v hv => ?_⟩
  rw [VX12_eRead_L14]
  refine m_tok hC hp hv (fun v' hM' hN => ?_)
  obtain ⟨n1, n2, n3, n4⟩ := id hN
  have hcd : cdX (tC b Z p) := tC_cd (fun j hj => (hC.1.2.2.1 j hj).1) hp hz
  have hMF : MF τ b Z X p v' := hM'.mf hN
  rw [if_pos rfl, n3]
  have hlen := uw_len (r := 1) H L
  rcases hw with ⟨hX, hne⟩ | ⟨hX, he⟩ | ⟨hX, h4⟩ | ⟨h22, h21, h15, h14, h12, h13, h9, h10, h11⟩
  · rw [hX, if_pos (by decide)]
    refine m_unwinds (r := 1) hC.2.2 hC.2.1 (by decide) (by decide) hM' (by omega) (fun u16 a16 hM16 => ?_)
    have hlp : 0 < (uw 1 H L).1.length := List.length_pos_iff.mpr hne
    rw [hM16.2.1, if_neg (nI_ne0 hlp (by omega))]
    exact hF u16 (hMF.ag hM16.1 a16)
  · rw [hX, if_neg (by decide), if_pos (by decide)]
    refine m_unwinds (r := 1) hC.2.2 hC.2.1 (by decide) (by decide) hM' (by omega) (fun u16 a16 hM16 => ?_)
    rw [hM16.2.1, he, if_pos (show nI ([] : List Int32).length = 0 from rfl)]
    exact hF u16 (hMF.ag hM16.1 a16)
  · have hb : ∃ s, bsg (tC b Z p) s ∧ rnk s = 4 := by
      rcases hX with e | e
      · exact ⟨14, Or.inr (Or.inr (Or.inl ⟨e, rfl⟩)), by decide⟩
      · exact ⟨15, Or.inr (Or.inr (Or.inr (Or.inl ⟨e, rfl⟩))), by decide⟩
    obtain ⟨s, hb, hr4⟩ := hb
    obtain ⟨b1, b2, b3, b4, b5⟩ := bsgT hb
    obtain ⟨t59, t41⟩ := mt0 hcd
    rw [if_neg (fun q => b4 (t59.mp q)), if_neg (fun q => b5 (t41.mp q))]
    refine eM_signOf n3 hcd (bsg_so hb) ?_
    rw [if_neg b3]
    refine m_between hC hM' (by omega) b1 b2 (fun _ _ u12 a12 hf => ?_) (fun q => absurd h4 (q hr4))
    rw [if_pos rfl]
    exact hF u12 (hMF.ag hf a12)
  · obtain ⟨t59, t41⟩ := mt0 hcd
    rw [if_neg (fun q => h22 (t59.mp q)), if_neg (fun q => h21 (t41.mp q))]
    refine eM_signOf (s := -1) n3 hcd (Or.inr (Or.inr (Or.inr (Or.inr (Or.inr (Or.inr (Or.inr ⟨rfl, h15, h14, h12, h13, h9, h10, h11⟩))))))) ?_
    rw [if_pos rfl]
    exact hF v' hMF
end STEPS
