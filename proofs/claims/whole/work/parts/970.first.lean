/-! ===== the text that is there from the first ===== -/
theorem m_one {Km : Int32 → Hp → Prop} {τ : Hp} {b : Nat → Int32} {Z X j p : Nat} {L : List Int32} (hC : CX τ b Z X) (hp : p ≤ Z) (hj : j < 3) (hl : L.length ≤ p) (hk : tC b Z p = key j) (hx : rg (tC b Z (tE b Z p)) (-6) 9999) (h22 : tC b Z (tE b Z (tE b Z p)) = -22) (h : MGT Km (hup τ 8 (4 * X + j) (nI L.length)) X (j + 1) (tE b Z (tE b Z (tE b Z p))) (mcd (tC b Z (tE b Z p)) :: L)) : MGT Km τ X j p L := by
  obtain ⟨n, hn⟩ := h
  have h1 := (tE_le (b := b) hp).2.1
  have h2 := (tE_le (b := b) h1).2.1
  have k1 : p < tE b Z p := tC_lt hp (by rw [hk]; exact (kyT j hj).1)
  have k2 : tE b Z p < tE b Z (tE b Z p) := tC_lt h1 (fun q => by rw [q] at hx; exact absurd hx (by decide))
  refine m_key (n := n) hC hp hj hk (st_opnd hC.hup h1 (by show 0 + L.length ≤ _; omega) hx (st_semi (L1 := mcd (tC b Z (tE b Z p)) :: L) hC.hup h2 ?_ h22 rfl (fun v hv => ?_)))
  · show 0 + (L.length + 1) ≤ _
    omega
  · unfold kmt
    rw [if_neg (by decide)]
    intro x e
    rw [e, nI_1]
    exact hn v hv
theorem m1_tE : tE (m1 6) 29 0 = 5 ∧ tE (m1 6) 29 5 = 7 ∧ tE (m1 6) 29 7 = 9 ∧ tE (m1 6) 29 9 = 15 ∧ tE (m1 6) 29 15 = 17 ∧ tE (m1 6) 29 17 = 19 ∧ tE (m1 6) 29 19 = 25 ∧ tE (m1 6) 29 25 = 27 ∧ tE (m1 6) 29 27 = 29 := by decide +kernel
theorem m1_tC : tC (m1 6) 29 0 = key 0 ∧ tC (m1 6) 29 5 = 4 ∧ tC (m1 6) 29 7 = -22 ∧ tC (m1 6) 29 9 = key 1 ∧ tC (m1 6) 29 15 = 5 ∧ tC (m1 6) 29 17 = -22 ∧ tC (m1 6) 29 19 = key 2 ∧ tC (m1 6) 29 25 = 1 ∧ tC (m1 6) 29 27 = -22 ∧ tC (m1 6) 29 29 = -30 := by decide +kernel
theorem m1_nb : ∀ j, j < 29 → ∃ k, k < 256 ∧ m1 6 j = nI k := by
  have h : ∀ j, j < 29 → (m1 6 j).toNatClampNeg < 256 ∧ m1 6 j = nI (m1 6 j).toNatClampNeg := by decide +kernel
  exact fun j hj => ⟨_, (h j hj).1, (h j hj).2⟩
theorem m1_C : CX m1 (m1 6) 29 0 := ⟨⟨rfl, by decide, fun j hj => ⟨m1_nb j hj, rfl⟩, rfl⟩, rfl, by decide⟩
theorem x0_19 : x0 31 0 = 0 ∧ x0 31 1 = 1 ∧ x0 31 2 = 2 ∧ x0 31 3 = 3 ∧ x0 25 0 = 4 ∧ x0 25 1 = 5 ∧ x0 25 2 = 1 := by decide +kernel
theorem dok1 {r : Nat → Int32} {i : Nat} {x : Int32} (h : r i = x) (hx : rg x (-6) 9999) : dok r i 1 0 := by
  show rg (r i) (-15) 9999 ∧ (if r i < -6 then (if r i < -8 then 2 ≤ 0 ∧ dok r (i + 1) 0 (0 - 1) else 1 ≤ 0 ∧ dok r (i + 1) 0 0) else dok r (i + 1) 0 (0 + 1))
  rw [h, if_neg (Int32.not_lt.mpr hx.1)]
  exact ⟨⟨Int32.le_trans (by decide) hx.1, hx.2⟩, rfl⟩
theorem first : VX12_text (fun _ u => Inv x0 u) m1 := by
  obtain ⟨e0, e1, e2, e3, e4, e5, e6, e7, e8⟩ := m1_tE
  obtain ⟨c0, c1, c2, c3, c4, c5, c6, c7, c8, c9⟩ := m1_tC
  refine txt0 (X := 0) (by decide) rfl ?_
  refine m_one (b := m1 6) (Z := 29) m1_C (by decide) (by decide) (by decide) c0 (by rw [e0, c1]; decide) (by rw [e0, e1, c2]) ?_
  rw [e0, e1, e2, c1]
  refine m_one (b := m1 6) (Z := 29) m1_C.hup (by decide) (by decide) (by decide) c3 (by rw [e3, c4]; decide) (by rw [e3, e4, c5]) ?_
  rw [e3, e4, e5, c4]
  refine m_one (b := m1 6) (Z := 29) m1_C.hup.hup (by decide) (by decide) (by decide) c6 (by rw [e6, c7]; decide) (by rw [e6, e7, c8]) ?_
  rw [e6, e7, e8, c7]
  refine m_end (b := m1 6) (Z := 29) m1_C.hup.hup.hup (by decide) (by decide) (fun _ v hv h8 h11 hst hcd => ?_) (fun q => absurd c9 q)
  obtain ⟨y0, y1, y2, y3, y4, y5, y6⟩ := x0_19
  have am : agr (fun k i => ¬ (k = 0 ∧ (i = 8 ∨ i = 11 ∨ (21 ≤ i ∧ i ≤ 29))) ∧ k ≠ 15 ∧ k ≠ 7 ∧ k ≠ 8) m1 v := (agr.up (agr.up (agr.up agr.rf (by omega)) (by omega)) (by omega) : agr (fun k i => ¬ (k = 0 ∧ (i = 8 ∨ i = 11 ∨ (21 ≤ i ∧ i ≤ 29))) ∧ k ≠ 15 ∧ k ≠ 7 ∧ k ≠ 8) m1 _).tr (hv.sub fun k i h => by omega)
  refine ⟨0, 1, 0, 0, ⟨?_, ?_, ?_, ?_, ⟨0, by decide, rfl⟩, rfl, ?_, by decide, by decide, rfl, h11⟩, ⟨by decide, rfl, ?_, fun t ht => absurd ht (Nat.not_lt_zero t)⟩, ⟨by decide, rfl, h8, fun t ht => absurd ht (Nat.not_lt_zero t)⟩, fun t ht => ?_, fun s hs => ?_, ⟨?_, fun q => absurd rfl q⟩, ⟨?_, fun t ht => ?_⟩⟩
  · rw [am 1 0 (by omega)]; rfl
  · rw [am 1 1 (by omega)]; rfl
  · rw [am 1 2 (by omega)]; rfl
  · rw [am 0 1 (by omega)]; rfl
  · rw [am 0 12 (by omega)]; rfl
  · rw [am 0 2 (by omega)]; rfl
  · obtain rfl : t = 0 := by omega
    have e8 : ∀ p, p < 3 → v 8 p = (hup (hup (hup m1 8 (4 * 0 + 0) (nI ([] : List Int32).length)) 8 (4 * 0 + 1) (nI [mcd 4].length)) 8 (4 * 0 + 2) (nI [mcd 5, mcd 4].length)) 8 p := fun p hp => hv 8 p (by omega)
    refine ⟨⟨fun p => p, fun p hp => ?_, rfl, by decide, fun p hp => Nat.le_succ p, fun p hp => ?_⟩, fun p hp => ?_, fun k hk => ?_⟩
    · rcases (show p = 0 ∨ p = 1 ∨ p = 2 ∨ p = 3 by omega) with rfl | rfl | rfl | rfl
      · exact y0
      · exact y1
      · exact y2
      · exact y3
    · show dok (x0 25) p (p + 1 - p) 0
      rw [Nat.add_sub_cancel_left]
      rcases (show p = 0 ∨ p = 1 ∨ p = 2 by omega) with rfl | rfl | rfl
      · exact dok1 y4 (by decide)
      · exact dok1 y5 (by decide)
      · exact dok1 y6 (by decide)
    · show v 8 (4 * 0 + p) = x0 31 p
      rcases (show p = 0 ∨ p = 1 ∨ p = 2 ∨ p = 3 by omega) with rfl | rfl | rfl | rfl
      · rw [y0, e8 0 (by decide), hup_col (by decide), hup_col (by decide), hup_self]; rfl
      · rw [y1, e8 1 (by decide), hup_col (by decide), hup_self]; rfl
      · rw [y2, e8 2 (by decide), hup_self]; rfl
      · rw [y3]; exact hst
    · have hk3 : k < 3 := by
        have hk' : k < (x0 31 3).toNatClampNeg := hk
        rw [y3] at hk'
        exact hk'
      show v 7 (200 * 0 + k) = mcd (x0 25 k)
      rcases (show k = 0 ∨ k = 1 ∨ k = 2 by omega) with rfl | rfl | rfl
      · rw [y4]; exact hcd.2.2.1
      · rw [y5]; exact hcd.2.1
      · rw [y6]; exact hcd.1
  · have hx : ∀ s, s < 4 → x0 (41 + s) 2 = 0 ∧ x0 (41 + s) 1 = -1 ∧ m1 10 s = -1 := by decide +kernel
    obtain ⟨z1, z2, z3⟩ := hx s hs
    have z4 : x0 (45 + s) = fun _ => 0 := by
      rcases (show s = 0 ∨ s = 1 ∨ s = 2 ∨ s = 3 by omega) with rfl | rfl | rfl | rfl <;> rfl
    rw [z1, z2, z4, am 11 s (by omega), am 10 s (by omega), z3]
    refine ⟨⟨0, by decide, rfl, rfl⟩, rfl, by decide, fun i hi => ?_⟩
    rw [am 12 _ (by omega)]; rfl
  · rw [am 0 13 (by omega)]; rfl
  · rw [am.row (k := 14) (fun i => by omega)]; rfl
  · rcases (show t = 0 ∨ t = 1 ∨ t = 2 ∨ t = 3 ∨ t = 4 ∨ t = 5 by omega) with rfl | rfl | rfl | rfl | rfl | rfl
    · exact y0
    all_goals rfl
