/-! ===== m's tokens ===== -/
def MT (v : Hp) (b : Nat → Int32) (Z : Nat) : Prop := v 0 8 = nI Z ∧ Z ≤ 160 ∧ (∀ j, j < Z → nb (b j) 256 ∧ v 6 j = b j) ∧ v 14 = mA47_96
theorem MT.ag {v v' : Hp} {b : Nat → Int32} {Z : Nat} (h : MT v b Z) (a : agr (fun k i => k = 6 ∨ (k = 0 ∧ i = 8) ∨ k = 14) v v') : MT v' b Z := by
  obtain ⟨h1, h2, h3, h4⟩ := h
  exact ⟨by rw [a 0 8 (by decide)]; exact h1, h2, fun j hj => by rw [a 6 j (by omega)]; exact h3 j hj, by rw [a.row (fun i => by omega)]; exact h4⟩
def prm (k : Nat) : Nat := if k < 3 then k + 9 else k - 3
theorem W47 : ∀ k, k < 12 → ∀ c, c < 8 → mA47_96 (8 * k + c) = if c < scLen.getD (prm k) 0 then (scByt.getD (prm k) []).getD c 0 else 32 := by decide +kernel
theorem W47n : ∀ k, k < 12 → scLen.getD (prm k) 0 ≤ 8 ∧ ∀ c, c < scLen.getD (prm k) 0 → (scByt.getD (prm k) []).getD c 0 ≠ 32 := by decide +kernel
def lkP (b : Nat → Int32) (S E k c : Nat) : Prop := mA47_96 (8 * k + c) = if S + c < E then b (S + c) else 32
theorem lk_wm {b : Nat → Int32} {S E k : Nat} (hk : k < 12) (hSE : S ≤ E) (hl : ∀ j, S ≤ j → j < E → isLt (b j) = true) : (E - S ≤ 8 ∧ ∀ c, c < 8 → lkP b S E k c) ↔ wm b S E (prm k) = true := by
  obtain ⟨n1, n2⟩ := W47n k hk
  have hne : ∀ j, S ≤ j → j < E → b j ≠ 32 := fun j h1 h2 q => by
    have := of_decide_eq_true (hl j h1 h2)
    rw [q] at this
    exact absurd this (by decide)
  constructor
  · rintro ⟨h8, hall⟩
    have hlen : scLen.getD (prm k) 0 = E - S := by
      rcases Nat.lt_trichotomy (scLen.getD (prm k) 0) (E - S) with h | h | h
      · have := hall (scLen.getD (prm k) 0) (by omega)
        unfold lkP at this
        rw [W47 k hk _ (by omega), if_neg (Nat.lt_irrefl _), if_pos (by omega)] at this
        exact absurd this.symm (hne _ (by omega) (by omega))
      · exact h
      · have := hall (E - S) (by omega)
        unfold lkP at this
        rw [W47 k hk _ (by omega), if_pos h, if_neg (by omega)] at this
        exact absurd this (n2 _ h)
    refine decide_eq_true ⟨hlen, fun j hj => ?_⟩
    have := hall j (by omega)
    unfold lkP at this
    rw [W47 k hk _ (by omega), if_pos hj, if_pos (by omega)] at this
    exact this.symm
  · intro h
    obtain ⟨hlen, hc⟩ := of_decide_eq_true h
    refine ⟨by omega, fun c hc8 => ?_⟩
    unfold lkP
    rw [W47 k hk c hc8]
    by_cases h1 : c < scLen.getD (prm k) 0
    · rw [if_pos h1, if_pos (by omega)]; exact (hc c h1).symm
    · rw [if_neg h1, if_neg (by omega)]
theorem m_word {K : Int32 → Hp → Prop} {b : Nat → Int32} {Z S E : Nat} {v : Hp} (hSE : S ≤ E) (hE : E ≤ Z) (hM : MT v b Z) (hl : ∀ j, S ≤ j → j < E → isLt (b j) = true) (h1 : ∀ k, k < 12 → wm b S E (prm k) = true → K (nI k) v) (h0 : (∀ k, k < 12 → wm b S E (prm k) = false) → K 12 v) : VX12_wordFrom K v (nI S) (nI E) := by
  obtain ⟨m1, hz, m3, m4⟩ := hM
  refine lpN (S := Unit) (fun n _ k => VX12_wordFrom_L2 K n v (nI S) (nI E) (nI k)) (fun k _ => ∀ i, i < k → wm b S E (prm i) = false) 12 (fun n s h => ?_) (fun n k s hk h go => ?_) () (fun j hj => absurd hj (Nat.not_lt_zero j))
  · show VX12_wordFrom_L2 K (n + 1) v (nI S) (nI E) (nI 12)
    rw [VX12_wordFrom_L2, if_pos (show (12 : Int32) ≤ nI 12 by decide)]
    exact h0 h
  · show VX12_wordFrom_L2 K (n + 1) v (nI S) (nI E) (nI k)
    have hw := lk_wm (b := b) hk hSE hl
    rw [VX12_wordFrom_L2, if_neg (show ¬ (12 : Int32) ≤ nI k from nI_ge (b := 12) hk (by decide)), pk_sub hSE]
    have b88t : wm b S E (prm k) = true → VX12_wordFrom_b88 K (VX12_wordFrom_L2 K n) v (nI S) (nI E) (nI k) 1 := fun q => by
      unfold VX12_wordFrom_b88
      rw [if_neg (by decide)]
      exact h1 k hk q
    have b88f : wm b S E (prm k) = false → VX12_wordFrom_b88 K (VX12_wordFrom_L2 K n) v (nI S) (nI E) (nI k) 0 := fun q => by
      unfold VX12_wordFrom_b88
      rw [if_pos rfl]
      intro x7 e7
      rw [e7, nI_1]
      refine go () (fun i hi => ?_)
      by_cases hik : i = k
      · rw [hik]; exact q
      · exact h i (by omega)
    have inner : ∀ l4 : Int32, (l4 = 1 ∧ E - S ≤ 8 ∨ l4 = 0 ∧ wm b S E (prm k) = false) → ∃ m, VX12_wordFrom_L26 K (VX12_wordFrom_L2 K n) m v (nI S) (nI E) (nI k) l4 0 := fun l4 hl4 => by
      refine lpN (S := Int32) (fun m l c => VX12_wordFrom_L26 K (VX12_wordFrom_L2 K n) m v (nI S) (nI E) (nI k) l (nI c)) (fun c l => (l = 1 ∧ E - S ≤ 8 ∧ ∀ c', c' < c → lkP b S E k c') ∨ (l = 0 ∧ wm b S E (prm k) = false)) 8 (fun m l hh => ?_) (fun m c l hc hh go2 => ?_) l4 (hl4.imp (fun q => ⟨q.1, q.2, fun c' hc' => absurd hc' (Nat.not_lt_zero c')⟩) id)
      · show VX12_wordFrom_L26 K (VX12_wordFrom_L2 K n) (m + 1) v (nI S) (nI E) (nI k) l (nI 8)
        rw [VX12_wordFrom_L26, if_pos (show (8 : Int32) ≤ nI 8 by decide)]
        rcases hh with ⟨e, g1, g2⟩ | ⟨e, g⟩
        · rw [e]; exact b88t (hw.mp ⟨g1, g2⟩)
        · rw [e]; exact b88f g
      · show VX12_wordFrom_L26 K (VX12_wordFrom_L2 K n) (m + 1) v (nI S) (nI E) (nI k) l (nI c)
        rw [VX12_wordFrom_L26, if_neg (show ¬ (8 : Int32) ≤ nI c from nI_ge (b := 8) hc (by decide))]
        rcases hh with ⟨e, g1, g2⟩ | ⟨e, g⟩
        rotate_left
        · rw [if_pos e, e]; exact b88f g
        rw [if_neg (by rw [e]; decide), show (8 : Int32) * nI k = nI (8 * k) from pk_mul 8 k, nI_add, nI_add, nI_clamp (by omega), nI_clamp (by omega), m4]
        refine ⟨vp_in_nI (by omega) (by decide), ?_⟩
        have b72 : ∀ s0, s0 = (if S + c < E then b (S + c) else 32) → VX12_wordFrom_b72 K (VX12_wordFrom_L2 K n) (VX12_wordFrom_L26 K (VX12_wordFrom_L2 K n) m) v (nI S) (nI E) (nI k) (nI c) s0 (mA47_96 (8 * k + c)) := fun s0 hs0 => by
          unfold VX12_wordFrom_b72
          rw [hs0]
          by_cases hc1 : lkP b S E k c
          · unfold lkP at hc1
            rw [if_pos hc1]
            intro x10 e10
            rw [e10, nI_1]
            refine go2 1 (Or.inl ⟨rfl, g1, fun c' hc' => ?_⟩)
            by_cases hcc : c' = c
            · rw [hcc]; exact hc1
            · exact g2 c' (by omega)
          · have hc2 : ¬ mA47_96 (8 * k + c) = (if S + c < E then b (S + c) else 32) := hc1
            rw [if_neg hc2]
            intro x10 e10
            rw [e10, nI_1]
            refine go2 0 (Or.inr ⟨rfl, ?_⟩)
            rw [← Bool.not_eq_true]
            exact fun q => hc1 ((hw.mpr q).2 c hc)
        by_cases hcE : E ≤ S + c
        · rw [if_pos (nI_le hcE (by omega))]
          exact b72 32 (by rw [if_neg (by omega)])
        · rw [if_neg (nI_ge (by omega) (by omega)), (m3 (S + c) (by omega)).2]
          exact ⟨vp_in_nI (by omega) (by decide), b72 _ (by rw [if_pos (by omega)])⟩
    by_cases h8 : 8 < E - S
    · rw [if_pos (show (8 : Int32) < nI (E - S) from nI_lt (a := 8) h8 (by omega))]
      refine inner 0 (Or.inr ⟨rfl, ?_⟩)
      rw [← Bool.not_eq_true]
      exact fun q => absurd (hw.mpr q).1 (by omega)
    · rw [if_neg (show ¬ (8 : Int32) < nI (E - S) from nI_nlt (a := 8) (by omega) (by omega))]
      exact inner 1 (Or.inl ⟨rfl, by omega⟩)
theorem wc_hit {b : Nat → Int32} {S E i : Nat} (hi : i < 12) (h : wm b S E i = true) : wcX b S E = ([-1, -2, -3, -4, -5, -6, -15, -14, -7, -23, -24, -25] : List Int32).getD i 0 := by
  have no : ∀ j, j < 12 → j ≠ i → wm b S E j = false := fun j hj hne => by
    rw [← Bool.not_eq_true]
    exact fun q => hne (wm_uq hj hi q h)
  unfold wcX
  rcases (show i = 0 ∨ i = 1 ∨ i = 2 ∨ i = 3 ∨ i = 4 ∨ i = 5 ∨ i = 6 ∨ i = 7 ∨ i = 8 ∨ i = 9 ∨ i = 10 ∨ i = 11 by omega) with rfl | rfl | rfl | rfl | rfl | rfl | rfl | rfl | rfl | rfl | rfl | rfl
  all_goals simp [h, no]
theorem wc_none {b : Nat → Int32} {S E : Nat} (h : ∀ k, k < 12 → wm b S E (prm k) = false) : wcX b S E = -31 := by
  have g0 := h 3 (by decide); have g1 := h 4 (by decide); have g2 := h 5 (by decide); have g3 := h 6 (by decide); have g4 := h 7 (by decide); have g5 := h 8 (by decide)
  have g6 := h 9 (by decide); have g7 := h 10 (by decide); have g8 := h 11 (by decide); have g9 := h 0 (by decide); have g10 := h 1 (by decide); have g11 := h 2 (by decide)
  simp only [prm] at g0 g1 g2 g3 g4 g5 g6 g7 g8 g9 g10 g11
  unfold wcX
  simp at g0 g1 g2 g3 g4 g5 g6 g7 g8 g9 g10 g11
  simp [g0, g1, g2, g3, g4, g5, g6, g7, g8, g9, g10, g11]
abbrev G5 (k i : Nat) : Prop := ¬ (k = 0 ∧ 21 ≤ i ∧ i ≤ 24)
/-- what next() leaves -/
def NX (v : Hp) (b : Nat → Int32) (Z p : Nat) : Prop := v 0 21 = nI (tE b Z p) ∧ v 0 22 = nI (tS b Z p) ∧ v 0 23 = mtk (tC b Z p) ∧ (mtk (tC b Z p) = 1 ∨ mtk (tC b Z p) = 2 ∨ mtk (tC b Z p) = 3 → v 0 24 = mvl (tC b Z p))
theorem sgT : ∀ k, k < 256 → (nI k = 40 ∨ nI k = 41 ∨ nI k = 59 ∨ nI k = 43 ∨ nI k = 45 ∨ nI k = 42 ∨ nI k = 60 ∨ nI k = 61 → mtk (sgX (nI k)) = nI k) ∧ (¬ (nI k = 40 ∨ nI k = 41 ∨ nI k = 59 ∨ nI k = 43 ∨ nI k = 45 ∨ nI k = 42 ∨ nI k = 60 ∨ nI k = 61) → mtk (sgX (nI k)) = -1) := by decide +kernel
theorem sgT2 : ∀ k, k < 256 → ¬ (mtk (sgX (nI k)) = 1 ∨ mtk (sgX (nI k)) = 2 ∨ mtk (sgX (nI k)) = 3) := by decide +kernel
theorem wkT : ∀ k, k < 12 → mtk (([-1, -2, -3, -4, -5, -6, -15, -14, -7, -23, -24, -25] : List Int32).getD (prm k) 0) = (if k < 3 then 3 else if k < 9 then 2 else nI (4 + k - 9)) ∧ (k < 9 → mvl (([-1, -2, -3, -4, -5, -6, -15, -14, -7, -23, -24, -25] : List Int32).getD (prm k) 0) = if k < 3 then nI k else nI (k - 3)) ∧ (¬ k < 9 → ¬ (mtk (([-1, -2, -3, -4, -5, -6, -15, -14, -7, -23, -24, -25] : List Int32).getD (prm k) 0) = 1 ∨ mtk (([-1, -2, -3, -4, -5, -6, -15, -14, -7, -23, -24, -25] : List Int32).getD (prm k) 0) = 2 ∨ mtk (([-1, -2, -3, -4, -5, -6, -15, -14, -7, -23, -24, -25] : List Int32).getD (prm k) 0) = 3)) := by decide +kernel
theorem m_next {K : Hp → Prop} {b : Nat → Int32} {Z p : Nat} {v : Hp} (hp : p ≤ Z) (hM : MT v b Z) (h21 : v 0 21 = nI p) (hK : ∀ v', agr G5 v v' → NX v' b Z p → K v') : VX12_next K v := by
  have hz := hM.2.1
  have hs := tS_le (b := b) hp
  have stop : ∀ s, agr G5 v s → s 0 21 = nI (tS b Z p) → VX12_next_b52 K s := fun s a g1 => by
    unfold VX12_next_b52
    intro u4 e4 u5 e5 u6 e6
    rw [g1] at e4
    have a6 : agr G5 v u6 := by rw [e6, e5, e4]; exact agr.up (agr.up (agr.up a (by omega)) (by omega)) (by omega)
    have k21 : u6 0 21 = nI (tS b Z p) := by rw [e6, hup_col (by decide), e5, hup_col (by decide), e4, hup_col (by decide)]; exact g1
    have k22 : u6 0 22 = nI (tS b Z p) := by rw [e6, hup_col (by decide), e5, hup_col (by decide), e4, hup_self]
    have k23 : u6 0 23 = 0 := by rw [e6, hup_col (by decide), e5, hup_self]
    have k24 : u6 0 24 = 0 := by rw [e6, hup_self]
    have hM6 : MT u6 b Z := hM.ag (a6.sub fun k i h => by omega)
    rw [k21, hM6.1]
    unfold NX at hK
    unfold tC at hK
    by_cases hsZ : tS b Z p < Z
    rotate_left
    · rw [if_neg hsZ] at hK
      have hE : tE b Z p = tS b Z p := by unfold tE; rw [if_neg hsZ]
      rw [if_pos (show nI (tS b Z p) = nI Z by rw [show tS b Z p = Z by omega])]
      exact hK u6 a6 ⟨by rw [hE]; exact k21, k22, by rw [k23]; rfl, fun q => absurd q (by decide)⟩
    rw [if_pos hsZ] at hK
    rw [if_neg (fun q => absurd ((nI_eq (by omega) (by omega)).mp q) (by omega)), nI_clamp (by omega)]
    obtain ⟨⟨k, hk, ek⟩, hx⟩ := hM6.2.2.1 _ hsZ
    refine ⟨vp_in_nI (by omega) (by decide), fun x8 e8 => ?_⟩
    rw [hx, ek] at e8
    rw [e8, eM_in, ite_b2i]
    by_cases hl : rg (nI k) 97 122
    · rw [if_pos hl]
      have hlt : isLt (b (tS b Z p)) = true := decide_eq_true (by rw [ek]; exact hl)
      have hdg : ¬ isDg (b (tS b Z p)) = true := fun q => by
        have := of_decide_eq_true q
        rw [ek] at this
        exact absurd (Int32.le_trans hl.1 this.2) (by decide)
      rw [if_neg hdg, if_pos hlt] at hK
      have hE : tE b Z p = rn isLt b Z (tS b Z p) := by unfold tE; rw [if_pos hsZ, if_neg hdg, if_pos hlt]
      rw [hE] at hK
      have b146 : ∀ s, agr G5 v s → s 0 21 = nI (rn isLt b Z (tS b Z p)) → s 0 22 = nI (tS b Z p) → VX12_next_b146 K s := fun s a g21 g22 => by
        unfold VX12_next_b146
        rw [g21, g22]
        have hMs : MT s b Z := hM.ag (a.sub fun k i h => by omega)
        have b195 : ∀ (l2 s0 : Int32), s0 = mtk (wcX b (tS b Z p) (rn isLt b Z (tS b Z p))) → ((mtk (wcX b (tS b Z p) (rn isLt b Z (tS b Z p))) = 1 ∨ mtk (wcX b (tS b Z p) (rn isLt b Z (tS b Z p))) = 2 ∨ mtk (wcX b (tS b Z p) (rn isLt b Z (tS b Z p))) = 3) → (if 3 ≤ l2 then l2 - 3 else l2) = mvl (wcX b (tS b Z p) (rn isLt b Z (tS b Z p)))) → VX12_next_b195 K s l2 s0 := fun l2 s0 h0 h1 => by
          unfold VX12_next_b195
          intro u48 e48
          by_cases h3 : 3 ≤ l2
          · rw [if_pos h3] at h1 ⊢
            intro u50 e50
            refine hK u50 (by rw [e50, e48]; exact agr.up (agr.up a (by omega)) (by omega)) ⟨?_, ?_, ?_, fun q => ?_⟩
            · rw [e50, hup_col (by decide), e48, hup_col (by decide)]; exact g21
            · rw [e50, hup_col (by decide), e48, hup_col (by decide)]; exact g22
            · rw [e50, hup_col (by decide), e48, hup_self]; exact h0
            · rw [e50, hup_self]; exact h1 q
          · rw [if_neg h3] at h1 ⊢
            intro u50 e50
            refine hK u50 (by rw [e50, e48]; exact agr.up (agr.up a (by omega)) (by omega)) ⟨?_, ?_, ?_, fun q => ?_⟩
            · rw [e50, hup_col (by decide), e48, hup_col (by decide)]; exact g21
            · rw [e50, hup_col (by decide), e48, hup_col (by decide)]; exact g22
            · rw [e50, hup_col (by decide), e48, hup_self]; exact h0
            · rw [e50, hup_self]; exact h1 q
        refine m_word (rn_ge _) (rn_le _ hs.2) hMs (rn_in _) (fun kk hkk hw => ?_) (fun hno => ?_)
        · have hh := wc_hit (i := prm kk) (by unfold prm; split <;> omega) hw
          obtain ⟨t1, t2, t3⟩ := wkT kk hkk
          rw [← hh] at t1 t2 t3
          by_cases g3 : kk < 3
          · rw [if_neg (show ¬ (3 : Int32) ≤ nI kk from nI_ge (b := 3) g3 (by decide))]
            rw [if_pos g3] at t1
            refine b195 _ _ t1.symm (fun _ => ?_)
            rw [if_neg (show ¬ (3 : Int32) ≤ nI kk from nI_ge (b := 3) g3 (by decide)), t2 (by omega), if_pos g3]
          · rw [if_pos (show (3 : Int32) ≤ nI kk from nI_le (a := 3) (by omega) (by omega))]
            rw [if_neg g3] at t1
            by_cases g9 : kk < 9
            · rw [if_neg (show ¬ (9 : Int32) ≤ nI kk from nI_ge (b := 9) g9 (by decide))]
              rw [if_pos g9] at t1
              refine b195 _ _ t1.symm (fun _ => ?_)
              rw [if_pos (show (3 : Int32) ≤ nI kk from nI_le (a := 3) (by omega) (by omega)), t2 g9, if_neg g3]
              exact pk_sub (b := 3) (by omega)
            · rw [if_pos (show (9 : Int32) ≤ nI kk from nI_le (a := 9) (by omega) (by omega)), if_neg (show ¬ nI kk = 12 from fun q => absurd ((nI_eq (b := 12) (by omega) (by decide)).mp q) (by omega))]
              rw [if_neg g9] at t1
              refine b195 _ _ ?_ (fun q => absurd q (t3 g9))
              rw [t1, show (4 : Int32) + nI kk = nI (4 + kk) from nI_add 4 kk]
              exact pk_sub (b := 9) (by omega)
        · have hh := wc_none hno
          rw [if_pos (by decide), if_pos (by decide), if_pos rfl]
          refine b195 _ _ (by rw [hh]; decide) (fun q => ?_)
          rw [hh] at q
          exact absurd q (by decide)
      have key : ∀ m q s, Z - q ≤ m → q ≤ Z → agr G5 v s → s 0 21 = nI q → s 0 22 = nI (tS b Z p) → rn isLt b Z q = rn isLt b Z (tS b Z p) → VX12_next_L103 K (m + 1) s := by
        intro m
        induction m with
        | zero =>
          intro q s hm hqZ a g1 g2 hr
          have hqz : q = Z := by have := Nat.le_zero.mp hm; omega
          rw [VX12_next_L103, a 0 8 (by omega), hM.1, g1, if_pos (nI_le (by omega) (by omega))]
          exact b146 s a (by rw [g1, ← hr, rn_st, if_neg (by omega)]) g2
        | succ m ih =>
          intro q s hm hqZ a g1 g2 hr
          rw [VX12_next_L103, a 0 8 (by omega), hM.1, g1]
          by_cases hq : Z ≤ q
          · rw [if_pos (nI_le hq (by omega))]
            exact b146 s a (by rw [g1, ← hr, rn_st, if_neg (by omega)]) g2
          rw [if_neg (nI_ge (by omega) (by omega)), nI_clamp (by omega), a 6 q (by omega), (hM.2.2.1 q (by omega)).2, eM_in, ite_b2i]
          refine ⟨vp_in_nI (by omega) (by decide), ?_⟩
          by_cases hd : rg (b q) 97 122
          · rw [if_pos hd]
            intro u34 e34
            rw [g1, nI_1] at e34
            refine ih (q + 1) u34 (by omega) (by omega) (by rw [e34]; exact agr.up a (by omega)) (by rw [e34, hup_self]) (by rw [e34, hup_col (by decide)]; exact g2) ?_
            rw [← hr, rn_st (p := q), if_pos ⟨by omega, decide_eq_true hd⟩]
          · rw [if_neg hd]
            exact b146 s a (by rw [g1, ← hr, rn_st, if_neg (fun pp => hd (of_decide_eq_true pp.2))]) g2
      exact ⟨_, key (Z - tS b Z p) (tS b Z p) u6 (Nat.le_refl _) hs.2 a6 k21 k22 rfl⟩
    rw [if_neg hl, eM_in, ite_b2i]
    have hlt : ¬ isLt (b (tS b Z p)) = true := fun q => hl (by have := of_decide_eq_true q; rw [ek] at this; exact this)
    by_cases hd : rg (nI k) 48 57
    · rw [if_pos hd]
      have hdg : isDg (b (tS b Z p)) = true := decide_eq_true (by rw [ek]; exact hd)
      rw [if_pos hdg] at hK
      have hE : tE b Z p = rn isDg b Z (tS b Z p) := by unfold tE; rw [if_pos hsZ, if_pos hdg]
      rw [hE] at hK
      have hin := rn_in (P := isDg) (b := b) (Z := Z) (tS b Z p)
      have hge := rn_ge (P := isDg) (b := b) (Z := Z) (tS b Z p)
      have hle := rn_le (P := isDg) (b := b) (Z := Z) (tS b Z p) hs.2
      have b309 : ∀ q s, q = rn isDg b Z (tS b Z p) → agr G5 v s → s 0 21 = nI q → s 0 22 = nI (tS b Z p) → (q - tS b Z p ≤ 4 → s 0 24 = vlN b (tS b Z p) (q - tS b Z p)) → VX12_next_b309 K s (nI (q - tS b Z p)) := fun q s hq a g1 g2 g4 => by
        unfold VX12_next_b309
        rw [← hq] at hK
        by_cases h4 : q - tS b Z p ≤ 4
        · rw [if_pos (show nI (q - tS b Z p) ≤ 4 from nI_le (b := 4) h4 (by decide))]
          intro u38 e38
          rw [if_pos h4] at hK
          obtain ⟨vv, hvv, ev⟩ := vlN_nb (b := b) (s := tS b Z p) (q - tS b Z p) h4 (fun j hj => hin _ (by omega) (by omega))
          have hp4 : 10 ^ (q - tS b Z p) ≤ 10 ^ 4 := Nat.pow_le_pow_right (by decide) h4
          have h0 : (0 : Int32) ≤ vlN b (tS b Z p) (q - tS b Z p) := by rw [ev]; exact nI_pos' (by omega)
          refine hK u38 (by rw [e38]; exact agr.up a (by omega)) ⟨?_, ?_, ?_, fun _ => ?_⟩
          · rw [e38, hup_col (by decide)]; exact g1
          · rw [e38, hup_col (by decide)]; exact g2
          · rw [e38, hup_self]; unfold mtk; rw [if_pos h0]
          · rw [e38, hup_col (by decide), g4 h4]; unfold mvl; rw [if_pos h0]
        · rw [if_neg (show ¬ nI (q - tS b Z p) ≤ 4 from nI_ge (a := 4) (by omega) (by omega))]
          intro u38 e38
          rw [if_neg h4] at hK
          refine hK u38 (by rw [e38]; exact agr.up a (by omega)) ⟨?_, ?_, ?_, fun q => absurd q (by decide)⟩
          · rw [e38, hup_col (by decide)]; exact g1
          · rw [e38, hup_col (by decide)]; exact g2
          · rw [e38, hup_self]; decide
      have key : ∀ m q s, Z - q ≤ m → tS b Z p ≤ q → q ≤ Z → agr G5 v s → s 0 21 = nI q → s 0 22 = nI (tS b Z p) → (q - tS b Z p ≤ 4 → s 0 24 = vlN b (tS b Z p) (q - tS b Z p)) → rn isDg b Z q = rn isDg b Z (tS b Z p) → VX12_next_L230 K (m + 1) s (nI (q - tS b Z p)) := by
        intro m
        induction m with
        | zero =>
          intro q s hm hSq hqZ a g1 g2 g4 hr
          have hqz : q = Z := by have := Nat.le_zero.mp hm; omega
          rw [VX12_next_L230, a 0 8 (by omega), hM.1, g1, if_pos (nI_le (by omega) (by omega))]
          exact b309 q s (by rw [← hr, rn_st, if_neg (by omega)]) a g1 g2 g4
        | succ m ih =>
          intro q s hm hSq hqZ a g1 g2 g4 hr
          rw [VX12_next_L230, a 0 8 (by omega), hM.1, g1]
          by_cases hq : Z ≤ q
          · rw [if_pos (nI_le hq (by omega))]
            exact b309 q s (by rw [← hr, rn_st, if_neg (by omega)]) a g1 g2 g4
          rw [if_neg (nI_ge (by omega) (by omega)), nI_clamp (by omega), a 6 q (by omega), (hM.2.2.1 q (by omega)).2, eM_in, ite_b2i]
          refine ⟨vp_in_nI (by omega) (by decide), ?_⟩
          by_cases hdq : rg (b q) 48 57
          · rw [if_pos hdq]
            have nxt : ∀ s0, (q + 1 - tS b Z p ≤ 4 → s0 = vlN b (tS b Z p) (q + 1 - tS b Z p)) → VX12_next_b290 K (VX12_next_L230 K (m + 1)) s (nI (q - tS b Z p)) s0 := fun s0 hs0 => by
              unfold VX12_next_b290
              intro u40 e40 x41 e41 u42 e42
              have g40 : u40 0 21 = nI q := by rw [e40, hup_col (by decide)]; exact g1
              rw [g40, nI_1] at e42
              rw [e41, nI_1, show q - tS b Z p + 1 = q + 1 - tS b Z p by omega]
              refine ih (q + 1) u42 (by omega) (by omega) (by omega) (by rw [e42, e40]; exact agr.up (agr.up a (by omega)) (by omega)) (by rw [e42, hup_self]) (by rw [e42, hup_col (by decide), e40, hup_col (by decide)]; exact g2) (fun h4 => by rw [e42, hup_col (by decide), e40, hup_self]; exact hs0 h4) ?_
              rw [← hr, rn_st (p := q), if_pos ⟨by omega, decide_eq_true hdq⟩]
            by_cases h4 : 4 ≤ q - tS b Z p
            · rw [if_pos (show (4 : Int32) ≤ nI (q - tS b Z p) from nI_le (a := 4) h4 (by omega))]
              exact nxt 0 (fun h => by omega)
            · rw [if_neg (show ¬ (4 : Int32) ≤ nI (q - tS b Z p) from nI_ge (b := 4) (by omega) (by decide)), g1, nI_clamp (by omega), a 6 q (by omega), (hM.2.2.1 q (by omega)).2, g4 (by omega)]
              refine ⟨vp_in_nI (by omega) (by decide), nxt _ (fun _ => ?_)⟩
              rw [show q + 1 - tS b Z p = (q - tS b Z p) + 1 by omega]
              show _ = (10 * vlN b (tS b Z p) (q - tS b Z p) + b (tS b Z p + (q - tS b Z p))) - 48
              rw [show tS b Z p + (q - tS b Z p) = q by omega]
          · rw [if_neg hdq]
            exact b309 q s (by rw [← hr, rn_st, if_neg (fun pp => hdq (of_decide_eq_true pp.2))]) a g1 g2 g4
      have h := key (Z - tS b Z p) (tS b Z p) u6 (Nat.le_refl _) (Nat.le_refl _) hs.2 a6 k21 k22 (fun _ => by rw [Nat.sub_self]; exact k24) rfl
      rw [Nat.sub_self] at h
      exact ⟨_, h⟩
    · rw [if_neg hd]
      have hdg : ¬ isDg (b (tS b Z p)) = true := fun q => hd (by have := of_decide_eq_true q; rw [ek] at this; exact this)
      rw [if_neg hdg, if_neg hlt] at hK
      have hE : tE b Z p = tS b Z p + 1 := by unfold tE; rw [if_pos hsZ, if_neg hdg, if_neg hlt]
      rw [hE, ek] at hK
      obtain ⟨t1, t2⟩ := sgT k hk
      have t3 := sgT2 k hk
      have b390 : ∀ s0, s0 = mtk (sgX (nI k)) → VX12_next_b390 K u6 s0 := fun s0 hs0 => by
        unfold VX12_next_b390
        intro u35 e35 u36 e36
        have g35 : u35 0 21 = nI (tS b Z p) := by rw [e35, hup_col (by decide)]; exact k21
        rw [g35, nI_1] at e36
        refine hK u36 (by rw [e36, e35]; exact agr.up (agr.up a6 (by omega)) (by omega)) ⟨by rw [e36, hup_self], ?_, ?_, fun q => absurd q t3⟩
        · rw [e36, hup_col (by decide), e35, hup_col (by decide)]; exact k22
        · rw [e36, hup_col (by decide), e35, hup_self]; exact hs0
      have yes : (nI k = 40 ∨ nI k = 41 ∨ nI k = 59 ∨ nI k = 43 ∨ nI k = 45 ∨ nI k = 42 ∨ nI k = 60 ∨ nI k = 61) → VX12_next_b379 K u6 (nI k) 1 := fun q => by
        unfold VX12_next_b379
        rw [if_neg (by decide)]
        exact b390 _ (t1 q).symm
      by_cases c1 : nI k = 40
      · rw [if_pos c1]; exact yes (Or.inl c1)
      rw [if_neg c1]
      by_cases c2 : nI k = 41
      · rw [if_pos c2]; exact yes (Or.inr (Or.inl c2))
      rw [if_neg c2]
      by_cases c3 : nI k = 59
      · rw [if_pos c3]; exact yes (Or.inr (Or.inr (Or.inl c3)))
      rw [if_neg c3]
      by_cases c4 : nI k = 43
      · rw [if_pos c4]; exact yes (Or.inr (Or.inr (Or.inr (Or.inl c4))))
      rw [if_neg c4]
      by_cases c5 : nI k = 45
      · rw [if_pos c5]; exact yes (Or.inr (Or.inr (Or.inr (Or.inr (Or.inl c5)))))
      rw [if_neg c5]
      by_cases c6 : nI k = 42
      · rw [if_pos c6]; exact yes (Or.inr (Or.inr (Or.inr (Or.inr (Or.inr (Or.inl c6))))))
      rw [if_neg c6]
      by_cases c7 : nI k = 60
      · rw [if_pos c7]; exact yes (Or.inr (Or.inr (Or.inr (Or.inr (Or.inr (Or.inr (Or.inl c7)))))))
      rw [if_neg c7]
      by_cases c8 : nI k = 61
      · rw [if_pos c8]; exact yes (Or.inr (Or.inr (Or.inr (Or.inr (Or.inr (Or.inr (Or.inr c8)))))))
      rw [if_neg c8]
      unfold VX12_next_b379
      rw [if_pos rfl]
      refine b390 _ (t2 (fun q => ?_)).symm
      rcases q with q | q | q | q | q | q | q | q
      · exact c1 q
      · exact c2 q
      · exact c3 q
      · exact c4 q
      · exact c5 q
      · exact c6 q
      · exact c7 q
      · exact c8 q
  have key : ∀ m q s, Z - q ≤ m → q ≤ Z → agr G5 v s → s 0 21 = nI q → rn isBl b Z q = tS b Z p → VX12_next_L0 K (m + 1) s := by
    intro m
    induction m with
    | zero =>
      intro q s hm hqZ a g1 hr
      have hqz : q = Z := by have := Nat.le_zero.mp hm; omega
      rw [VX12_next_L0, a 0 8 (by omega), hM.1, g1, if_pos (nI_le (by omega) (by omega))]
      exact stop s a (by rw [g1, ← hr, rn_st, if_neg (by omega)])
    | succ m ih =>
      intro q s hm hqZ a g1 hr
      rw [VX12_next_L0, a 0 8 (by omega), hM.1, g1]
      by_cases hq : Z ≤ q
      · rw [if_pos (nI_le hq (by omega))]
        exact stop s a (by rw [g1, ← hr, rn_st, if_neg (by omega)])
      rw [if_neg (nI_ge (by omega) (by omega)), nI_clamp (by omega), a 6 q (by omega), (hM.2.2.1 q (by omega)).2]
      have hv : vp_in (nI q) 160 := vp_in_nI (by omega) (by decide)
      have nx : isBl (b q) = true → VX12_next_b39 K (VX12_next_L0 K (m + 1)) s := fun hbl => by
        unfold VX12_next_b39
        intro u23 e23
        rw [g1, nI_1] at e23
        refine ih (q + 1) u23 (by omega) (by omega) (by rw [e23]; exact agr.up a (by omega)) (by rw [e23, hup_self]) ?_
        rw [← hr, rn_st (p := q), if_pos ⟨by omega, hbl⟩]
      refine ⟨hv, ?_⟩
      by_cases h32 : b q = 32
      · rw [if_pos h32]
        exact nx (decide_eq_true (Or.inl h32))
      rw [if_neg h32]
      refine ⟨hv, ?_⟩
      by_cases h10 : b q = 10
      · rw [if_pos h10]
        exact nx (decide_eq_true (Or.inr h10))
      rw [if_neg h10]
      have hnb : ¬ (q < Z ∧ isBl (b q) = true) := fun pp => (of_decide_eq_true pp.2).elim h32 h10
      exact stop s a (by rw [g1, ← hr, rn_st, if_neg hnb])
  exact ⟨_, key (Z - p) p v (Nat.le_refl _) hp agr.rf h21 rfl⟩
