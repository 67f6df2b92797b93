/-! ===== m's machine ===== -/
def rnk (a : Int32) : Nat := if a = 0 then 0 else if a = 11 then 1 else if a = 12 then 2 else if a = 13 then 3 else if 15 < a then (if 17 < a then (if a = 18 then 6 else 7) else 5) else 4
theorem eM_rank {K : Int32 → Hp → Prop} {σ : Hp} {a : Int32} : VX12_rank K σ a = K (nI (rnk a)) σ := by
  unfold VX12_rank rnk
  repeat' split
  all_goals rfl
theorem rnk_le {a : Int32} : rnk a ≤ 7 := by
  unfold rnk
  repeat' split
  all_goals omega
def opn (h : Int32) : Nat := if h = 0 ∨ h = 13 ∨ h = 19 then 1 else 0
def cnt : List Int32 → Nat
  | [] => 0
  | h :: H => opn h + cnt H
def uw (r : Nat) : List Int32 → List Int32 → List Int32 × List Int32
  | [], L => ([], L)
  | h :: H, L => if rnk h < r then (h :: H, L) else uw r H (h :: L)
theorem uw_len {r : Nat} : ∀ (H L : List Int32), (uw r H L).1.length + (uw r H L).2.length = H.length + L.length
  | [], L => rfl
  | h :: H, L => by
    unfold uw
    by_cases hr : rnk h < r
    · rw [if_pos hr]
    · rw [if_neg hr, uw_len H (h :: L)]
      simp only [List.length_cons]; omega
def hdr (H : List Int32) : Nat := match H with | [] => 0 | h :: _ => rnk h
theorem uw_id {r : Nat} {H L : List Int32} (h : H = [] ∨ hdr H < r) : uw r H L = (H, L) := by
  cases H with
  | nil => rfl
  | cons a H =>
    unfold uw
    rcases h with h | h
    · exact absurd h (by simp)
    · rw [if_pos (show rnk a < r from h)]
theorem uw_uw {r s : Nat} (hrs : s ≤ r) : ∀ (H L : List Int32), uw s (uw r H L).1 (uw r H L).2 = uw s H L
  | [], L => rfl
  | h :: H, L => by
    by_cases hr : rnk h < r
    · have e : uw r (h :: H) L = (h :: H, L) := by unfold uw; rw [if_pos hr]
      rw [e]
    · have e : uw r (h :: H) L = uw r H (h :: L) := by
        show (if rnk h < r then (h :: H, L) else uw r H (h :: L)) = _
        rw [if_neg hr]
      have e2 : uw s (h :: H) L = uw s H (h :: L) := by
        show (if rnk h < s then (h :: H, L) else uw s H (h :: L)) = _
        rw [if_neg (by omega)]
      rw [e, e2]
      exact uw_uw hrs H (h :: L)
abbrev FM (X k i : Nat) : Prop := ¬ (k = 0 ∧ 21 ≤ i ∧ i ≤ 29) ∧ k ≠ 15 ∧ ¬ (k = 7 ∧ 200 * X ≤ i)
/-- held H, of which c are open; put out L -/
def MH (τ : Hp) (X c : Nat) (H L : List Int32) (v : Hp) : Prop := agr (FM X) τ v ∧ v 0 27 = nI H.length ∧ stk (v 15) H ∧ v 0 28 = nI c ∧ v 0 29 = nI L.length ∧ stk (fun i => v 7 (200 * X + i)) L
abbrev G6 (k i : Nat) : Prop := k = 0 ∧ 21 ≤ i ∧ i ≤ 24
theorem stk_cg {f g : Nat → Int32} : ∀ {s : List Int32}, (∀ i, i < s.length → f i = g i) → stk f s → stk g s
  | [], _, _ => trivial
  | a :: s, h, hs => ⟨by rw [← h s.length (by simp)]; exact hs.1, stk_cg (fun i hi => h i (by simp only [List.length_cons]; omega)) hs.2⟩
theorem MH.ag {τ : Hp} {X c : Nat} {H L : List Int32} {v v' : Hp} (h : MH τ X c H L v) (a : agr (fun k i => ¬ (k = 0 ∧ 21 ≤ i ∧ i ≤ 24)) v v') : MH τ X c H L v' := by
  obtain ⟨h1, h2, h3, h4, h5, h6⟩ := h
  refine ⟨h1.tr (a.sub fun k i h => by omega), ?_, ?_, ?_, ?_, ?_⟩
  · rw [a 0 27 (by omega)]; exact h2
  · rw [a.row (k := 15) (fun i => by omega)]; exact h3
  · rw [a 0 28 (by omega)]; exact h4
  · rw [a 0 29 (by omega)]; exact h5
  · rw [a.row (k := 7) (fun i => by omega)]; exact h6
theorem m_puts {K : Hp → Prop} {τ : Hp} {X c : Nat} {H L : List Int32} {v : Hp} {a : Int32} (hX : X < 6) (h11 : τ 0 11 = nI X) (hM : MH τ X c H L v) (hL : L.length < 200) (hK : ∀ v', agr G6 v v' → MH τ X c H (a :: L) v' → K v') : VX12_puts K v a := by
  obtain ⟨h1, h2, h3, h4, h5, h6⟩ := hM
  unfold VX12_puts
  rw [h1 0 11 (by omega), h11, h5, show (200 : Int32) * nI X = nI (200 * X) from pk_mul 200 X, nI_add, nI_clamp (by omega)]
  refine ⟨vp_in_nI (by omega) (by decide), fun u1 e1 u2 e2 => ?_⟩
  have g5 : u1 0 29 = nI L.length := by rw [e1, hup_row (by decide)]; exact h5
  rw [g5, nI_1] at e2
  refine hK u2 (by rw [e2, e1]; exact agr.up (agr.up agr.rf (by omega)) (by omega)) ⟨?_, ?_, ?_, ?_, ?_, ?_⟩
  · rw [e2, e1]; exact agr.up (agr.up h1 (by omega)) (by omega)
  · rw [e2, hup_col (by decide), e1, hup_row (by decide)]; exact h2
  · rw [e2, hup_row (by decide), e1, hup_row (by decide)]; exact h3
  · rw [e2, hup_col (by decide), e1, hup_row (by decide)]; exact h4
  · rw [e2, hup_self]; rfl
  · refine ⟨?_, ?_⟩
    · show u2 7 (200 * X + L.length) = a
      rw [e2, hup_row (by decide), e1, hup_self]
    · refine stk_cg (fun i hi => ?_) h6
      show v 7 (200 * X + i) = u2 7 (200 * X + i)
      rw [e2, hup_row (by decide), e1, hup_col (by omega)]
theorem m_unw {K : Hp → Prop} {τ : Hp} {X r : Nat} (hX : X < 6) (h11 : τ 0 11 = nI X) (hr1 : 1 ≤ r) (hr7 : r ≤ 7) : ∀ (H L : List Int32) (v : Hp), MH τ X (cnt H) H L v → H.length + L.length ≤ 160 → (∀ v', agr G6 v v' → MH τ X (cnt (uw r H L).1) (uw r H L).1 (uw r H L).2 v' → K v') → ∀ m, H.length + 1 ≤ m → VX12_unwinds_L0 K m v (nI r)
  | [], L, v, hM, hl, hK, m, hm => by
      obtain ⟨m, rfl⟩ : ∃ m', m = m' + 1 := ⟨m - 1, by omega⟩
      rw [VX12_unwinds_L0, hM.2.1, if_pos (by decide)]
      exact hK v agr.rf hM
  | h :: H, L, v, hM, hl, hK, m, hm => by
    have hm' : H.length + 1 + 1 ≤ m := hm
    have hll : H.length + 1 + L.length ≤ 160 := hl
    obtain ⟨h1, h2, h3, h4, h5, h6⟩ := id hM
    have h2' : v 0 27 = nI (H.length + 1) := h2
    have e15 : v 15 H.length = h := h3.1
    by_cases hr : rnk h < r
    · have e : uw r (h :: H) L = (h :: H, L) := by unfold uw; rw [if_pos hr]
      rw [e] at hK
      obtain ⟨m, rfl⟩ : ∃ m', m = m' + 1 := ⟨m - 1, by omega⟩
      rw [VX12_unwinds_L0, h2', if_neg (show ¬ nI (H.length + 1) ≤ 0 from nI_ge (a := 0) (by omega) (by omega)), nI_pred, nI_clamp (by omega), e15, eM_rank]
      refine ⟨vp_in_nI (by omega) (by decide), ?_⟩
      rw [if_pos (nI_lt hr (by omega))]
      exact hK v agr.rf hM
    · have e : uw r (h :: H) L = uw r H (h :: L) := by
        show (if rnk h < r then (h :: H, L) else uw r H (h :: L)) = _
        rw [if_neg hr]
      rw [e] at hK
      have h0 : ¬ h = 0 := fun q => hr (by rw [q]; show rnk 0 < r; exact Nat.lt_of_lt_of_le (by decide) hr1)
      -- one sign out
      have step : ∀ m, (∀ u11, agr G6 v u11 → MH τ X (cnt H) H (h :: L) u11 → VX12_unwinds_L0 K m u11 (nI r)) → VX12_unwinds_L0 K (m + 1) v (nI r) := fun m hgo => by
        rw [VX12_unwinds_L0, h2', if_neg (show ¬ nI (H.length + 1) ≤ 0 from nI_ge (a := 0) (by omega) (by omega)), nI_pred, nI_clamp (by omega), e15, eM_rank]
        refine ⟨vp_in_nI (by omega) (by decide), ?_⟩
        have hr8 := rnk_le (a := h)
        rw [if_neg (nI_nlt (by omega) (by omega))]
        intro u5 e5
        rw [h2', nI_pred] at e5
        have g27 : u5 0 27 = nI H.length := by rw [e5, hup_self]
        have g28 : u5 0 28 = nI (opn h + cnt H) := by rw [e5, hup_col (by decide)]; exact h4
        have g15 : u5 15 = v 15 := by rw [e5, hup_row (by decide)]
        rw [g27, nI_clamp (by omega), g15, e15, g28]
        refine ⟨vp_in_nI (by omega) (by decide), fun x6 e6 => ?_⟩
        subst e6
        have fin : ∀ s0 : Int32, nI (opn x6 + cnt H) - s0 = nI (cnt H) → VX12_unwinds_b67 K (VX12_unwinds_L0 K m) u5 (nI r) x6 s0 (nI (opn x6 + cnt H)) := fun s0 hs0 => by
          unfold VX12_unwinds_b67
          intro u9 e9
          rw [hs0] at e9
          have hM9 : MH τ X (cnt H) H L u9 := by
            refine ⟨?_, ?_, ?_, ?_, ?_, ?_⟩
            · rw [e9, e5]; exact agr.up (agr.up h1 (by omega)) (by omega)
            · rw [e9, hup_col (by decide)]; exact g27
            · rw [e9, hup_row (by decide), g15]; exact h3.2
            · rw [e9, hup_self]
            · rw [e9, hup_col (by decide), e5, hup_col (by decide)]; exact h5
            · have : u9 7 = v 7 := by rw [e9, hup_row (by decide), e5, hup_row (by decide)]
              rw [this]; exact h6
          refine m_puts hX h11 hM9 (by omega) (fun u11 a11 hM11 => hgo u11 ?_ hM11)
          have a9 : agr G6 v u9 := by rw [e9, e5]; exact agr.up (agr.up agr.rf (by omega)) (by omega)
          exact a9.tr a11
        by_cases h13 : x6 = 13
        · rw [if_pos h13]
          refine fin 1 ?_
          have ho : opn x6 = 1 := by unfold opn; rw [if_pos (Or.inr (Or.inl h13))]
          rw [ho]; exact (pk_sub (a := 1 + cnt H) (b := 1) (by omega)).trans (by rw [Nat.add_sub_cancel_left])
        rw [if_neg h13]
        by_cases h19 : x6 = 19
        · rw [if_pos h19]
          refine fin 1 ?_
          have ho : opn x6 = 1 := by unfold opn; rw [if_pos (Or.inr (Or.inr h19))]
          rw [ho]; exact (pk_sub (a := 1 + cnt H) (b := 1) (by omega)).trans (by rw [Nat.add_sub_cancel_left])
        rw [if_neg h19]
        refine fin 0 ?_
        have ho : opn x6 = 0 := by unfold opn; rw [if_neg (fun q => q.elim h0 (fun q2 => q2.elim h13 h19))]
        rw [ho, Nat.zero_add]
        exact (pk_sub (a := cnt H) (b := 0) (Nat.zero_le _))
      obtain ⟨m, rfl⟩ : ∃ m', m = m' + 1 := ⟨m - 1, by omega⟩
      exact step m (fun u11 a11 hM11 => m_unw hX h11 hr1 hr7 H (h :: L) u11 hM11 (by simp only [List.length_cons]; omega) (fun v' a' hM' => hK v' (a11.tr a') hM') m (by omega))
theorem m_unwinds {K : Hp → Prop} {τ : Hp} {X r : Nat} {H L : List Int32} {v : Hp} (hX : X < 6) (h11 : τ 0 11 = nI X) (hr1 : 1 ≤ r) (hr7 : r ≤ 7) (hM : MH τ X (cnt H) H L v) (hl : H.length + L.length ≤ 160) (hK : ∀ v', agr G6 v v' → MH τ X (cnt (uw r H L).1) (uw r H L).1 (uw r H L).2 v' → K v') : VX12_unwinds K v (nI r) :=
  ⟨H.length + 1, m_unw hX h11 hr1 hr7 H L v hM hl hK _ (Nat.le_refl _)⟩
theorem m_holds {K : Hp → Prop} {τ : Hp} {X c : Nat} {H L : List Int32} {v : Hp} {a : Int32} (hM : MH τ X c H L v) (hl : H.length < 200) (hK : ∀ v', agr G6 v v' → MH τ X c (a :: H) L v' → K v') : VX12_holds K v a := by
  obtain ⟨h1, h2, h3, h4, h5, h6⟩ := hM
  unfold VX12_holds
  rw [h2, nI_clamp (by omega)]
  refine ⟨vp_in_nI hl (by decide), fun u1 e1 u2 e2 => ?_⟩
  have g2 : u1 0 27 = nI H.length := by rw [e1, hup_row (by decide)]; exact h2
  rw [g2, nI_1] at e2
  refine hK u2 (by rw [e2, e1]; exact agr.up (agr.up agr.rf (by omega)) (by omega)) ⟨?_, ?_, ?_, ?_, ?_, ?_⟩
  · rw [e2, e1]; exact agr.up (agr.up h1 (by omega)) (by omega)
  · rw [e2, hup_self]; rfl
  · refine ⟨?_, ?_⟩
    · show u2 15 H.length = a
      rw [e2, hup_row (by decide), e1, hup_self]
    · refine stk_cg (fun i hi => ?_) h3
      rw [e2, hup_row (by decide), e1, hup_col (by omega)]
  · rw [e2, hup_col (by decide), e1, hup_row (by decide)]; exact h4
  · rw [e2, hup_col (by decide), e1, hup_row (by decide)]; exact h5
  · have : u2 7 = v 7 := by rw [e2, hup_row (by decide), e1, hup_row (by decide)]
    rw [this]; exact h6
theorem m_opens {K : Int32 → Hp → Prop} {τ : Hp} {X : Nat} {H L : List Int32} {v : Hp} {a : Int32} (hM : MH τ X (cnt H) H L v) (hl : H.length < 200) (hc : cnt H ≤ 5) (ha : opn a = 1) (h5 : cnt H = 5 → K 0 v) (hK : cnt H < 5 → ∀ v', agr G6 v v' → MH τ X (cnt (a :: H)) (a :: H) L v' → K 1 v') : VX12_opensOne K v a := by
  obtain ⟨h1, h2, h3, h4, h5', h6⟩ := id hM
  unfold VX12_opensOne
  rw [h4]
  by_cases hc5 : cnt H = 5
  · rw [if_pos (by rw [hc5]; rfl)]; exact h5 hc5
  · rw [if_neg (show ¬ nI (cnt H) = 5 from fun q => hc5 ((nI_eq (b := 5) (by omega) (by decide)).mp q))]
    intro u2 e2
    rw [nI_1] at e2
    have hM2 : MH τ X (cnt (a :: H)) H L u2 := by
      refine ⟨?_, ?_, ?_, ?_, ?_, ?_⟩
      · rw [e2]; exact agr.up h1 (by omega)
      · rw [e2, hup_col (by decide)]; exact h2
      · rw [e2, hup_row (by decide)]; exact h3
      · rw [e2, hup_self]
        show nI (cnt H + 1) = nI (opn a + cnt H)
        rw [ha, Nat.add_comm]
      · rw [e2, hup_col (by decide)]; exact h5'
      · have : u2 7 = v 7 := by rw [e2, hup_row (by decide)]
        rw [this]; exact h6
    exact m_holds hM2 hl (fun v' a' hM' => hK (by omega) v' ((show agr G6 v u2 by rw [e2]; exact agr.up agr.rf (by omega)).tr a') hM')
/-! the machine's states -/
def MR (τ : Hp) (b : Nat → Int32) (Z X p : Nat) (H L : List Int32) (v : Hp) : Prop := MH τ X (cnt H) H L v ∧ v 0 21 = nI p
/-- what is given of the whole reading -/
def CX (τ : Hp) (b : Nat → Int32) (Z X : Nat) : Prop := MT τ b Z ∧ τ 0 11 = nI X ∧ X < 6
def MF (τ : Hp) (b : Nat → Int32) (Z X p : Nat) (v : Hp) : Prop := agr (FM X) τ v ∧ v 0 22 = nI (tS b Z p)
def MG1 (K : Int32 → Hp → Prop) (τ : Hp) (b : Nat → Int32) (Z X : Nat) (my : Int32) (p : Nat) (H L : List Int32) : Prop := ∃ n, ∀ v, MR τ b Z X p H L v → VX12_eRead_L14 K n v 1 my
def MG0 (K : Int32 → Hp → Prop) (τ : Hp) (b : Nat → Int32) (Z X : Nat) (p : Nat) (H L : List Int32) : Prop := ∃ n, ∀ my v, MR τ b Z X p H L v → VX12_eRead_L14 K n v 0 my
/-- a token read, in a state -/
theorem m_tok {K : Hp → Prop} {τ : Hp} {b : Nat → Int32} {Z X p : Nat} {H L : List Int32} {v : Hp} (hC : CX τ b Z X) (hp : p ≤ Z) (hM : MR τ b Z X p H L v) (hK : ∀ v', MH τ X (cnt H) H L v' → NX v' b Z p → K v') : VX12_next K v := by
  obtain ⟨⟨h1, h2, h3, h4, h5, h6⟩, h21⟩ := id hM
  refine m_next hp (hC.1.ag (h1.sub fun k i h => by omega)) h21 (fun v' a hN => hK v' (hM.1.ag (a.sub fun k i h => by omega)) hN)
theorem MH.mf {τ : Hp} {b : Nat → Int32} {Z X c p : Nat} {H L : List Int32} {v : Hp} (h : MH τ X c H L v) (hN : NX v b Z p) : MF τ b Z X p v := ⟨h.1, hN.2.1⟩
theorem MF.ag {τ : Hp} {b : Nat → Int32} {Z X p : Nat} {v v' : Hp} (h : MF τ b Z X p v) (h1 : agr (FM X) τ v') (a : agr G6 v v') : MF τ b Z X p v' := ⟨h1, by rw [a 0 22 (by decide)]; exact h.2⟩
