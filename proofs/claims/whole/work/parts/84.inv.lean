/-! ===== the two states, beside each other ===== -/
def IA (σ τ : Hp) (X L : Nat) : Prop := τ 1 0 = σ 1 0 ∧ τ 1 1 = σ 1 1 ∧ τ 1 2 = σ 1 2 ∧ τ 0 1 = σ 1 3 ∧ nb (σ 1 3) 100 ∧ σ 1 4 = nI L ∧ τ 0 12 = nI L ∧ L < X ∧ X ≤ 6 ∧ σ 0 5 = nI X ∧ τ 0 11 = nI X
def IT (σ τ : Hp) (T : Nat) : Prop := T ≤ 5 ∧ σ 1 5 = nI T ∧ τ 0 2 = nI T ∧ ∀ t, t < T → nb (σ 3 t) 6 ∧ nb (σ 4 t) 10 ∧ nb (σ 5 t) 30 ∧ nb (σ 6 t) 5 ∧ τ 2 t = σ 3 t ∧ τ 3 t = σ 4 t ∧ τ 4 t = σ 5 t ∧ τ 5 t = σ 6 t
def IP (σ τ : Hp) (Z : Nat) : Prop := Z ≤ 160 ∧ σ 38 1 = nI Z ∧ τ 0 8 = nI Z ∧ ∀ i, i < Z → nb (τ 6 i) 256 ∧ σ 39 i = (τ 6 i).toInt8.toInt32
def IC (σ τ : Hp) (X : Nat) : Prop := ∀ t, t < X → CT σ τ t
def IS (σ τ : Hp) : Prop := ∀ s, s < 4 → (∃ z, z ≤ 40 ∧ σ (41 + s) 2 = nI z ∧ τ 11 s = nI z) ∧ τ 10 s = σ (41 + s) 1 ∧ rg (σ (41 + s) 1) (-1) 2 ∧ ∀ i, i < 40 → τ 12 (40 * s + i) = σ (45 + s) i
def IIi (σ τ : Hp) (T X TI LI : Nat) : Prop := TI ≤ T ∧ LI < X ∧ σ 2 5 = nI TI ∧ τ 0 14 = nI TI ∧ σ 2 4 = nI LI ∧ τ 0 15 = nI LI ∧ τ 9 0 = σ 2 0 ∧ τ 9 1 = σ 2 1 ∧ τ 9 2 = σ 2 2 ∧ τ 9 3 = σ 2 3 ∧ nb (σ 2 3) 100 ∧ ∀ t, t < TI → τ 9 (4 + t) = σ 9 t ∧ τ 9 (9 + t) = σ 10 t ∧ nb (σ 9 t) 30 ∧ nb (σ 10 t) 5 ∧ σ 7 t = σ 3 t ∧ σ 8 t = σ 4 t
def II (σ τ : Hp) (T X : Nat) : Prop := τ 0 13 = σ 0 2 ∧ (¬ σ 0 2 = 0 → ∃ TI LI, IIi σ τ T X TI LI)
def IW (σ τ : Hp) : Prop := τ 14 = mA47_96 ∧ ∀ t, t < 6 → σ (31 + t) 0 = 0
def Inv (σ τ : Hp) : Prop := ∃ T X L Z, IA σ τ X L ∧ IT σ τ T ∧ IP σ τ Z ∧ IC σ τ X ∧ IS σ τ ∧ II σ τ T X ∧ IW σ τ
abbrev FA (k i : Nat) : Prop := (k = 1 ∧ i ≤ 4) ∨ (k = 0 ∧ i = 5)
abbrev FAm (k i : Nat) : Prop := k = 1 ∨ (k = 0 ∧ (i = 1 ∨ i = 11 ∨ i = 12))
abbrev FT (k i : Nat) : Prop := (k = 1 ∧ i = 5) ∨ (3 ≤ k ∧ k ≤ 6)
abbrev FTm (k i : Nat) : Prop := (k = 0 ∧ i = 2) ∨ (2 ≤ k ∧ k ≤ 5)
abbrev FP (k i : Nat) : Prop := (k = 38 ∧ i = 1) ∨ k = 39
abbrev FPm (k i : Nat) : Prop := (k = 0 ∧ i = 8) ∨ k = 6
abbrev FC (k _ : Nat) : Prop := 25 ≤ k ∧ k ≤ 36
abbrev FCm (k _ : Nat) : Prop := k = 7 ∨ k = 8
abbrev FS (k _ : Nat) : Prop := 41 ≤ k ∧ k ≤ 48
abbrev FSm (k _ : Nat) : Prop := 10 ≤ k ∧ k ≤ 12
abbrev FI (k i : Nat) : Prop := (k = 0 ∧ i = 2) ∨ k = 2 ∨ (7 ≤ k ∧ k ≤ 10) ∨ k = 3 ∨ k = 4
abbrev FIm (k i : Nat) : Prop := (k = 0 ∧ (i = 13 ∨ i = 14 ∨ i = 15)) ∨ k = 9
abbrev FW (k _ : Nat) : Prop := k = 14
abbrev FZ (k i : Nat) : Prop := 31 ≤ k ∧ k ≤ 36 ∧ i = 0
theorem IA.ag {σ τ u v : Hp} {X L : Nat} (h : IA σ τ X L) (a : agr FA σ u) (b : agr FAm τ v) : IA u v X L := by
  obtain ⟨h1, h2, h3, h4, h5, h6, h7, h8, h9, h10, h11⟩ := h
  refine ⟨?_, ?_, ?_, ?_, ?_, ?_, ?_, h8, h9, ?_, ?_⟩
  · rw [a 1 0 (by decide), b 1 0 (by decide)]; exact h1
  · rw [a 1 1 (by decide), b 1 1 (by decide)]; exact h2
  · rw [a 1 2 (by decide), b 1 2 (by decide)]; exact h3
  · rw [a 1 3 (by decide), b 0 1 (by decide)]; exact h4
  · rw [a 1 3 (by decide)]; exact h5
  · rw [a 1 4 (by decide)]; exact h6
  · rw [b 0 12 (by decide)]; exact h7
  · rw [a 0 5 (by decide)]; exact h10
  · rw [b 0 11 (by decide)]; exact h11
theorem IT.ag {σ τ u v : Hp} {T : Nat} (h : IT σ τ T) (a : agr FT σ u) (b : agr FTm τ v) : IT u v T := by
  obtain ⟨h1, h2, h3, h4⟩ := h
  refine ⟨h1, ?_, ?_, fun t ht => ?_⟩
  · rw [a 1 5 (by decide)]; exact h2
  · rw [b 0 2 (by decide)]; exact h3
  · rw [a 3 t (by omega), a 4 t (by omega), a 5 t (by omega), a 6 t (by omega), b 2 t (by omega), b 3 t (by omega), b 4 t (by omega), b 5 t (by omega)]; exact h4 t ht
theorem IP.ag {σ τ u v : Hp} {Z : Nat} (h : IP σ τ Z) (a : agr FP σ u) (b : agr FPm τ v) : IP u v Z := by
  obtain ⟨h1, h2, h3, h4⟩ := h
  refine ⟨h1, ?_, ?_, fun i hi => ?_⟩
  · rw [a 38 1 (by decide)]; exact h2
  · rw [b 0 8 (by decide)]; exact h3
  · rw [a 39 i (by omega), b 6 i (by omega)]; exact h4 i hi
theorem IC.ag {σ τ u v : Hp} {X : Nat} (h : IC σ τ X) (hX : X ≤ 6) (a : agr FC σ u) (b : agr FCm τ v) : IC u v X := by
  intro t ht
  obtain ⟨h1, h2, h3⟩ := h t ht
  unfold CT
  rw [a.row (k := 25 + t) (fun i => by omega), a.row (k := 31 + t) (fun i => by omega)]
  refine ⟨h1, fun p hp => ?_, fun k hk => ?_⟩
  · rw [b 8 _ (by omega)]; exact h2 p hp
  · rw [b 7 _ (by omega)]; exact h3 k hk
theorem IS.ag {σ τ u v : Hp} (h : IS σ τ) (a : agr FS σ u) (b : agr FSm τ v) : IS u v := by
  intro s hs
  obtain ⟨h1, h2, h3, h4⟩ := h s hs
  rw [a (41 + s) 2 (by omega), a (41 + s) 1 (by omega), b 11 s (by omega), b 10 s (by omega)]
  refine ⟨h1, h2, h3, fun i hi => ?_⟩
  rw [a (45 + s) i (by omega), b 12 _ (by omega)]
  exact h4 i hi
theorem IIi.ag {σ τ u v : Hp} {T X TI LI : Nat} (h : IIi σ τ T X TI LI) (a : agr FI σ u) (b : agr FIm τ v) : IIi u v T X TI LI := by
  obtain ⟨h1, h2, h3, h4, h5, h6, h7, h8, h9, h10, h11, h12⟩ := h
  refine ⟨h1, h2, ?_, ?_, ?_, ?_, ?_, ?_, ?_, ?_, ?_, fun t ht => ?_⟩
  · rw [a 2 5 (by decide)]; exact h3
  · rw [b 0 14 (by decide)]; exact h4
  · rw [a 2 4 (by decide)]; exact h5
  · rw [b 0 15 (by decide)]; exact h6
  · rw [a 2 0 (by decide), b 9 0 (by decide)]; exact h7
  · rw [a 2 1 (by decide), b 9 1 (by decide)]; exact h8
  · rw [a 2 2 (by decide), b 9 2 (by decide)]; exact h9
  · rw [a 2 3 (by decide), b 9 3 (by decide)]; exact h10
  · rw [a 2 3 (by decide)]; exact h11
  · rw [a 9 t (by omega), a 10 t (by omega), a 7 t (by omega), a 8 t (by omega), a 3 t (by omega), a 4 t (by omega), b 9 _ (by omega), b 9 _ (by omega)]; exact h12 t ht
theorem II.ag {σ τ u v : Hp} {T X : Nat} (h : II σ τ T X) (a : agr FI σ u) (b : agr FIm τ v) : II u v T X := by
  obtain ⟨h1, h2⟩ := h
  refine ⟨by rw [a 0 2 (by decide), b 0 13 (by decide)]; exact h1, fun hn => ?_⟩
  rw [a 0 2 (by decide)] at hn
  obtain ⟨TI, LI, hi⟩ := h2 hn
  exact ⟨TI, LI, hi.ag a b⟩
theorem IW.ag {σ τ u v : Hp} (h : IW σ τ) (a : agr FZ σ u) (b : agr FW τ v) : IW u v := by
  refine ⟨?_, fun t ht => ?_⟩
  · rw [b.row (fun i => rfl)]; exact h.1
  · rw [a (31 + t) 0 (by omega)]; exact h.2 t ht
theorem Inv.ag {σ τ u v : Hp} (h : Inv σ τ) (a : agr NSx σ u) (b : agr NSm τ v) : Inv u v := by
  obtain ⟨T, X, L, Z, h1, h2, h3, h4, h5, h6, h7⟩ := h
  have hX : X ≤ 6 := h1.2.2.2.2.2.2.2.2.1
  exact ⟨T, X, L, Z, h1.ag (a.sub fun k i h => by omega) (b.sub fun k i h => by omega), h2.ag (a.sub fun k i h => by omega) (b.sub fun k i h => by omega), h3.ag (a.sub fun k i h => by omega) (b.sub fun k i h => by omega), h4.ag hX (a.sub fun k i h => by omega) (b.sub fun k i h => by omega), h5.ag (a.sub fun k i h => by omega) (b.sub fun k i h => by omega), h6.ag (a.sub fun k i h => by omega) (b.sub fun k i h => by omega), h7.ag (a.sub fun k i h => by omega) (b.sub fun k i h => by omega)⟩
/-! orbits -/
def orb {α : Type} (H : Nat → α → α) (a : α) : Nat → α
  | 0 => a
  | k + 1 => H k (orb H a k)
theorem orb_cg {α : Type} {H H' : Nat → α → α} {a : α} {n : Nat} (h : ∀ k, k < n → ∀ q, H k q = H' k q) : ∀ k, k ≤ n → orb H a k = orb H' a k
  | 0, _ => rfl
  | k + 1, hk => by
    show H k (orb H a k) = H' k (orb H' a k)
    rw [orb_cg h k (by omega), h k (by omega)]
def trn (w : Int32) : Int32 := if w = 4 then 4 else jrem (w + 1) 4
theorem trnT : ∀ w, w < 5 → (trn (nI w)).toNatClampNeg < 5 ∧ trn (nI w) = nI (trn (nI w)).toNatClampNeg := by decide +kernel
theorem trn_nb {w : Int32} (hw : nb w 5) : nb (trn w) 5 := by
  obtain ⟨j, hj, rfl⟩ := hw
  exact ⟨_, (trnT j hj).1, (trnT j hj).2⟩
theorem eX_turned {K : Int32 → Hp → Prop} {σ : Hp} {w : Int32} : VX11_turned K σ w = K (trn w) σ := by
  unfold VX11_turned trn
  split <;> rfl
/-- the least k under 41 with P k, as an answer -/
def fiL (P : Nat → Bool) : Nat → Nat → Int32
  | 0, _ => -1
  | m + 1, i => if P i then nI i else fiL P m (i + 1)
def fi (P : Nat → Bool) : Int32 := fiL P 41 0
theorem fiL_cs {P : Nat → Bool} : ∀ m i, fiL P m i = -1 ∨ ∃ k, i ≤ k ∧ k < i + m ∧ P k = true ∧ fiL P m i = nI k
  | 0, _ => Or.inl rfl
  | m + 1, i => by
    unfold fiL
    by_cases h : P i
    · rw [if_pos h]; exact Or.inr ⟨i, Nat.le_refl _, by omega, h, rfl⟩
    · rw [if_neg h]
      rcases fiL_cs (P := P) m (i + 1) with h2 | ⟨k, h2, h3, h4, h5⟩
      · exact Or.inl h2
      · exact Or.inr ⟨k, by omega, by omega, h4, h5⟩
theorem fi_cs (P : Nat → Bool) : fi P = -1 ∨ ∃ k, k ≤ 40 ∧ P k = true ∧ fi P = nI k := by
  rcases fiL_cs (P := P) 41 0 with h | ⟨k, _, h3, h4, h5⟩
  · exact Or.inl h
  · exact Or.inr ⟨k, by omega, h4, h5⟩
theorem fiL_cg {P Q : Nat → Bool} : ∀ m i, (∀ k, i ≤ k → k < i + m → P k = Q k) → fiL P m i = fiL Q m i
  | 0, _, _ => rfl
  | m + 1, i, h => by
    unfold fiL
    rw [h i (Nat.le_refl _) (by omega), fiL_cg m (i + 1) (fun k h1 h2 => h k (by omega) (by omega))]
theorem fi_cg {P Q : Nat → Bool} (h : ∀ k, k ≤ 40 → P k = Q k) : fi P = fi Q := fiL_cg 41 0 (fun k _ h2 => h k (by omega))
