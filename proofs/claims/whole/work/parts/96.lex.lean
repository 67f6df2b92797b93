/-! ===== tokens ===== -/
def rnF (P : Int32 → Bool) (b : Nat → Int32) (Z : Nat) : Nat → Nat → Nat
  | 0, p => p
  | m + 1, p => if p < Z ∧ P (b p) = true then rnF P b Z m (p + 1) else p
def rn (P : Int32 → Bool) (b : Nat → Int32) (Z p : Nat) : Nat := rnF P b Z (Z - p) p
theorem rn_st {P : Int32 → Bool} {b : Nat → Int32} {Z p : Nat} : rn P b Z p = if p < Z ∧ P (b p) = true then rn P b Z (p + 1) else p := by
  unfold rn
  by_cases hp : p < Z
  · rw [show Z - p = (Z - (p + 1)) + 1 by omega, rnF]
  · rw [show Z - p = 0 by omega, rnF, if_neg (fun q => hp q.1)]
theorem rn_ind {P : Int32 → Bool} {b : Nat → Int32} {Z : Nat} (Q : Nat → Prop) (h0 : ∀ p, ¬ (p < Z ∧ P (b p) = true) → Q p) (h1 : ∀ p, p < Z → P (b p) = true → Q (p + 1) → Q p) : ∀ m p, Z - p ≤ m → Q p
  | 0, p, h => h0 p (fun q => by omega)
  | m + 1, p, h => by
    by_cases hp : p < Z ∧ P (b p) = true
    · exact h1 p hp.1 hp.2 (rn_ind Q h0 h1 m (p + 1) (by omega))
    · exact h0 p hp
theorem rn_ge {P : Int32 → Bool} {b : Nat → Int32} {Z : Nat} (p : Nat) : p ≤ rn P b Z p :=
  rn_ind (fun p => p ≤ rn P b Z p) (fun p h => by rw [rn_st, if_neg h]; exact Nat.le_refl _) (fun p h1 h2 ih => by rw [rn_st, if_pos ⟨h1, h2⟩]; omega) (Z - p) p (Nat.le_refl _)
theorem rn_le {P : Int32 → Bool} {b : Nat → Int32} {Z : Nat} (p : Nat) : p ≤ Z → rn P b Z p ≤ Z :=
  rn_ind (P := P) (b := b) (fun p => p ≤ Z → rn P b Z p ≤ Z) (fun p h hp => by rw [rn_st, if_neg h]; exact hp) (fun p h1 h2 ih hp => by rw [rn_st, if_pos ⟨h1, h2⟩]; exact ih h1) (Z - p) p (Nat.le_refl _)
theorem rn_in {P : Int32 → Bool} {b : Nat → Int32} {Z : Nat} (p : Nat) : ∀ j, p ≤ j → j < rn P b Z p → P (b j) = true :=
  rn_ind (P := P) (b := b) (fun p => ∀ j, p ≤ j → j < rn P b Z p → P (b j) = true) (fun p h j h1 h2 => by rw [rn_st, if_neg h] at h2; omega) (fun p h1 h2 ih j h3 h4 => by
    rw [rn_st, if_pos ⟨h1, h2⟩] at h4
    by_cases hj : j = p
    · rw [hj]; exact h2
    · exact ih j (by omega) h4) (Z - p) p (Nat.le_refl _)
def isBl (x : Int32) : Bool := decide (x = 32 ∨ x = 10)
def isDg (x : Int32) : Bool := decide (rg x 48 57)
def isLt (x : Int32) : Bool := decide (rg x 97 122)
/-- x's byte of m's -/
abbrev xb (x : Int32) : Int32 := x.toInt8.toInt32
theorem xbT : ∀ k, k < 256 → (xb (nI k) = 32 ↔ nI k = 32) ∧ (xb (nI k) = 10 ↔ nI k = 10) ∧ (rg (xb (nI k)) 48 57 ↔ rg (nI k) 48 57) ∧ (rg (xb (nI k)) 97 122 ↔ rg (nI k) 97 122) := by decide +kernel
theorem xbD : ∀ k, k < 256 → rg (nI k) 48 57 → xb (nI k) = nI k := by decide +kernel
theorem xbL : ∀ k, k < 256 → rg (nI k) 97 122 → xb (nI k) = nI k := by decide +kernel
def sgX (x : Int32) : Int32 := if x = 40 then -20 else if x = 41 then -21 else if x = 42 then -11 else if x = 43 then -9 else if x = 45 then -10 else if x = 59 then -22 else if x = 60 then -12 else if x = 61 then -13 else -31
theorem xbS : ∀ k, k < 256 → sgX (xb (nI k)) = sgX (nI k) := by decide +kernel
/-- m's token of x's code, m's value -/
def mtk (X : Int32) : Int32 := if 0 ≤ X then 1 else if X = -1 ∨ X = -2 ∨ X = -3 ∨ X = -4 ∨ X = -5 ∨ X = -6 then 2 else if X = -7 then 6 else if X = -9 then 43 else if X = -10 then 45 else if X = -11 then 42 else if X = -12 then 60 else if X = -13 then 61 else if X = -14 then 5 else if X = -15 then 4 else if X = -20 then 40 else if X = -21 then 41 else if X = -22 then 59 else if X = -23 ∨ X = -24 ∨ X = -25 then 3 else if X = -30 then 0 else -1
def mvl (X : Int32) : Int32 := if 0 ≤ X then X else if -6 ≤ X then -1 - X else -23 - X
/-- the number of n digits from s on -/
def vlN (b : Nat → Int32) (s : Nat) : Nat → Int32
  | 0 => 0
  | n + 1 => (10 * vlN b s n + b (s + n)) - 48
theorem vlN_nb {b : Nat → Int32} {s : Nat} : ∀ n, n ≤ 4 → (∀ j, j < n → isDg (b (s + j)) = true) → nb (vlN b s n) (10 ^ n)
  | 0, _, _ => ⟨0, by decide, rfl⟩
  | n + 1, hn, h => by
    obtain ⟨v, hv, e⟩ := vlN_nb n (by omega) (fun j hj => h j (by omega))
    have hd : rg (b (s + n)) 48 57 := of_decide_eq_true (h n (by omega))
    obtain ⟨d, hd', ed⟩ := rg_nI (a := b (s + n)) (N := 57) (by decide) ⟨Int32.le_trans (by decide) hd.1, hd.2⟩
    have h48 : 48 ≤ d := by
      have := hd.1
      rw [ed] at this
      exact (nI_leI (a := 48) (by decide) (by omega)).mp this
    have hp : 10 ^ n ≤ 1000 := by
      rcases (show n = 0 ∨ n = 1 ∨ n = 2 ∨ n = 3 by omega) with rfl | rfl | rfl | rfl <;> decide
    refine ⟨10 * v + d - 48, by rw [Nat.pow_succ]; omega, ?_⟩
    show (10 * vlN b s n + b (s + n)) - 48 = _
    rw [e, ed, show (10 : Int32) * nI v = nI (10 * v) from pk_mul 10 v, nI_add]
    exact pk_sub (b := 48) (by omega)
/-- is the text from s to e the word i (of x's strings) -/
def wm (b : Nat → Int32) (s e i : Nat) : Bool := decide (scLen.getD i 0 = e - s ∧ ∀ j, j < scLen.getD i 0 → b (s + j) = (scByt.getD i []).getD j 0)
theorem wm_uqT : ∀ i, i < 12 → ∀ k, k < 12 → scLen.getD i 0 = scLen.getD k 0 → (∀ j, j < scLen.getD i 0 → (scByt.getD i []).getD j 0 = (scByt.getD k []).getD j 0) → i = k := by decide +kernel
theorem wm_uq {b : Nat → Int32} {s e i k : Nat} (hi : i < 12) (hk : k < 12) (h1 : wm b s e i = true) (h2 : wm b s e k = true) : i = k := by
  have a := of_decide_eq_true h1
  have c := of_decide_eq_true h2
  exact wm_uqT i hi k hk (by rw [a.1, c.1]) (fun j hj => by rw [← a.2 j hj, ← c.2 j (by rw [c.1, ← a.1]; exact hj)])
def wcX (b : Nat → Int32) (s e : Nat) : Int32 := if wm b s e 0 then -1 else if wm b s e 1 then -2 else if wm b s e 2 then -3 else if wm b s e 3 then -4 else if wm b s e 4 then -5 else if wm b s e 5 then -6 else if wm b s e 6 then -15 else if wm b s e 7 then -14 else if wm b s e 8 then -7 else if wm b s e 9 then -23 else if wm b s e 10 then -24 else if wm b s e 11 then -25 else -31
def tS (b : Nat → Int32) (Z p : Nat) : Nat := rn isBl b Z p
def tE (b : Nat → Int32) (Z p : Nat) : Nat := if tS b Z p < Z then (if isDg (b (tS b Z p)) then rn isDg b Z (tS b Z p) else if isLt (b (tS b Z p)) then rn isLt b Z (tS b Z p) else tS b Z p + 1) else tS b Z p
def tC (b : Nat → Int32) (Z p : Nat) : Int32 := if tS b Z p < Z then (if isDg (b (tS b Z p)) then (if tE b Z p - tS b Z p ≤ 4 then vlN b (tS b Z p) (tE b Z p - tS b Z p) else -31) else if isLt (b (tS b Z p)) then wcX b (tS b Z p) (tE b Z p) else sgX (b (tS b Z p))) else -30
theorem tS_le {b : Nat → Int32} {Z p : Nat} (h : p ≤ Z) : p ≤ tS b Z p ∧ tS b Z p ≤ Z := ⟨rn_ge p, rn_le p h⟩
theorem tE_le {b : Nat → Int32} {Z p : Nat} (h : p ≤ Z) : tS b Z p ≤ tE b Z p ∧ tE b Z p ≤ Z ∧ (tS b Z p < Z → tS b Z p < tE b Z p) := by
  have hs := tS_le (b := b) h
  unfold tE
  by_cases h1 : tS b Z p < Z
  · rw [if_pos h1]
    by_cases h2 : isDg (b (tS b Z p)) = true
    · rw [if_pos h2]
      have e : rn isDg b Z (tS b Z p) = rn isDg b Z (tS b Z p + 1) := by rw [rn_st, if_pos ⟨h1, h2⟩]
      have := rn_ge (P := isDg) (b := b) (Z := Z) (tS b Z p + 1)
      have := rn_le (P := isDg) (b := b) (Z := Z) (tS b Z p) hs.2
      exact ⟨by omega, by omega, fun _ => by omega⟩
    · rw [if_neg h2]
      by_cases h3 : isLt (b (tS b Z p)) = true
      · rw [if_pos h3]
        have e : rn isLt b Z (tS b Z p) = rn isLt b Z (tS b Z p + 1) := by rw [rn_st, if_pos ⟨h1, h3⟩]
        have := rn_ge (P := isLt) (b := b) (Z := Z) (tS b Z p + 1)
        have := rn_le (P := isLt) (b := b) (Z := Z) (tS b Z p) hs.2
        exact ⟨by omega, by omega, fun _ => by omega⟩
      · rw [if_neg h3]
        exact ⟨by omega, by omega, fun _ => by omega⟩
  · rw [if_neg h1]
    exact ⟨Nat.le_refl _, hs.2, fun q => absurd q h1⟩
theorem tC_end {b : Nat → Int32} {Z p : Nat} (h : Z ≤ p) : tC b Z p = -30 := by
  have := rn_ge (P := isBl) (b := b) (Z := Z) p
  unfold tC
  rw [if_neg (show ¬ tS b Z p < Z by unfold tS; omega)]
theorem tC_lt {b : Nat → Int32} {Z p : Nat} (hp : p ≤ Z) (h : tC b Z p ≠ -30) : p < tE b Z p := by
  have hs := tS_le (b := b) hp
  have he := tE_le (b := b) hp
  by_cases h1 : tS b Z p < Z
  · have := he.2.2 h1; omega
  · unfold tC at h; rw [if_neg h1] at h; exact absurd rfl h
