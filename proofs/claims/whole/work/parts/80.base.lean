/-! ===== pure: small things ===== -/
def b2i (p : Prop) [Decidable p] : Int32 := if p then 1 else 0
theorem b2i_t {p : Prop} [Decidable p] (h : p) : b2i p = 1 := if_pos h
theorem b2i_f {p : Prop} [Decidable p] (h : ¬ p) : b2i p = 0 := if_neg h
theorem ite_b2i {p A B : Prop} [Decidable p] : (if b2i p = 0 then A else B) = (if p then B else A) := by
  by_cases h : p
  · rw [b2i_t h, if_pos h]; simp
  · rw [b2i_f h, if_neg h]; simp
theorem b2i_01 {p : Prop} [Decidable p] : (b2i p = 0 ∨ b2i p = 1) = True := by
  by_cases h : p
  · rw [b2i_t h]; simp
  · rw [b2i_f h]; simp
theorem b2i_cg {p q : Prop} [Decidable p] [Decidable q] (h : p ↔ q) : b2i p = b2i q := by
  by_cases hp : p
  · rw [b2i_t hp, b2i_t (h.mp hp)]
  · rw [b2i_f hp, b2i_f (fun x => hp (h.mpr x))]
theorem rngLe {P : Int32 → Prop} {a lo hi : Int32} : (if a < lo then P 0 else if hi < a then P 0 else P 1) = P (b2i (lo ≤ a ∧ a ≤ hi)) := by
  by_cases h1 : a < lo
  · rw [if_pos h1, b2i_f (fun h => absurd h.1 (Int32.not_le.mpr h1))]
  · rw [if_neg h1]
    by_cases h2 : hi < a
    · rw [if_pos h2, b2i_f (fun h => absurd h.2 (Int32.not_le.mpr h2))]
    · rw [if_neg h2, b2i_t ⟨Int32.not_lt.mp h1, Int32.not_lt.mp h2⟩]
theorem rngLt {P : Int32 → Prop} {a lo hi : Int32} : (if a < lo then P 0 else if hi ≤ a then P 0 else P 1) = P (b2i (lo ≤ a ∧ a < hi)) := by
  by_cases h1 : a < lo
  · rw [if_pos h1, b2i_f (fun h => absurd h.1 (Int32.not_le.mpr h1))]
  · rw [if_neg h1]
    by_cases h2 : hi ≤ a
    · rw [if_pos h2, b2i_f (fun h => absurd h.2 (Int32.not_lt.mpr h2))]
    · rw [if_neg h2, b2i_t ⟨Int32.not_lt.mp h1, Int32.not_le.mp h2⟩]
theorem rngMn {P : Int32 → Prop} {a lo hi : Int32} : (if lo ≤ a then if a ≤ hi then P 1 else P 0 else P 0) = P (b2i (lo ≤ a ∧ a ≤ hi)) := by
  by_cases h1 : lo ≤ a
  · rw [if_pos h1]
    by_cases h2 : a ≤ hi
    · rw [if_pos h2, b2i_t ⟨h1, h2⟩]
    · rw [if_neg h2, b2i_f (fun h => h2 h.2)]
  · rw [if_neg h1, b2i_f (fun h => h1 h.1)]
/-- a set bit -/
abbrev hasb (b c : Int32) : Prop := ((b >>> (c &&& 31)) &&& 1) = 1
abbrev rg (a lo hi : Int32) : Prop := lo ≤ a ∧ a ≤ hi
theorem lt_le {a hi hj : Int32} (h : hi.toInt = hj.toInt + 1) : a < hi ↔ a ≤ hj := by
  rw [Int32.le_iff_toInt_le, Int32.lt_iff_toInt_lt]; omega
theorem rg_nI {a : Int32} {N : Nat} (hN : N < 2 ^ 31) (h : rg a 0 (nI N)) : ∃ i, i ≤ N ∧ a = nI i :=
  nI_of2 (nI_toInt hN) (Int32.not_lt.mpr h.1) h.2
section EQS
variable {K : Int32 → Hp → Prop} {σ : Hp} {a b c : Int32}
theorem eX_has : VX11_has K σ a b = K (b2i (hasb a b)) σ := by
  unfold VX11_has
  by_cases h : hasb a b
  · rw [b2i_t h, if_pos h]
  · rw [b2i_f h, if_neg h]
theorem eX_isCell : VX11_isCell K σ a = K (b2i (rg a 0 29)) σ := (rngLt (P := fun v => K v σ)).trans (by rw [b2i_cg (and_congr_right fun _ => lt_le (a := a) (hi := 30) (hj := 29) rfl)])
theorem eX_isWay : VX11_isWay K σ a = K (b2i (rg a 0 4)) σ := (rngLt (P := fun v => K v σ)).trans (by rw [b2i_cg (and_congr_right fun _ => lt_le (a := a) (hi := 5) (hj := 4) rfl)])
theorem eX_isStep : VX11_isStep K σ a = K (b2i (rg a 0 99)) σ := rngLe (P := fun v => K v σ)
theorem eX_isByte : VX11_isByte K σ a = K (b2i (rg a 0 255)) σ := rngLe (P := fun v => K v σ)
theorem eX_isBehind : VX11_isBehind K σ a = K (b2i (rg a 0 40)) σ := rngLe (P := fun v => K v σ)
theorem eX_isSeed : VX11_isSeed K σ a = K (b2i (rg a 0 99999)) σ := rngLe (P := fun v => K v σ)
theorem eX_isSheet : VX11_isSheet K σ a = K (b2i (rg a 0 3)) σ := (rngLt (P := fun v => K v σ)).trans (by rw [b2i_cg (and_congr_right fun _ => lt_le (a := a) (hi := 4) (hj := 3) rfl)])
theorem eX_isThing : VX11_isThing K σ a = K (b2i (0 ≤ a ∧ a < σ 1 5)) σ := rngLt (P := fun v => K v σ)
theorem ch01 : (a = 0 ∨ a = 1) ↔ rg a 0 1 := by
  constructor
  · rintro (rfl | rfl) <;> decide
  · rintro ⟨h1, h2⟩
    rw [Int32.le_iff_toInt_le] at h1 h2
    have h1' : (0 : Int) ≤ a.toInt := h1
    have h2' : a.toInt ≤ 1 := h2
    rcases (show a.toInt = 0 ∨ a.toInt = 1 by omega) with h | h
    · exact Or.inl (Int32.toInt_inj.mp h)
    · exact Or.inr (Int32.toInt_inj.mp h)
theorem eX_isChoice : VX11_isChoice K σ a = K (b2i (rg a 0 1)) σ := by
  unfold VX11_isChoice
  by_cases h : a = 0 ∨ a = 1
  · rw [b2i_t (ch01.mp h)]
    rcases h with h | h
    · rw [if_pos h]
    · by_cases h0 : a = 0
      · rw [if_pos h0]
      · rw [if_neg h0, if_pos h]
  · rw [b2i_f (fun q => h (ch01.mpr q)), if_neg (fun q => h (Or.inl q)), if_neg (fun q => h (Or.inr q))]
theorem eX_isOpen : VX11_isOpen K σ a = K (b2i (rg a 0 29 ∧ ¬ hasb (σ 1 0) a)) σ := by
  unfold VX11_isOpen
  rw [eX_isCell, ite_b2i]
  by_cases h : rg a 0 29
  · rw [if_pos h, eX_has, ite_b2i]
    by_cases h2 : hasb (σ 1 0) a
    · rw [if_pos h2, b2i_f (fun q => q.2 h2)]
    · rw [if_neg h2, b2i_t ⟨h, h2⟩]
  · rw [if_neg h, b2i_f (fun q => h q.1)]
theorem eM_in : VX12_in K σ a b c = K (b2i (rg a b c)) σ := by
  unfold VX12_in
  first
    | exact rngLe (P := fun v => K v σ)
    | exact rngMn (P := fun v => K v σ)
theorem eM_isCell : VX12_isCell K σ a = K (b2i (rg a 0 29)) σ := by
  unfold VX12_isCell
  rw [eM_in, b2i_01, true_and]
theorem eM_areSteps : VX12_areSteps K σ a = K (b2i (rg a 0 40)) σ := by
  unfold VX12_areSteps
  rw [eM_in, b2i_01, true_and]
theorem eM_isByte : VX12_isByte K σ a = K (b2i (rg a 0 255)) σ := by
  unfold VX12_isByte
  rw [eM_in, b2i_01, true_and]
theorem eM_isThing : VX12_isThing K σ a = K (b2i (rg a 0 (σ 0 2 - 1))) σ := by
  unfold VX12_isThing
  rw [eM_in, b2i_01, true_and]
theorem eM_has0 : VX12_has K σ 0 b = K (b2i (hasb (σ 1 0) b)) σ := by
  unfold VX12_has
  rw [show vp_in 0 3 = True from eq_true (vp_in_nI (n := 0) (by decide) (by decide)), true_and, show (0 : Int32).toNatClampNeg = 0 by decide]
  by_cases h : hasb (σ 1 0) b
  · rw [b2i_t h, if_pos h]
  · rw [b2i_f h, if_neg h]
theorem eM_has1 : VX12_has K σ 1 b = K (b2i (hasb (σ 1 1) b)) σ := by
  unfold VX12_has
  rw [show vp_in 1 3 = True from eq_true (vp_in_nI (n := 1) (by decide) (by decide)), true_and, show (1 : Int32).toNatClampNeg = 1 by decide]
  by_cases h : hasb (σ 1 1) b
  · rw [b2i_t h, if_pos h]
  · rw [b2i_f h, if_neg h]
theorem eM_has2 : VX12_has K σ 2 b = K (b2i (hasb (σ 1 2) b)) σ := by
  unfold VX12_has
  rw [show vp_in 2 3 = True from eq_true (vp_in_nI (n := 2) (by decide) (by decide)), true_and, show (2 : Int32).toNatClampNeg = 2 by decide]
  by_cases h : hasb (σ 1 2) b
  · rw [b2i_t h, if_pos h]
  · rw [b2i_f h, if_neg h]
theorem eM_isFree : VX12_isFree K σ a = K (b2i (rg a 0 29 ∧ ¬ hasb (σ 1 0) a)) σ := by
  unfold VX12_isFree
  rw [eM_isCell, ite_b2i]
  by_cases h : rg a 0 29
  · rw [if_pos h, eM_has0, ite_b2i]
    by_cases h2 : hasb (σ 1 0) a
    · rw [if_pos h2, b2i_f (fun q => q.2 h2)]
    · rw [if_neg h2, b2i_t ⟨h, h2⟩]
  · rw [if_neg h, b2i_f (fun q => h q.1)]
end EQS
/-- a small number -/
def nb (v : Int32) (N : Nat) : Prop := ∃ k, k < N ∧ v = nI k
theorem nb_nI {k N : Nat} (h : k < N) : nb (nI k) N := ⟨k, h, rfl⟩
theorem nb_mono {v : Int32} {N M : Nat} (h : nb v N) (hNM : N ≤ M) : nb v M := let ⟨k, hk, e⟩ := h; ⟨k, Nat.lt_of_lt_of_le hk hNM, e⟩
theorem vp_nb {a : Int32} {N : Nat} (h : nb a N) (hN : N < 2 ^ 31) : vp_in a N := by
  obtain ⟨k, hk, rfl⟩ := h
  exact vp_in_nI hk hN
theorem thR {a : Int32} {T : Nat} (hT : T < 2 ^ 31) : (0 ≤ a ∧ a < nI T) ↔ ∃ t, t < T ∧ a = nI t := by
  constructor
  · rintro ⟨h0, h1⟩
    obtain ⟨t, ht, rfl⟩ := nI_of (Int32.not_lt.mpr h0)
    exact ⟨t, (nI_ltI ht hT).mp h1, rfl⟩
  · rintro ⟨t, ht, rfl⟩
    exact ⟨nI_pos' (by omega), nI_lt ht hT⟩
theorem thM {a : Int32} {T : Nat} (hT : T < 2 ^ 31) : rg a 0 (nI T - 1) ↔ ∃ t, t < T ∧ a = nI t := by
  cases T with
  | zero =>
    constructor
    · rintro ⟨h0, h1⟩
      rw [Int32.le_iff_toInt_le] at h0 h1
      have : (nI 0 - 1).toInt = -1 := by decide
      have : (0 : Int32).toInt = 0 := by decide
      omega
    · rintro ⟨t, ht, _⟩; omega
  | succ T =>
    rw [nI_pred]
    constructor
    · rintro h
      obtain ⟨t, ht, rfl⟩ := rg_nI (by omega) h
      exact ⟨t, by omega, rfl⟩
    · rintro ⟨t, ht, rfl⟩
      exact ⟨nI_pos' (by omega), nI_le (by omega) (by omega)⟩
theorem hup_ap (σ : Hp) (k i : Nat) (v : Int32) (k' i' : Nat) : hup σ k i v k' i' = if k' = k then (if i' = i then v else σ k i') else σ k' i' := by
  unfold hup hset
  by_cases h : k' = k
  · rw [if_pos h, if_pos h]; rfl
  · rw [if_neg h, if_neg h]
theorem hup_self {σ : Hp} {k i : Nat} {v : Int32} : hup σ k i v k i = v := by rw [hup_ap, if_pos rfl, if_pos rfl]
theorem hup_ne {σ : Hp} {k i k' i' : Nat} {v : Int32} (h : ¬ (k' = k ∧ i' = i)) : hup σ k i v k' i' = σ k' i' := by
  rw [hup_ap]
  by_cases h1 : k' = k
  · rw [if_pos h1, if_neg (fun q => h ⟨h1, q⟩), h1]
  · rw [if_neg h1]
theorem hup_row {σ : Hp} {k i k' : Nat} {v : Int32} (h : k' ≠ k) : hup σ k i v k' = σ k' := by
  unfold hup hset
  rw [if_neg h]
theorem hup_col {σ : Hp} {k i i' : Nat} {v : Int32} (h : i' ≠ i) : hup σ k i v k i' = σ k i' := hup_ne (fun q => h q.2)
theorem hset_ap (σ : Hp) (k : Nat) (r : Nat → Int32) (k' i' : Nat) : hset σ k r k' i' = if k' = k then r i' else σ k' i' := by
  unfold hset
  by_cases h : k' = k
  · rw [if_pos h, if_pos h]
  · rw [if_neg h, if_neg h]
/-- agreement on a part of a table -/
def agr (P : Nat → Nat → Prop) (σ σ' : Hp) : Prop := ∀ k i, P k i → σ' k i = σ k i
theorem agr.rf {P : Nat → Nat → Prop} {σ : Hp} : agr P σ σ := fun _ _ _ => rfl
theorem agr.tr {P : Nat → Nat → Prop} {σ u v : Hp} (h : agr P σ u) (h2 : agr P u v) : agr P σ v := fun k i hp => (h2 k i hp).trans (h k i hp)
theorem agr.sub {P Q : Nat → Nat → Prop} {σ u : Hp} (h : agr P σ u) (hq : ∀ k i, Q k i → P k i) : agr Q σ u := fun k i hp => h k i (hq k i hp)
theorem agr.up {P : Nat → Nat → Prop} {σ u : Hp} {k i : Nat} {v : Int32} (h : agr P σ u) (hn : ¬ P k i) : agr P σ (hup u k i v) := fun k' i' hp => by
  rw [hup_ne (fun q => hn (by rw [← q.1, ← q.2]; exact hp))]
  exact h k' i' hp
theorem agr.set {P : Nat → Nat → Prop} {σ u : Hp} {k : Nat} {r : Nat → Int32} (h : agr P σ u) (hn : ∀ i, ¬ P k i) : agr P σ (hset u k r) := fun k' i' hp => by
  rw [hset_ap, if_neg (fun q => hn i' (by rw [← q]; exact hp))]
  exact h k' i' hp
theorem agr.row {P : Nat → Nat → Prop} {σ u : Hp} (h : agr P σ u) {k : Nat} (hk : ∀ i, P k i) : u k = σ k := funext fun i => h k i (hk i)
/-- what no question of x writes; what no question of m writes -/
abbrev NSx (k i : Nat) : Prop := k ≤ 18 ∨ (25 ≤ k ∧ k < 37) ∨ (k = 38 ∧ i = 1) ∨ k = 39 ∨ (41 ≤ k ∧ k < 49)
abbrev NSm (k i : Nat) : Prop := (k = 0 ∧ i ≤ 15) ∨ (1 ≤ k ∧ k ≤ 14)
/-! ===== what a text says ===== -/
def leafv (x c n th mo : Int32) : Int32 := if x = -6 then mo else if x = -5 then th else if x = -4 then n else if x = -3 then c / 6 else if x = -2 then jrem c 6 else if x = -1 then c else x
def joinv (x a b : Int32) : Int32 := if x = -14 then (if a = 0 then 0 else if b = 0 then 0 else 1) else if x = -13 then (if a = b then 1 else 0) else if x = -12 then (if b ≤ a then 0 else 1) else if x = -11 then a * b else if x = -10 then a - b else if x = -9 then a + b else if a = 0 then (if b = 0 then 0 else 1) else 1
theorem eX_leaf {K : Int32 → Hp → Prop} {σ : Hp} {x c n th mo : Int32} : VX9_leaf K σ x c n th mo = K (leafv x c n th mo) σ := by
  unfold VX9_leaf leafv
  repeat' split
  all_goals rfl
theorem eX_joined {K : Int32 → Hp → Prop} {σ : Hp} {x a b : Int32} : VX9_joined K σ x a b = K (joinv x a b) σ := by
  unfold VX9_joined joinv
  repeat' split
  all_goals rfl
def evs (x c n th mo : Int32) (s : List Int32) : List Int32 :=
  if x < -6 then
    (if x < -8 then (match s with | b :: a :: s' => joinv x a b :: s' | s' => s') else (match s with | a :: s' => (if x = -8 then -a else if a = 0 then 1 else 0) :: s' | s' => s'))
  else leafv x c n th mo :: s
def ev (r : Nat → Int32) (c n th mo : Int32) : Nat → Nat → List Int32 → List Int32
  | _, 0, s => s
  | i, m + 1, s => ev r c n th mo (i + 1) m (evs (r i) c n th mo s)
def dok (r : Nat → Int32) : Nat → Nat → Nat → Prop
  | _, 0, d => d = 1
  | i, m + 1, d => rg (r i) (-15) 9999 ∧ (if r i < -6 then (if r i < -8 then 2 ≤ d ∧ dok r (i + 1) m (d - 1) else 1 ≤ d ∧ dok r (i + 1) m d) else dok r (i + 1) m (d + 1))
def stk (u : Nat → Int32) : List Int32 → Prop
  | [] => True
  | a :: s => u s.length = a ∧ stk u s
theorem stk_up {u : Nat → Int32} {v : Int32} {k : Nat} : ∀ {s : List Int32}, s.length ≤ k → stk u s → stk (upd u k v) s
  | [], _, _ => trivial
  | a :: s, h, hs => ⟨by rw [pk_un (by simp only [List.length_cons] at h; omega)]; exact hs.1, stk_up (by simp only [List.length_cons] at h; omega) hs.2⟩
def clm (s0 v : Int32) : Int32 := if 0 < (if v < s0 then v else s0) then (if v < s0 then v else s0) else 0
def mst (p : Nat) : Int32 := if p = 0 then 4 else if p = 1 then 99 else 9
/-- the answer of part p of a text of codes r, starts st -/
def sayR (r st : Nat → Int32) (p : Nat) (c n th mo : Int32) : Int32 := clm (mst p) ((ev r c n th mo (st p).toNatClampNeg ((st (p + 1)).toNatClampNeg - (st p).toNatClampNeg) []).headD 0)
/-- a text as it should be -/
def TW (r st : Nat → Int32) : Prop := ∃ e : Nat → Nat, (∀ p, p ≤ 3 → st p = nI (e p)) ∧ e 0 = 0 ∧ e 3 ≤ 160 ∧ (∀ p, p < 3 → e p ≤ e (p + 1)) ∧ ∀ p, p < 3 → dok r (e p) (e (p + 1) - e p) 0
abbrev P37 (k _ : Nat) : Prop := k ≠ 37
