theorem nw_0 {U : State} (h : ∀ q ∈ yNest, va_Nw (.methodLinkNest q.1 q.2.1 q.2.2.1 q.2.2.2) U) : va_Nw (.methodLinkNest RX11 11 yX3_init RX11) U := h (RX11, 11, yX3_init, RX11) (List.mem_of_getElem? (i := 0) rfl)
theorem nw_1 {U : State} (h : ∀ q ∈ yNest, va_Nw (.methodLinkNest q.1 q.2.1 q.2.2.1 q.2.2.2) U) : va_Nw (.methodLinkNest RX11 33 yX4_init RX11) U := h (RX11, 33, yX4_init, RX11) (List.mem_of_getElem? (i := 1) rfl)
theorem nw_2 {U : State} (h : ∀ q ∈ yNest, va_Nw (.methodLinkNest q.1 q.2.1 q.2.2.1 q.2.2.2) U) : va_Nw (.methodLinkNest RX11 69 yX10_init RX11) U := h (RX11, 69, yX10_init, RX11) (List.mem_of_getElem? (i := 2) rfl)
theorem nw_3 {U : State} (h : ∀ q ∈ yNest, va_Nw (.methodLinkNest q.1 q.2.1 q.2.2.1 q.2.2.2) U) : va_Nw (.methodLinkNest RX11 72 yX7_init RX11) U := h (RX11, 72, yX7_init, RX11) (List.mem_of_getElem? (i := 3) rfl)
theorem nw_4 {U : State} (h : ∀ q ∈ yNest, va_Nw (.methodLinkNest q.1 q.2.1 q.2.2.1 q.2.2.2) U) : va_Nw (.methodLinkNest RX11 75 yX5_init RX11) U := h (RX11, 75, yX5_init, RX11) (List.mem_of_getElem? (i := 4) rfl)
theorem nw_5 {U : State} (h : ∀ q ∈ yNest, va_Nw (.methodLinkNest q.1 q.2.1 q.2.2.1 q.2.2.2) U) : va_Nw (.methodLinkNest RX11 78 yX8_init RX11) U := h (RX11, 78, yX8_init, RX11) (List.mem_of_getElem? (i := 5) rfl)
theorem nw_6 {U : State} (h : ∀ q ∈ yNest, va_Nw (.methodLinkNest q.1 q.2.1 q.2.2.1 q.2.2.2) U) : va_Nw (.methodLinkNest RX11 81 yX0_init RX11) U := h (RX11, 81, yX0_init, RX11) (List.mem_of_getElem? (i := 6) rfl)
theorem nw_7 {U : State} (h : ∀ q ∈ yNest, va_Nw (.methodLinkNest q.1 q.2.1 q.2.2.1 q.2.2.2) U) : va_Nw (.methodLinkNest RX11 84 yX2_init RX11) U := h (RX11, 84, yX2_init, RX11) (List.mem_of_getElem? (i := 7) rfl)
theorem nw_8 {U : State} (h : ∀ q ∈ yNest, va_Nw (.methodLinkNest q.1 q.2.1 q.2.2.1 q.2.2.2) U) : va_Nw (.methodLinkNest RX11 96 yX6_init RX11) U := h (RX11, 96, yX6_init, RX11) (List.mem_of_getElem? (i := 8) rfl)
theorem nw_9 {U : State} (h : ∀ q ∈ yNest, va_Nw (.methodLinkNest q.1 q.2.1 q.2.2.1 q.2.2.2) U) : va_Nw (.methodLinkNest RX7 3 yX10_init RX11) U := h (RX7, 3, yX10_init, RX11) (List.mem_of_getElem? (i := 9) rfl)
theorem nw_10 {U : State} (h : ∀ q ∈ yNest, va_Nw (.methodLinkNest q.1 q.2.1 q.2.2.1 q.2.2.2) U) : va_Nw (.methodLinkNest RX5 1 yX10_init RX11) U := h (RX5, 1, yX10_init, RX11) (List.mem_of_getElem? (i := 10) rfl)
theorem nw_11 {U : State} (h : ∀ q ∈ yNest, va_Nw (.methodLinkNest q.1 q.2.1 q.2.2.1 q.2.2.2) U) : va_Nw (.methodLinkNest RX2 3 yX10_init RX11) U := h (RX2, 3, yX10_init, RX11) (List.mem_of_getElem? (i := 11) rfl)
theorem nw_12 {U : State} (h : ∀ q ∈ yNest, va_Nw (.methodLinkNest q.1 q.2.1 q.2.2.1 q.2.2.2) U) : va_Nw (.methodLinkNest RX8 1 yX7_init RX11) U := h (RX8, 1, yX7_init, RX11) (List.mem_of_getElem? (i := 12) rfl)
theorem nw_13 {U : State} (h : ∀ q ∈ yNest, va_Nw (.methodLinkNest q.1 q.2.1 q.2.2.1 q.2.2.2) U) : va_Nw (.methodLinkNest RX0 3 yX5_init RX11) U := h (RX0, 3, yX5_init, RX11) (List.mem_of_getElem? (i := 13) rfl)
theorem nw_14 {U : State} (h : ∀ q ∈ yNest, va_Nw (.methodLinkNest q.1 q.2.1 q.2.2.1 q.2.2.2) U) : va_Nw (.methodLinkNest RX3 49 yX11_has RX11) U := h (RX3, 49, yX11_has, RX11) (List.mem_of_getElem? (i := 14) rfl)
theorem nw_15 {U : State} (h : ∀ q ∈ yNest, va_Nw (.methodLinkNest q.1 q.2.1 q.2.2.1 q.2.2.2) U) : va_Nw (.methodLinkNest RX1 34 yX11_has RX11) U := h (RX1, 34, yX11_has, RX11) (List.mem_of_getElem? (i := 15) rfl)
theorem nc_0 {U : State} (h : ∀ C ∈ yCast, va_Nw (.castable C RX10) U) : va_Nw (.castable RX7 RX10) U := h _ (List.mem_of_getElem? (i := 0) rfl)
theorem nc_1 {U : State} (h : ∀ C ∈ yCast, va_Nw (.castable C RX10) U) : va_Nw (.castable RX5 RX10) U := h _ (List.mem_of_getElem? (i := 1) rfl)
theorem nc_2 {U : State} (h : ∀ C ∈ yCast, va_Nw (.castable C RX10) U) : va_Nw (.castable RX8 RX10) U := h _ (List.mem_of_getElem? (i := 2) rfl)
theorem nc_3 {U : State} (h : ∀ C ∈ yCast, va_Nw (.castable C RX10) U) : va_Nw (.castable RX0 RX10) U := h _ (List.mem_of_getElem? (i := 3) rfl)
theorem nc_4 {U : State} (h : ∀ C ∈ yCast, va_Nw (.castable C RX10) U) : va_Nw (.castable RX2 RX10) U := h _ (List.mem_of_getElem? (i := 4) rfl)
theorem no_0 {U : State} (h : ∀ C ∈ yOver, va_AO C U) : va_AO RX10 U := h _ (List.mem_of_getElem? (i := 0) rfl)
theorem no_1 {U : State} (h : ∀ C ∈ yOver, va_AO C U) : va_AO RX9 U := h _ (List.mem_of_getElem? (i := 1) rfl)
theorem no_2 {U : State} (h : ∀ C ∈ yOver, va_AO C U) : va_AO RX6 U := h _ (List.mem_of_getElem? (i := 2) rfl)
/-! ===== the layout of the two worlds: by program out of the classes' fields ===== -/
def rfv (w : wT) (v : Int32) : Value := if v = 0 then .null else .ref (w.1 (v.toNatClampNeg - 1))
theorem nI_sne0 {q : Nat} (hq : q < 1000) : ¬ nI (q + 1) = 0 := nI_ne0 (Nat.succ_pos q) (by omega)
theorem rfv_nI {w : wT} {q : Nat} (hq : q < 1000) : rfv w (nI (q + 1)) = .ref (w.1 q) := by
  unfold rfv
  rw [if_neg (nI_sne0 hq), nI_clamp (by omega)]
  rfl
def xcf : cT := fun w o r => if o < 1 then .inr (11, [.ref (w.1 1), .ref (w.1 2), .int (r 2), .ref (w.1 11), .ref (w.1 18), .int (r 5), .ref (w.1 38), .ref (w.1 40), .ref (w.1 49), .ref (w.1 50), .ref (w.1 51), .ref (w.1 52), .ref (w.1 53), .ref (w.1 54)]) else if o < 3 then .inr (3, [.int (r 0), .int (r 1), .int (r 2), .int (r 3), .int (r 4), .int (r 5), .ref (w.1 (3 + 4 * (o - 1))), .ref (w.1 (4 + 4 * (o - 1))), .ref (w.1 (5 + 4 * (o - 1))), .ref (w.1 (6 + 4 * (o - 1)))]) else if o < 11 then .inl (w.2.1 1, 5, .inl r) else if o < 12 then .inl (w.2.1 4, 6, .inr (.inr (.inr (.inr (fun j => some (w.1 (12 + j))))))) else if o < 13 then .inr (10, []) else if o < 14 then .inr (7, []) else if o < 15 then .inr (5, []) else if o < 16 then .inr (8, []) else if o < 17 then .inr (0, []) else if o < 18 then .inr (2, []) else if o < 19 then .inl (w.2.1 3, 6, .inr (.inr (.inr (.inr (fun j => some (w.1 (19 + j))))))) else if o < 25 then .inr (9, [.ref (w.1 (25 + 1 * (o - 19))), .ref (w.1 (31 + 1 * (o - 19))), .ref (w.1 37), .int (r 3), .int (r 4)]) else if o < 31 then .inl (w.2.1 1, 160, .inl r) else if o < 37 then .inl (w.2.1 1, 4, .inl r) else if o < 38 then .inl (w.2.1 1, 160, .inl r) else if o < 39 then .inr (4, [.ref (w.1 39), .int (r 1), .int (r 2), .int (r 3), .int (r 4), .int (r 5), rfv w (r 6)]) else if o < 40 then .inl (w.2.1 0, 160, .inl r) else if o < 41 then .inl (w.2.1 2, 4, .inr (.inr (.inr (.inr (fun j => some (w.1 (41 + j))))))) else if o < 45 then .inr (6, [.ref (w.1 (45 + 1 * (o - 41))), .int (r 1), .int (r 2)]) else if o < 49 then .inl (w.2.1 1, 40, .inl r) else if o < 50 then .inr (1, [.ref (w.1 1), rfv w (r 1), rfv w (r 2), .int (r 3), .int (r 4), .int (r 5), .int (r 6), .int (r 7)]) else if o < 51 then .inl (w.2.1 1, 41, .inl r) else if o < 52 then .inl (w.2.1 1, 30, .inl r) else if o < 53 then .inl (w.2.1 1, 30, .inl r) else if o < 54 then .inl (w.2.1 1, 25, .inl r) else .inl (w.2.1 1, 30, .inl r)
theorem xc_X11 {w : wT} {o : Nat} {r : Nat → Int32} (h1 : 0 ≤ o) (h2 : o < 1) : xcf w o r = .inr (11, [.ref (w.1 1), .ref (w.1 2), .int (r 2), .ref (w.1 11), .ref (w.1 18), .int (r 5), .ref (w.1 38), .ref (w.1 40), .ref (w.1 49), .ref (w.1 50), .ref (w.1 51), .ref (w.1 52), .ref (w.1 53), .ref (w.1 54)]) := by
  unfold xcf
  rw [if_pos h2]
theorem xc_X3 {w : wT} {o : Nat} {r : Nat → Int32} (h1 : 1 ≤ o) (h2 : o < 3) : xcf w o r = .inr (3, [.int (r 0), .int (r 1), .int (r 2), .int (r 3), .int (r 4), .int (r 5), .ref (w.1 (3 + 4 * (o - 1))), .ref (w.1 (4 + 4 * (o - 1))), .ref (w.1 (5 + 4 * (o - 1))), .ref (w.1 (6 + 4 * (o - 1)))]) := by
  unfold xcf
  rw [if_neg (show ¬ o < 1 by omega), if_pos h2]
theorem xc_harr {w : wT} {o : Nat} {r : Nat → Int32} (h1 : 3 ≤ o) (h2 : o < 11) : xcf w o r = .inl (w.2.1 1, 5, .inl r) := by
  unfold xcf
  rw [if_neg (show ¬ o < 1 by omega), if_neg (show ¬ o < 3 by omega), if_pos h2]
theorem xc_rkinds {w : wT} {o : Nat} {r : Nat → Int32} (h1 : 11 ≤ o) (h2 : o < 12) : xcf w o r = .inl (w.2.1 4, 6, .inr (.inr (.inr (.inr (fun j => some (w.1 (12 + j))))))) := by
  unfold xcf
  rw [if_neg (show ¬ o < 1 by omega), if_neg (show ¬ o < 3 by omega), if_neg (show ¬ o < 11 by omega), if_pos h2]
theorem xc_t0 {w : wT} {o : Nat} {r : Nat → Int32} (h1 : 12 ≤ o) (h2 : o < 13) : xcf w o r = .inr (10, []) := by
  unfold xcf
  rw [if_neg (show ¬ o < 1 by omega), if_neg (show ¬ o < 3 by omega), if_neg (show ¬ o < 11 by omega), if_neg (show ¬ o < 12 by omega), if_pos h2]
theorem xc_t1 {w : wT} {o : Nat} {r : Nat → Int32} (h1 : 13 ≤ o) (h2 : o < 14) : xcf w o r = .inr (7, []) := by
  unfold xcf
  rw [if_neg (show ¬ o < 1 by omega), if_neg (show ¬ o < 3 by omega), if_neg (show ¬ o < 11 by omega), if_neg (show ¬ o < 12 by omega), if_neg (show ¬ o < 13 by omega), if_pos h2]
theorem xc_t2 {w : wT} {o : Nat} {r : Nat → Int32} (h1 : 14 ≤ o) (h2 : o < 15) : xcf w o r = .inr (5, []) := by
  unfold xcf
  rw [if_neg (show ¬ o < 1 by omega), if_neg (show ¬ o < 3 by omega), if_neg (show ¬ o < 11 by omega), if_neg (show ¬ o < 12 by omega), if_neg (show ¬ o < 13 by omega), if_neg (show ¬ o < 14 by omega), if_pos h2]
theorem xc_t3 {w : wT} {o : Nat} {r : Nat → Int32} (h1 : 15 ≤ o) (h2 : o < 16) : xcf w o r = .inr (8, []) := by
  unfold xcf
  rw [if_neg (show ¬ o < 1 by omega), if_neg (show ¬ o < 3 by omega), if_neg (show ¬ o < 11 by omega), if_neg (show ¬ o < 12 by omega), if_neg (show ¬ o < 13 by omega), if_neg (show ¬ o < 14 by omega), if_neg (show ¬ o < 15 by omega), if_pos h2]
theorem xc_t4 {w : wT} {o : Nat} {r : Nat → Int32} (h1 : 16 ≤ o) (h2 : o < 17) : xcf w o r = .inr (0, []) := by
  unfold xcf
  rw [if_neg (show ¬ o < 1 by omega), if_neg (show ¬ o < 3 by omega), if_neg (show ¬ o < 11 by omega), if_neg (show ¬ o < 12 by omega), if_neg (show ¬ o < 13 by omega), if_neg (show ¬ o < 14 by omega), if_neg (show ¬ o < 15 by omega), if_neg (show ¬ o < 16 by omega), if_pos h2]
theorem xc_t5 {w : wT} {o : Nat} {r : Nat → Int32} (h1 : 17 ≤ o) (h2 : o < 18) : xcf w o r = .inr (2, []) := by
  unfold xcf
  rw [if_neg (show ¬ o < 1 by omega), if_neg (show ¬ o < 3 by omega), if_neg (show ¬ o < 11 by omega), if_neg (show ¬ o < 12 by omega), if_neg (show ¬ o < 13 by omega), if_neg (show ¬ o < 14 by omega), if_neg (show ¬ o < 15 by omega), if_neg (show ¬ o < 16 by omega), if_neg (show ¬ o < 17 by omega), if_pos h2]
theorem xc_rtexts {w : wT} {o : Nat} {r : Nat → Int32} (h1 : 18 ≤ o) (h2 : o < 19) : xcf w o r = .inl (w.2.1 3, 6, .inr (.inr (.inr (.inr (fun j => some (w.1 (19 + j))))))) := by
  unfold xcf
  rw [if_neg (show ¬ o < 1 by omega), if_neg (show ¬ o < 3 by omega), if_neg (show ¬ o < 11 by omega), if_neg (show ¬ o < 12 by omega), if_neg (show ¬ o < 13 by omega), if_neg (show ¬ o < 14 by omega), if_neg (show ¬ o < 15 by omega), if_neg (show ¬ o < 16 by omega), if_neg (show ¬ o < 17 by omega), if_neg (show ¬ o < 18 by omega), if_pos h2]
theorem xc_X9 {w : wT} {o : Nat} {r : Nat → Int32} (h1 : 19 ≤ o) (h2 : o < 25) : xcf w o r = .inr (9, [.ref (w.1 (25 + 1 * (o - 19))), .ref (w.1 (31 + 1 * (o - 19))), .ref (w.1 37), .int (r 3), .int (r 4)]) := by
  unfold xcf
  rw [if_neg (show ¬ o < 1 by omega), if_neg (show ¬ o < 3 by omega), if_neg (show ¬ o < 11 by omega), if_neg (show ¬ o < 12 by omega), if_neg (show ¬ o < 13 by omega), if_neg (show ¬ o < 14 by omega), if_neg (show ¬ o < 15 by omega), if_neg (show ¬ o < 16 by omega), if_neg (show ¬ o < 17 by omega), if_neg (show ¬ o < 18 by omega), if_neg (show ¬ o < 19 by omega), if_pos h2]
theorem xc_codes {w : wT} {o : Nat} {r : Nat → Int32} (h1 : 25 ≤ o) (h2 : o < 31) : xcf w o r = .inl (w.2.1 1, 160, .inl r) := by
  unfold xcf
  rw [if_neg (show ¬ o < 1 by omega), if_neg (show ¬ o < 3 by omega), if_neg (show ¬ o < 11 by omega), if_neg (show ¬ o < 12 by omega), if_neg (show ¬ o < 13 by omega), if_neg (show ¬ o < 14 by omega), if_neg (show ¬ o < 15 by omega), if_neg (show ¬ o < 16 by omega), if_neg (show ¬ o < 17 by omega), if_neg (show ¬ o < 18 by omega), if_neg (show ¬ o < 19 by omega), if_neg (show ¬ o < 25 by omega), if_pos h2]
theorem xc_starts {w : wT} {o : Nat} {r : Nat → Int32} (h1 : 31 ≤ o) (h2 : o < 37) : xcf w o r = .inl (w.2.1 1, 4, .inl r) := by
  unfold xcf
  rw [if_neg (show ¬ o < 1 by omega), if_neg (show ¬ o < 3 by omega), if_neg (show ¬ o < 11 by omega), if_neg (show ¬ o < 12 by omega), if_neg (show ¬ o < 13 by omega), if_neg (show ¬ o < 14 by omega), if_neg (show ¬ o < 15 by omega), if_neg (show ¬ o < 16 by omega), if_neg (show ¬ o < 17 by omega), if_neg (show ¬ o < 18 by omega), if_neg (show ¬ o < 19 by omega), if_neg (show ¬ o < 25 by omega), if_neg (show ¬ o < 31 by omega), if_pos h2]
theorem xc_stack {w : wT} {o : Nat} {r : Nat → Int32} (h1 : 37 ≤ o) (h2 : o < 38) : xcf w o r = .inl (w.2.1 1, 160, .inl r) := by
  unfold xcf
  rw [if_neg (show ¬ o < 1 by omega), if_neg (show ¬ o < 3 by omega), if_neg (show ¬ o < 11 by omega), if_neg (show ¬ o < 12 by omega), if_neg (show ¬ o < 13 by omega), if_neg (show ¬ o < 14 by omega), if_neg (show ¬ o < 15 by omega), if_neg (show ¬ o < 16 by omega), if_neg (show ¬ o < 17 by omega), if_neg (show ¬ o < 18 by omega), if_neg (show ¬ o < 19 by omega), if_neg (show ¬ o < 25 by omega), if_neg (show ¬ o < 31 by omega), if_neg (show ¬ o < 37 by omega), if_pos h2]
theorem xc_X4 {w : wT} {o : Nat} {r : Nat → Int32} (h1 : 38 ≤ o) (h2 : o < 39) : xcf w o r = .inr (4, [.ref (w.1 39), .int (r 1), .int (r 2), .int (r 3), .int (r 4), .int (r 5), rfv w (r 6)]) := by
  unfold xcf
  rw [if_neg (show ¬ o < 1 by omega), if_neg (show ¬ o < 3 by omega), if_neg (show ¬ o < 11 by omega), if_neg (show ¬ o < 12 by omega), if_neg (show ¬ o < 13 by omega), if_neg (show ¬ o < 14 by omega), if_neg (show ¬ o < 15 by omega), if_neg (show ¬ o < 16 by omega), if_neg (show ¬ o < 17 by omega), if_neg (show ¬ o < 18 by omega), if_neg (show ¬ o < 19 by omega), if_neg (show ¬ o < 25 by omega), if_neg (show ¬ o < 31 by omega), if_neg (show ¬ o < 37 by omega), if_neg (show ¬ o < 38 by omega), if_pos h2]
theorem xc_bytes {w : wT} {o : Nat} {r : Nat → Int32} (h1 : 39 ≤ o) (h2 : o < 40) : xcf w o r = .inl (w.2.1 0, 160, .inl r) := by
  unfold xcf
  rw [if_neg (show ¬ o < 1 by omega), if_neg (show ¬ o < 3 by omega), if_neg (show ¬ o < 11 by omega), if_neg (show ¬ o < 12 by omega), if_neg (show ¬ o < 13 by omega), if_neg (show ¬ o < 14 by omega), if_neg (show ¬ o < 15 by omega), if_neg (show ¬ o < 16 by omega), if_neg (show ¬ o < 17 by omega), if_neg (show ¬ o < 18 by omega), if_neg (show ¬ o < 19 by omega), if_neg (show ¬ o < 25 by omega), if_neg (show ¬ o < 31 by omega), if_neg (show ¬ o < 37 by omega), if_neg (show ¬ o < 38 by omega), if_neg (show ¬ o < 39 by omega), if_pos h2]
theorem xc_rsheets {w : wT} {o : Nat} {r : Nat → Int32} (h1 : 40 ≤ o) (h2 : o < 41) : xcf w o r = .inl (w.2.1 2, 4, .inr (.inr (.inr (.inr (fun j => some (w.1 (41 + j))))))) := by
  unfold xcf
  rw [if_neg (show ¬ o < 1 by omega), if_neg (show ¬ o < 3 by omega), if_neg (show ¬ o < 11 by omega), if_neg (show ¬ o < 12 by omega), if_neg (show ¬ o < 13 by omega), if_neg (show ¬ o < 14 by omega), if_neg (show ¬ o < 15 by omega), if_neg (show ¬ o < 16 by omega), if_neg (show ¬ o < 17 by omega), if_neg (show ¬ o < 18 by omega), if_neg (show ¬ o < 19 by omega), if_neg (show ¬ o < 25 by omega), if_neg (show ¬ o < 31 by omega), if_neg (show ¬ o < 37 by omega), if_neg (show ¬ o < 38 by omega), if_neg (show ¬ o < 39 by omega), if_neg (show ¬ o < 40 by omega), if_pos h2]
theorem xc_X6 {w : wT} {o : Nat} {r : Nat → Int32} (h1 : 41 ≤ o) (h2 : o < 45) : xcf w o r = .inr (6, [.ref (w.1 (45 + 1 * (o - 41))), .int (r 1), .int (r 2)]) := by
  unfold xcf
  rw [if_neg (show ¬ o < 1 by omega), if_neg (show ¬ o < 3 by omega), if_neg (show ¬ o < 11 by omega), if_neg (show ¬ o < 12 by omega), if_neg (show ¬ o < 13 by omega), if_neg (show ¬ o < 14 by omega), if_neg (show ¬ o < 15 by omega), if_neg (show ¬ o < 16 by omega), if_neg (show ¬ o < 17 by omega), if_neg (show ¬ o < 18 by omega), if_neg (show ¬ o < 19 by omega), if_neg (show ¬ o < 25 by omega), if_neg (show ¬ o < 31 by omega), if_neg (show ¬ o < 37 by omega), if_neg (show ¬ o < 38 by omega), if_neg (show ¬ o < 39 by omega), if_neg (show ¬ o < 40 by omega), if_neg (show ¬ o < 41 by omega), if_pos h2]
theorem xc_numbers {w : wT} {o : Nat} {r : Nat → Int32} (h1 : 45 ≤ o) (h2 : o < 49) : xcf w o r = .inl (w.2.1 1, 40, .inl r) := by
  unfold xcf
  rw [if_neg (show ¬ o < 1 by omega), if_neg (show ¬ o < 3 by omega), if_neg (show ¬ o < 11 by omega), if_neg (show ¬ o < 12 by omega), if_neg (show ¬ o < 13 by omega), if_neg (show ¬ o < 14 by omega), if_neg (show ¬ o < 15 by omega), if_neg (show ¬ o < 16 by omega), if_neg (show ¬ o < 17 by omega), if_neg (show ¬ o < 18 by omega), if_neg (show ¬ o < 19 by omega), if_neg (show ¬ o < 25 by omega), if_neg (show ¬ o < 31 by omega), if_neg (show ¬ o < 37 by omega), if_neg (show ¬ o < 38 by omega), if_neg (show ¬ o < 39 by omega), if_neg (show ¬ o < 40 by omega), if_neg (show ¬ o < 41 by omega), if_neg (show ¬ o < 45 by omega), if_pos h2]
theorem xc_X1 {w : wT} {o : Nat} {r : Nat → Int32} (h1 : 49 ≤ o) (h2 : o < 50) : xcf w o r = .inr (1, [.ref (w.1 1), rfv w (r 1), rfv w (r 2), .int (r 3), .int (r 4), .int (r 5), .int (r 6), .int (r 7)]) := by
  unfold xcf
  rw [if_neg (show ¬ o < 1 by omega), if_neg (show ¬ o < 3 by omega), if_neg (show ¬ o < 11 by omega), if_neg (show ¬ o < 12 by omega), if_neg (show ¬ o < 13 by omega), if_neg (show ¬ o < 14 by omega), if_neg (show ¬ o < 15 by omega), if_neg (show ¬ o < 16 by omega), if_neg (show ¬ o < 17 by omega), if_neg (show ¬ o < 18 by omega), if_neg (show ¬ o < 19 by omega), if_neg (show ¬ o < 25 by omega), if_neg (show ¬ o < 31 by omega), if_neg (show ¬ o < 37 by omega), if_neg (show ¬ o < 38 by omega), if_neg (show ¬ o < 39 by omega), if_neg (show ¬ o < 40 by omega), if_neg (show ¬ o < 41 by omega), if_neg (show ¬ o < 45 by omega), if_neg (show ¬ o < 49 by omega), if_pos h2]
theorem xc_path {w : wT} {o : Nat} {r : Nat → Int32} (h1 : 50 ≤ o) (h2 : o < 51) : xcf w o r = .inl (w.2.1 1, 41, .inl r) := by
  unfold xcf
  rw [if_neg (show ¬ o < 1 by omega), if_neg (show ¬ o < 3 by omega), if_neg (show ¬ o < 11 by omega), if_neg (show ¬ o < 12 by omega), if_neg (show ¬ o < 13 by omega), if_neg (show ¬ o < 14 by omega), if_neg (show ¬ o < 15 by omega), if_neg (show ¬ o < 16 by omega), if_neg (show ¬ o < 17 by omega), if_neg (show ¬ o < 18 by omega), if_neg (show ¬ o < 19 by omega), if_neg (show ¬ o < 25 by omega), if_neg (show ¬ o < 31 by omega), if_neg (show ¬ o < 37 by omega), if_neg (show ¬ o < 38 by omega), if_neg (show ¬ o < 39 by omega), if_neg (show ¬ o < 40 by omega), if_neg (show ¬ o < 41 by omega), if_neg (show ¬ o < 45 by omega), if_neg (show ¬ o < 49 by omega), if_neg (show ¬ o < 50 by omega), if_pos h2]
theorem xc_far {w : wT} {o : Nat} {r : Nat → Int32} (h1 : 51 ≤ o) (h2 : o < 52) : xcf w o r = .inl (w.2.1 1, 30, .inl r) := by
  unfold xcf
  rw [if_neg (show ¬ o < 1 by omega), if_neg (show ¬ o < 3 by omega), if_neg (show ¬ o < 11 by omega), if_neg (show ¬ o < 12 by omega), if_neg (show ¬ o < 13 by omega), if_neg (show ¬ o < 14 by omega), if_neg (show ¬ o < 15 by omega), if_neg (show ¬ o < 16 by omega), if_neg (show ¬ o < 17 by omega), if_neg (show ¬ o < 18 by omega), if_neg (show ¬ o < 19 by omega), if_neg (show ¬ o < 25 by omega), if_neg (show ¬ o < 31 by omega), if_neg (show ¬ o < 37 by omega), if_neg (show ¬ o < 38 by omega), if_neg (show ¬ o < 39 by omega), if_neg (show ¬ o < 40 by omega), if_neg (show ¬ o < 41 by omega), if_neg (show ¬ o < 45 by omega), if_neg (show ¬ o < 49 by omega), if_neg (show ¬ o < 50 by omega), if_neg (show ¬ o < 51 by omega), if_pos h2]
theorem xc_queue {w : wT} {o : Nat} {r : Nat → Int32} (h1 : 52 ≤ o) (h2 : o < 53) : xcf w o r = .inl (w.2.1 1, 30, .inl r) := by
  unfold xcf
  rw [if_neg (show ¬ o < 1 by omega), if_neg (show ¬ o < 3 by omega), if_neg (show ¬ o < 11 by omega), if_neg (show ¬ o < 12 by omega), if_neg (show ¬ o < 13 by omega), if_neg (show ¬ o < 14 by omega), if_neg (show ¬ o < 15 by omega), if_neg (show ¬ o < 16 by omega), if_neg (show ¬ o < 17 by omega), if_neg (show ¬ o < 18 by omega), if_neg (show ¬ o < 19 by omega), if_neg (show ¬ o < 25 by omega), if_neg (show ¬ o < 31 by omega), if_neg (show ¬ o < 37 by omega), if_neg (show ¬ o < 38 by omega), if_neg (show ¬ o < 39 by omega), if_neg (show ¬ o < 40 by omega), if_neg (show ¬ o < 41 by omega), if_neg (show ¬ o < 45 by omega), if_neg (show ¬ o < 49 by omega), if_neg (show ¬ o < 50 by omega), if_neg (show ¬ o < 51 by omega), if_neg (show ¬ o < 52 by omega), if_pos h2]
theorem xc_ends {w : wT} {o : Nat} {r : Nat → Int32} (h1 : 53 ≤ o) (h2 : o < 54) : xcf w o r = .inl (w.2.1 1, 25, .inl r) := by
  unfold xcf
  rw [if_neg (show ¬ o < 1 by omega), if_neg (show ¬ o < 3 by omega), if_neg (show ¬ o < 11 by omega), if_neg (show ¬ o < 12 by omega), if_neg (show ¬ o < 13 by omega), if_neg (show ¬ o < 14 by omega), if_neg (show ¬ o < 15 by omega), if_neg (show ¬ o < 16 by omega), if_neg (show ¬ o < 17 by omega), if_neg (show ¬ o < 18 by omega), if_neg (show ¬ o < 19 by omega), if_neg (show ¬ o < 25 by omega), if_neg (show ¬ o < 31 by omega), if_neg (show ¬ o < 37 by omega), if_neg (show ¬ o < 38 by omega), if_neg (show ¬ o < 39 by omega), if_neg (show ¬ o < 40 by omega), if_neg (show ¬ o < 41 by omega), if_neg (show ¬ o < 45 by omega), if_neg (show ¬ o < 49 by omega), if_neg (show ¬ o < 50 by omega), if_neg (show ¬ o < 51 by omega), if_neg (show ¬ o < 52 by omega), if_neg (show ¬ o < 53 by omega), if_pos h2]
theorem xc_tally {w : wT} {o : Nat} {r : Nat → Int32} (h1 : 54 ≤ o) (h2 : o < 55) : xcf w o r = .inl (w.2.1 1, 30, .inl r) := by
  unfold xcf
  rw [if_neg (show ¬ o < 1 by omega), if_neg (show ¬ o < 3 by omega), if_neg (show ¬ o < 11 by omega), if_neg (show ¬ o < 12 by omega), if_neg (show ¬ o < 13 by omega), if_neg (show ¬ o < 14 by omega), if_neg (show ¬ o < 15 by omega), if_neg (show ¬ o < 16 by omega), if_neg (show ¬ o < 17 by omega), if_neg (show ¬ o < 18 by omega), if_neg (show ¬ o < 19 by omega), if_neg (show ¬ o < 25 by omega), if_neg (show ¬ o < 31 by omega), if_neg (show ¬ o < 37 by omega), if_neg (show ¬ o < 38 by omega), if_neg (show ¬ o < 39 by omega), if_neg (show ¬ o < 40 by omega), if_neg (show ¬ o < 41 by omega), if_neg (show ¬ o < 45 by omega), if_neg (show ¬ o < 49 by omega), if_neg (show ¬ o < 50 by omega), if_neg (show ¬ o < 51 by omega), if_neg (show ¬ o < 52 by omega), if_neg (show ¬ o < 53 by omega), if_neg (show ¬ o < 54 by omega)]
def mcf : cT := fun w o r => if o < 1 then .inr (12, [.ref (w.1 1), .int (r 1), .int (r 2), .ref (w.1 2), .ref (w.1 3), .ref (w.1 4), .ref (w.1 5), .ref (w.1 6), .int (r 8), .ref (w.1 7), .ref (w.1 8), .int (r 11), .int (r 12), .int (r 13), .int (r 14), .int (r 15), .ref (w.1 9), .ref (w.1 10), .ref (w.1 11), .ref (w.1 12), .ref (w.1 13), .int (r 21), .int (r 22), .int (r 23), .int (r 24), .ref (w.1 14), .ref (w.1 15), .int (r 27), .int (r 28), .int (r 29), .ref (w.1 16), .ref (w.1 17), .int (r 32), .int (r 33), .ref (w.1 18), .ref (w.1 19)]) else if o < 2 then .inl (w.2.1 1, 3, .inl r) else if o < 3 then .inl (w.2.1 1, 5, .inl r) else if o < 4 then .inl (w.2.1 1, 5, .inl r) else if o < 5 then .inl (w.2.1 1, 5, .inl r) else if o < 6 then .inl (w.2.1 1, 5, .inl r) else if o < 7 then .inl (w.2.1 1, 160, .inl r) else if o < 8 then .inl (w.2.1 1, 1200, .inl r) else if o < 9 then .inl (w.2.1 1, 24, .inl r) else if o < 10 then .inl (w.2.1 1, 14, .inl r) else if o < 11 then .inl (w.2.1 1, 4, .inl r) else if o < 12 then .inl (w.2.1 1, 4, .inl r) else if o < 13 then .inl (w.2.1 1, 160, .inl r) else if o < 14 then .inl (w.2.1 1, 29, .inl r) else if o < 15 then .inl (w.2.1 1, 96, .inl r) else if o < 16 then .inl (w.2.1 1, 200, .inl r) else if o < 17 then .inl (w.2.1 1, 200, .inl r) else if o < 18 then .inl (w.2.1 1, 6, .inl r) else if o < 19 then .inl (w.2.1 1, 30, .inl r) else .inl (w.2.1 1, 5, .inl r)
theorem mc_X12 {w : wT} {o : Nat} {r : Nat → Int32} (h1 : 0 ≤ o) (h2 : o < 1) : mcf w o r = .inr (12, [.ref (w.1 1), .int (r 1), .int (r 2), .ref (w.1 2), .ref (w.1 3), .ref (w.1 4), .ref (w.1 5), .ref (w.1 6), .int (r 8), .ref (w.1 7), .ref (w.1 8), .int (r 11), .int (r 12), .int (r 13), .int (r 14), .int (r 15), .ref (w.1 9), .ref (w.1 10), .ref (w.1 11), .ref (w.1 12), .ref (w.1 13), .int (r 21), .int (r 22), .int (r 23), .int (r 24), .ref (w.1 14), .ref (w.1 15), .int (r 27), .int (r 28), .int (r 29), .ref (w.1 16), .ref (w.1 17), .int (r 32), .int (r 33), .ref (w.1 18), .ref (w.1 19)]) := by
  unfold mcf
  rw [if_pos h2]
theorem mc_m_sets {w : wT} {o : Nat} {r : Nat → Int32} (h1 : 1 ≤ o) (h2 : o < 2) : mcf w o r = .inl (w.2.1 1, 3, .inl r) := by
  unfold mcf
  rw [if_neg (show ¬ o < 1 by omega), if_pos h2]
theorem mc_m_kind {w : wT} {o : Nat} {r : Nat → Int32} (h1 : 2 ≤ o) (h2 : o < 3) : mcf w o r = .inl (w.2.1 1, 5, .inl r) := by
  unfold mcf
  rw [if_neg (show ¬ o < 1 by omega), if_neg (show ¬ o < 2 by omega), if_pos h2]
theorem mc_m_moreOf {w : wT} {o : Nat} {r : Nat → Int32} (h1 : 3 ≤ o) (h2 : o < 4) : mcf w o r = .inl (w.2.1 1, 5, .inl r) := by
  unfold mcf
  rw [if_neg (show ¬ o < 1 by omega), if_neg (show ¬ o < 2 by omega), if_neg (show ¬ o < 3 by omega), if_pos h2]
theorem mc_m_cellOf {w : wT} {o : Nat} {r : Nat → Int32} (h1 : 4 ≤ o) (h2 : o < 5) : mcf w o r = .inl (w.2.1 1, 5, .inl r) := by
  unfold mcf
  rw [if_neg (show ¬ o < 1 by omega), if_neg (show ¬ o < 2 by omega), if_neg (show ¬ o < 3 by omega), if_neg (show ¬ o < 4 by omega), if_pos h2]
theorem mc_m_wayOf {w : wT} {o : Nat} {r : Nat → Int32} (h1 : 5 ≤ o) (h2 : o < 6) : mcf w o r = .inl (w.2.1 1, 5, .inl r) := by
  unfold mcf
  rw [if_neg (show ¬ o < 1 by omega), if_neg (show ¬ o < 2 by omega), if_neg (show ¬ o < 3 by omega), if_neg (show ¬ o < 4 by omega), if_neg (show ¬ o < 5 by omega), if_pos h2]
theorem mc_m_tape {w : wT} {o : Nat} {r : Nat → Int32} (h1 : 6 ≤ o) (h2 : o < 7) : mcf w o r = .inl (w.2.1 1, 160, .inl r) := by
  unfold mcf
  rw [if_neg (show ¬ o < 1 by omega), if_neg (show ¬ o < 2 by omega), if_neg (show ¬ o < 3 by omega), if_neg (show ¬ o < 4 by omega), if_neg (show ¬ o < 5 by omega), if_neg (show ¬ o < 6 by omega), if_pos h2]
theorem mc_m_codes {w : wT} {o : Nat} {r : Nat → Int32} (h1 : 7 ≤ o) (h2 : o < 8) : mcf w o r = .inl (w.2.1 1, 1200, .inl r) := by
  unfold mcf
  rw [if_neg (show ¬ o < 1 by omega), if_neg (show ¬ o < 2 by omega), if_neg (show ¬ o < 3 by omega), if_neg (show ¬ o < 4 by omega), if_neg (show ¬ o < 5 by omega), if_neg (show ¬ o < 6 by omega), if_neg (show ¬ o < 7 by omega), if_pos h2]
theorem mc_m_starts {w : wT} {o : Nat} {r : Nat → Int32} (h1 : 8 ≤ o) (h2 : o < 9) : mcf w o r = .inl (w.2.1 1, 24, .inl r) := by
  unfold mcf
  rw [if_neg (show ¬ o < 1 by omega), if_neg (show ¬ o < 2 by omega), if_neg (show ¬ o < 3 by omega), if_neg (show ¬ o < 4 by omega), if_neg (show ¬ o < 5 by omega), if_neg (show ¬ o < 6 by omega), if_neg (show ¬ o < 7 by omega), if_neg (show ¬ o < 8 by omega), if_pos h2]
theorem mc_m_imageRows {w : wT} {o : Nat} {r : Nat → Int32} (h1 : 9 ≤ o) (h2 : o < 10) : mcf w o r = .inl (w.2.1 1, 14, .inl r) := by
  unfold mcf
  rw [if_neg (show ¬ o < 1 by omega), if_neg (show ¬ o < 2 by omega), if_neg (show ¬ o < 3 by omega), if_neg (show ¬ o < 4 by omega), if_neg (show ¬ o < 5 by omega), if_neg (show ¬ o < 6 by omega), if_neg (show ¬ o < 7 by omega), if_neg (show ¬ o < 8 by omega), if_neg (show ¬ o < 9 by omega), if_pos h2]
theorem mc_m_sheetSort {w : wT} {o : Nat} {r : Nat → Int32} (h1 : 10 ≤ o) (h2 : o < 11) : mcf w o r = .inl (w.2.1 1, 4, .inl r) := by
  unfold mcf
  rw [if_neg (show ¬ o < 1 by omega), if_neg (show ¬ o < 2 by omega), if_neg (show ¬ o < 3 by omega), if_neg (show ¬ o < 4 by omega), if_neg (show ¬ o < 5 by omega), if_neg (show ¬ o < 6 by omega), if_neg (show ¬ o < 7 by omega), if_neg (show ¬ o < 8 by omega), if_neg (show ¬ o < 9 by omega), if_neg (show ¬ o < 10 by omega), if_pos h2]
theorem mc_m_sheetSize {w : wT} {o : Nat} {r : Nat → Int32} (h1 : 11 ≤ o) (h2 : o < 12) : mcf w o r = .inl (w.2.1 1, 4, .inl r) := by
  unfold mcf
  rw [if_neg (show ¬ o < 1 by omega), if_neg (show ¬ o < 2 by omega), if_neg (show ¬ o < 3 by omega), if_neg (show ¬ o < 4 by omega), if_neg (show ¬ o < 5 by omega), if_neg (show ¬ o < 6 by omega), if_neg (show ¬ o < 7 by omega), if_neg (show ¬ o < 8 by omega), if_neg (show ¬ o < 9 by omega), if_neg (show ¬ o < 10 by omega), if_neg (show ¬ o < 11 by omega), if_pos h2]
theorem mc_m_cells {w : wT} {o : Nat} {r : Nat → Int32} (h1 : 12 ≤ o) (h2 : o < 13) : mcf w o r = .inl (w.2.1 1, 160, .inl r) := by
  unfold mcf
  rw [if_neg (show ¬ o < 1 by omega), if_neg (show ¬ o < 2 by omega), if_neg (show ¬ o < 3 by omega), if_neg (show ¬ o < 4 by omega), if_neg (show ¬ o < 5 by omega), if_neg (show ¬ o < 6 by omega), if_neg (show ¬ o < 7 by omega), if_neg (show ¬ o < 8 by omega), if_neg (show ¬ o < 9 by omega), if_neg (show ¬ o < 10 by omega), if_neg (show ¬ o < 11 by omega), if_neg (show ¬ o < 12 by omega), if_pos h2]
theorem mc_m_law {w : wT} {o : Nat} {r : Nat → Int32} (h1 : 13 ≤ o) (h2 : o < 14) : mcf w o r = .inl (w.2.1 1, 29, .inl r) := by
  unfold mcf
  rw [if_neg (show ¬ o < 1 by omega), if_neg (show ¬ o < 2 by omega), if_neg (show ¬ o < 3 by omega), if_neg (show ¬ o < 4 by omega), if_neg (show ¬ o < 5 by omega), if_neg (show ¬ o < 6 by omega), if_neg (show ¬ o < 7 by omega), if_neg (show ¬ o < 8 by omega), if_neg (show ¬ o < 9 by omega), if_neg (show ¬ o < 10 by omega), if_neg (show ¬ o < 11 by omega), if_neg (show ¬ o < 12 by omega), if_neg (show ¬ o < 13 by omega), if_pos h2]
theorem mc_m_words {w : wT} {o : Nat} {r : Nat → Int32} (h1 : 14 ≤ o) (h2 : o < 15) : mcf w o r = .inl (w.2.1 1, 96, .inl r) := by
  unfold mcf
  rw [if_neg (show ¬ o < 1 by omega), if_neg (show ¬ o < 2 by omega), if_neg (show ¬ o < 3 by omega), if_neg (show ¬ o < 4 by omega), if_neg (show ¬ o < 5 by omega), if_neg (show ¬ o < 6 by omega), if_neg (show ¬ o < 7 by omega), if_neg (show ¬ o < 8 by omega), if_neg (show ¬ o < 9 by omega), if_neg (show ¬ o < 10 by omega), if_neg (show ¬ o < 11 by omega), if_neg (show ¬ o < 12 by omega), if_neg (show ¬ o < 13 by omega), if_neg (show ¬ o < 14 by omega), if_pos h2]
theorem mc_m_held {w : wT} {o : Nat} {r : Nat → Int32} (h1 : 15 ≤ o) (h2 : o < 16) : mcf w o r = .inl (w.2.1 1, 200, .inl r) := by
  unfold mcf
  rw [if_neg (show ¬ o < 1 by omega), if_neg (show ¬ o < 2 by omega), if_neg (show ¬ o < 3 by omega), if_neg (show ¬ o < 4 by omega), if_neg (show ¬ o < 5 by omega), if_neg (show ¬ o < 6 by omega), if_neg (show ¬ o < 7 by omega), if_neg (show ¬ o < 8 by omega), if_neg (show ¬ o < 9 by omega), if_neg (show ¬ o < 10 by omega), if_neg (show ¬ o < 11 by omega), if_neg (show ¬ o < 12 by omega), if_neg (show ¬ o < 13 by omega), if_neg (show ¬ o < 14 by omega), if_neg (show ¬ o < 15 by omega), if_pos h2]
theorem mc_m_stack {w : wT} {o : Nat} {r : Nat → Int32} (h1 : 16 ≤ o) (h2 : o < 17) : mcf w o r = .inl (w.2.1 1, 200, .inl r) := by
  unfold mcf
  rw [if_neg (show ¬ o < 1 by omega), if_neg (show ¬ o < 2 by omega), if_neg (show ¬ o < 3 by omega), if_neg (show ¬ o < 4 by omega), if_neg (show ¬ o < 5 by omega), if_neg (show ¬ o < 6 by omega), if_neg (show ¬ o < 7 by omega), if_neg (show ¬ o < 8 by omega), if_neg (show ¬ o < 9 by omega), if_neg (show ¬ o < 10 by omega), if_neg (show ¬ o < 11 by omega), if_neg (show ¬ o < 12 by omega), if_neg (show ¬ o < 13 by omega), if_neg (show ¬ o < 14 by omega), if_neg (show ¬ o < 15 by omega), if_neg (show ¬ o < 16 by omega), if_pos h2]
theorem mc_m_named {w : wT} {o : Nat} {r : Nat → Int32} (h1 : 17 ≤ o) (h2 : o < 18) : mcf w o r = .inl (w.2.1 1, 6, .inl r) := by
  unfold mcf
  rw [if_neg (show ¬ o < 1 by omega), if_neg (show ¬ o < 2 by omega), if_neg (show ¬ o < 3 by omega), if_neg (show ¬ o < 4 by omega), if_neg (show ¬ o < 5 by omega), if_neg (show ¬ o < 6 by omega), if_neg (show ¬ o < 7 by omega), if_neg (show ¬ o < 8 by omega), if_neg (show ¬ o < 9 by omega), if_neg (show ¬ o < 10 by omega), if_neg (show ¬ o < 11 by omega), if_neg (show ¬ o < 12 by omega), if_neg (show ¬ o < 13 by omega), if_neg (show ¬ o < 14 by omega), if_neg (show ¬ o < 15 by omega), if_neg (show ¬ o < 16 by omega), if_neg (show ¬ o < 17 by omega), if_pos h2]
theorem mc_m_far {w : wT} {o : Nat} {r : Nat → Int32} (h1 : 18 ≤ o) (h2 : o < 19) : mcf w o r = .inl (w.2.1 1, 30, .inl r) := by
  unfold mcf
  rw [if_neg (show ¬ o < 1 by omega), if_neg (show ¬ o < 2 by omega), if_neg (show ¬ o < 3 by omega), if_neg (show ¬ o < 4 by omega), if_neg (show ¬ o < 5 by omega), if_neg (show ¬ o < 6 by omega), if_neg (show ¬ o < 7 by omega), if_neg (show ¬ o < 8 by omega), if_neg (show ¬ o < 9 by omega), if_neg (show ¬ o < 10 by omega), if_neg (show ¬ o < 11 by omega), if_neg (show ¬ o < 12 by omega), if_neg (show ¬ o < 13 by omega), if_neg (show ¬ o < 14 by omega), if_neg (show ¬ o < 15 by omega), if_neg (show ¬ o < 16 by omega), if_neg (show ¬ o < 17 by omega), if_neg (show ¬ o < 18 by omega), if_pos h2]
theorem mc_m_wentTo {w : wT} {o : Nat} {r : Nat → Int32} (h1 : 19 ≤ o) (h2 : o < 20) : mcf w o r = .inl (w.2.1 1, 5, .inl r) := by
  unfold mcf
  rw [if_neg (show ¬ o < 1 by omega), if_neg (show ¬ o < 2 by omega), if_neg (show ¬ o < 3 by omega), if_neg (show ¬ o < 4 by omega), if_neg (show ¬ o < 5 by omega), if_neg (show ¬ o < 6 by omega), if_neg (show ¬ o < 7 by omega), if_neg (show ¬ o < 8 by omega), if_neg (show ¬ o < 9 by omega), if_neg (show ¬ o < 10 by omega), if_neg (show ¬ o < 11 by omega), if_neg (show ¬ o < 12 by omega), if_neg (show ¬ o < 13 by omega), if_neg (show ¬ o < 14 by omega), if_neg (show ¬ o < 15 by omega), if_neg (show ¬ o < 16 by omega), if_neg (show ¬ o < 17 by omega), if_neg (show ¬ o < 18 by omega), if_neg (show ¬ o < 19 by omega)]
theorem wm_0 : Cond.laysFinal "WhereTheSpoonWent" "WhereTheSpoonWent" "now" "LWhereTheSpoonWent$House;" ∈ wG := List.mem_filter.mpr ⟨wT_2 _ (List.mem_of_getElem? (i := 21) rfl), rfl⟩
theorem wm_1 : Cond.laysFinal "WhereTheSpoonWent" "WhereTheSpoonWent" "kept" "LWhereTheSpoonWent$House;" ∈ wG := List.mem_filter.mpr ⟨wT_2 _ (List.mem_of_getElem? (i := 23) rfl), rfl⟩
theorem wm_2 : Cond.lays "WhereTheSpoonWent" "WhereTheSpoonWent" "isKept" "Z" ∈ wG := List.mem_filter.mpr ⟨wT_2 _ (List.mem_of_getElem? (i := 25) rfl), rfl⟩
theorem wm_3 : Cond.laysFinal "WhereTheSpoonWent" "WhereTheSpoonWent" "kinds" "[LWhereTheSpoonWent$Thing;" ∈ wG := List.mem_filter.mpr ⟨wT_2 _ (List.mem_of_getElem? (i := 27) rfl), rfl⟩
theorem wm_4 : Cond.laysFinal "WhereTheSpoonWent" "WhereTheSpoonWent" "texts" "[LWhereTheSpoonWent$Text;" ∈ wG := List.mem_filter.mpr ⟨wT_2 _ (List.mem_of_getElem? (i := 29) rfl), rfl⟩
theorem wm_5 : Cond.lays "WhereTheSpoonWent" "WhereTheSpoonWent" "textCount" "I" ∈ wG := List.mem_filter.mpr ⟨wT_2 _ (List.mem_of_getElem? (i := 31) rfl), rfl⟩
theorem wm_6 : Cond.laysFinal "WhereTheSpoonWent" "WhereTheSpoonWent" "reader" "LWhereTheSpoonWent$Reader;" ∈ wG := List.mem_filter.mpr ⟨wT_2 _ (List.mem_of_getElem? (i := 33) rfl), rfl⟩
theorem wm_7 : Cond.laysFinal "WhereTheSpoonWent" "WhereTheSpoonWent" "sheets" "[LWhereTheSpoonWent$Sheet;" ∈ wG := List.mem_filter.mpr ⟨wT_2 _ (List.mem_of_getElem? (i := 35) rfl), rfl⟩
theorem wm_8 : Cond.laysFinal "WhereTheSpoonWent" "WhereTheSpoonWent" "flight" "LWhereTheSpoonWent$Flight;" ∈ wG := List.mem_filter.mpr ⟨wT_2 _ (List.mem_of_getElem? (i := 37) rfl), rfl⟩
theorem wm_9 : Cond.laysFinal "WhereTheSpoonWent" "WhereTheSpoonWent" "path" "[I" ∈ wG := List.mem_filter.mpr ⟨wT_2 _ (List.mem_of_getElem? (i := 39) rfl), rfl⟩
theorem wm_10 : Cond.laysFinal "WhereTheSpoonWent" "WhereTheSpoonWent" "far" "[I" ∈ wG := List.mem_filter.mpr ⟨wT_2 _ (List.mem_of_getElem? (i := 41) rfl), rfl⟩
theorem wm_11 : Cond.laysFinal "WhereTheSpoonWent" "WhereTheSpoonWent" "queue" "[I" ∈ wG := List.mem_filter.mpr ⟨wT_2 _ (List.mem_of_getElem? (i := 43) rfl), rfl⟩
theorem wm_12 : Cond.laysFinal "WhereTheSpoonWent" "WhereTheSpoonWent" "ends" "[I" ∈ wG := List.mem_filter.mpr ⟨wT_2 _ (List.mem_of_getElem? (i := 45) rfl), rfl⟩
theorem wm_13 : Cond.laysFinal "WhereTheSpoonWent" "WhereTheSpoonWent" "tally" "[I" ∈ wG := List.mem_filter.mpr ⟨wT_2 _ (List.mem_of_getElem? (i := 47) rfl), rfl⟩
theorem wm_14 : Cond.lays "WhereTheSpoonWent$House" "WhereTheSpoonWent$House" "walls" "I" ∈ wG := List.mem_filter.mpr ⟨wT_1 _ (List.mem_of_getElem? (i := 55) rfl), rfl⟩
theorem wm_15 : Cond.lays "WhereTheSpoonWent$House" "WhereTheSpoonWent$House" "nets" "I" ∈ wG := List.mem_filter.mpr ⟨wT_1 _ (List.mem_of_getElem? (i := 57) rfl), rfl⟩
theorem wm_16 : Cond.lays "WhereTheSpoonWent$House" "WhereTheSpoonWent$House" "fans" "I" ∈ wG := List.mem_filter.mpr ⟨wT_1 _ (List.mem_of_getElem? (i := 59) rfl), rfl⟩
theorem wm_17 : Cond.lays "WhereTheSpoonWent$House" "WhereTheSpoonWent$House" "step" "I" ∈ wG := List.mem_filter.mpr ⟨wT_1 _ (List.mem_of_getElem? (i := 61) rfl), rfl⟩
theorem wm_18 : Cond.lays "WhereTheSpoonWent$House" "WhereTheSpoonWent$House" "law" "I" ∈ wG := List.mem_filter.mpr ⟨wT_1 _ (List.mem_of_getElem? (i := 63) rfl), rfl⟩
theorem wm_19 : Cond.lays "WhereTheSpoonWent$House" "WhereTheSpoonWent$House" "things" "I" ∈ wG := List.mem_filter.mpr ⟨wT_1 _ (List.mem_of_getElem? (i := 65) rfl), rfl⟩
theorem wm_20 : Cond.laysFinal "WhereTheSpoonWent$House" "WhereTheSpoonWent$House" "kinds" "[I" ∈ wG := List.mem_filter.mpr ⟨wT_1 _ (List.mem_of_getElem? (i := 67) rfl), rfl⟩
theorem wm_21 : Cond.laysFinal "WhereTheSpoonWent$House" "WhereTheSpoonWent$House" "mores" "[I" ∈ wG := List.mem_filter.mpr ⟨wT_1 _ (List.mem_of_getElem? (i := 69) rfl), rfl⟩
theorem wm_22 : Cond.laysFinal "WhereTheSpoonWent$House" "WhereTheSpoonWent$House" "cells" "[I" ∈ wG := List.mem_filter.mpr ⟨wT_1 _ (List.mem_of_getElem? (i := 71) rfl), rfl⟩
theorem wm_23 : Cond.laysFinal "WhereTheSpoonWent$House" "WhereTheSpoonWent$House" "ways" "[I" ∈ wG := List.mem_filter.mpr ⟨wT_1 _ (List.mem_of_getElem? (i := 73) rfl), rfl⟩
theorem wm_24 : Cond.laysFinal "WhereTheSpoonWent$Text" "WhereTheSpoonWent$Text" "codes" "[I" ∈ wG := List.mem_filter.mpr ⟨wT_1 _ (List.mem_of_getElem? (i := 202) rfl), rfl⟩
theorem wm_25 : Cond.laysFinal "WhereTheSpoonWent$Text" "WhereTheSpoonWent$Text" "starts" "[I" ∈ wG := List.mem_filter.mpr ⟨wT_1 _ (List.mem_of_getElem? (i := 204) rfl), rfl⟩
theorem wm_26 : Cond.laysFinal "WhereTheSpoonWent$Text" "WhereTheSpoonWent$Text" "stack" "[I" ∈ wG := List.mem_filter.mpr ⟨wT_1 _ (List.mem_of_getElem? (i := 206) rfl), rfl⟩
theorem wm_27 : Cond.lays "WhereTheSpoonWent$Text" "WhereTheSpoonWent$Text" "used" "I" ∈ wG := List.mem_filter.mpr ⟨wT_1 _ (List.mem_of_getElem? (i := 208) rfl), rfl⟩
theorem wm_28 : Cond.lays "WhereTheSpoonWent$Text" "WhereTheSpoonWent$Text" "parts" "I" ∈ wG := List.mem_filter.mpr ⟨wT_1 _ (List.mem_of_getElem? (i := 210) rfl), rfl⟩
theorem wm_29 : Cond.laysFinal "WhereTheSpoonWent$Reader" "WhereTheSpoonWent$Reader" "bytes" "[B" ∈ wG := List.mem_filter.mpr ⟨wT_1 _ (List.mem_of_getElem? (i := 95) rfl), rfl⟩
theorem wm_30 : Cond.lays "WhereTheSpoonWent$Reader" "WhereTheSpoonWent$Reader" "size" "I" ∈ wG := List.mem_filter.mpr ⟨wT_1 _ (List.mem_of_getElem? (i := 97) rfl), rfl⟩
theorem wm_31 : Cond.lays "WhereTheSpoonWent$Reader" "WhereTheSpoonWent$Reader" "token" "I" ∈ wG := List.mem_filter.mpr ⟨wT_1 _ (List.mem_of_getElem? (i := 99) rfl), rfl⟩
theorem wm_32 : Cond.lays "WhereTheSpoonWent$Reader" "WhereTheSpoonWent$Reader" "start" "I" ∈ wG := List.mem_filter.mpr ⟨wT_1 _ (List.mem_of_getElem? (i := 101) rfl), rfl⟩
theorem wm_33 : Cond.lays "WhereTheSpoonWent$Reader" "WhereTheSpoonWent$Reader" "next" "I" ∈ wG := List.mem_filter.mpr ⟨wT_1 _ (List.mem_of_getElem? (i := 103) rfl), rfl⟩
theorem wm_34 : Cond.lays "WhereTheSpoonWent$Reader" "WhereTheSpoonWent$Reader" "fault" "I" ∈ wG := List.mem_filter.mpr ⟨wT_1 _ (List.mem_of_getElem? (i := 105) rfl), rfl⟩
theorem wm_35 : Cond.lays "WhereTheSpoonWent$Reader" "WhereTheSpoonWent$Reader" "out" "LWhereTheSpoonWent$Text;" ∈ wG := List.mem_filter.mpr ⟨wT_1 _ (List.mem_of_getElem? (i := 107) rfl), rfl⟩
theorem wm_36 : Cond.laysFinal "WhereTheSpoonWent$Sheet" "WhereTheSpoonWent$Sheet" "numbers" "[I" ∈ wG := List.mem_filter.mpr ⟨wT_2 _ (List.mem_of_getElem? (i := 0) rfl), rfl⟩
theorem wm_37 : Cond.lays "WhereTheSpoonWent$Sheet" "WhereTheSpoonWent$Sheet" "sort" "I" ∈ wG := List.mem_filter.mpr ⟨wT_2 _ (List.mem_of_getElem? (i := 2) rfl), rfl⟩
theorem wm_38 : Cond.lays "WhereTheSpoonWent$Sheet" "WhereTheSpoonWent$Sheet" "size" "I" ∈ wG := List.mem_filter.mpr ⟨wT_2 _ (List.mem_of_getElem? (i := 4) rfl), rfl⟩
theorem wm_39 : Cond.laysFinal "WhereTheSpoonWent$Flight" "WhereTheSpoonWent$Flight" "house" "LWhereTheSpoonWent$House;" ∈ wG := List.mem_filter.mpr ⟨wT_1 _ (List.mem_of_getElem? (i := 134) rfl), rfl⟩
theorem wm_40 : Cond.lays "WhereTheSpoonWent$Flight" "WhereTheSpoonWent$Flight" "law" "LWhereTheSpoonWent$Text;" ∈ wG := List.mem_filter.mpr ⟨wT_1 _ (List.mem_of_getElem? (i := 136) rfl), rfl⟩
theorem wm_41 : Cond.lays "WhereTheSpoonWent$Flight" "WhereTheSpoonWent$Flight" "kind" "LWhereTheSpoonWent$Thing;" ∈ wG := List.mem_filter.mpr ⟨wT_1 _ (List.mem_of_getElem? (i := 138) rfl), rfl⟩
theorem wm_42 : Cond.lays "WhereTheSpoonWent$Flight" "WhereTheSpoonWent$Flight" "nets" "I" ∈ wG := List.mem_filter.mpr ⟨wT_1 _ (List.mem_of_getElem? (i := 140) rfl), rfl⟩
theorem wm_43 : Cond.lays "WhereTheSpoonWent$Flight" "WhereTheSpoonWent$Flight" "number" "I" ∈ wG := List.mem_filter.mpr ⟨wT_1 _ (List.mem_of_getElem? (i := 142) rfl), rfl⟩
theorem wm_44 : Cond.lays "WhereTheSpoonWent$Flight" "WhereTheSpoonWent$Flight" "more" "I" ∈ wG := List.mem_filter.mpr ⟨wT_1 _ (List.mem_of_getElem? (i := 144) rfl), rfl⟩
theorem wm_45 : Cond.lays "WhereTheSpoonWent$Flight" "WhereTheSpoonWent$Flight" "cell" "I" ∈ wG := List.mem_filter.mpr ⟨wT_1 _ (List.mem_of_getElem? (i := 146) rfl), rfl⟩
theorem wm_46 : Cond.lays "WhereTheSpoonWent$Flight" "WhereTheSpoonWent$Flight" "way" "I" ∈ wG := List.mem_filter.mpr ⟨wT_1 _ (List.mem_of_getElem? (i := 148) rfl), rfl⟩
theorem wm_47 : Cond.laysFinal "WhereTheSpoonWentModel" "WhereTheSpoonWentModel" "sets" "[I" ∈ wG := List.mem_filter.mpr ⟨wT_4 _ (List.mem_of_getElem? (i := 214) rfl), rfl⟩
theorem wm_48 : Cond.lays "WhereTheSpoonWentModel" "WhereTheSpoonWentModel" "step" "I" ∈ wG := List.mem_filter.mpr ⟨wT_4 _ (List.mem_of_getElem? (i := 216) rfl), rfl⟩
theorem wm_49 : Cond.lays "WhereTheSpoonWentModel" "WhereTheSpoonWentModel" "things" "I" ∈ wG := List.mem_filter.mpr ⟨wT_4 _ (List.mem_of_getElem? (i := 218) rfl), rfl⟩
theorem wm_50 : Cond.laysFinal "WhereTheSpoonWentModel" "WhereTheSpoonWentModel" "kind" "[I" ∈ wG := List.mem_filter.mpr ⟨wT_4 _ (List.mem_of_getElem? (i := 220) rfl), rfl⟩
theorem wm_51 : Cond.laysFinal "WhereTheSpoonWentModel" "WhereTheSpoonWentModel" "moreOf" "[I" ∈ wG := List.mem_filter.mpr ⟨wT_4 _ (List.mem_of_getElem? (i := 222) rfl), rfl⟩
theorem wm_52 : Cond.laysFinal "WhereTheSpoonWentModel" "WhereTheSpoonWentModel" "cellOf" "[I" ∈ wG := List.mem_filter.mpr ⟨wT_4 _ (List.mem_of_getElem? (i := 224) rfl), rfl⟩
theorem wm_53 : Cond.laysFinal "WhereTheSpoonWentModel" "WhereTheSpoonWentModel" "wayOf" "[I" ∈ wG := List.mem_filter.mpr ⟨wT_4 _ (List.mem_of_getElem? (i := 226) rfl), rfl⟩
theorem wm_54 : Cond.laysFinal "WhereTheSpoonWentModel" "WhereTheSpoonWentModel" "tape" "[I" ∈ wG := List.mem_filter.mpr ⟨wT_4 _ (List.mem_of_getElem? (i := 228) rfl), rfl⟩
theorem wm_55 : Cond.lays "WhereTheSpoonWentModel" "WhereTheSpoonWentModel" "taped" "I" ∈ wG := List.mem_filter.mpr ⟨wT_4 _ (List.mem_of_getElem? (i := 230) rfl), rfl⟩
theorem wm_56 : Cond.laysFinal "WhereTheSpoonWentModel" "WhereTheSpoonWentModel" "codes" "[I" ∈ wG := List.mem_filter.mpr ⟨wT_4 _ (List.mem_of_getElem? (i := 232) rfl), rfl⟩
theorem wm_57 : Cond.laysFinal "WhereTheSpoonWentModel" "WhereTheSpoonWentModel" "starts" "[I" ∈ wG := List.mem_filter.mpr ⟨wT_4 _ (List.mem_of_getElem? (i := 234) rfl), rfl⟩
theorem wm_58 : Cond.lays "WhereTheSpoonWentModel" "WhereTheSpoonWentModel" "texts" "I" ∈ wG := List.mem_filter.mpr ⟨wT_4 _ (List.mem_of_getElem? (i := 236) rfl), rfl⟩
theorem wm_59 : Cond.lays "WhereTheSpoonWentModel" "WhereTheSpoonWentModel" "rule" "I" ∈ wG := List.mem_filter.mpr ⟨wT_4 _ (List.mem_of_getElem? (i := 238) rfl), rfl⟩
theorem wm_60 : Cond.lays "WhereTheSpoonWentModel" "WhereTheSpoonWentModel" "hasImage" "Z" ∈ wG := List.mem_filter.mpr ⟨wT_5 _ (List.mem_of_getElem? (i := 0) rfl), rfl⟩
theorem wm_61 : Cond.lays "WhereTheSpoonWentModel" "WhereTheSpoonWentModel" "imageThings" "I" ∈ wG := List.mem_filter.mpr ⟨wT_5 _ (List.mem_of_getElem? (i := 2) rfl), rfl⟩
theorem wm_62 : Cond.lays "WhereTheSpoonWentModel" "WhereTheSpoonWentModel" "imageRule" "I" ∈ wG := List.mem_filter.mpr ⟨wT_5 _ (List.mem_of_getElem? (i := 4) rfl), rfl⟩
theorem wm_63 : Cond.laysFinal "WhereTheSpoonWentModel" "WhereTheSpoonWentModel" "imageRows" "[I" ∈ wG := List.mem_filter.mpr ⟨wT_5 _ (List.mem_of_getElem? (i := 6) rfl), rfl⟩
theorem wm_64 : Cond.laysFinal "WhereTheSpoonWentModel" "WhereTheSpoonWentModel" "sheetSort" "[I" ∈ wG := List.mem_filter.mpr ⟨wT_5 _ (List.mem_of_getElem? (i := 8) rfl), rfl⟩
theorem wm_65 : Cond.laysFinal "WhereTheSpoonWentModel" "WhereTheSpoonWentModel" "sheetSize" "[I" ∈ wG := List.mem_filter.mpr ⟨wT_5 _ (List.mem_of_getElem? (i := 10) rfl), rfl⟩
theorem wm_66 : Cond.laysFinal "WhereTheSpoonWentModel" "WhereTheSpoonWentModel" "cells" "[I" ∈ wG := List.mem_filter.mpr ⟨wT_5 _ (List.mem_of_getElem? (i := 12) rfl), rfl⟩
theorem wm_67 : Cond.laysFinal "WhereTheSpoonWentModel" "WhereTheSpoonWentModel" "law" "[I" ∈ wG := List.mem_filter.mpr ⟨wT_5 _ (List.mem_of_getElem? (i := 14) rfl), rfl⟩
theorem wm_68 : Cond.lays "WhereTheSpoonWentModel" "WhereTheSpoonWentModel" "at" "I" ∈ wG := List.mem_filter.mpr ⟨wT_5 _ (List.mem_of_getElem? (i := 16) rfl), rfl⟩
theorem wm_69 : Cond.lays "WhereTheSpoonWentModel" "WhereTheSpoonWentModel" "begun" "I" ∈ wG := List.mem_filter.mpr ⟨wT_5 _ (List.mem_of_getElem? (i := 18) rfl), rfl⟩
theorem wm_70 : Cond.lays "WhereTheSpoonWentModel" "WhereTheSpoonWentModel" "token" "I" ∈ wG := List.mem_filter.mpr ⟨wT_5 _ (List.mem_of_getElem? (i := 20) rfl), rfl⟩
theorem wm_71 : Cond.lays "WhereTheSpoonWentModel" "WhereTheSpoonWentModel" "value" "I" ∈ wG := List.mem_filter.mpr ⟨wT_5 _ (List.mem_of_getElem? (i := 22) rfl), rfl⟩
theorem wm_72 : Cond.laysFinal "WhereTheSpoonWentModel" "WhereTheSpoonWentModel" "words" "[I" ∈ wG := List.mem_filter.mpr ⟨wT_5 _ (List.mem_of_getElem? (i := 24) rfl), rfl⟩
theorem wm_73 : Cond.laysFinal "WhereTheSpoonWentModel" "WhereTheSpoonWentModel" "held" "[I" ∈ wG := List.mem_filter.mpr ⟨wT_5 _ (List.mem_of_getElem? (i := 26) rfl), rfl⟩
theorem wm_74 : Cond.lays "WhereTheSpoonWentModel" "WhereTheSpoonWentModel" "heldMany" "I" ∈ wG := List.mem_filter.mpr ⟨wT_5 _ (List.mem_of_getElem? (i := 28) rfl), rfl⟩
theorem wm_75 : Cond.lays "WhereTheSpoonWentModel" "WhereTheSpoonWentModel" "opens" "I" ∈ wG := List.mem_filter.mpr ⟨wT_5 _ (List.mem_of_getElem? (i := 30) rfl), rfl⟩
theorem wm_76 : Cond.lays "WhereTheSpoonWentModel" "WhereTheSpoonWentModel" "out" "I" ∈ wG := List.mem_filter.mpr ⟨wT_5 _ (List.mem_of_getElem? (i := 32) rfl), rfl⟩
theorem wm_77 : Cond.laysFinal "WhereTheSpoonWentModel" "WhereTheSpoonWentModel" "stack" "[I" ∈ wG := List.mem_filter.mpr ⟨wT_5 _ (List.mem_of_getElem? (i := 34) rfl), rfl⟩
theorem wm_78 : Cond.laysFinal "WhereTheSpoonWentModel" "WhereTheSpoonWentModel" "named" "[I" ∈ wG := List.mem_filter.mpr ⟨wT_5 _ (List.mem_of_getElem? (i := 36) rfl), rfl⟩
theorem wm_79 : Cond.lays "WhereTheSpoonWentModel" "WhereTheSpoonWentModel" "now" "I" ∈ wG := List.mem_filter.mpr ⟨wT_5 _ (List.mem_of_getElem? (i := 38) rfl), rfl⟩
theorem wm_80 : Cond.lays "WhereTheSpoonWentModel" "WhereTheSpoonWentModel" "way" "I" ∈ wG := List.mem_filter.mpr ⟨wT_5 _ (List.mem_of_getElem? (i := 40) rfl), rfl⟩
theorem wm_81 : Cond.laysFinal "WhereTheSpoonWentModel" "WhereTheSpoonWentModel" "far" "[I" ∈ wG := List.mem_filter.mpr ⟨wT_5 _ (List.mem_of_getElem? (i := 42) rfl), rfl⟩
theorem wm_82 : Cond.laysFinal "WhereTheSpoonWentModel" "WhereTheSpoonWentModel" "wentTo" "[I" ∈ wG := List.mem_filter.mpr ⟨wT_5 _ (List.mem_of_getElem? (i := 44) rfl), rfl⟩
theorem wm_83 : Cond.methodLink RX0 9 yX5_isOne ∈ wG := List.mem_filter.mpr ⟨wT_4 _ (List.mem_of_getElem? (i := 107) rfl), rfl⟩
theorem wm_84 : Cond.sameMethod "WhereTheSpoonWent$Screw" "WhereTheSpoonWent$Screw" "isOne" "(I)Z" ∈ wG := List.mem_filter.mpr ⟨wT_6 _ (List.mem_of_getElem? (i := 89) rfl), rfl⟩
theorem wm_85 : Cond.superclass RX0 RX5 ∈ wG := List.mem_filter.mpr ⟨wT_1 _ (List.mem_of_getElem? (i := 184) rfl), rfl⟩
theorem wm_86 : Cond.instanceMethod yX5_isOne ∈ wG := List.mem_filter.mpr ⟨wT_4 _ (List.mem_of_getElem? (i := 108) rfl), rfl⟩
theorem wm_87 : Cond.initialized RX5 ∈ wG := List.mem_filter.mpr ⟨wT_1 _ (List.mem_of_getElem? (i := 7) rfl), rfl⟩
theorem wm_88 : Cond.code yX5_isOne cX5_isOne 2 (some .boolean) ∈ wG := List.mem_filter.mpr ⟨wT_4 _ (List.mem_of_getElem? (i := 109) rfl), rfl⟩
theorem wm_89 : Cond.methodLink RX0 13 ⟨RX5, "blown", "(II)I"⟩ ∈ wG := List.mem_filter.mpr ⟨wT_3 _ (List.mem_of_getElem? (i := 72) rfl), rfl⟩
theorem wm_90 : Cond.sameMethod "WhereTheSpoonWent$Screw" "WhereTheSpoonWent$Thing" "blown" "(II)I" ∈ wG := List.mem_filter.mpr ⟨wT_3 _ (List.mem_of_getElem? (i := 73) rfl), rfl⟩
theorem wm_91 : Cond.superclass RX5 RX10 ∈ wG := List.mem_filter.mpr ⟨wT_1 _ (List.mem_of_getElem? (i := 170) rfl), rfl⟩
theorem wm_92 : Cond.instanceMethod yX10_blown ∈ wG := List.mem_filter.mpr ⟨wT_3 _ (List.mem_of_getElem? (i := 66) rfl), rfl⟩
theorem wm_93 : Cond.initialized RX10 ∈ wG := List.mem_filter.mpr ⟨wT_1 _ (List.mem_of_getElem? (i := 5) rfl), rfl⟩
theorem wm_94 : Cond.code yX10_blown cX10_blown 3 (some .int) ∈ wG := List.mem_filter.mpr ⟨wT_3 _ (List.mem_of_getElem? (i := 82) rfl), rfl⟩
theorem wm_95 : Cond.methodLink RX1 15 yX1_pass ∈ wG := List.mem_filter.mpr ⟨wT_3 _ (List.mem_of_getElem? (i := 59) rfl), rfl⟩
theorem wm_96 : Cond.instanceMethod yX1_pass ∈ wG := List.mem_filter.mpr ⟨wT_3 _ (List.mem_of_getElem? (i := 60) rfl), rfl⟩
theorem wm_97 : Cond.selects RX1 yX1_pass yX1_pass ∈ wG := List.mem_filter.mpr ⟨wT_3 _ (List.mem_of_getElem? (i := 61) rfl), rfl⟩
theorem wm_98 : Cond.initialized RX1 ∈ wG := List.mem_filter.mpr ⟨wT_1 _ (List.mem_of_getElem? (i := 4) rfl), rfl⟩
theorem wm_99 : Cond.code yX1_pass cX1_pass 3 none ∈ wG := List.mem_filter.mpr ⟨wT_3 _ (List.mem_of_getElem? (i := 62) rfl), rfl⟩
theorem wm_100 : Cond.fieldLink RX1 9 "WhereTheSpoonWent$Flight" "house" "LWhereTheSpoonWent$House;" ∈ wG := List.mem_filter.mpr ⟨wT_1 _ (List.mem_of_getElem? (i := 119) rfl), rfl⟩
theorem wm_101 : Cond.fieldLink RX1 19 "WhereTheSpoonWent$Flight" "law" "LWhereTheSpoonWent$Text;" ∈ wG := List.mem_filter.mpr ⟨wT_1 _ (List.mem_of_getElem? (i := 120) rfl), rfl⟩
theorem wm_102 : Cond.fieldLink RX1 23 "WhereTheSpoonWent$Flight" "kind" "LWhereTheSpoonWent$Thing;" ∈ wG := List.mem_filter.mpr ⟨wT_1 _ (List.mem_of_getElem? (i := 122) rfl), rfl⟩
theorem wm_103 : Cond.fieldLink RX1 27 "WhereTheSpoonWent$Flight" "nets" "I" ∈ wG := List.mem_filter.mpr ⟨wT_1 _ (List.mem_of_getElem? (i := 124) rfl), rfl⟩
theorem wm_104 : Cond.fieldLink RX1 31 "WhereTheSpoonWent$Flight" "cell" "I" ∈ wG := List.mem_filter.mpr ⟨wT_1 _ (List.mem_of_getElem? (i := 130) rfl), rfl⟩
theorem wm_105 : Cond.fieldLink RX1 41 "WhereTheSpoonWent$House" "fans" "I" ∈ wG := List.mem_filter.mpr ⟨wT_1 _ (List.mem_of_getElem? (i := 39) rfl), rfl⟩
theorem wm_106 : Cond.fieldLink RX1 46 "WhereTheSpoonWent$Flight" "number" "I" ∈ wG := List.mem_filter.mpr ⟨wT_1 _ (List.mem_of_getElem? (i := 126) rfl), rfl⟩
theorem wm_107 : Cond.fieldLink RX1 49 "WhereTheSpoonWent$Flight" "more" "I" ∈ wG := List.mem_filter.mpr ⟨wT_1 _ (List.mem_of_getElem? (i := 128) rfl), rfl⟩
theorem wm_108 : Cond.methodLink RX1 52 yX9_says ∈ wG := List.mem_filter.mpr ⟨wT_3 _ (List.mem_of_getElem? (i := 64) rfl), rfl⟩
theorem wm_109 : Cond.fieldLink RX1 38 "WhereTheSpoonWent$Flight" "way" "I" ∈ wG := List.mem_filter.mpr ⟨wT_1 _ (List.mem_of_getElem? (i := 132) rfl), rfl⟩
theorem wm_110 : Cond.methodLink RX1 58 yX10_blown ∈ wG := List.mem_filter.mpr ⟨wT_3 _ (List.mem_of_getElem? (i := 65) rfl), rfl⟩
theorem wm_111 : Cond.instanceMethod yX9_says ∈ wG := List.mem_filter.mpr ⟨wT_2 _ (List.mem_of_getElem? (i := 239) rfl), rfl⟩
theorem wm_112 : Cond.selects RX9 yX9_says yX9_says ∈ wG := List.mem_filter.mpr ⟨wT_3 _ (List.mem_of_getElem? (i := 0) rfl), rfl⟩
theorem wm_113 : Cond.initialized RX9 ∈ wG := List.mem_filter.mpr ⟨wT_1 _ (List.mem_of_getElem? (i := 11) rfl), rfl⟩
theorem wm_114 : Cond.code yX9_says cX9_says 9 (some .int) ∈ wG := List.mem_filter.mpr ⟨wT_3 _ (List.mem_of_getElem? (i := 1) rfl), rfl⟩
theorem wm_115 : Cond.static yX11_has ∈ wG := List.mem_filter.mpr ⟨wT_2 _ (List.mem_of_getElem? (i := 66) rfl), rfl⟩
theorem wm_116 : Cond.initialized RX11 ∈ wG := List.mem_filter.mpr ⟨wT_1 _ (List.mem_of_getElem? (i := 1) rfl), rfl⟩
theorem wm_117 : Cond.code yX11_has cX11_has 2 (some .boolean) ∈ wG := List.mem_filter.mpr ⟨wT_2 _ (List.mem_of_getElem? (i := 67) rfl), rfl⟩
theorem wm_118 : Cond.methodLink RX1 64 yX10_moves ∈ wG := List.mem_filter.mpr ⟨wT_3 _ (List.mem_of_getElem? (i := 83) rfl), rfl⟩
theorem wm_119 : Cond.methodLink RX1 67 yX3_beyond ∈ wG := List.mem_filter.mpr ⟨wT_3 _ (List.mem_of_getElem? (i := 98) rfl), rfl⟩
theorem wm_120 : Cond.methodLink RX1 70 yX10_touching ∈ wG := List.mem_filter.mpr ⟨wT_3 _ (List.mem_of_getElem? (i := 103) rfl), rfl⟩
theorem wm_121 : Cond.instanceMethod yX3_beyond ∈ wG := List.mem_filter.mpr ⟨wT_3 _ (List.mem_of_getElem? (i := 99) rfl), rfl⟩
theorem wm_122 : Cond.selects RX3 yX3_beyond yX3_beyond ∈ wG := List.mem_filter.mpr ⟨wT_3 _ (List.mem_of_getElem? (i := 100) rfl), rfl⟩
theorem wm_123 : Cond.initialized RX3 ∈ wG := List.mem_filter.mpr ⟨wT_1 _ (List.mem_of_getElem? (i := 2) rfl), rfl⟩
theorem wm_124 : Cond.code yX3_beyond cX3_beyond 6 (some .int) ∈ wG := List.mem_filter.mpr ⟨wT_3 _ (List.mem_of_getElem? (i := 101) rfl), rfl⟩
theorem wm_125 : Cond.methodLink RX2 9 yX10_isOne ∈ wG := List.mem_filter.mpr ⟨wT_4 _ (List.mem_of_getElem? (i := 114) rfl), rfl⟩
theorem wm_126 : Cond.sameMethod "WhereTheSpoonWent$Thing" "WhereTheSpoonWent$Thing" "isOne" "(I)Z" ∈ wG := List.mem_filter.mpr ⟨wT_4 _ (List.mem_of_getElem? (i := 103) rfl), rfl⟩
theorem wm_127 : Cond.superclass RX2 RX10 ∈ wG := List.mem_filter.mpr ⟨wT_1 _ (List.mem_of_getElem? (i := 191) rfl), rfl⟩
theorem wm_128 : Cond.instanceMethod yX10_isOne ∈ wG := List.mem_filter.mpr ⟨wT_4 _ (List.mem_of_getElem? (i := 101) rfl), rfl⟩
theorem wm_129 : Cond.code yX10_isOne cX10_isOne 2 (some .boolean) ∈ wG := List.mem_filter.mpr ⟨wT_4 _ (List.mem_of_getElem? (i := 124) rfl), rfl⟩
theorem wm_130 : Cond.methodLink RX2 13 yX10_blown ∈ wG := List.mem_filter.mpr ⟨wT_3 _ (List.mem_of_getElem? (i := 78) rfl), rfl⟩
theorem wm_131 : Cond.sameMethod "WhereTheSpoonWent$Thing" "WhereTheSpoonWent$Thing" "blown" "(II)I" ∈ wG := List.mem_filter.mpr ⟨wT_3 _ (List.mem_of_getElem? (i := 68) rfl), rfl⟩
theorem wm_132 : Cond.fieldLink RX3 24 "WhereTheSpoonWent$House" "walls" "I" ∈ wG := List.mem_filter.mpr ⟨wT_1 _ (List.mem_of_getElem? (i := 34) rfl), rfl⟩
theorem wm_133 : Cond.fieldLink RX3 28 "WhereTheSpoonWent$House" "nets" "I" ∈ wG := List.mem_filter.mpr ⟨wT_1 _ (List.mem_of_getElem? (i := 36) rfl), rfl⟩
theorem wm_134 : Cond.fieldLink RX3 31 "WhereTheSpoonWent$House" "fans" "I" ∈ wG := List.mem_filter.mpr ⟨wT_1 _ (List.mem_of_getElem? (i := 38) rfl), rfl⟩
theorem wm_135 : Cond.fieldLink RX3 34 "WhereTheSpoonWent$House" "step" "I" ∈ wG := List.mem_filter.mpr ⟨wT_1 _ (List.mem_of_getElem? (i := 41) rfl), rfl⟩
theorem wm_136 : Cond.fieldLink RX3 37 "WhereTheSpoonWent$House" "law" "I" ∈ wG := List.mem_filter.mpr ⟨wT_1 _ (List.mem_of_getElem? (i := 43) rfl), rfl⟩
theorem wm_137 : Cond.fieldLink RX3 40 "WhereTheSpoonWent$House" "things" "I" ∈ wG := List.mem_filter.mpr ⟨wT_1 _ (List.mem_of_getElem? (i := 45) rfl), rfl⟩
theorem wm_138 : Cond.fieldLink RX3 9 "WhereTheSpoonWent$House" "kinds" "[I" ∈ wG := List.mem_filter.mpr ⟨wT_1 _ (List.mem_of_getElem? (i := 47) rfl), rfl⟩
theorem wm_139 : Cond.methodLink RX3 43 arraycopyName ∈ wG := List.mem_filter.mpr ⟨wT_4 _ (List.mem_of_getElem? (i := 55) rfl), rfl⟩
theorem wm_140 : Cond.fieldLink RX3 15 "WhereTheSpoonWent$House" "mores" "[I" ∈ wG := List.mem_filter.mpr ⟨wT_1 _ (List.mem_of_getElem? (i := 49) rfl), rfl⟩
theorem wm_141 : Cond.fieldLink RX3 18 "WhereTheSpoonWent$House" "cells" "[I" ∈ wG := List.mem_filter.mpr ⟨wT_1 _ (List.mem_of_getElem? (i := 51) rfl), rfl⟩
theorem wm_142 : Cond.fieldLink RX3 21 "WhereTheSpoonWent$House" "ways" "[I" ∈ wG := List.mem_filter.mpr ⟨wT_1 _ (List.mem_of_getElem? (i := 53) rfl), rfl⟩
theorem wm_143 : Cond.native arraycopyName ∈ wG := List.mem_filter.mpr ⟨wT_4 _ (List.mem_of_getElem? (i := 57) rfl), rfl⟩
theorem wm_144 : Cond.static arraycopyName ∈ wG := List.mem_filter.mpr ⟨wT_4 _ (List.mem_of_getElem? (i := 56) rfl), rfl⟩
theorem wm_145 : Cond.initialized RJ10 ∈ wG := List.mem_filter.mpr ⟨wT_1 _ (List.mem_of_getElem? (i := 19) rfl), rfl⟩
theorem wm_146 : Cond.fieldLink RX4 15 "WhereTheSpoonWent$Reader" "size" "I" ∈ wG := List.mem_filter.mpr ⟨wT_1 _ (List.mem_of_getElem? (i := 88) rfl), rfl⟩
theorem wm_147 : Cond.fieldLink RX4 9 "WhereTheSpoonWent$Reader" "bytes" "[B" ∈ wG := List.mem_filter.mpr ⟨wT_1 _ (List.mem_of_getElem? (i := 87) rfl), rfl⟩
theorem wm_148 : Cond.fieldLink RX4 19 "WhereTheSpoonWent$Reader" "out" "LWhereTheSpoonWent$Text;" ∈ wG := List.mem_filter.mpr ⟨wT_1 _ (List.mem_of_getElem? (i := 94) rfl), rfl⟩
theorem wm_149 : Cond.methodLink RX4 23 yX9_clear ∈ wG := List.mem_filter.mpr ⟨wT_2 _ (List.mem_of_getElem? (i := 102) rfl), rfl⟩
theorem wm_150 : Cond.fieldLink RX4 28 "WhereTheSpoonWent$Reader" "fault" "I" ∈ wG := List.mem_filter.mpr ⟨wT_1 _ (List.mem_of_getElem? (i := 93) rfl), rfl⟩
theorem wm_151 : Cond.fieldLink RX4 31 "WhereTheSpoonWent$Reader" "next" "I" ∈ wG := List.mem_filter.mpr ⟨wT_1 _ (List.mem_of_getElem? (i := 92) rfl), rfl⟩
theorem wm_152 : Cond.methodLink RX4 34 yX4_goOn ∈ wG := List.mem_filter.mpr ⟨wT_2 _ (List.mem_of_getElem? (i := 103) rfl), rfl⟩
theorem wm_153 : Cond.methodLink RX4 37 yX4_readPart ∈ wG := List.mem_filter.mpr ⟨wT_2 _ (List.mem_of_getElem? (i := 188) rfl), rfl⟩
theorem wm_154 : Cond.methodLink RX4 41 yX4_take ∈ wG := List.mem_filter.mpr ⟨wT_2 _ (List.mem_of_getElem? (i := 192) rfl), rfl⟩
theorem wm_155 : Cond.instanceMethod yX4_take ∈ wG := List.mem_filter.mpr ⟨wT_2 _ (List.mem_of_getElem? (i := 194) rfl), rfl⟩
theorem wm_156 : Cond.selects RX4 yX4_take yX4_take ∈ wG := List.mem_filter.mpr ⟨List.mem_append_left _ (List.mem_of_getElem? (i := 6) rfl), rfl⟩
theorem wm_157 : Cond.initialized RX4 ∈ wG := List.mem_filter.mpr ⟨wT_1 _ (List.mem_of_getElem? (i := 3) rfl), rfl⟩
theorem wm_158 : Cond.code yX4_take cX4_take 2 none ∈ wG := List.mem_filter.mpr ⟨wT_2 _ (List.mem_of_getElem? (i := 195) rfl), rfl⟩
theorem wm_159 : Cond.instanceMethod yX4_readPart ∈ wG := List.mem_filter.mpr ⟨wT_2 _ (List.mem_of_getElem? (i := 190) rfl), rfl⟩
theorem wm_160 : Cond.selects RX4 yX4_readPart yX4_readPart ∈ wG := List.mem_filter.mpr ⟨List.mem_append_left _ (List.mem_of_getElem? (i := 5) rfl), rfl⟩
theorem wm_161 : Cond.code yX4_readPart cX4_readPart 2 none ∈ wG := List.mem_filter.mpr ⟨wT_2 _ (List.mem_of_getElem? (i := 191) rfl), rfl⟩
theorem wm_162 : Cond.instanceMethod yX4_goOn ∈ wG := List.mem_filter.mpr ⟨wT_2 _ (List.mem_of_getElem? (i := 105) rfl), rfl⟩
theorem wm_163 : Cond.selects RX4 yX4_goOn yX4_goOn ∈ wG := List.mem_filter.mpr ⟨List.mem_append_left _ (List.mem_of_getElem? (i := 1) rfl), rfl⟩
theorem wm_164 : Cond.code yX4_goOn cX4_goOn 1 none ∈ wG := List.mem_filter.mpr ⟨wT_2 _ (List.mem_of_getElem? (i := 106) rfl), rfl⟩
theorem wm_165 : Cond.instanceMethod yX9_clear ∈ wG := List.mem_filter.mpr ⟨wT_1 _ (List.mem_of_getElem? (i := 218) rfl), rfl⟩
theorem wm_166 : Cond.selects RX9 yX9_clear yX9_clear ∈ wG := List.mem_filter.mpr ⟨wT_1 _ (List.mem_of_getElem? (i := 219) rfl), rfl⟩
theorem wm_167 : Cond.code yX9_clear cX9_clear 1 none ∈ wG := List.mem_filter.mpr ⟨wT_1 _ (List.mem_of_getElem? (i := 220) rfl), rfl⟩
theorem wm_168 : Cond.methodLink RX4 44 yX4_readOr ∈ wG := List.mem_filter.mpr ⟨wT_2 _ (List.mem_of_getElem? (i := 200) rfl), rfl⟩
theorem wm_169 : Cond.methodLink RX4 47 yX9_endPart ∈ wG := List.mem_filter.mpr ⟨wT_2 _ (List.mem_of_getElem? (i := 225) rfl), rfl⟩
theorem wm_170 : Cond.instanceMethod yX9_endPart ∈ wG := List.mem_filter.mpr ⟨wT_1 _ (List.mem_of_getElem? (i := 226) rfl), rfl⟩
theorem wm_171 : Cond.selects RX9 yX9_endPart yX9_endPart ∈ wG := List.mem_filter.mpr ⟨wT_1 _ (List.mem_of_getElem? (i := 227) rfl), rfl⟩
theorem wm_172 : Cond.code yX9_endPart cX9_endPart 1 none ∈ wG := List.mem_filter.mpr ⟨wT_1 _ (List.mem_of_getElem? (i := 228) rfl), rfl⟩
theorem wm_173 : Cond.instanceMethod yX4_readOr ∈ wG := List.mem_filter.mpr ⟨wT_2 _ (List.mem_of_getElem? (i := 202) rfl), rfl⟩
theorem wm_174 : Cond.selects RX4 yX4_readOr yX4_readOr ∈ wG := List.mem_filter.mpr ⟨List.mem_append_left _ (List.mem_of_getElem? (i := 8) rfl), rfl⟩
theorem wm_175 : Cond.code yX4_readOr cX4_readOr 3 none ∈ wG := List.mem_filter.mpr ⟨wT_2 _ (List.mem_of_getElem? (i := 203) rfl), rfl⟩
theorem wm_176 : Cond.methodLink RX4 50 yX4_readAnd ∈ wG := List.mem_filter.mpr ⟨wT_2 _ (List.mem_of_getElem? (i := 204) rfl), rfl⟩
theorem wm_177 : Cond.instanceMethod yX4_readAnd ∈ wG := List.mem_filter.mpr ⟨wT_2 _ (List.mem_of_getElem? (i := 206) rfl), rfl⟩
theorem wm_178 : Cond.selects RX4 yX4_readAnd yX4_readAnd ∈ wG := List.mem_filter.mpr ⟨List.mem_append_left _ (List.mem_of_getElem? (i := 9) rfl), rfl⟩
theorem wm_179 : Cond.code yX4_readAnd cX4_readAnd 3 none ∈ wG := List.mem_filter.mpr ⟨wT_2 _ (List.mem_of_getElem? (i := 207) rfl), rfl⟩
theorem wm_180 : Cond.fieldLink RX4 53 "WhereTheSpoonWent$Reader" "token" "I" ∈ wG := List.mem_filter.mpr ⟨wT_1 _ (List.mem_of_getElem? (i := 90) rfl), rfl⟩
theorem wm_181 : Cond.methodLink RX4 56 yX9_add ∈ wG := List.mem_filter.mpr ⟨wT_2 _ (List.mem_of_getElem? (i := 212) rfl), rfl⟩
theorem wm_182 : Cond.instanceMethod yX9_add ∈ wG := List.mem_filter.mpr ⟨wT_1 _ (List.mem_of_getElem? (i := 222) rfl), rfl⟩
theorem wm_183 : Cond.selects RX9 yX9_add yX9_add ∈ wG := List.mem_filter.mpr ⟨wT_1 _ (List.mem_of_getElem? (i := 223) rfl), rfl⟩
theorem wm_184 : Cond.code yX9_add cX9_add 2 none ∈ wG := List.mem_filter.mpr ⟨wT_1 _ (List.mem_of_getElem? (i := 224) rfl), rfl⟩
theorem wm_185 : Cond.methodLink RX4 59 yX4_readNot ∈ wG := List.mem_filter.mpr ⟨wT_2 _ (List.mem_of_getElem? (i := 208) rfl), rfl⟩
theorem wm_186 : Cond.instanceMethod yX4_readNot ∈ wG := List.mem_filter.mpr ⟨wT_2 _ (List.mem_of_getElem? (i := 210) rfl), rfl⟩
theorem wm_187 : Cond.selects RX4 yX4_readNot yX4_readNot ∈ wG := List.mem_filter.mpr ⟨List.mem_append_left _ (List.mem_of_getElem? (i := 10) rfl), rfl⟩
theorem wm_188 : Cond.code yX4_readNot cX4_readNot 3 none ∈ wG := List.mem_filter.mpr ⟨wT_2 _ (List.mem_of_getElem? (i := 211) rfl), rfl⟩
theorem wm_189 : Cond.methodLink RX4 62 yX4_readSum ∈ wG := List.mem_filter.mpr ⟨wT_2 _ (List.mem_of_getElem? (i := 213) rfl), rfl⟩
theorem wm_190 : Cond.instanceMethod yX4_readSum ∈ wG := List.mem_filter.mpr ⟨wT_2 _ (List.mem_of_getElem? (i := 215) rfl), rfl⟩
theorem wm_191 : Cond.selects RX4 yX4_readSum yX4_readSum ∈ wG := List.mem_filter.mpr ⟨List.mem_append_left _ (List.mem_of_getElem? (i := 11) rfl), rfl⟩
theorem wm_192 : Cond.code yX4_readSum cX4_readSum 4 none ∈ wG := List.mem_filter.mpr ⟨wT_2 _ (List.mem_of_getElem? (i := 216) rfl), rfl⟩
theorem wm_193 : Cond.methodLink RX4 65 yX4_readTerm ∈ wG := List.mem_filter.mpr ⟨wT_2 _ (List.mem_of_getElem? (i := 217) rfl), rfl⟩
theorem wm_194 : Cond.instanceMethod yX4_readTerm ∈ wG := List.mem_filter.mpr ⟨wT_2 _ (List.mem_of_getElem? (i := 219) rfl), rfl⟩
theorem wm_195 : Cond.selects RX4 yX4_readTerm yX4_readTerm ∈ wG := List.mem_filter.mpr ⟨List.mem_append_left _ (List.mem_of_getElem? (i := 12) rfl), rfl⟩
theorem wm_196 : Cond.code yX4_readTerm cX4_readTerm 3 none ∈ wG := List.mem_filter.mpr ⟨wT_2 _ (List.mem_of_getElem? (i := 220) rfl), rfl⟩
theorem wm_197 : Cond.methodLink RX4 68 yX4_readOne ∈ wG := List.mem_filter.mpr ⟨wT_2 _ (List.mem_of_getElem? (i := 221) rfl), rfl⟩
theorem wm_198 : Cond.instanceMethod yX4_readOne ∈ wG := List.mem_filter.mpr ⟨wT_2 _ (List.mem_of_getElem? (i := 223) rfl), rfl⟩
theorem wm_199 : Cond.selects RX4 yX4_readOne yX4_readOne ∈ wG := List.mem_filter.mpr ⟨List.mem_append_left _ (List.mem_of_getElem? (i := 13) rfl), rfl⟩
theorem wm_200 : Cond.code yX4_readOne cX4_readOne 2 none ∈ wG := List.mem_filter.mpr ⟨wT_2 _ (List.mem_of_getElem? (i := 224) rfl), rfl⟩
theorem wm_201 : Cond.methodLink RX4 71 yX4_fail ∈ wG := List.mem_filter.mpr ⟨wT_2 _ (List.mem_of_getElem? (i := 196) rfl), rfl⟩
theorem wm_202 : Cond.instanceMethod yX4_fail ∈ wG := List.mem_filter.mpr ⟨wT_2 _ (List.mem_of_getElem? (i := 198) rfl), rfl⟩
theorem wm_203 : Cond.selects RX4 yX4_fail yX4_fail ∈ wG := List.mem_filter.mpr ⟨List.mem_append_left _ (List.mem_of_getElem? (i := 7) rfl), rfl⟩
theorem wm_204 : Cond.code yX4_fail cX4_fail 1 none ∈ wG := List.mem_filter.mpr ⟨wT_2 _ (List.mem_of_getElem? (i := 199) rfl), rfl⟩
theorem wm_205 : Cond.fieldLink RX4 74 "WhereTheSpoonWent$Reader" "start" "I" ∈ wG := List.mem_filter.mpr ⟨wT_1 _ (List.mem_of_getElem? (i := 91) rfl), rfl⟩
theorem wm_206 : Cond.methodLink RX4 77 yX4_isDigit ∈ wG := List.mem_filter.mpr ⟨wT_2 _ (List.mem_of_getElem? (i := 107) rfl), rfl⟩
theorem wm_207 : Cond.methodLink RX4 84 yX4_isLetter ∈ wG := List.mem_filter.mpr ⟨wT_2 _ (List.mem_of_getElem? (i := 114) rfl), rfl⟩
theorem wm_208 : Cond.methodLink RX4 90 yX4_signOf ∈ wG := List.mem_filter.mpr ⟨wT_2 _ (List.mem_of_getElem? (i := 185) rfl), rfl⟩
theorem wm_209 : Cond.static yX4_signOf ∈ wG := List.mem_filter.mpr ⟨wT_2 _ (List.mem_of_getElem? (i := 186) rfl), rfl⟩
theorem wm_210 : Cond.code yX4_signOf cX4_signOf 1 (some .int) ∈ wG := List.mem_filter.mpr ⟨wT_2 _ (List.mem_of_getElem? (i := 187) rfl), rfl⟩
theorem wm_211 : Cond.methodLink RX4 87 yX4_goOnWord ∈ wG := List.mem_filter.mpr ⟨wT_2 _ (List.mem_of_getElem? (i := 117) rfl), rfl⟩
theorem wm_212 : Cond.instanceMethod yX4_goOnWord ∈ wG := List.mem_filter.mpr ⟨wT_2 _ (List.mem_of_getElem? (i := 119) rfl), rfl⟩
theorem wm_213 : Cond.selects RX4 yX4_goOnWord yX4_goOnWord ∈ wG := List.mem_filter.mpr ⟨List.mem_append_left _ (List.mem_of_getElem? (i := 3) rfl), rfl⟩
theorem wm_214 : Cond.code yX4_goOnWord cX4_goOnWord 1 none ∈ wG := List.mem_filter.mpr ⟨wT_2 _ (List.mem_of_getElem? (i := 120) rfl), rfl⟩
theorem wm_215 : Cond.static yX4_isLetter ∈ wG := List.mem_filter.mpr ⟨wT_2 _ (List.mem_of_getElem? (i := 115) rfl), rfl⟩
theorem wm_216 : Cond.code yX4_isLetter cX4_isLetter 1 (some .boolean) ∈ wG := List.mem_filter.mpr ⟨wT_2 _ (List.mem_of_getElem? (i := 116) rfl), rfl⟩
theorem wm_217 : Cond.methodLink RX4 81 yX4_goOnNumber ∈ wG := List.mem_filter.mpr ⟨wT_2 _ (List.mem_of_getElem? (i := 110) rfl), rfl⟩
theorem wm_218 : Cond.instanceMethod yX4_goOnNumber ∈ wG := List.mem_filter.mpr ⟨wT_2 _ (List.mem_of_getElem? (i := 112) rfl), rfl⟩
theorem wm_219 : Cond.selects RX4 yX4_goOnNumber yX4_goOnNumber ∈ wG := List.mem_filter.mpr ⟨List.mem_append_left _ (List.mem_of_getElem? (i := 2) rfl), rfl⟩
theorem wm_220 : Cond.code yX4_goOnNumber cX4_goOnNumber 2 none ∈ wG := List.mem_filter.mpr ⟨wT_2 _ (List.mem_of_getElem? (i := 113) rfl), rfl⟩
theorem wm_221 : Cond.static yX4_isDigit ∈ wG := List.mem_filter.mpr ⟨wT_2 _ (List.mem_of_getElem? (i := 108) rfl), rfl⟩
theorem wm_222 : Cond.code yX4_isDigit cX4_isDigit 1 (some .boolean) ∈ wG := List.mem_filter.mpr ⟨wT_2 _ (List.mem_of_getElem? (i := 109) rfl), rfl⟩
theorem wm_223 : Cond.methodLink RX4 96 yX4_isWord ∈ wG := List.mem_filter.mpr ⟨wT_2 _ (List.mem_of_getElem? (i := 122) rfl), rfl⟩
theorem wm_224 : Cond.instanceMethod yX4_isWord ∈ wG := List.mem_filter.mpr ⟨wT_2 _ (List.mem_of_getElem? (i := 124) rfl), rfl⟩
theorem wm_225 : Cond.selects RX4 yX4_isWord yX4_isWord ∈ wG := List.mem_filter.mpr ⟨List.mem_append_left _ (List.mem_of_getElem? (i := 4) rfl), rfl⟩
theorem wm_226 : Cond.code yX4_isWord cX4_isWord 3 (some .boolean) ∈ wG := List.mem_filter.mpr ⟨wT_2 _ (List.mem_of_getElem? (i := 125) rfl), rfl⟩
theorem wm_227 : Cond.methodLink RX4 122 yJ0_length_8abf5 ∈ wG := List.mem_filter.mpr ⟨wT_2 _ (List.mem_of_getElem? (i := 126) rfl), rfl⟩
theorem wm_228 : Cond.methodLink RX4 128 yJ0_charAt_5068e ∈ wG := List.mem_filter.mpr ⟨wT_2 _ (List.mem_of_getElem? (i := 136) rfl), rfl⟩
theorem wm_229 : Cond.methodLink RX5 7 yX10_isOne ∈ wG := List.mem_filter.mpr ⟨wT_4 _ (List.mem_of_getElem? (i := 110) rfl), rfl⟩
theorem wm_230 : Cond.fieldLink RX6 15 "WhereTheSpoonWent$Sheet" "sort" "I" ∈ wG := List.mem_filter.mpr ⟨wT_1 _ (List.mem_of_getElem? (i := 236) rfl), rfl⟩
theorem wm_231 : Cond.fieldLink RX6 19 "WhereTheSpoonWent$Sheet" "size" "I" ∈ wG := List.mem_filter.mpr ⟨wT_1 _ (List.mem_of_getElem? (i := 238) rfl), rfl⟩
theorem wm_232 : Cond.fieldLink RX6 9 "WhereTheSpoonWent$Sheet" "numbers" "[I" ∈ wG := List.mem_filter.mpr ⟨wT_1 _ (List.mem_of_getElem? (i := 234) rfl), rfl⟩
theorem wm_233 : Cond.methodLink RX7 9 yX10_isOne ∈ wG := List.mem_filter.mpr ⟨wT_4 _ (List.mem_of_getElem? (i := 119) rfl), rfl⟩
theorem wm_234 : Cond.superclass RX7 RX10 ∈ wG := List.mem_filter.mpr ⟨wT_1 _ (List.mem_of_getElem? (i := 163) rfl), rfl⟩
theorem wm_235 : Cond.methodLink RX8 7 yX7_isOne ∈ wG := List.mem_filter.mpr ⟨wT_4 _ (List.mem_of_getElem? (i := 123) rfl), rfl⟩
theorem wm_236 : Cond.sameMethod "WhereTheSpoonWent$Sticky" "WhereTheSpoonWent$Sticky" "isOne" "(I)Z" ∈ wG := List.mem_filter.mpr ⟨wT_6 _ (List.mem_of_getElem? (i := 90) rfl), rfl⟩
theorem wm_237 : Cond.superclass RX8 RX7 ∈ wG := List.mem_filter.mpr ⟨wT_1 _ (List.mem_of_getElem? (i := 177) rfl), rfl⟩
theorem wm_238 : Cond.instanceMethod yX7_isOne ∈ wG := List.mem_filter.mpr ⟨wT_4 _ (List.mem_of_getElem? (i := 117) rfl), rfl⟩
theorem wm_239 : Cond.initialized RX7 ∈ wG := List.mem_filter.mpr ⟨wT_1 _ (List.mem_of_getElem? (i := 6) rfl), rfl⟩
theorem wm_240 : Cond.code yX7_isOne cX7_isOne 2 (some .boolean) ∈ wG := List.mem_filter.mpr ⟨wT_4 _ (List.mem_of_getElem? (i := 118) rfl), rfl⟩
theorem wm_241 : Cond.methodLink RX8 11 yJ9_floorMod_7cf53 ∈ wG := List.mem_filter.mpr ⟨wT_3 _ (List.mem_of_getElem? (i := 94) rfl), rfl⟩
theorem wm_242 : Cond.static yJ9_floorMod_7cf53 ∈ wG := List.mem_filter.mpr ⟨wT_3 _ (List.mem_of_getElem? (i := 95) rfl), rfl⟩
theorem wm_243 : Cond.initialized RJ9 ∈ wG := List.mem_filter.mpr ⟨wT_1 _ (List.mem_of_getElem? (i := 18) rfl), rfl⟩
theorem wm_244 : Cond.code yJ9_floorMod_7cf53 cJ9_floorMod_7cf53 3 (some .int) ∈ wG := List.mem_filter.mpr ⟨wT_3 _ (List.mem_of_getElem? (i := 96) rfl), rfl⟩
theorem wm_245 : Cond.fieldLink RX9 21 "WhereTheSpoonWent$Text" "used" "I" ∈ wG := List.mem_filter.mpr ⟨wT_1 _ (List.mem_of_getElem? (i := 200) rfl), rfl⟩
theorem wm_246 : Cond.fieldLink RX9 25 "WhereTheSpoonWent$Text" "parts" "I" ∈ wG := List.mem_filter.mpr ⟨wT_1 _ (List.mem_of_getElem? (i := 201) rfl), rfl⟩
theorem wm_247 : Cond.fieldLink RX9 9 "WhereTheSpoonWent$Text" "codes" "[I" ∈ wG := List.mem_filter.mpr ⟨wT_1 _ (List.mem_of_getElem? (i := 197) rfl), rfl⟩
theorem wm_248 : Cond.fieldLink RX9 15 "WhereTheSpoonWent$Text" "starts" "[I" ∈ wG := List.mem_filter.mpr ⟨wT_1 _ (List.mem_of_getElem? (i := 198) rfl), rfl⟩
theorem wm_249 : Cond.methodLink RX9 28 yX9_clear ∈ wG := List.mem_filter.mpr ⟨wT_1 _ (List.mem_of_getElem? (i := 217) rfl), rfl⟩
theorem wm_250 : Cond.methodLink RX9 31 yX9_add ∈ wG := List.mem_filter.mpr ⟨wT_1 _ (List.mem_of_getElem? (i := 221) rfl), rfl⟩
theorem wm_251 : Cond.methodLink RX9 35 yX9_endPart ∈ wG := List.mem_filter.mpr ⟨wT_1 _ (List.mem_of_getElem? (i := 225) rfl), rfl⟩
theorem wm_252 : Cond.fieldLink RX9 18 "WhereTheSpoonWent$Text" "stack" "[I" ∈ wG := List.mem_filter.mpr ⟨wT_1 _ (List.mem_of_getElem? (i := 199) rfl), rfl⟩
theorem wm_253 : Cond.methodLink RX9 38 yX9_leaf ∈ wG := List.mem_filter.mpr ⟨wT_3 _ (List.mem_of_getElem? (i := 2) rfl), rfl⟩
theorem wm_254 : Cond.static yX9_leaf ∈ wG := List.mem_filter.mpr ⟨wT_3 _ (List.mem_of_getElem? (i := 3) rfl), rfl⟩
theorem wm_255 : Cond.code yX9_leaf cX9_leaf 5 (some .int) ∈ wG := List.mem_filter.mpr ⟨wT_3 _ (List.mem_of_getElem? (i := 4) rfl), rfl⟩
theorem wm_256 : Cond.methodLink RX9 46 Lib.Math.min.name ∈ wG := List.mem_filter.mpr ⟨wT_3 _ (List.mem_of_getElem? (i := 8) rfl), rfl⟩
theorem wm_257 : Cond.static Lib.Math.min.name ∈ wG := List.mem_filter.mpr ⟨wT_3 _ (List.mem_of_getElem? (i := 9) rfl), rfl⟩
theorem wm_258 : Cond.code Lib.Math.min.name Lib.Math.min.code 2 (some .int) ∈ wG := List.mem_filter.mpr ⟨wT_3 _ (List.mem_of_getElem? (i := 10) rfl), rfl⟩
theorem wm_259 : Cond.methodLink RX9 52 Lib.Math.max.name ∈ wG := List.mem_filter.mpr ⟨wT_3 _ (List.mem_of_getElem? (i := 11) rfl), rfl⟩
theorem wm_260 : Cond.static Lib.Math.max.name ∈ wG := List.mem_filter.mpr ⟨wT_3 _ (List.mem_of_getElem? (i := 12) rfl), rfl⟩
theorem wm_261 : Cond.code Lib.Math.max.name Lib.Math.max.code 2 (some .int) ∈ wG := List.mem_filter.mpr ⟨wT_3 _ (List.mem_of_getElem? (i := 13) rfl), rfl⟩
theorem wm_262 : Cond.methodLink RX9 42 yX9_joined ∈ wG := List.mem_filter.mpr ⟨wT_3 _ (List.mem_of_getElem? (i := 5) rfl), rfl⟩
theorem wm_263 : Cond.static yX9_joined ∈ wG := List.mem_filter.mpr ⟨wT_3 _ (List.mem_of_getElem? (i := 6) rfl), rfl⟩
theorem wm_264 : Cond.code yX9_joined cX9_joined 3 (some .int) ∈ wG := List.mem_filter.mpr ⟨wT_3 _ (List.mem_of_getElem? (i := 7) rfl), rfl⟩
theorem wm_265 : Cond.methodLink RX11 97 yX11_isCell ∈ wG := List.mem_filter.mpr ⟨wT_2 _ (List.mem_of_getElem? (i := 54) rfl), rfl⟩
theorem wm_266 : Cond.methodLink RX11 101 yX11_isAnyThingIn ∈ wG := List.mem_filter.mpr ⟨wT_2 _ (List.mem_of_getElem? (i := 57) rfl), rfl⟩
theorem wm_267 : Cond.instanceMethod yX11_isAnyThingIn ∈ wG := List.mem_filter.mpr ⟨wT_2 _ (List.mem_of_getElem? (i := 59) rfl), rfl⟩
theorem wm_268 : Cond.selects RX11 yX11_isAnyThingIn yX11_isAnyThingIn ∈ wG := List.mem_filter.mpr ⟨List.mem_append_left _ (List.mem_of_getElem? (i := 0) rfl), rfl⟩
theorem wm_269 : Cond.code yX11_isAnyThingIn cX11_isAnyThingIn 3 (some .boolean) ∈ wG := List.mem_filter.mpr ⟨wT_2 _ (List.mem_of_getElem? (i := 60) rfl), rfl⟩
theorem wm_270 : Cond.static yX11_isCell ∈ wG := List.mem_filter.mpr ⟨wT_2 _ (List.mem_of_getElem? (i := 55) rfl), rfl⟩
theorem wm_271 : Cond.code yX11_isCell cX11_isCell 1 (some .boolean) ∈ wG := List.mem_filter.mpr ⟨wT_2 _ (List.mem_of_getElem? (i := 56) rfl), rfl⟩
theorem wm_272 : Cond.fieldLink RX11 12 "WhereTheSpoonWent" "now" "LWhereTheSpoonWent$House;" ∈ wG := List.mem_filter.mpr ⟨wT_2 _ (List.mem_of_getElem? (i := 7) rfl), rfl⟩
theorem wm_273 : Cond.methodLink RX11 104 yX3_bits ∈ wG := List.mem_filter.mpr ⟨wT_2 _ (List.mem_of_getElem? (i := 61) rfl), rfl⟩
theorem wm_274 : Cond.methodLink RX11 108 yX11_has ∈ wG := List.mem_filter.mpr ⟨wT_2 _ (List.mem_of_getElem? (i := 65) rfl), rfl⟩
theorem wm_275 : Cond.instanceMethod yX3_bits ∈ wG := List.mem_filter.mpr ⟨wT_2 _ (List.mem_of_getElem? (i := 62) rfl), rfl⟩
theorem wm_276 : Cond.selects RX3 yX3_bits yX3_bits ∈ wG := List.mem_filter.mpr ⟨wT_2 _ (List.mem_of_getElem? (i := 63) rfl), rfl⟩
theorem wm_277 : Cond.code yX3_bits cX3_bits 2 (some .int) ∈ wG := List.mem_filter.mpr ⟨wT_2 _ (List.mem_of_getElem? (i := 64) rfl), rfl⟩
theorem wm_278 : Cond.methodLink RX11 112 yX3_flip ∈ wG := List.mem_filter.mpr ⟨wT_2 _ (List.mem_of_getElem? (i := 68) rfl), rfl⟩
theorem wm_279 : Cond.instanceMethod yX3_flip ∈ wG := List.mem_filter.mpr ⟨wT_2 _ (List.mem_of_getElem? (i := 69) rfl), rfl⟩
theorem wm_280 : Cond.selects RX3 yX3_flip yX3_flip ∈ wG := List.mem_filter.mpr ⟨wT_2 _ (List.mem_of_getElem? (i := 70) rfl), rfl⟩
theorem wm_281 : Cond.code yX3_flip cX3_flip 3 none ∈ wG := List.mem_filter.mpr ⟨wT_2 _ (List.mem_of_getElem? (i := 71) rfl), rfl⟩
theorem wm_282 : Cond.methodLink RX11 116 yX11_isStep ∈ wG := List.mem_filter.mpr ⟨wT_2 _ (List.mem_of_getElem? (i := 76) rfl), rfl⟩
theorem wm_283 : Cond.fieldLink RX11 119 "WhereTheSpoonWent$House" "step" "I" ∈ wG := List.mem_filter.mpr ⟨wT_1 _ (List.mem_of_getElem? (i := 42) rfl), rfl⟩
theorem wm_284 : Cond.static yX11_isStep ∈ wG := List.mem_filter.mpr ⟨wT_2 _ (List.mem_of_getElem? (i := 77) rfl), rfl⟩
theorem wm_285 : Cond.code yX11_isStep cX11_isStep 1 (some .boolean) ∈ wG := List.mem_filter.mpr ⟨wT_2 _ (List.mem_of_getElem? (i := 78) rfl), rfl⟩
theorem wm_286 : Cond.fieldLink RX11 122 "WhereTheSpoonWent$House" "things" "I" ∈ wG := List.mem_filter.mpr ⟨wT_1 _ (List.mem_of_getElem? (i := 46) rfl), rfl⟩
theorem wm_287 : Cond.fieldLink RX11 125 "WhereTheSpoonWent$House" "walls" "I" ∈ wG := List.mem_filter.mpr ⟨wT_1 _ (List.mem_of_getElem? (i := 35) rfl), rfl⟩
theorem wm_288 : Cond.fieldLink RX11 128 "WhereTheSpoonWent$House" "nets" "I" ∈ wG := List.mem_filter.mpr ⟨wT_1 _ (List.mem_of_getElem? (i := 37) rfl), rfl⟩
theorem wm_289 : Cond.fieldLink RX11 131 "WhereTheSpoonWent$House" "fans" "I" ∈ wG := List.mem_filter.mpr ⟨wT_1 _ (List.mem_of_getElem? (i := 40) rfl), rfl⟩
theorem wm_290 : Cond.fieldLink RX11 92 "WhereTheSpoonWent" "textCount" "I" ∈ wG := List.mem_filter.mpr ⟨wT_2 _ (List.mem_of_getElem? (i := 12) rfl), rfl⟩
theorem wm_291 : Cond.fieldLink RX11 134 "WhereTheSpoonWent$House" "law" "I" ∈ wG := List.mem_filter.mpr ⟨wT_1 _ (List.mem_of_getElem? (i := 44) rfl), rfl⟩
theorem wm_292 : Cond.fieldLink RX11 34 "WhereTheSpoonWent" "reader" "LWhereTheSpoonWent$Reader;" ∈ wG := List.mem_filter.mpr ⟨wT_2 _ (List.mem_of_getElem? (i := 13) rfl), rfl⟩
theorem wm_293 : Cond.fieldLink RX11 137 "WhereTheSpoonWent$Reader" "size" "I" ∈ wG := List.mem_filter.mpr ⟨wT_1 _ (List.mem_of_getElem? (i := 89) rfl), rfl⟩
theorem wm_294 : Cond.methodLink RX11 140 yX11_isByte ∈ wG := List.mem_filter.mpr ⟨wT_2 _ (List.mem_of_getElem? (i := 87) rfl), rfl⟩
theorem wm_295 : Cond.static yX11_isByte ∈ wG := List.mem_filter.mpr ⟨wT_2 _ (List.mem_of_getElem? (i := 88) rfl), rfl⟩
theorem wm_296 : Cond.code yX11_isByte cX11_isByte 1 (some .boolean) ∈ wG := List.mem_filter.mpr ⟨wT_2 _ (List.mem_of_getElem? (i := 89) rfl), rfl⟩
theorem wm_297 : Cond.methodLink RX11 143 yX4_add ∈ wG := List.mem_filter.mpr ⟨wT_2 _ (List.mem_of_getElem? (i := 90) rfl), rfl⟩
theorem wm_298 : Cond.instanceMethod yX4_add ∈ wG := List.mem_filter.mpr ⟨wT_2 _ (List.mem_of_getElem? (i := 91) rfl), rfl⟩
theorem wm_299 : Cond.selects RX4 yX4_add yX4_add ∈ wG := List.mem_filter.mpr ⟨wT_2 _ (List.mem_of_getElem? (i := 92) rfl), rfl⟩
theorem wm_300 : Cond.code yX4_add cX4_add 2 none ∈ wG := List.mem_filter.mpr ⟨wT_2 _ (List.mem_of_getElem? (i := 93) rfl), rfl⟩
theorem wm_301 : Cond.fieldLink RX11 27 "WhereTheSpoonWent" "texts" "[LWhereTheSpoonWent$Text;" ∈ wG := List.mem_filter.mpr ⟨wT_2 _ (List.mem_of_getElem? (i := 11) rfl), rfl⟩
theorem wm_302 : Cond.methodLink RX11 147 yX4_read ∈ wG := List.mem_filter.mpr ⟨wT_2 _ (List.mem_of_getElem? (i := 98) rfl), rfl⟩
theorem wm_303 : Cond.instanceMethod yX4_read ∈ wG := List.mem_filter.mpr ⟨wT_2 _ (List.mem_of_getElem? (i := 99) rfl), rfl⟩
theorem wm_304 : Cond.selects RX4 yX4_read yX4_read ∈ wG := List.mem_filter.mpr ⟨wT_2 _ (List.mem_of_getElem? (i := 100) rfl), rfl⟩
theorem wm_305 : Cond.code yX4_read cX4_read 2 (some .int) ∈ wG := List.mem_filter.mpr ⟨wT_2 _ (List.mem_of_getElem? (i := 101) rfl), rfl⟩
theorem wm_306 : Cond.methodLink RX11 151 yX11_law ∈ wG := List.mem_filter.mpr ⟨wT_2 _ (List.mem_of_getElem? (i := 234) rfl), rfl⟩
theorem wm_307 : Cond.methodLink RX11 154 yX9_says ∈ wG := List.mem_filter.mpr ⟨wT_2 _ (List.mem_of_getElem? (i := 238) rfl), rfl⟩
theorem wm_308 : Cond.instanceMethod yX11_law ∈ wG := List.mem_filter.mpr ⟨wT_2 _ (List.mem_of_getElem? (i := 236) rfl), rfl⟩
theorem wm_309 : Cond.selects RX11 yX11_law yX11_law ∈ wG := List.mem_filter.mpr ⟨List.mem_append_left _ (List.mem_of_getElem? (i := 14) rfl), rfl⟩
theorem wm_310 : Cond.code yX11_law cX11_law 1 (some (.object "WhereTheSpoonWent$Text")) ∈ wG := List.mem_filter.mpr ⟨wT_2 _ (List.mem_of_getElem? (i := 237) rfl), rfl⟩
theorem wm_311 : Cond.methodLink RX11 158 yX11_isOpen ∈ wG := List.mem_filter.mpr ⟨wT_3 _ (List.mem_of_getElem? (i := 18) rfl), rfl⟩
theorem wm_312 : Cond.methodLink RX11 161 yX11_isWay ∈ wG := List.mem_filter.mpr ⟨wT_3 _ (List.mem_of_getElem? (i := 22) rfl), rfl⟩
theorem wm_313 : Cond.fieldLink RX11 164 "WhereTheSpoonWent$House" "kinds" "[I" ∈ wG := List.mem_filter.mpr ⟨wT_1 _ (List.mem_of_getElem? (i := 48) rfl), rfl⟩
theorem wm_314 : Cond.fieldLink RX11 166 "WhereTheSpoonWent$House" "mores" "[I" ∈ wG := List.mem_filter.mpr ⟨wT_1 _ (List.mem_of_getElem? (i := 50) rfl), rfl⟩
theorem wm_315 : Cond.fieldLink RX11 169 "WhereTheSpoonWent$House" "cells" "[I" ∈ wG := List.mem_filter.mpr ⟨wT_1 _ (List.mem_of_getElem? (i := 52) rfl), rfl⟩
theorem wm_316 : Cond.fieldLink RX11 172 "WhereTheSpoonWent$House" "ways" "[I" ∈ wG := List.mem_filter.mpr ⟨wT_1 _ (List.mem_of_getElem? (i := 54) rfl), rfl⟩
theorem wm_317 : Cond.static yX11_isWay ∈ wG := List.mem_filter.mpr ⟨wT_3 _ (List.mem_of_getElem? (i := 23) rfl), rfl⟩
theorem wm_318 : Cond.code yX11_isWay cX11_isWay 1 (some .boolean) ∈ wG := List.mem_filter.mpr ⟨wT_3 _ (List.mem_of_getElem? (i := 24) rfl), rfl⟩
theorem wm_319 : Cond.instanceMethod yX11_isOpen ∈ wG := List.mem_filter.mpr ⟨wT_3 _ (List.mem_of_getElem? (i := 20) rfl), rfl⟩
theorem wm_320 : Cond.selects RX11 yX11_isOpen yX11_isOpen ∈ wG := List.mem_filter.mpr ⟨List.mem_append_left _ (List.mem_of_getElem? (i := 15) rfl), rfl⟩
theorem wm_321 : Cond.code yX11_isOpen cX11_isOpen 2 (some .boolean) ∈ wG := List.mem_filter.mpr ⟨wT_3 _ (List.mem_of_getElem? (i := 21) rfl), rfl⟩
theorem wm_322 : Cond.methodLink RX11 175 yX11_isThing ∈ wG := List.mem_filter.mpr ⟨wT_3 _ (List.mem_of_getElem? (i := 29) rfl), rfl⟩
theorem wm_323 : Cond.instanceMethod yX11_isThing ∈ wG := List.mem_filter.mpr ⟨wT_3 _ (List.mem_of_getElem? (i := 31) rfl), rfl⟩
theorem wm_324 : Cond.selects RX11 yX11_isThing yX11_isThing ∈ wG := List.mem_filter.mpr ⟨List.mem_append_left _ (List.mem_of_getElem? (i := 16) rfl), rfl⟩
theorem wm_325 : Cond.code yX11_isThing cX11_isThing 2 (some .boolean) ∈ wG := List.mem_filter.mpr ⟨wT_3 _ (List.mem_of_getElem? (i := 32) rfl), rfl⟩
theorem wm_326 : Cond.methodLink RX11 178 yX11_isBehind ∈ wG := List.mem_filter.mpr ⟨wT_3 _ (List.mem_of_getElem? (i := 41) rfl), rfl⟩
theorem wm_327 : Cond.methodLink RX11 181 yX11_isChoice ∈ wG := List.mem_filter.mpr ⟨wT_3 _ (List.mem_of_getElem? (i := 44) rfl), rfl⟩
theorem wm_328 : Cond.methodLink RX11 184 yX11_behind ∈ wG := List.mem_filter.mpr ⟨wT_3 _ (List.mem_of_getElem? (i := 47) rfl), rfl⟩
theorem wm_329 : Cond.fieldLink RX11 191 "WhereTheSpoonWent$Flight" "way" "I" ∈ wG := List.mem_filter.mpr ⟨wT_1 _ (List.mem_of_getElem? (i := 133) rfl), rfl⟩
theorem wm_330 : Cond.fieldLink RX11 188 "WhereTheSpoonWent$Flight" "cell" "I" ∈ wG := List.mem_filter.mpr ⟨wT_1 _ (List.mem_of_getElem? (i := 131) rfl), rfl⟩
theorem wm_331 : Cond.instanceMethod yX11_behind ∈ wG := List.mem_filter.mpr ⟨wT_3 _ (List.mem_of_getElem? (i := 49) rfl), rfl⟩
theorem wm_332 : Cond.selects RX11 yX11_behind yX11_behind ∈ wG := List.mem_filter.mpr ⟨List.mem_append_left _ (List.mem_of_getElem? (i := 17) rfl), rfl⟩
theorem wm_333 : Cond.code yX11_behind cX11_behind 4 (some (.object "WhereTheSpoonWent$Flight")) ∈ wG := List.mem_filter.mpr ⟨wT_3 _ (List.mem_of_getElem? (i := 50) rfl), rfl⟩
theorem wm_334 : Cond.static yX11_isChoice ∈ wG := List.mem_filter.mpr ⟨wT_3 _ (List.mem_of_getElem? (i := 45) rfl), rfl⟩
theorem wm_335 : Cond.code yX11_isChoice cX11_isChoice 1 (some .boolean) ∈ wG := List.mem_filter.mpr ⟨wT_3 _ (List.mem_of_getElem? (i := 46) rfl), rfl⟩
theorem wm_336 : Cond.static yX11_isBehind ∈ wG := List.mem_filter.mpr ⟨wT_3 _ (List.mem_of_getElem? (i := 42) rfl), rfl⟩
theorem wm_337 : Cond.code yX11_isBehind cX11_isBehind 1 (some .boolean) ∈ wG := List.mem_filter.mpr ⟨wT_3 _ (List.mem_of_getElem? (i := 43) rfl), rfl⟩
theorem wm_338 : Cond.methodLink RX11 194 Lib.Math.min.name ∈ wG := List.mem_filter.mpr ⟨wT_3 _ (List.mem_of_getElem? (i := 121) rfl), rfl⟩
theorem wm_339 : Cond.methodLink RX11 200 yX11_lift ∈ wG := List.mem_filter.mpr ⟨wT_3 _ (List.mem_of_getElem? (i := 51) rfl), rfl⟩
theorem wm_340 : Cond.methodLink RX11 204 yX11_follow ∈ wG := List.mem_filter.mpr ⟨wT_3 _ (List.mem_of_getElem? (i := 126) rfl), rfl⟩
theorem wm_341 : Cond.methodLink RX11 208 yX11_firstIn ∈ wG := List.mem_filter.mpr ⟨wT_3 _ (List.mem_of_getElem? (i := 138) rfl), rfl⟩
theorem wm_342 : Cond.instanceMethod yX11_firstIn ∈ wG := List.mem_filter.mpr ⟨wT_3 _ (List.mem_of_getElem? (i := 140) rfl), rfl⟩
theorem wm_343 : Cond.selects RX11 yX11_firstIn yX11_firstIn ∈ wG := List.mem_filter.mpr ⟨List.mem_append_left _ (List.mem_of_getElem? (i := 21) rfl), rfl⟩
theorem wm_344 : Cond.code yX11_firstIn cX11_firstIn 3 (some .int) ∈ wG := List.mem_filter.mpr ⟨wT_3 _ (List.mem_of_getElem? (i := 141) rfl), rfl⟩
theorem wm_345 : Cond.instanceMethod yX11_follow ∈ wG := List.mem_filter.mpr ⟨wT_3 _ (List.mem_of_getElem? (i := 128) rfl), rfl⟩
theorem wm_346 : Cond.selects RX11 yX11_follow yX11_follow ∈ wG := List.mem_filter.mpr ⟨List.mem_append_left _ (List.mem_of_getElem? (i := 19) rfl), rfl⟩
theorem wm_347 : Cond.code yX11_follow cX11_follow 2 none ∈ wG := List.mem_filter.mpr ⟨wT_3 _ (List.mem_of_getElem? (i := 129) rfl), rfl⟩
theorem wm_348 : Cond.instanceMethod yX11_lift ∈ wG := List.mem_filter.mpr ⟨wT_3 _ (List.mem_of_getElem? (i := 53) rfl), rfl⟩
theorem wm_349 : Cond.selects RX11 yX11_lift yX11_lift ∈ wG := List.mem_filter.mpr ⟨List.mem_append_left _ (List.mem_of_getElem? (i := 18) rfl), rfl⟩
theorem wm_350 : Cond.code yX11_lift cX11_lift 2 (some (.object "WhereTheSpoonWent$Flight")) ∈ wG := List.mem_filter.mpr ⟨wT_3 _ (List.mem_of_getElem? (i := 54) rfl), rfl⟩
theorem wm_351 : Cond.fieldLink RX11 53 "WhereTheSpoonWent" "path" "[I" ∈ wG := List.mem_filter.mpr ⟨wT_2 _ (List.mem_of_getElem? (i := 16) rfl), rfl⟩
theorem wm_352 : Cond.methodLink RX11 211 yX1_pass ∈ wG := List.mem_filter.mpr ⟨wT_3 _ (List.mem_of_getElem? (i := 137) rfl), rfl⟩
theorem wm_353 : Cond.methodLink RX11 214 yX11_measure ∈ wG := List.mem_filter.mpr ⟨wT_3 _ (List.mem_of_getElem? (i := 154) rfl), rfl⟩
theorem wm_354 : Cond.methodLink RX11 217 yX11_soonest ∈ wG := List.mem_filter.mpr ⟨wT_3 _ (List.mem_of_getElem? (i := 159) rfl), rfl⟩
theorem wm_355 : Cond.instanceMethod yX11_soonest ∈ wG := List.mem_filter.mpr ⟨wT_3 _ (List.mem_of_getElem? (i := 161) rfl), rfl⟩
theorem wm_356 : Cond.selects RX11 yX11_soonest yX11_soonest ∈ wG := List.mem_filter.mpr ⟨List.mem_append_left _ (List.mem_of_getElem? (i := 23) rfl), rfl⟩
theorem wm_357 : Cond.code yX11_soonest cX11_soonest 6 (some .int) ∈ wG := List.mem_filter.mpr ⟨wT_3 _ (List.mem_of_getElem? (i := 162) rfl), rfl⟩
theorem wm_358 : Cond.instanceMethod yX11_measure ∈ wG := List.mem_filter.mpr ⟨wT_3 _ (List.mem_of_getElem? (i := 156) rfl), rfl⟩
theorem wm_359 : Cond.selects RX11 yX11_measure yX11_measure ∈ wG := List.mem_filter.mpr ⟨List.mem_append_left _ (List.mem_of_getElem? (i := 22) rfl), rfl⟩
theorem wm_360 : Cond.code yX11_measure cX11_measure 6 none ∈ wG := List.mem_filter.mpr ⟨wT_3 _ (List.mem_of_getElem? (i := 157) rfl), rfl⟩
theorem wm_361 : Cond.methodLink RX11 220 yX11_says ∈ wG := List.mem_filter.mpr ⟨wT_3 _ (List.mem_of_getElem? (i := 163) rfl), rfl⟩
theorem wm_362 : Cond.instanceMethod yX11_says ∈ wG := List.mem_filter.mpr ⟨wT_3 _ (List.mem_of_getElem? (i := 165) rfl), rfl⟩
theorem wm_363 : Cond.selects RX11 yX11_says yX11_says ∈ wG := List.mem_filter.mpr ⟨List.mem_append_left _ (List.mem_of_getElem? (i := 24) rfl), rfl⟩
theorem wm_364 : Cond.code yX11_says cX11_says 4 (some .int) ∈ wG := List.mem_filter.mpr ⟨wT_3 _ (List.mem_of_getElem? (i := 166) rfl), rfl⟩
theorem wm_365 : Cond.methodLink RX11 223 yX11_letGo ∈ wG := List.mem_filter.mpr ⟨wT_3 _ (List.mem_of_getElem? (i := 179) rfl), rfl⟩
theorem wm_366 : Cond.instanceMethod yX11_letGo ∈ wG := List.mem_filter.mpr ⟨wT_3 _ (List.mem_of_getElem? (i := 181) rfl), rfl⟩
theorem wm_367 : Cond.selects RX11 yX11_letGo yX11_letGo ∈ wG := List.mem_filter.mpr ⟨List.mem_append_left _ (List.mem_of_getElem? (i := 25) rfl), rfl⟩
theorem wm_368 : Cond.code yX11_letGo cX11_letGo 4 (some (.object "WhereTheSpoonWent$Flight")) ∈ wG := List.mem_filter.mpr ⟨wT_3 _ (List.mem_of_getElem? (i := 182) rfl), rfl⟩
theorem wm_369 : Cond.methodLink RX11 226 yX11_turned ∈ wG := List.mem_filter.mpr ⟨wT_3 _ (List.mem_of_getElem? (i := 134) rfl), rfl⟩
theorem wm_370 : Cond.static yX11_turned ∈ wG := List.mem_filter.mpr ⟨wT_3 _ (List.mem_of_getElem? (i := 135) rfl), rfl⟩
theorem wm_371 : Cond.code yX11_turned cX11_turned 1 (some .int) ∈ wG := List.mem_filter.mpr ⟨wT_3 _ (List.mem_of_getElem? (i := 136) rfl), rfl⟩
theorem wm_372 : Cond.methodLink RX11 229 yX11_followTurned ∈ wG := List.mem_filter.mpr ⟨wT_3 _ (List.mem_of_getElem? (i := 130) rfl), rfl⟩
theorem wm_373 : Cond.instanceMethod yX11_followTurned ∈ wG := List.mem_filter.mpr ⟨wT_3 _ (List.mem_of_getElem? (i := 132) rfl), rfl⟩
theorem wm_374 : Cond.selects RX11 yX11_followTurned yX11_followTurned ∈ wG := List.mem_filter.mpr ⟨List.mem_append_left _ (List.mem_of_getElem? (i := 20) rfl), rfl⟩
theorem wm_375 : Cond.code yX11_followTurned cX11_followTurned 4 none ∈ wG := List.mem_filter.mpr ⟨wT_3 _ (List.mem_of_getElem? (i := 133) rfl), rfl⟩
theorem wm_376 : Cond.methodLink RX11 233 yX11_caught ∈ wG := List.mem_filter.mpr ⟨wT_3 _ (List.mem_of_getElem? (i := 195) rfl), rfl⟩
theorem wm_377 : Cond.instanceMethod yX11_caught ∈ wG := List.mem_filter.mpr ⟨wT_3 _ (List.mem_of_getElem? (i := 197) rfl), rfl⟩
theorem wm_378 : Cond.selects RX11 yX11_caught yX11_caught ∈ wG := List.mem_filter.mpr ⟨List.mem_append_left _ (List.mem_of_getElem? (i := 26) rfl), rfl⟩
theorem wm_379 : Cond.code yX11_caught cX11_caught 6 (some .int) ∈ wG := List.mem_filter.mpr ⟨wT_3 _ (List.mem_of_getElem? (i := 198) rfl), rfl⟩
theorem wm_380 : Cond.methodLink RX11 236 yX11_endOf ∈ wG := List.mem_filter.mpr ⟨wT_3 _ (List.mem_of_getElem? (i := 203) rfl), rfl⟩
theorem wm_381 : Cond.instanceMethod yX11_endOf ∈ wG := List.mem_filter.mpr ⟨wT_3 _ (List.mem_of_getElem? (i := 205) rfl), rfl⟩
theorem wm_382 : Cond.selects RX11 yX11_endOf yX11_endOf ∈ wG := List.mem_filter.mpr ⟨List.mem_append_left _ (List.mem_of_getElem? (i := 27) rfl), rfl⟩
theorem wm_383 : Cond.code yX11_endOf cX11_endOf 5 (some .int) ∈ wG := List.mem_filter.mpr ⟨wT_3 _ (List.mem_of_getElem? (i := 206) rfl), rfl⟩
theorem wm_384 : Cond.methodLink RX11 239 yX11_tallyEnds ∈ wG := List.mem_filter.mpr ⟨wT_3 _ (List.mem_of_getElem? (i := 211) rfl), rfl⟩
theorem wm_385 : Cond.instanceMethod yX11_tallyEnds ∈ wG := List.mem_filter.mpr ⟨wT_3 _ (List.mem_of_getElem? (i := 213) rfl), rfl⟩
theorem wm_386 : Cond.selects RX11 yX11_tallyEnds yX11_tallyEnds ∈ wG := List.mem_filter.mpr ⟨List.mem_append_left _ (List.mem_of_getElem? (i := 28) rfl), rfl⟩
theorem wm_387 : Cond.code yX11_tallyEnds cX11_tallyEnds 4 none ∈ wG := List.mem_filter.mpr ⟨wT_3 _ (List.mem_of_getElem? (i := 214) rfl), rfl⟩
theorem wm_388 : Cond.fieldLink RX11 66 "WhereTheSpoonWent" "tally" "[I" ∈ wG := List.mem_filter.mpr ⟨wT_2 _ (List.mem_of_getElem? (i := 20) rfl), rfl⟩
theorem wm_389 : Cond.constantLong RX11 242 (-4611686018427387904) ∈ wG := List.mem_filter.mpr ⟨wT_3 _ (List.mem_of_getElem? (i := 223) rfl), rfl⟩
theorem wm_390 : Cond.methodLink RX11 247 yX11_fraction ∈ wG := List.mem_filter.mpr ⟨wT_3 _ (List.mem_of_getElem? (i := 228) rfl), rfl⟩
theorem wm_391 : Cond.static yX11_fraction ∈ wG := List.mem_filter.mpr ⟨wT_3 _ (List.mem_of_getElem? (i := 229) rfl), rfl⟩
theorem wm_392 : Cond.code yX11_fraction cX11_fraction 7 (some .long) ∈ wG := List.mem_filter.mpr ⟨wT_3 _ (List.mem_of_getElem? (i := 230) rfl), rfl⟩
theorem wm_393 : Cond.methodLink RX11 244 yX11_countAhead ∈ wG := List.mem_filter.mpr ⟨wT_3 _ (List.mem_of_getElem? (i := 224) rfl), rfl⟩
theorem wm_394 : Cond.instanceMethod yX11_countAhead ∈ wG := List.mem_filter.mpr ⟨wT_3 _ (List.mem_of_getElem? (i := 226) rfl), rfl⟩
theorem wm_395 : Cond.selects RX11 yX11_countAhead yX11_countAhead ∈ wG := List.mem_filter.mpr ⟨List.mem_append_left _ (List.mem_of_getElem? (i := 29) rfl), rfl⟩
theorem wm_396 : Cond.code yX11_countAhead cX11_countAhead 4 (some .int) ∈ wG := List.mem_filter.mpr ⟨wT_3 _ (List.mem_of_getElem? (i := 227) rfl), rfl⟩
theorem wm_397 : Cond.methodLink RX11 251 yX11_refusalOfPlaces ∈ wG := List.mem_filter.mpr ⟨wT_3 _ (List.mem_of_getElem? (i := 235) rfl), rfl⟩
theorem wm_398 : Cond.methodLink RX11 254 yX11_firstElsewhere ∈ wG := List.mem_filter.mpr ⟨wT_4 _ (List.mem_of_getElem? (i := 2) rfl), rfl⟩
theorem wm_399 : Cond.instanceMethod yX11_firstElsewhere ∈ wG := List.mem_filter.mpr ⟨wT_4 _ (List.mem_of_getElem? (i := 4) rfl), rfl⟩
theorem wm_400 : Cond.selects RX11 yX11_firstElsewhere yX11_firstElsewhere ∈ wG := List.mem_filter.mpr ⟨List.mem_append_left _ (List.mem_of_getElem? (i := 31) rfl), rfl⟩
theorem wm_401 : Cond.code yX11_firstElsewhere cX11_firstElsewhere 6 (some .int) ∈ wG := List.mem_filter.mpr ⟨wT_4 _ (List.mem_of_getElem? (i := 5) rfl), rfl⟩
theorem wm_402 : Cond.instanceMethod yX11_refusalOfPlaces ∈ wG := List.mem_filter.mpr ⟨wT_3 _ (List.mem_of_getElem? (i := 237) rfl), rfl⟩
theorem wm_403 : Cond.selects RX11 yX11_refusalOfPlaces yX11_refusalOfPlaces ∈ wG := List.mem_filter.mpr ⟨List.mem_append_left _ (List.mem_of_getElem? (i := 30) rfl), rfl⟩
theorem wm_404 : Cond.code yX11_refusalOfPlaces cX11_refusalOfPlaces 2 (some .int) ∈ wG := List.mem_filter.mpr ⟨wT_3 _ (List.mem_of_getElem? (i := 238) rfl), rfl⟩
theorem wm_405 : Cond.constantLong RX11 258 (2199023255551) ∈ wG := List.mem_filter.mpr ⟨wT_4 _ (List.mem_of_getElem? (i := 10) rfl), rfl⟩
theorem wm_406 : Cond.fieldLink RX11 40 "WhereTheSpoonWent" "sheets" "[LWhereTheSpoonWent$Sheet;" ∈ wG := List.mem_filter.mpr ⟨wT_2 _ (List.mem_of_getElem? (i := 14) rfl), rfl⟩
theorem wm_407 : Cond.fieldLink RX11 260 "WhereTheSpoonWent$Sheet" "numbers" "[I" ∈ wG := List.mem_filter.mpr ⟨wT_1 _ (List.mem_of_getElem? (i := 235) rfl), rfl⟩
theorem wm_408 : Cond.constantLong RX11 263 (-1) ∈ wG := List.mem_filter.mpr ⟨wT_4 _ (List.mem_of_getElem? (i := 11) rfl), rfl⟩
theorem wm_409 : Cond.methodLink RX11 265 yX11_isSheet ∈ wG := List.mem_filter.mpr ⟨wT_3 _ (List.mem_of_getElem? (i := 239) rfl), rfl⟩
theorem wm_410 : Cond.methodLink RX11 268 yX6_become ∈ wG := List.mem_filter.mpr ⟨wT_4 _ (List.mem_of_getElem? (i := 20) rfl), rfl⟩
theorem wm_411 : Cond.instanceMethod yX6_become ∈ wG := List.mem_filter.mpr ⟨wT_4 _ (List.mem_of_getElem? (i := 21) rfl), rfl⟩
theorem wm_412 : Cond.selects RX6 yX6_become yX6_become ∈ wG := List.mem_filter.mpr ⟨wT_4 _ (List.mem_of_getElem? (i := 22) rfl), rfl⟩
theorem wm_413 : Cond.initialized RX6 ∈ wG := List.mem_filter.mpr ⟨wT_1 _ (List.mem_of_getElem? (i := 12) rfl), rfl⟩
theorem wm_414 : Cond.code yX6_become cX6_become 4 none ∈ wG := List.mem_filter.mpr ⟨wT_4 _ (List.mem_of_getElem? (i := 23) rfl), rfl⟩
theorem wm_415 : Cond.static yX11_isSheet ∈ wG := List.mem_filter.mpr ⟨wT_4 _ (List.mem_of_getElem? (i := 0) rfl), rfl⟩
theorem wm_416 : Cond.code yX11_isSheet cX11_isSheet 1 (some .boolean) ∈ wG := List.mem_filter.mpr ⟨wT_4 _ (List.mem_of_getElem? (i := 1) rfl), rfl⟩
theorem wm_417 : Cond.methodLink RX11 271 yX11_isSeed ∈ wG := List.mem_filter.mpr ⟨wT_4 _ (List.mem_of_getElem? (i := 28) rfl), rfl⟩
theorem wm_418 : Cond.methodLink RX11 274 yX11_listEnds ∈ wG := List.mem_filter.mpr ⟨wT_4 _ (List.mem_of_getElem? (i := 32) rfl), rfl⟩
theorem wm_419 : Cond.methodLink RX11 277 yX11_countDrawn ∈ wG := List.mem_filter.mpr ⟨wT_4 _ (List.mem_of_getElem? (i := 36) rfl), rfl⟩
theorem wm_420 : Cond.instanceMethod yX11_countDrawn ∈ wG := List.mem_filter.mpr ⟨wT_4 _ (List.mem_of_getElem? (i := 38) rfl), rfl⟩
theorem wm_421 : Cond.selects RX11 yX11_countDrawn yX11_countDrawn ∈ wG := List.mem_filter.mpr ⟨List.mem_append_left _ (List.mem_of_getElem? (i := 33) rfl), rfl⟩
theorem wm_422 : Cond.code yX11_countDrawn cX11_countDrawn 8 (some .int) ∈ wG := List.mem_filter.mpr ⟨wT_4 _ (List.mem_of_getElem? (i := 39) rfl), rfl⟩
theorem wm_423 : Cond.instanceMethod yX11_listEnds ∈ wG := List.mem_filter.mpr ⟨wT_4 _ (List.mem_of_getElem? (i := 34) rfl), rfl⟩
theorem wm_424 : Cond.selects RX11 yX11_listEnds yX11_listEnds ∈ wG := List.mem_filter.mpr ⟨List.mem_append_left _ (List.mem_of_getElem? (i := 32) rfl), rfl⟩
theorem wm_425 : Cond.code yX11_listEnds cX11_listEnds 4 none ∈ wG := List.mem_filter.mpr ⟨wT_4 _ (List.mem_of_getElem? (i := 35) rfl), rfl⟩
theorem wm_426 : Cond.static yX11_isSeed ∈ wG := List.mem_filter.mpr ⟨wT_4 _ (List.mem_of_getElem? (i := 29) rfl), rfl⟩
theorem wm_427 : Cond.code yX11_isSeed cX11_isSeed 1 (some .boolean) ∈ wG := List.mem_filter.mpr ⟨wT_4 _ (List.mem_of_getElem? (i := 30) rfl), rfl⟩
theorem wm_428 : Cond.fieldLink RX11 16 "WhereTheSpoonWent" "kept" "LWhereTheSpoonWent$House;" ∈ wG := List.mem_filter.mpr ⟨wT_2 _ (List.mem_of_getElem? (i := 8) rfl), rfl⟩
theorem wm_429 : Cond.methodLink RX11 280 yX3_become ∈ wG := List.mem_filter.mpr ⟨wT_4 _ (List.mem_of_getElem? (i := 51) rfl), rfl⟩
theorem wm_430 : Cond.fieldLink RX11 282 "WhereTheSpoonWent" "isKept" "Z" ∈ wG := List.mem_filter.mpr ⟨wT_2 _ (List.mem_of_getElem? (i := 9) rfl), rfl⟩
theorem wm_431 : Cond.instanceMethod yX3_become ∈ wG := List.mem_filter.mpr ⟨wT_4 _ (List.mem_of_getElem? (i := 52) rfl), rfl⟩
theorem wm_432 : Cond.selects RX3 yX3_become yX3_become ∈ wG := List.mem_filter.mpr ⟨wT_4 _ (List.mem_of_getElem? (i := 53) rfl), rfl⟩
theorem wm_433 : Cond.code yX3_become cX3_become 2 none ∈ wG := List.mem_filter.mpr ⟨wT_4 _ (List.mem_of_getElem? (i := 54) rfl), rfl⟩
theorem wm_434 : Cond.fieldLink RX11 286 "WhereTheSpoonWent$Sheet" "sort" "I" ∈ wG := List.mem_filter.mpr ⟨wT_1 _ (List.mem_of_getElem? (i := 237) rfl), rfl⟩
theorem wm_435 : Cond.methodLink RX11 289 yX6_holds ∈ wG := List.mem_filter.mpr ⟨wT_4 _ (List.mem_of_getElem? (i := 70) rfl), rfl⟩
theorem wm_436 : Cond.methodLink RX11 292 yX6_write ∈ wG := List.mem_filter.mpr ⟨wT_4 _ (List.mem_of_getElem? (i := 74) rfl), rfl⟩
theorem wm_437 : Cond.instanceMethod yX6_write ∈ wG := List.mem_filter.mpr ⟨wT_4 _ (List.mem_of_getElem? (i := 75) rfl), rfl⟩
theorem wm_438 : Cond.selects RX6 yX6_write yX6_write ∈ wG := List.mem_filter.mpr ⟨wT_4 _ (List.mem_of_getElem? (i := 76) rfl), rfl⟩
theorem wm_439 : Cond.code yX6_write cX6_write 3 none ∈ wG := List.mem_filter.mpr ⟨wT_4 _ (List.mem_of_getElem? (i := 77) rfl), rfl⟩
theorem wm_440 : Cond.instanceMethod yX6_holds ∈ wG := List.mem_filter.mpr ⟨wT_4 _ (List.mem_of_getElem? (i := 71) rfl), rfl⟩
theorem wm_441 : Cond.selects RX6 yX6_holds yX6_holds ∈ wG := List.mem_filter.mpr ⟨wT_4 _ (List.mem_of_getElem? (i := 72) rfl), rfl⟩
theorem wm_442 : Cond.code yX6_holds cX6_holds 3 (some .boolean) ∈ wG := List.mem_filter.mpr ⟨wT_4 _ (List.mem_of_getElem? (i := 73) rfl), rfl⟩
theorem wm_443 : Cond.methodLink RX11 295 arraycopyName ∈ wG := List.mem_filter.mpr ⟨wT_4 _ (List.mem_of_getElem? (i := 82) rfl), rfl⟩
theorem wm_444 : Cond.methodLink RX11 301 yX11_thing ∈ wG := List.mem_filter.mpr ⟨wT_4 _ (List.mem_of_getElem? (i := 87) rfl), rfl⟩
theorem wm_445 : Cond.instanceMethod yX11_thing ∈ wG := List.mem_filter.mpr ⟨wT_3 _ (List.mem_of_getElem? (i := 15) rfl), rfl⟩
theorem wm_446 : Cond.selects RX11 yX11_thing yX11_thing ∈ wG := List.mem_filter.mpr ⟨wT_3 _ (List.mem_of_getElem? (i := 16) rfl), rfl⟩
theorem wm_447 : Cond.code yX11_thing cX11_thing 5 (some .int) ∈ wG := List.mem_filter.mpr ⟨wT_3 _ (List.mem_of_getElem? (i := 17) rfl), rfl⟩
theorem wm_448 : Cond.methodLink RX11 307 yX11_takenThing ∈ wG := List.mem_filter.mpr ⟨wT_4 _ (List.mem_of_getElem? (i := 96) rfl), rfl⟩
theorem wm_449 : Cond.instanceMethod yX11_takenThing ∈ wG := List.mem_filter.mpr ⟨wT_4 _ (List.mem_of_getElem? (i := 98) rfl), rfl⟩
theorem wm_450 : Cond.selects RX11 yX11_takenThing yX11_takenThing ∈ wG := List.mem_filter.mpr ⟨List.mem_append_left _ (List.mem_of_getElem? (i := 35) rfl), rfl⟩
theorem wm_451 : Cond.code yX11_takenThing cX11_takenThing 3 (some .int) ∈ wG := List.mem_filter.mpr ⟨wT_4 _ (List.mem_of_getElem? (i := 99) rfl), rfl⟩
theorem wm_452 : Cond.methodLink RX11 304 yX11_takenCell ∈ wG := List.mem_filter.mpr ⟨wT_4 _ (List.mem_of_getElem? (i := 92) rfl), rfl⟩
theorem wm_453 : Cond.instanceMethod yX11_takenCell ∈ wG := List.mem_filter.mpr ⟨wT_4 _ (List.mem_of_getElem? (i := 94) rfl), rfl⟩
theorem wm_454 : Cond.selects RX11 yX11_takenCell yX11_takenCell ∈ wG := List.mem_filter.mpr ⟨List.mem_append_left _ (List.mem_of_getElem? (i := 34) rfl), rfl⟩
theorem wm_455 : Cond.code yX11_takenCell cX11_takenCell 3 (some .int) ∈ wG := List.mem_filter.mpr ⟨wT_4 _ (List.mem_of_getElem? (i := 95) rfl), rfl⟩
theorem wm_456 : Cond.constant RX11 310 (99999) ∈ wG := List.mem_filter.mpr ⟨wT_4 _ (List.mem_of_getElem? (i := 31) rfl), rfl⟩
theorem wm_457 : Cond.fieldLink RX11 49 "WhereTheSpoonWent" "flight" "LWhereTheSpoonWent$Flight;" ∈ wG := List.mem_filter.mpr ⟨wT_2 _ (List.mem_of_getElem? (i := 15) rfl), rfl⟩
theorem wm_458 : Cond.fieldLink RX11 311 "WhereTheSpoonWent$Flight" "law" "LWhereTheSpoonWent$Text;" ∈ wG := List.mem_filter.mpr ⟨wT_1 _ (List.mem_of_getElem? (i := 121) rfl), rfl⟩
theorem wm_459 : Cond.fieldLink RX11 314 "WhereTheSpoonWent$Flight" "nets" "I" ∈ wG := List.mem_filter.mpr ⟨wT_1 _ (List.mem_of_getElem? (i := 125) rfl), rfl⟩
theorem wm_460 : Cond.fieldLink RX11 315 "WhereTheSpoonWent$Flight" "number" "I" ∈ wG := List.mem_filter.mpr ⟨wT_1 _ (List.mem_of_getElem? (i := 127) rfl), rfl⟩
theorem wm_461 : Cond.fieldLink RX11 21 "WhereTheSpoonWent" "kinds" "[LWhereTheSpoonWent$Thing;" ∈ wG := List.mem_filter.mpr ⟨wT_2 _ (List.mem_of_getElem? (i := 10) rfl), rfl⟩
theorem wm_462 : Cond.fieldLink RX11 318 "WhereTheSpoonWent$Flight" "kind" "LWhereTheSpoonWent$Thing;" ∈ wG := List.mem_filter.mpr ⟨wT_1 _ (List.mem_of_getElem? (i := 123) rfl), rfl⟩
theorem wm_463 : Cond.fieldLink RX11 322 "WhereTheSpoonWent$Flight" "more" "I" ∈ wG := List.mem_filter.mpr ⟨wT_1 _ (List.mem_of_getElem? (i := 129) rfl), rfl⟩
theorem wm_464 : Cond.methodLink RX11 325 yX1_passAll ∈ wG := List.mem_filter.mpr ⟨wT_3 _ (List.mem_of_getElem? (i := 55) rfl), rfl⟩
theorem wm_465 : Cond.instanceMethod yX1_passAll ∈ wG := List.mem_filter.mpr ⟨wT_3 _ (List.mem_of_getElem? (i := 56) rfl), rfl⟩
theorem wm_466 : Cond.selects RX1 yX1_passAll yX1_passAll ∈ wG := List.mem_filter.mpr ⟨wT_3 _ (List.mem_of_getElem? (i := 57) rfl), rfl⟩
theorem wm_467 : Cond.code yX1_passAll cX1_passAll 4 none ∈ wG := List.mem_filter.mpr ⟨wT_3 _ (List.mem_of_getElem? (i := 58) rfl), rfl⟩
theorem wm_468 : Cond.fieldLink RX11 57 "WhereTheSpoonWent" "far" "[I" ∈ wG := List.mem_filter.mpr ⟨wT_2 _ (List.mem_of_getElem? (i := 17) rfl), rfl⟩
theorem wm_469 : Cond.fieldLink RX11 60 "WhereTheSpoonWent" "queue" "[I" ∈ wG := List.mem_filter.mpr ⟨wT_2 _ (List.mem_of_getElem? (i := 18) rfl), rfl⟩
theorem wm_470 : Cond.methodLink RX11 328 yX3_beyond ∈ wG := List.mem_filter.mpr ⟨wT_3 _ (List.mem_of_getElem? (i := 158) rfl), rfl⟩
theorem wm_471 : Cond.fieldLink RX11 331 "WhereTheSpoonWent$Sheet" "size" "I" ∈ wG := List.mem_filter.mpr ⟨wT_1 _ (List.mem_of_getElem? (i := 239) rfl), rfl⟩
theorem wm_472 : Cond.fieldLink RX11 63 "WhereTheSpoonWent" "ends" "[I" ∈ wG := List.mem_filter.mpr ⟨wT_2 _ (List.mem_of_getElem? (i := 19) rfl), rfl⟩
theorem wm_473 : Cond.constantLong RX11 332 (48271) ∈ wG := List.mem_filter.mpr ⟨wT_4 _ (List.mem_of_getElem? (i := 40) rfl), rfl⟩
theorem wm_474 : Cond.constantLong RX11 334 (2147483647) ∈ wG := List.mem_filter.mpr ⟨wT_4 _ (List.mem_of_getElem? (i := 41) rfl), rfl⟩
theorem wm_475 : Cond.constantLong RX11 336 (5) ∈ wG := List.mem_filter.mpr ⟨wT_4 _ (List.mem_of_getElem? (i := 42) rfl), rfl⟩
theorem wm_476 : Cond.methodLink RX11 338 yX10_isOne ∈ wG := List.mem_filter.mpr ⟨wT_4 _ (List.mem_of_getElem? (i := 100) rfl), rfl⟩
theorem wm_477 : Cond.methodLink RX12 75 yX12_in ∈ wG := List.mem_filter.mpr ⟨wT_4 _ (List.mem_of_getElem? (i := 139) rfl), rfl⟩
theorem wm_478 : Cond.static yX12_in ∈ wG := List.mem_filter.mpr ⟨wT_4 _ (List.mem_of_getElem? (i := 140) rfl), rfl⟩
theorem wm_479 : Cond.initialized RX12 ∈ wG := List.mem_filter.mpr ⟨wT_1 _ (List.mem_of_getElem? (i := 13) rfl), rfl⟩
theorem wm_480 : Cond.code yX12_in cX12_in 3 (some .boolean) ∈ wG := List.mem_filter.mpr ⟨wT_4 _ (List.mem_of_getElem? (i := 141) rfl), rfl⟩
theorem wm_481 : Cond.fieldLink RX12 7 "WhereTheSpoonWentModel" "sets" "[I" ∈ wG := List.mem_filter.mpr ⟨wT_4 _ (List.mem_of_getElem? (i := 178) rfl), rfl⟩
theorem wm_482 : Cond.methodLink RX12 79 yX12_isCell ∈ wG := List.mem_filter.mpr ⟨wT_5 _ (List.mem_of_getElem? (i := 51) rfl), rfl⟩
theorem wm_483 : Cond.methodLink RX12 83 yX12_has ∈ wG := List.mem_filter.mpr ⟨wT_5 _ (List.mem_of_getElem? (i := 58) rfl), rfl⟩
theorem wm_484 : Cond.instanceMethod yX12_has ∈ wG := List.mem_filter.mpr ⟨wT_5 _ (List.mem_of_getElem? (i := 60) rfl), rfl⟩
theorem wm_485 : Cond.selects RX12 yX12_has yX12_has ∈ wG := List.mem_filter.mpr ⟨List.mem_append_left _ (List.mem_of_getElem? (i := 46) rfl), rfl⟩
theorem wm_486 : Cond.code yX12_has cX12_has 3 (some .boolean) ∈ wG := List.mem_filter.mpr ⟨wT_5 _ (List.mem_of_getElem? (i := 61) rfl), rfl⟩
theorem wm_487 : Cond.static yX12_isCell ∈ wG := List.mem_filter.mpr ⟨wT_5 _ (List.mem_of_getElem? (i := 52) rfl), rfl⟩
theorem wm_488 : Cond.code yX12_isCell cX12_isCell 1 (some .boolean) ∈ wG := List.mem_filter.mpr ⟨wT_5 _ (List.mem_of_getElem? (i := 53) rfl), rfl⟩
theorem wm_489 : Cond.fieldLink RX12 87 "WhereTheSpoonWentModel" "things" "I" ∈ wG := List.mem_filter.mpr ⟨wT_4 _ (List.mem_of_getElem? (i := 180) rfl), rfl⟩
theorem wm_490 : Cond.fieldLink RX12 19 "WhereTheSpoonWentModel" "cellOf" "[I" ∈ wG := List.mem_filter.mpr ⟨wT_4 _ (List.mem_of_getElem? (i := 183) rfl), rfl⟩
theorem wm_491 : Cond.methodLink RX12 90 yX12_isThere ∈ wG := List.mem_filter.mpr ⟨wT_5 _ (List.mem_of_getElem? (i := 54) rfl), rfl⟩
theorem wm_492 : Cond.instanceMethod yX12_isThere ∈ wG := List.mem_filter.mpr ⟨wT_5 _ (List.mem_of_getElem? (i := 56) rfl), rfl⟩
theorem wm_493 : Cond.selects RX12 yX12_isThere yX12_isThere ∈ wG := List.mem_filter.mpr ⟨List.mem_append_left _ (List.mem_of_getElem? (i := 45) rfl), rfl⟩
theorem wm_494 : Cond.code yX12_isThere cX12_isThere 3 (some .boolean) ∈ wG := List.mem_filter.mpr ⟨wT_5 _ (List.mem_of_getElem? (i := 57) rfl), rfl⟩
theorem wm_495 : Cond.fieldLink RX12 93 "WhereTheSpoonWentModel" "step" "I" ∈ wG := List.mem_filter.mpr ⟨wT_4 _ (List.mem_of_getElem? (i := 179) rfl), rfl⟩
theorem wm_496 : Cond.fieldLink RX12 96 "WhereTheSpoonWentModel" "texts" "I" ∈ wG := List.mem_filter.mpr ⟨wT_4 _ (List.mem_of_getElem? (i := 189) rfl), rfl⟩
theorem wm_497 : Cond.fieldLink RX12 99 "WhereTheSpoonWentModel" "rule" "I" ∈ wG := List.mem_filter.mpr ⟨wT_4 _ (List.mem_of_getElem? (i := 190) rfl), rfl⟩
theorem wm_498 : Cond.fieldLink RX12 67 "WhereTheSpoonWentModel" "taped" "I" ∈ wG := List.mem_filter.mpr ⟨wT_4 _ (List.mem_of_getElem? (i := 186) rfl), rfl⟩
theorem wm_499 : Cond.methodLink RX12 102 yX12_isByte ∈ wG := List.mem_filter.mpr ⟨wT_5 _ (List.mem_of_getElem? (i := 74) rfl), rfl⟩
theorem wm_500 : Cond.static yX12_isByte ∈ wG := List.mem_filter.mpr ⟨wT_5 _ (List.mem_of_getElem? (i := 75) rfl), rfl⟩
theorem wm_501 : Cond.code yX12_isByte cX12_isByte 1 (some .boolean) ∈ wG := List.mem_filter.mpr ⟨wT_5 _ (List.mem_of_getElem? (i := 76) rfl), rfl⟩
theorem wm_502 : Cond.fieldLink RX12 25 "WhereTheSpoonWentModel" "tape" "[I" ∈ wG := List.mem_filter.mpr ⟨wT_4 _ (List.mem_of_getElem? (i := 185) rfl), rfl⟩
theorem wm_503 : Cond.fieldLink RX12 49 "WhereTheSpoonWentModel" "words" "[I" ∈ wG := List.mem_filter.mpr ⟨wT_4 _ (List.mem_of_getElem? (i := 203) rfl), rfl⟩
theorem wm_504 : Cond.fieldLink RX12 105 "WhereTheSpoonWentModel" "at" "I" ∈ wG := List.mem_filter.mpr ⟨wT_4 _ (List.mem_of_getElem? (i := 199) rfl), rfl⟩
theorem wm_505 : Cond.fieldLink RX12 108 "WhereTheSpoonWentModel" "begun" "I" ∈ wG := List.mem_filter.mpr ⟨wT_4 _ (List.mem_of_getElem? (i := 200) rfl), rfl⟩
theorem wm_506 : Cond.fieldLink RX12 111 "WhereTheSpoonWentModel" "token" "I" ∈ wG := List.mem_filter.mpr ⟨wT_4 _ (List.mem_of_getElem? (i := 201) rfl), rfl⟩
theorem wm_507 : Cond.fieldLink RX12 114 "WhereTheSpoonWentModel" "value" "I" ∈ wG := List.mem_filter.mpr ⟨wT_4 _ (List.mem_of_getElem? (i := 202) rfl), rfl⟩
theorem wm_508 : Cond.methodLink RX12 117 yX12_wordFrom ∈ wG := List.mem_filter.mpr ⟨wT_4 _ (List.mem_of_getElem? (i := 142) rfl), rfl⟩
theorem wm_509 : Cond.instanceMethod yX12_wordFrom ∈ wG := List.mem_filter.mpr ⟨wT_4 _ (List.mem_of_getElem? (i := 144) rfl), rfl⟩
theorem wm_510 : Cond.selects RX12 yX12_wordFrom yX12_wordFrom ∈ wG := List.mem_filter.mpr ⟨List.mem_append_left _ (List.mem_of_getElem? (i := 37) rfl), rfl⟩
theorem wm_511 : Cond.code yX12_wordFrom cX12_wordFrom 6 (some .int) ∈ wG := List.mem_filter.mpr ⟨wT_4 _ (List.mem_of_getElem? (i := 145) rfl), rfl⟩
theorem wm_512 : Cond.fieldLink RX12 28 "WhereTheSpoonWentModel" "codes" "[I" ∈ wG := List.mem_filter.mpr ⟨wT_4 _ (List.mem_of_getElem? (i := 187) rfl), rfl⟩
theorem wm_513 : Cond.fieldLink RX12 121 "WhereTheSpoonWentModel" "out" "I" ∈ wG := List.mem_filter.mpr ⟨wT_4 _ (List.mem_of_getElem? (i := 207) rfl), rfl⟩
theorem wm_514 : Cond.fieldLink RX12 124 "WhereTheSpoonWentModel" "heldMany" "I" ∈ wG := List.mem_filter.mpr ⟨wT_4 _ (List.mem_of_getElem? (i := 205) rfl), rfl⟩
theorem wm_515 : Cond.fieldLink RX12 52 "WhereTheSpoonWentModel" "held" "[I" ∈ wG := List.mem_filter.mpr ⟨wT_4 _ (List.mem_of_getElem? (i := 204) rfl), rfl⟩
theorem wm_516 : Cond.methodLink RX12 127 yX12_rank ∈ wG := List.mem_filter.mpr ⟨wT_4 _ (List.mem_of_getElem? (i := 159) rfl), rfl⟩
theorem wm_517 : Cond.fieldLink RX12 131 "WhereTheSpoonWentModel" "opens" "I" ∈ wG := List.mem_filter.mpr ⟨wT_4 _ (List.mem_of_getElem? (i := 206) rfl), rfl⟩
theorem wm_518 : Cond.static yX12_rank ∈ wG := List.mem_filter.mpr ⟨wT_4 _ (List.mem_of_getElem? (i := 160) rfl), rfl⟩
theorem wm_519 : Cond.code yX12_rank cX12_rank 1 (some .int) ∈ wG := List.mem_filter.mpr ⟨wT_4 _ (List.mem_of_getElem? (i := 161) rfl), rfl⟩
theorem wm_520 : Cond.methodLink RX12 134 yX12_puts ∈ wG := List.mem_filter.mpr ⟨wT_4 _ (List.mem_of_getElem? (i := 151) rfl), rfl⟩
theorem wm_521 : Cond.instanceMethod yX12_puts ∈ wG := List.mem_filter.mpr ⟨wT_4 _ (List.mem_of_getElem? (i := 153) rfl), rfl⟩
theorem wm_522 : Cond.selects RX12 yX12_puts yX12_puts ∈ wG := List.mem_filter.mpr ⟨List.mem_append_left _ (List.mem_of_getElem? (i := 39) rfl), rfl⟩
theorem wm_523 : Cond.code yX12_puts cX12_puts 2 none ∈ wG := List.mem_filter.mpr ⟨wT_4 _ (List.mem_of_getElem? (i := 154) rfl), rfl⟩
theorem wm_524 : Cond.methodLink RX12 138 yX12_holds ∈ wG := List.mem_filter.mpr ⟨wT_4 _ (List.mem_of_getElem? (i := 166) rfl), rfl⟩
theorem wm_525 : Cond.instanceMethod yX12_holds ∈ wG := List.mem_filter.mpr ⟨wT_4 _ (List.mem_of_getElem? (i := 168) rfl), rfl⟩
theorem wm_526 : Cond.selects RX12 yX12_holds yX12_holds ∈ wG := List.mem_filter.mpr ⟨List.mem_append_left _ (List.mem_of_getElem? (i := 42) rfl), rfl⟩
theorem wm_527 : Cond.code yX12_holds cX12_holds 2 none ∈ wG := List.mem_filter.mpr ⟨wT_4 _ (List.mem_of_getElem? (i := 169) rfl), rfl⟩
theorem wm_528 : Cond.methodLink RX12 141 yX12_unwinds ∈ wG := List.mem_filter.mpr ⟨wT_4 _ (List.mem_of_getElem? (i := 155) rfl), rfl⟩
theorem wm_529 : Cond.instanceMethod yX12_unwinds ∈ wG := List.mem_filter.mpr ⟨wT_4 _ (List.mem_of_getElem? (i := 157) rfl), rfl⟩
theorem wm_530 : Cond.selects RX12 yX12_unwinds yX12_unwinds ∈ wG := List.mem_filter.mpr ⟨List.mem_append_left _ (List.mem_of_getElem? (i := 40) rfl), rfl⟩
theorem wm_531 : Cond.code yX12_unwinds cX12_unwinds 3 none ∈ wG := List.mem_filter.mpr ⟨wT_4 _ (List.mem_of_getElem? (i := 158) rfl), rfl⟩
theorem wm_532 : Cond.methodLink RX12 144 yX12_next ∈ wG := List.mem_filter.mpr ⟨wT_4 _ (List.mem_of_getElem? (i := 135) rfl), rfl⟩
theorem wm_533 : Cond.methodLink RX12 151 yX12_signOf ∈ wG := List.mem_filter.mpr ⟨wT_4 _ (List.mem_of_getElem? (i := 170) rfl), rfl⟩
theorem wm_534 : Cond.methodLink RX12 154 yX12_between ∈ wG := List.mem_filter.mpr ⟨wT_4 _ (List.mem_of_getElem? (i := 174) rfl), rfl⟩
theorem wm_535 : Cond.instanceMethod yX12_between ∈ wG := List.mem_filter.mpr ⟨wT_4 _ (List.mem_of_getElem? (i := 176) rfl), rfl⟩
theorem wm_536 : Cond.selects RX12 yX12_between yX12_between ∈ wG := List.mem_filter.mpr ⟨List.mem_append_left _ (List.mem_of_getElem? (i := 44) rfl), rfl⟩
theorem wm_537 : Cond.code yX12_between cX12_between 2 (some .boolean) ∈ wG := List.mem_filter.mpr ⟨wT_4 _ (List.mem_of_getElem? (i := 177) rfl), rfl⟩
theorem wm_538 : Cond.instanceMethod yX12_signOf ∈ wG := List.mem_filter.mpr ⟨wT_4 _ (List.mem_of_getElem? (i := 172) rfl), rfl⟩
theorem wm_539 : Cond.selects RX12 yX12_signOf yX12_signOf ∈ wG := List.mem_filter.mpr ⟨List.mem_append_left _ (List.mem_of_getElem? (i := 43) rfl), rfl⟩
theorem wm_540 : Cond.code yX12_signOf cX12_signOf 1 (some .int) ∈ wG := List.mem_filter.mpr ⟨wT_4 _ (List.mem_of_getElem? (i := 173) rfl), rfl⟩
theorem wm_541 : Cond.methodLink RX12 148 yX12_opensOne ∈ wG := List.mem_filter.mpr ⟨wT_4 _ (List.mem_of_getElem? (i := 162) rfl), rfl⟩
theorem wm_542 : Cond.instanceMethod yX12_opensOne ∈ wG := List.mem_filter.mpr ⟨wT_4 _ (List.mem_of_getElem? (i := 164) rfl), rfl⟩
theorem wm_543 : Cond.selects RX12 yX12_opensOne yX12_opensOne ∈ wG := List.mem_filter.mpr ⟨List.mem_append_left _ (List.mem_of_getElem? (i := 41) rfl), rfl⟩
theorem wm_544 : Cond.code yX12_opensOne cX12_opensOne 2 (some .boolean) ∈ wG := List.mem_filter.mpr ⟨wT_4 _ (List.mem_of_getElem? (i := 165) rfl), rfl⟩
theorem wm_545 : Cond.instanceMethod yX12_next ∈ wG := List.mem_filter.mpr ⟨wT_4 _ (List.mem_of_getElem? (i := 137) rfl), rfl⟩
theorem wm_546 : Cond.selects RX12 yX12_next yX12_next ∈ wG := List.mem_filter.mpr ⟨List.mem_append_left _ (List.mem_of_getElem? (i := 36) rfl), rfl⟩
theorem wm_547 : Cond.code yX12_next cX12_next 3 none ∈ wG := List.mem_filter.mpr ⟨wT_4 _ (List.mem_of_getElem? (i := 138) rfl), rfl⟩
theorem wm_548 : Cond.constant RX12 147 (100000) ∈ wG := List.mem_filter.mpr ⟨wT_4 _ (List.mem_of_getElem? (i := 150) rfl), rfl⟩
theorem wm_549 : Cond.fieldLink RX12 31 "WhereTheSpoonWentModel" "starts" "[I" ∈ wG := List.mem_filter.mpr ⟨wT_4 _ (List.mem_of_getElem? (i := 188) rfl), rfl⟩
theorem wm_550 : Cond.methodLink RX12 157 yX12_eRead ∈ wG := List.mem_filter.mpr ⟨wT_4 _ (List.mem_of_getElem? (i := 146) rfl), rfl⟩
theorem wm_551 : Cond.instanceMethod yX12_eRead ∈ wG := List.mem_filter.mpr ⟨wT_4 _ (List.mem_of_getElem? (i := 148) rfl), rfl⟩
theorem wm_552 : Cond.selects RX12 yX12_eRead yX12_eRead ∈ wG := List.mem_filter.mpr ⟨List.mem_append_left _ (List.mem_of_getElem? (i := 38) rfl), rfl⟩
theorem wm_553 : Cond.code yX12_eRead cX12_eRead 4 (some .boolean) ∈ wG := List.mem_filter.mpr ⟨wT_4 _ (List.mem_of_getElem? (i := 149) rfl), rfl⟩
theorem wm_554 : Cond.fieldLink RX12 55 "WhereTheSpoonWentModel" "stack" "[I" ∈ wG := List.mem_filter.mpr ⟨wT_4 _ (List.mem_of_getElem? (i := 208) rfl), rfl⟩
theorem wm_555 : Cond.methodLink RX12 161 yX12_two ∈ wG := List.mem_filter.mpr ⟨wT_5 _ (List.mem_of_getElem? (i := 94) rfl), rfl⟩
theorem wm_556 : Cond.static yX12_two ∈ wG := List.mem_filter.mpr ⟨wT_5 _ (List.mem_of_getElem? (i := 95) rfl), rfl⟩
theorem wm_557 : Cond.code yX12_two cX12_two 3 (some .int) ∈ wG := List.mem_filter.mpr ⟨wT_5 _ (List.mem_of_getElem? (i := 96) rfl), rfl⟩
theorem wm_558 : Cond.fieldLink RX12 58 "WhereTheSpoonWentModel" "named" "[I" ∈ wG := List.mem_filter.mpr ⟨wT_4 _ (List.mem_of_getElem? (i := 209) rfl), rfl⟩
theorem wm_559 : Cond.methodLink RX12 165 yX12_says ∈ wG := List.mem_filter.mpr ⟨wT_5 _ (List.mem_of_getElem? (i := 90) rfl), rfl⟩
theorem wm_560 : Cond.methodLink RX12 168 yX12_within ∈ wG := List.mem_filter.mpr ⟨wT_5 _ (List.mem_of_getElem? (i := 97) rfl), rfl⟩
theorem wm_561 : Cond.static yX12_within ∈ wG := List.mem_filter.mpr ⟨wT_5 _ (List.mem_of_getElem? (i := 98) rfl), rfl⟩
theorem wm_562 : Cond.code yX12_within cX12_within 3 (some .int) ∈ wG := List.mem_filter.mpr ⟨wT_5 _ (List.mem_of_getElem? (i := 99) rfl), rfl⟩
theorem wm_563 : Cond.instanceMethod yX12_says ∈ wG := List.mem_filter.mpr ⟨wT_5 _ (List.mem_of_getElem? (i := 92) rfl), rfl⟩
theorem wm_564 : Cond.selects RX12 yX12_says yX12_says ∈ wG := List.mem_filter.mpr ⟨List.mem_append_left _ (List.mem_of_getElem? (i := 48) rfl), rfl⟩
theorem wm_565 : Cond.code yX12_says cX12_says 5 (some .int) ∈ wG := List.mem_filter.mpr ⟨wT_5 _ (List.mem_of_getElem? (i := 93) rfl), rfl⟩
theorem wm_566 : Cond.methodLink RX12 171 yX12_asksOf ∈ wG := List.mem_filter.mpr ⟨wT_5 _ (List.mem_of_getElem? (i := 86) rfl), rfl⟩
theorem wm_567 : Cond.instanceMethod yX12_asksOf ∈ wG := List.mem_filter.mpr ⟨wT_5 _ (List.mem_of_getElem? (i := 88) rfl), rfl⟩
theorem wm_568 : Cond.selects RX12 yX12_asksOf yX12_asksOf ∈ wG := List.mem_filter.mpr ⟨List.mem_append_left _ (List.mem_of_getElem? (i := 47) rfl), rfl⟩
theorem wm_569 : Cond.code yX12_asksOf cX12_asksOf 6 (some .int) ∈ wG := List.mem_filter.mpr ⟨wT_5 _ (List.mem_of_getElem? (i := 89) rfl), rfl⟩
theorem wm_570 : Cond.methodLink RX12 175 yX12_isFree ∈ wG := List.mem_filter.mpr ⟨wT_5 _ (List.mem_of_getElem? (i := 104) rfl), rfl⟩
theorem wm_571 : Cond.fieldLink RX12 13 "WhereTheSpoonWentModel" "kind" "[I" ∈ wG := List.mem_filter.mpr ⟨wT_4 _ (List.mem_of_getElem? (i := 181) rfl), rfl⟩
theorem wm_572 : Cond.fieldLink RX12 16 "WhereTheSpoonWentModel" "moreOf" "[I" ∈ wG := List.mem_filter.mpr ⟨wT_4 _ (List.mem_of_getElem? (i := 182) rfl), rfl⟩
theorem wm_573 : Cond.fieldLink RX12 22 "WhereTheSpoonWentModel" "wayOf" "[I" ∈ wG := List.mem_filter.mpr ⟨wT_4 _ (List.mem_of_getElem? (i := 184) rfl), rfl⟩
theorem wm_574 : Cond.instanceMethod yX12_isFree ∈ wG := List.mem_filter.mpr ⟨wT_5 _ (List.mem_of_getElem? (i := 106) rfl), rfl⟩
theorem wm_575 : Cond.selects RX12 yX12_isFree yX12_isFree ∈ wG := List.mem_filter.mpr ⟨List.mem_append_left _ (List.mem_of_getElem? (i := 49) rfl), rfl⟩
theorem wm_576 : Cond.code yX12_isFree cX12_isFree 2 (some .boolean) ∈ wG := List.mem_filter.mpr ⟨wT_5 _ (List.mem_of_getElem? (i := 107) rfl), rfl⟩
theorem wm_577 : Cond.methodLink RX12 178 yX12_isThing ∈ wG := List.mem_filter.mpr ⟨wT_5 _ (List.mem_of_getElem? (i := 112) rfl), rfl⟩
theorem wm_578 : Cond.instanceMethod yX12_isThing ∈ wG := List.mem_filter.mpr ⟨wT_5 _ (List.mem_of_getElem? (i := 114) rfl), rfl⟩
theorem wm_579 : Cond.selects RX12 yX12_isThing yX12_isThing ∈ wG := List.mem_filter.mpr ⟨List.mem_append_left _ (List.mem_of_getElem? (i := 50) rfl), rfl⟩
theorem wm_580 : Cond.code yX12_isThing cX12_isThing 2 (some .boolean) ∈ wG := List.mem_filter.mpr ⟨wT_5 _ (List.mem_of_getElem? (i := 115) rfl), rfl⟩
theorem wm_581 : Cond.fieldLink RX12 181 "WhereTheSpoonWentModel" "now" "I" ∈ wG := List.mem_filter.mpr ⟨wT_4 _ (List.mem_of_getElem? (i := 210) rfl), rfl⟩
theorem wm_582 : Cond.fieldLink RX12 184 "WhereTheSpoonWentModel" "way" "I" ∈ wG := List.mem_filter.mpr ⟨wT_4 _ (List.mem_of_getElem? (i := 211) rfl), rfl⟩
theorem wm_583 : Cond.methodLink RX12 187 yX12_blown ∈ wG := List.mem_filter.mpr ⟨wT_5 _ (List.mem_of_getElem? (i := 143) rfl), rfl⟩
theorem wm_584 : Cond.instanceMethod yX12_blown ∈ wG := List.mem_filter.mpr ⟨wT_5 _ (List.mem_of_getElem? (i := 145) rfl), rfl⟩
theorem wm_585 : Cond.selects RX12 yX12_blown yX12_blown ∈ wG := List.mem_filter.mpr ⟨List.mem_append_left _ (List.mem_of_getElem? (i := 55) rfl), rfl⟩
theorem wm_586 : Cond.code yX12_blown cX12_blown 4 (some .int) ∈ wG := List.mem_filter.mpr ⟨wT_5 _ (List.mem_of_getElem? (i := 146) rfl), rfl⟩
theorem wm_587 : Cond.methodLink RX12 190 yX12_beside ∈ wG := List.mem_filter.mpr ⟨wT_5 _ (List.mem_of_getElem? (i := 147) rfl), rfl⟩
theorem wm_588 : Cond.static yX12_beside ∈ wG := List.mem_filter.mpr ⟨wT_5 _ (List.mem_of_getElem? (i := 148) rfl), rfl⟩
theorem wm_589 : Cond.code yX12_beside cX12_beside 4 (some .int) ∈ wG := List.mem_filter.mpr ⟨wT_5 _ (List.mem_of_getElem? (i := 149) rfl), rfl⟩
theorem wm_590 : Cond.methodLink RX12 193 yX12_touching ∈ wG := List.mem_filter.mpr ⟨wT_5 _ (List.mem_of_getElem? (i := 150) rfl), rfl⟩
theorem wm_591 : Cond.instanceMethod yX12_touching ∈ wG := List.mem_filter.mpr ⟨wT_5 _ (List.mem_of_getElem? (i := 152) rfl), rfl⟩
theorem wm_592 : Cond.selects RX12 yX12_touching yX12_touching ∈ wG := List.mem_filter.mpr ⟨List.mem_append_left _ (List.mem_of_getElem? (i := 56) rfl), rfl⟩
theorem wm_593 : Cond.code yX12_touching cX12_touching 4 (some .int) ∈ wG := List.mem_filter.mpr ⟨wT_5 _ (List.mem_of_getElem? (i := 153) rfl), rfl⟩
theorem wm_594 : Cond.methodLink RX12 196 yX12_steps ∈ wG := List.mem_filter.mpr ⟨wT_5 _ (List.mem_of_getElem? (i := 139) rfl), rfl⟩
theorem wm_595 : Cond.instanceMethod yX12_steps ∈ wG := List.mem_filter.mpr ⟨wT_5 _ (List.mem_of_getElem? (i := 141) rfl), rfl⟩
theorem wm_596 : Cond.selects RX12 yX12_steps yX12_steps ∈ wG := List.mem_filter.mpr ⟨List.mem_append_left _ (List.mem_of_getElem? (i := 54) rfl), rfl⟩
theorem wm_597 : Cond.code yX12_steps cX12_steps 5 none ∈ wG := List.mem_filter.mpr ⟨wT_5 _ (List.mem_of_getElem? (i := 142) rfl), rfl⟩
theorem wm_598 : Cond.methodLink RX12 200 yX12_begins ∈ wG := List.mem_filter.mpr ⟨wT_5 _ (List.mem_of_getElem? (i := 131) rfl), rfl⟩
theorem wm_599 : Cond.methodLink RX12 203 yX12_goesBehind ∈ wG := List.mem_filter.mpr ⟨wT_5 _ (List.mem_of_getElem? (i := 135) rfl), rfl⟩
theorem wm_600 : Cond.instanceMethod yX12_goesBehind ∈ wG := List.mem_filter.mpr ⟨wT_5 _ (List.mem_of_getElem? (i := 137) rfl), rfl⟩
theorem wm_601 : Cond.selects RX12 yX12_goesBehind yX12_goesBehind ∈ wG := List.mem_filter.mpr ⟨List.mem_append_left _ (List.mem_of_getElem? (i := 53) rfl), rfl⟩
theorem wm_602 : Cond.code yX12_goesBehind cX12_goesBehind 4 none ∈ wG := List.mem_filter.mpr ⟨wT_5 _ (List.mem_of_getElem? (i := 138) rfl), rfl⟩
theorem wm_603 : Cond.instanceMethod yX12_begins ∈ wG := List.mem_filter.mpr ⟨wT_5 _ (List.mem_of_getElem? (i := 133) rfl), rfl⟩
theorem wm_604 : Cond.selects RX12 yX12_begins yX12_begins ∈ wG := List.mem_filter.mpr ⟨List.mem_append_left _ (List.mem_of_getElem? (i := 52) rfl), rfl⟩
theorem wm_605 : Cond.code yX12_begins cX12_begins 2 none ∈ wG := List.mem_filter.mpr ⟨wT_5 _ (List.mem_of_getElem? (i := 134) rfl), rfl⟩
theorem wm_606 : Cond.methodLink RX12 206 yX12_areSteps ∈ wG := List.mem_filter.mpr ⟨wT_5 _ (List.mem_of_getElem? (i := 124) rfl), rfl⟩
theorem wm_607 : Cond.methodLink RX12 209 yX12_cellBehind ∈ wG := List.mem_filter.mpr ⟨wT_5 _ (List.mem_of_getElem? (i := 127) rfl), rfl⟩
theorem wm_608 : Cond.instanceMethod yX12_cellBehind ∈ wG := List.mem_filter.mpr ⟨wT_5 _ (List.mem_of_getElem? (i := 129) rfl), rfl⟩
theorem wm_609 : Cond.selects RX12 yX12_cellBehind yX12_cellBehind ∈ wG := List.mem_filter.mpr ⟨List.mem_append_left _ (List.mem_of_getElem? (i := 51) rfl), rfl⟩
theorem wm_610 : Cond.code yX12_cellBehind cX12_cellBehind 3 (some .int) ∈ wG := List.mem_filter.mpr ⟨wT_5 _ (List.mem_of_getElem? (i := 130) rfl), rfl⟩
theorem wm_611 : Cond.static yX12_areSteps ∈ wG := List.mem_filter.mpr ⟨wT_5 _ (List.mem_of_getElem? (i := 125) rfl), rfl⟩
theorem wm_612 : Cond.code yX12_areSteps cX12_areSteps 1 (some .boolean) ∈ wG := List.mem_filter.mpr ⟨wT_5 _ (List.mem_of_getElem? (i := 126) rfl), rfl⟩
theorem wm_613 : Cond.methodLink RX12 212 yX12_first0 ∈ wG := List.mem_filter.mpr ⟨wT_5 _ (List.mem_of_getElem? (i := 162) rfl), rfl⟩
theorem wm_614 : Cond.instanceMethod yX12_first0 ∈ wG := List.mem_filter.mpr ⟨wT_5 _ (List.mem_of_getElem? (i := 164) rfl), rfl⟩
theorem wm_615 : Cond.selects RX12 yX12_first0 yX12_first0 ∈ wG := List.mem_filter.mpr ⟨List.mem_append_left _ (List.mem_of_getElem? (i := 57) rfl), rfl⟩
theorem wm_616 : Cond.code yX12_first0 cX12_first0 4 (some .int) ∈ wG := List.mem_filter.mpr ⟨wT_5 _ (List.mem_of_getElem? (i := 165) rfl), rfl⟩
theorem wm_617 : Cond.fieldLink RX12 61 "WhereTheSpoonWentModel" "far" "[I" ∈ wG := List.mem_filter.mpr ⟨wT_4 _ (List.mem_of_getElem? (i := 212) rfl), rfl⟩
theorem wm_618 : Cond.methodLink RX12 215 yX12_spreads ∈ wG := List.mem_filter.mpr ⟨wT_5 _ (List.mem_of_getElem? (i := 178) rfl), rfl⟩
theorem wm_619 : Cond.methodLink RX12 218 yX12_soonest ∈ wG := List.mem_filter.mpr ⟨wT_5 _ (List.mem_of_getElem? (i := 182) rfl), rfl⟩
theorem wm_620 : Cond.instanceMethod yX12_soonest ∈ wG := List.mem_filter.mpr ⟨wT_5 _ (List.mem_of_getElem? (i := 184) rfl), rfl⟩
theorem wm_621 : Cond.selects RX12 yX12_soonest yX12_soonest ∈ wG := List.mem_filter.mpr ⟨List.mem_append_left _ (List.mem_of_getElem? (i := 59) rfl), rfl⟩
theorem wm_622 : Cond.code yX12_soonest cX12_soonest 5 (some .int) ∈ wG := List.mem_filter.mpr ⟨wT_5 _ (List.mem_of_getElem? (i := 185) rfl), rfl⟩
theorem wm_623 : Cond.instanceMethod yX12_spreads ∈ wG := List.mem_filter.mpr ⟨wT_5 _ (List.mem_of_getElem? (i := 180) rfl), rfl⟩
theorem wm_624 : Cond.selects RX12 yX12_spreads yX12_spreads ∈ wG := List.mem_filter.mpr ⟨List.mem_append_left _ (List.mem_of_getElem? (i := 58) rfl), rfl⟩
theorem wm_625 : Cond.code yX12_spreads cX12_spreads 5 none ∈ wG := List.mem_filter.mpr ⟨wT_5 _ (List.mem_of_getElem? (i := 181) rfl), rfl⟩
theorem wm_626 : Cond.methodLink RX12 221 yX12_turnedFirst ∈ wG := List.mem_filter.mpr ⟨wT_5 _ (List.mem_of_getElem? (i := 206) rfl), rfl⟩
theorem wm_627 : Cond.instanceMethod yX12_turnedFirst ∈ wG := List.mem_filter.mpr ⟨wT_5 _ (List.mem_of_getElem? (i := 208) rfl), rfl⟩
theorem wm_628 : Cond.selects RX12 yX12_turnedFirst yX12_turnedFirst ∈ wG := List.mem_filter.mpr ⟨List.mem_append_left _ (List.mem_of_getElem? (i := 60) rfl), rfl⟩
theorem wm_629 : Cond.code yX12_turnedFirst cX12_turnedFirst 5 (some .int) ∈ wG := List.mem_filter.mpr ⟨wT_5 _ (List.mem_of_getElem? (i := 209) rfl), rfl⟩
theorem wm_630 : Cond.methodLink RX12 224 yX12_netted ∈ wG := List.mem_filter.mpr ⟨wT_5 _ (List.mem_of_getElem? (i := 214) rfl), rfl⟩
theorem wm_631 : Cond.instanceMethod yX12_netted ∈ wG := List.mem_filter.mpr ⟨wT_5 _ (List.mem_of_getElem? (i := 216) rfl), rfl⟩
theorem wm_632 : Cond.selects RX12 yX12_netted yX12_netted ∈ wG := List.mem_filter.mpr ⟨List.mem_append_left _ (List.mem_of_getElem? (i := 61) rfl), rfl⟩
theorem wm_633 : Cond.code yX12_netted cX12_netted 4 (some .int) ∈ wG := List.mem_filter.mpr ⟨wT_5 _ (List.mem_of_getElem? (i := 217) rfl), rfl⟩
theorem wm_634 : Cond.fieldLink RX12 64 "WhereTheSpoonWentModel" "wentTo" "[I" ∈ wG := List.mem_filter.mpr ⟨wT_4 _ (List.mem_of_getElem? (i := 213) rfl), rfl⟩
theorem wm_635 : Cond.methodLink RX12 227 yX12_letsGo ∈ wG := List.mem_filter.mpr ⟨wT_5 _ (List.mem_of_getElem? (i := 222) rfl), rfl⟩
theorem wm_636 : Cond.instanceMethod yX12_letsGo ∈ wG := List.mem_filter.mpr ⟨wT_5 _ (List.mem_of_getElem? (i := 224) rfl), rfl⟩
theorem wm_637 : Cond.selects RX12 yX12_letsGo yX12_letsGo ∈ wG := List.mem_filter.mpr ⟨List.mem_append_left _ (List.mem_of_getElem? (i := 62) rfl), rfl⟩
theorem wm_638 : Cond.code yX12_letsGo cX12_letsGo 4 none ∈ wG := List.mem_filter.mpr ⟨wT_5 _ (List.mem_of_getElem? (i := 225) rfl), rfl⟩
theorem wm_639 : Cond.methodLink RX12 230 yX12_byHowMany ∈ wG := List.mem_filter.mpr ⟨wT_5 _ (List.mem_of_getElem? (i := 230) rfl), rfl⟩
theorem wm_640 : Cond.instanceMethod yX12_byHowMany ∈ wG := List.mem_filter.mpr ⟨wT_5 _ (List.mem_of_getElem? (i := 232) rfl), rfl⟩
theorem wm_641 : Cond.selects RX12 yX12_byHowMany yX12_byHowMany ∈ wG := List.mem_filter.mpr ⟨List.mem_append_left _ (List.mem_of_getElem? (i := 63) rfl), rfl⟩
theorem wm_642 : Cond.code yX12_byHowMany cX12_byHowMany 4 (some .int) ∈ wG := List.mem_filter.mpr ⟨wT_5 _ (List.mem_of_getElem? (i := 233) rfl), rfl⟩
theorem wm_643 : Cond.constantLong RX12 233 (-4611686018427387904) ∈ wG := List.mem_filter.mpr ⟨wT_6 _ (List.mem_of_getElem? (i := 2) rfl), rfl⟩
theorem wm_644 : Cond.constantLong RX12 238 (5) ∈ wG := List.mem_filter.mpr ⟨wT_6 _ (List.mem_of_getElem? (i := 7) rfl), rfl⟩
theorem wm_645 : Cond.methodLink RX12 240 yX12_lowest ∈ wG := List.mem_filter.mpr ⟨wT_6 _ (List.mem_of_getElem? (i := 8) rfl), rfl⟩
theorem wm_646 : Cond.static yX12_lowest ∈ wG := List.mem_filter.mpr ⟨wT_6 _ (List.mem_of_getElem? (i := 9) rfl), rfl⟩
theorem wm_647 : Cond.code yX12_lowest cX12_lowest 11 (some .long) ∈ wG := List.mem_filter.mpr ⟨wT_6 _ (List.mem_of_getElem? (i := 10) rfl), rfl⟩
theorem wm_648 : Cond.methodLink RX12 235 yX12_lookFor ∈ wG := List.mem_filter.mpr ⟨wT_6 _ (List.mem_of_getElem? (i := 3) rfl), rfl⟩
theorem wm_649 : Cond.instanceMethod yX12_lookFor ∈ wG := List.mem_filter.mpr ⟨wT_6 _ (List.mem_of_getElem? (i := 5) rfl), rfl⟩
theorem wm_650 : Cond.selects RX12 yX12_lookFor yX12_lookFor ∈ wG := List.mem_filter.mpr ⟨List.mem_append_left _ (List.mem_of_getElem? (i := 64) rfl), rfl⟩
theorem wm_651 : Cond.code yX12_lookFor cX12_lookFor 5 (some .int) ∈ wG := List.mem_filter.mpr ⟨wT_6 _ (List.mem_of_getElem? (i := 6) rfl), rfl⟩
theorem wm_652 : Cond.fieldLink RX12 37 "WhereTheSpoonWentModel" "sheetSort" "[I" ∈ wG := List.mem_filter.mpr ⟨wT_4 _ (List.mem_of_getElem? (i := 195) rfl), rfl⟩
theorem wm_653 : Cond.fieldLink RX12 40 "WhereTheSpoonWentModel" "sheetSize" "[I" ∈ wG := List.mem_filter.mpr ⟨wT_4 _ (List.mem_of_getElem? (i := 196) rfl), rfl⟩
theorem wm_654 : Cond.methodLink RX12 244 yX12_sheetWrong ∈ wG := List.mem_filter.mpr ⟨wT_6 _ (List.mem_of_getElem? (i := 19) rfl), rfl⟩
theorem wm_655 : Cond.instanceMethod yX12_sheetWrong ∈ wG := List.mem_filter.mpr ⟨wT_6 _ (List.mem_of_getElem? (i := 21) rfl), rfl⟩
theorem wm_656 : Cond.selects RX12 yX12_sheetWrong yX12_sheetWrong ∈ wG := List.mem_filter.mpr ⟨List.mem_append_left _ (List.mem_of_getElem? (i := 66) rfl), rfl⟩
theorem wm_657 : Cond.code yX12_sheetWrong cX12_sheetWrong 2 (some .int) ∈ wG := List.mem_filter.mpr ⟨wT_6 _ (List.mem_of_getElem? (i := 22) rfl), rfl⟩
theorem wm_658 : Cond.fieldLink RX12 43 "WhereTheSpoonWentModel" "cells" "[I" ∈ wG := List.mem_filter.mpr ⟨wT_4 _ (List.mem_of_getElem? (i := 197) rfl), rfl⟩
theorem wm_659 : Cond.methodLink RX12 247 yX12_toldWrong ∈ wG := List.mem_filter.mpr ⟨wT_6 _ (List.mem_of_getElem? (i := 15) rfl), rfl⟩
theorem wm_660 : Cond.methodLink RX12 250 yX12_unlike ∈ wG := List.mem_filter.mpr ⟨wT_6 _ (List.mem_of_getElem? (i := 23) rfl), rfl⟩
theorem wm_661 : Cond.instanceMethod yX12_unlike ∈ wG := List.mem_filter.mpr ⟨wT_6 _ (List.mem_of_getElem? (i := 25) rfl), rfl⟩
theorem wm_662 : Cond.selects RX12 yX12_unlike yX12_unlike ∈ wG := List.mem_filter.mpr ⟨List.mem_append_left _ (List.mem_of_getElem? (i := 67) rfl), rfl⟩
theorem wm_663 : Cond.code yX12_unlike cX12_unlike 4 (some .int) ∈ wG := List.mem_filter.mpr ⟨wT_6 _ (List.mem_of_getElem? (i := 26) rfl), rfl⟩
theorem wm_664 : Cond.instanceMethod yX12_toldWrong ∈ wG := List.mem_filter.mpr ⟨wT_6 _ (List.mem_of_getElem? (i := 17) rfl), rfl⟩
theorem wm_665 : Cond.selects RX12 yX12_toldWrong yX12_toldWrong ∈ wG := List.mem_filter.mpr ⟨List.mem_append_left _ (List.mem_of_getElem? (i := 65) rfl), rfl⟩
theorem wm_666 : Cond.code yX12_toldWrong cX12_toldWrong 4 (some .int) ∈ wG := List.mem_filter.mpr ⟨wT_6 _ (List.mem_of_getElem? (i := 18) rfl), rfl⟩
theorem wm_667 : Cond.constantLong RX12 253 (48271) ∈ wG := List.mem_filter.mpr ⟨wT_6 _ (List.mem_of_getElem? (i := 51) rfl), rfl⟩
theorem wm_668 : Cond.constantLong RX12 255 (2147483647) ∈ wG := List.mem_filter.mpr ⟨wT_6 _ (List.mem_of_getElem? (i := 52) rfl), rfl⟩
theorem wm_669 : Cond.constant RX12 257 (99999) ∈ wG := List.mem_filter.mpr ⟨wT_6 _ (List.mem_of_getElem? (i := 46) rfl), rfl⟩
theorem wm_670 : Cond.methodLink RX12 258 yX12_isDrawn ∈ wG := List.mem_filter.mpr ⟨wT_6 _ (List.mem_of_getElem? (i := 43) rfl), rfl⟩
theorem wm_671 : Cond.methodLink RX12 261 yX12_insideBy ∈ wG := List.mem_filter.mpr ⟨wT_6 _ (List.mem_of_getElem? (i := 47) rfl), rfl⟩
theorem wm_672 : Cond.instanceMethod yX12_insideBy ∈ wG := List.mem_filter.mpr ⟨wT_6 _ (List.mem_of_getElem? (i := 49) rfl), rfl⟩
theorem wm_673 : Cond.selects RX12 yX12_insideBy yX12_insideBy ∈ wG := List.mem_filter.mpr ⟨List.mem_append_left _ (List.mem_of_getElem? (i := 68) rfl), rfl⟩
theorem wm_674 : Cond.code yX12_insideBy cX12_insideBy 8 (some .int) ∈ wG := List.mem_filter.mpr ⟨wT_6 _ (List.mem_of_getElem? (i := 50) rfl), rfl⟩
theorem wm_675 : Cond.static yX12_isDrawn ∈ wG := List.mem_filter.mpr ⟨wT_6 _ (List.mem_of_getElem? (i := 44) rfl), rfl⟩
theorem wm_676 : Cond.code yX12_isDrawn cX12_isDrawn 3 (some .boolean) ∈ wG := List.mem_filter.mpr ⟨wT_6 _ (List.mem_of_getElem? (i := 45) rfl), rfl⟩
theorem wm_677 : Cond.fieldLink RX12 264 "WhereTheSpoonWentModel" "hasImage" "Z" ∈ wG := List.mem_filter.mpr ⟨wT_4 _ (List.mem_of_getElem? (i := 191) rfl), rfl⟩
theorem wm_678 : Cond.fieldLink RX12 268 "WhereTheSpoonWentModel" "imageThings" "I" ∈ wG := List.mem_filter.mpr ⟨wT_4 _ (List.mem_of_getElem? (i := 192) rfl), rfl⟩
theorem wm_679 : Cond.fieldLink RX12 271 "WhereTheSpoonWentModel" "imageRule" "I" ∈ wG := List.mem_filter.mpr ⟨wT_4 _ (List.mem_of_getElem? (i := 193) rfl), rfl⟩
theorem wm_680 : Cond.fieldLink RX12 34 "WhereTheSpoonWentModel" "imageRows" "[I" ∈ wG := List.mem_filter.mpr ⟨wT_4 _ (List.mem_of_getElem? (i := 194) rfl), rfl⟩
theorem wm_681 : Cond.methodLink RX12 274 yX12_thing ∈ wG := List.mem_filter.mpr ⟨wT_6 _ (List.mem_of_getElem? (i := 81) rfl), rfl⟩
theorem wm_682 : Cond.instanceMethod yX12_thing ∈ wG := List.mem_filter.mpr ⟨wT_5 _ (List.mem_of_getElem? (i := 101) rfl), rfl⟩
theorem wm_683 : Cond.selects RX12 yX12_thing yX12_thing ∈ wG := List.mem_filter.mpr ⟨wT_5 _ (List.mem_of_getElem? (i := 102) rfl), rfl⟩
theorem wm_684 : Cond.code yX12_thing cX12_thing 4 (some .int) ∈ wG := List.mem_filter.mpr ⟨wT_5 _ (List.mem_of_getElem? (i := 103) rfl), rfl⟩
theorem wm_685 : Cond.methodLink RX12 277 yX12_isUnder ∈ wG := List.mem_filter.mpr ⟨wT_6 _ (List.mem_of_getElem? (i := 86) rfl), rfl⟩
theorem wm_686 : Cond.static yX12_isUnder ∈ wG := List.mem_filter.mpr ⟨wT_6 _ (List.mem_of_getElem? (i := 87) rfl), rfl⟩
theorem wm_687 : Cond.code yX12_isUnder cX12_isUnder 2 (some .boolean) ∈ wG := List.mem_filter.mpr ⟨wT_6 _ (List.mem_of_getElem? (i := 88) rfl), rfl⟩
theorem wm_688 : Cond.methodLink RX10 3 ⟨"java/lang/Object", "<init>", "()V"⟩ ∈ wG := List.mem_filter.mpr ⟨wT_1 _ (List.mem_of_getElem? (i := 155) rfl), rfl⟩
theorem wm_689 : Cond.instanceMethod ⟨"java/lang/Object", "<init>", "()V"⟩ ∈ wG := List.mem_filter.mpr ⟨wT_1 _ (List.mem_of_getElem? (i := 26) rfl), rfl⟩
theorem wm_690 : Cond.code ⟨"java/lang/Object", "<init>", "()V"⟩ object_method_1_code 1 none ∈ wG := List.mem_filter.mpr ⟨wT_1 _ (List.mem_of_getElem? (i := 27) rfl), rfl⟩
theorem wm_691 : Cond.instanceMethod yX10_init ∈ wG := List.mem_filter.mpr ⟨wT_1 _ (List.mem_of_getElem? (i := 153) rfl), rfl⟩
theorem wm_692 : Cond.code yX10_init cX10_init 1 none ∈ wG := List.mem_filter.mpr ⟨wT_1 _ (List.mem_of_getElem? (i := 154) rfl), rfl⟩
theorem wm_693 : Cond.instanceMethod yX7_init ∈ wG := List.mem_filter.mpr ⟨wT_1 _ (List.mem_of_getElem? (i := 160) rfl), rfl⟩
theorem wm_694 : Cond.code yX7_init cX7_init 1 none ∈ wG := List.mem_filter.mpr ⟨wT_1 _ (List.mem_of_getElem? (i := 161) rfl), rfl⟩
theorem wm_695 : Cond.instanceMethod yX5_init ∈ wG := List.mem_filter.mpr ⟨wT_1 _ (List.mem_of_getElem? (i := 167) rfl), rfl⟩
theorem wm_696 : Cond.code yX5_init cX5_init 1 none ∈ wG := List.mem_filter.mpr ⟨wT_1 _ (List.mem_of_getElem? (i := 168) rfl), rfl⟩
theorem wm_697 : Cond.methodLink RX3 3 ⟨"java/lang/Object", "<init>", "()V"⟩ ∈ wG := List.mem_filter.mpr ⟨wT_1 _ (List.mem_of_getElem? (i := 33) rfl), rfl⟩
theorem wm_698 : Cond.arrayClass .int ∈ wG := List.mem_filter.mpr ⟨wT_1 _ (List.mem_of_getElem? (i := 76) rfl), rfl⟩
theorem wm_699 : Cond.methodLink RX4 3 ⟨"java/lang/Object", "<init>", "()V"⟩ ∈ wG := List.mem_filter.mpr ⟨wT_1 _ (List.mem_of_getElem? (i := 86) rfl), rfl⟩
theorem wm_700 : Cond.arrayClass .byte ∈ wG := List.mem_filter.mpr ⟨wT_1 _ (List.mem_of_getElem? (i := 110) rfl), rfl⟩
theorem wm_701 : Cond.methodLink RX6 3 ⟨"java/lang/Object", "<init>", "()V"⟩ ∈ wG := List.mem_filter.mpr ⟨wT_1 _ (List.mem_of_getElem? (i := 233) rfl), rfl⟩
theorem wm_702 : Cond.methodLink RX9 3 ⟨"java/lang/Object", "<init>", "()V"⟩ ∈ wG := List.mem_filter.mpr ⟨wT_1 _ (List.mem_of_getElem? (i := 196) rfl), rfl⟩
theorem wm_703 : Cond.methodLink RX1 3 ⟨"java/lang/Object", "<init>", "()V"⟩ ∈ wG := List.mem_filter.mpr ⟨wT_1 _ (List.mem_of_getElem? (i := 118) rfl), rfl⟩
theorem wm_704 : Cond.methodLink RX11 3 ⟨"java/lang/Object", "<init>", "()V"⟩ ∈ wG := List.mem_filter.mpr ⟨wT_1 _ (List.mem_of_getElem? (i := 25) rfl), rfl⟩
theorem wm_705 : Cond.classLink RX11 9 RX3 ∈ wG := List.mem_filter.mpr ⟨wT_1 _ (List.mem_of_getElem? (i := 28) rfl), rfl⟩
theorem wm_706 : Cond.instantiable RX3 10 ∈ wG := List.mem_filter.mpr ⟨wT_1 _ (List.mem_of_getElem? (i := 29) rfl), rfl⟩
theorem wm_707 : Cond.instanceMethod yX3_init ∈ wG := List.mem_filter.mpr ⟨wT_1 _ (List.mem_of_getElem? (i := 31) rfl), rfl⟩
theorem wm_708 : Cond.code yX3_init cX3_init 1 none ∈ wG := List.mem_filter.mpr ⟨wT_1 _ (List.mem_of_getElem? (i := 32) rfl), rfl⟩
theorem wm_709 : Cond.classLink RX11 19 RX10 ∈ wG := List.mem_filter.mpr ⟨wT_1 _ (List.mem_of_getElem? (i := 77) rfl), rfl⟩
theorem wm_710 : Cond.classLink RX11 25 RX9 ∈ wG := List.mem_filter.mpr ⟨wT_1 _ (List.mem_of_getElem? (i := 79) rfl), rfl⟩
theorem wm_711 : Cond.classLink RX11 31 RX4 ∈ wG := List.mem_filter.mpr ⟨wT_1 _ (List.mem_of_getElem? (i := 81) rfl), rfl⟩
theorem wm_712 : Cond.instantiable RX4 7 ∈ wG := List.mem_filter.mpr ⟨wT_1 _ (List.mem_of_getElem? (i := 82) rfl), rfl⟩
theorem wm_713 : Cond.instanceMethod yX4_init ∈ wG := List.mem_filter.mpr ⟨wT_1 _ (List.mem_of_getElem? (i := 84) rfl), rfl⟩
theorem wm_714 : Cond.code yX4_init cX4_init 1 none ∈ wG := List.mem_filter.mpr ⟨wT_1 _ (List.mem_of_getElem? (i := 85) rfl), rfl⟩
theorem wm_715 : Cond.classLink RX11 38 RX6 ∈ wG := List.mem_filter.mpr ⟨wT_1 _ (List.mem_of_getElem? (i := 111) rfl), rfl⟩
theorem wm_716 : Cond.classLink RX11 44 RX1 ∈ wG := List.mem_filter.mpr ⟨wT_1 _ (List.mem_of_getElem? (i := 113) rfl), rfl⟩
theorem wm_717 : Cond.instantiable RX1 8 ∈ wG := List.mem_filter.mpr ⟨wT_1 _ (List.mem_of_getElem? (i := 114) rfl), rfl⟩
theorem wm_718 : Cond.instanceMethod yX1_init ∈ wG := List.mem_filter.mpr ⟨wT_1 _ (List.mem_of_getElem? (i := 116) rfl), rfl⟩
theorem wm_719 : Cond.code yX1_init cX1_init 2 none ∈ wG := List.mem_filter.mpr ⟨wT_1 _ (List.mem_of_getElem? (i := 117) rfl), rfl⟩
theorem wm_720 : Cond.methodLink RX11 46 yX1_init ∈ wG := List.mem_filter.mpr ⟨wT_1 _ (List.mem_of_getElem? (i := 115) rfl), rfl⟩
theorem wm_721 : Cond.instantiable RX10 0 ∈ wG := List.mem_filter.mpr ⟨wT_1 _ (List.mem_of_getElem? (i := 151) rfl), rfl⟩
theorem wm_722 : Cond.classLink RX11 70 RX7 ∈ wG := List.mem_filter.mpr ⟨wT_1 _ (List.mem_of_getElem? (i := 157) rfl), rfl⟩
theorem wm_723 : Cond.instantiable RX7 0 ∈ wG := List.mem_filter.mpr ⟨wT_1 _ (List.mem_of_getElem? (i := 158) rfl), rfl⟩
theorem wm_724 : Cond.classLink RX11 73 RX5 ∈ wG := List.mem_filter.mpr ⟨wT_1 _ (List.mem_of_getElem? (i := 164) rfl), rfl⟩
theorem wm_725 : Cond.instantiable RX5 0 ∈ wG := List.mem_filter.mpr ⟨wT_1 _ (List.mem_of_getElem? (i := 165) rfl), rfl⟩
theorem wm_726 : Cond.classLink RX11 76 RX8 ∈ wG := List.mem_filter.mpr ⟨wT_1 _ (List.mem_of_getElem? (i := 171) rfl), rfl⟩
theorem wm_727 : Cond.instantiable RX8 0 ∈ wG := List.mem_filter.mpr ⟨wT_1 _ (List.mem_of_getElem? (i := 172) rfl), rfl⟩
theorem wm_728 : Cond.initialized RX8 ∈ wG := List.mem_filter.mpr ⟨wT_1 _ (List.mem_of_getElem? (i := 8) rfl), rfl⟩
theorem wm_729 : Cond.instanceMethod yX8_init ∈ wG := List.mem_filter.mpr ⟨wT_1 _ (List.mem_of_getElem? (i := 174) rfl), rfl⟩
theorem wm_730 : Cond.code yX8_init cX8_init 1 none ∈ wG := List.mem_filter.mpr ⟨wT_1 _ (List.mem_of_getElem? (i := 175) rfl), rfl⟩
theorem wm_731 : Cond.classLink RX11 79 RX0 ∈ wG := List.mem_filter.mpr ⟨wT_1 _ (List.mem_of_getElem? (i := 178) rfl), rfl⟩
theorem wm_732 : Cond.instantiable RX0 0 ∈ wG := List.mem_filter.mpr ⟨wT_1 _ (List.mem_of_getElem? (i := 179) rfl), rfl⟩
theorem wm_733 : Cond.initialized RX0 ∈ wG := List.mem_filter.mpr ⟨wT_1 _ (List.mem_of_getElem? (i := 9) rfl), rfl⟩
theorem wm_734 : Cond.instanceMethod yX0_init ∈ wG := List.mem_filter.mpr ⟨wT_1 _ (List.mem_of_getElem? (i := 181) rfl), rfl⟩
theorem wm_735 : Cond.code yX0_init cX0_init 1 none ∈ wG := List.mem_filter.mpr ⟨wT_1 _ (List.mem_of_getElem? (i := 182) rfl), rfl⟩
theorem wm_736 : Cond.classLink RX11 82 RX2 ∈ wG := List.mem_filter.mpr ⟨wT_1 _ (List.mem_of_getElem? (i := 185) rfl), rfl⟩
theorem wm_737 : Cond.instantiable RX2 0 ∈ wG := List.mem_filter.mpr ⟨wT_1 _ (List.mem_of_getElem? (i := 186) rfl), rfl⟩
theorem wm_738 : Cond.initialized RX2 ∈ wG := List.mem_filter.mpr ⟨wT_1 _ (List.mem_of_getElem? (i := 10) rfl), rfl⟩
theorem wm_739 : Cond.instanceMethod yX2_init ∈ wG := List.mem_filter.mpr ⟨wT_1 _ (List.mem_of_getElem? (i := 188) rfl), rfl⟩
theorem wm_740 : Cond.code yX2_init cX2_init 1 none ∈ wG := List.mem_filter.mpr ⟨wT_1 _ (List.mem_of_getElem? (i := 189) rfl), rfl⟩
theorem wm_741 : Cond.instantiable RX9 5 ∈ wG := List.mem_filter.mpr ⟨wT_1 _ (List.mem_of_getElem? (i := 192) rfl), rfl⟩
theorem wm_742 : Cond.instanceMethod yX9_init ∈ wG := List.mem_filter.mpr ⟨wT_1 _ (List.mem_of_getElem? (i := 194) rfl), rfl⟩
theorem wm_743 : Cond.code yX9_init cX9_init 2 none ∈ wG := List.mem_filter.mpr ⟨wT_1 _ (List.mem_of_getElem? (i := 195) rfl), rfl⟩
theorem wm_744 : Cond.methodLink RX11 85 yX9_init ∈ wG := List.mem_filter.mpr ⟨wT_1 _ (List.mem_of_getElem? (i := 193) rfl), rfl⟩
theorem wm_745 : Cond.methodLink RX11 88 yX9_becomeNumbers ∈ wG := List.mem_filter.mpr ⟨wT_1 _ (List.mem_of_getElem? (i := 213) rfl), rfl⟩
theorem wm_746 : Cond.instanceMethod yX9_becomeNumbers ∈ wG := List.mem_filter.mpr ⟨wT_1 _ (List.mem_of_getElem? (i := 214) rfl), rfl⟩
theorem wm_747 : Cond.selects RX9 yX9_becomeNumbers yX9_becomeNumbers ∈ wG := List.mem_filter.mpr ⟨wT_1 _ (List.mem_of_getElem? (i := 215) rfl), rfl⟩
theorem wm_748 : Cond.code yX9_becomeNumbers cX9_becomeNumbers 4 none ∈ wG := List.mem_filter.mpr ⟨wT_1 _ (List.mem_of_getElem? (i := 216) rfl), rfl⟩
theorem wm_749 : Cond.instantiable RX6 3 ∈ wG := List.mem_filter.mpr ⟨wT_1 _ (List.mem_of_getElem? (i := 229) rfl), rfl⟩
theorem wm_750 : Cond.instanceMethod yX6_init ∈ wG := List.mem_filter.mpr ⟨wT_1 _ (List.mem_of_getElem? (i := 231) rfl), rfl⟩
theorem wm_751 : Cond.code yX6_init cX6_init 1 none ∈ wG := List.mem_filter.mpr ⟨wT_1 _ (List.mem_of_getElem? (i := 232) rfl), rfl⟩
theorem wm_752 : Cond.methodLink RX12 1 ⟨"java/lang/Object", "<init>", "()V"⟩ ∈ wG := List.mem_filter.mpr ⟨wT_4 _ (List.mem_of_getElem? (i := 130) rfl), rfl⟩
theorem wm_753 : Cond.fieldLink RX12 46 "WhereTheSpoonWentModel" "law" "[I" ∈ wG := List.mem_filter.mpr ⟨wT_4 _ (List.mem_of_getElem? (i := 198) rfl), rfl⟩
theorem wm_754 : Cond.methodLink RX12 71 yX12_text ∈ wG := List.mem_filter.mpr ⟨wT_4 _ (List.mem_of_getElem? (i := 131) rfl), rfl⟩
theorem wm_755 : Cond.instanceMethod yX12_text ∈ wG := List.mem_filter.mpr ⟨wT_4 _ (List.mem_of_getElem? (i := 132) rfl), rfl⟩
theorem wm_756 : Cond.selects RX12 yX12_text yX12_text ∈ wG := List.mem_filter.mpr ⟨wT_4 _ (List.mem_of_getElem? (i := 133) rfl), rfl⟩
theorem wm_757 : Cond.code yX12_text cX12_text 3 (some .int) ∈ wG := List.mem_filter.mpr ⟨wT_4 _ (List.mem_of_getElem? (i := 134) rfl), rfl⟩
theorem wm_758 : Cond.methodLink RL 13 yX11_house ∈ wG := List.mem_filter.mpr ⟨wT_2 _ (List.mem_of_getElem? (i := 50) rfl), rfl⟩
theorem wm_759 : Cond.instanceMethod yX11_house ∈ wG := List.mem_filter.mpr ⟨wT_2 _ (List.mem_of_getElem? (i := 51) rfl), rfl⟩
theorem wm_760 : Cond.selects RX11 yX11_house yX11_house ∈ wG := List.mem_filter.mpr ⟨wT_2 _ (List.mem_of_getElem? (i := 52) rfl), rfl⟩
theorem wm_761 : Cond.code yX11_house cX11_house 5 (some .int) ∈ wG := List.mem_filter.mpr ⟨wT_2 _ (List.mem_of_getElem? (i := 53) rfl), rfl⟩
theorem wm_762 : Cond.methodLink RL 17 yX12_house ∈ wG := List.mem_filter.mpr ⟨wT_5 _ (List.mem_of_getElem? (i := 47) rfl), rfl⟩
theorem wm_763 : Cond.instanceMethod yX12_house ∈ wG := List.mem_filter.mpr ⟨wT_5 _ (List.mem_of_getElem? (i := 48) rfl), rfl⟩
theorem wm_764 : Cond.selects RX12 yX12_house yX12_house ∈ wG := List.mem_filter.mpr ⟨wT_5 _ (List.mem_of_getElem? (i := 49) rfl), rfl⟩
theorem wm_765 : Cond.code yX12_house cX12_house 5 (some .int) ∈ wG := List.mem_filter.mpr ⟨wT_5 _ (List.mem_of_getElem? (i := 50) rfl), rfl⟩
theorem wm_766 : Cond.methodLink RL 18 yX11_set ∈ wG := List.mem_filter.mpr ⟨wT_2 _ (List.mem_of_getElem? (i := 72) rfl), rfl⟩
theorem wm_767 : Cond.instanceMethod yX11_set ∈ wG := List.mem_filter.mpr ⟨wT_2 _ (List.mem_of_getElem? (i := 73) rfl), rfl⟩
theorem wm_768 : Cond.selects RX11 yX11_set yX11_set ∈ wG := List.mem_filter.mpr ⟨wT_2 _ (List.mem_of_getElem? (i := 74) rfl), rfl⟩
theorem wm_769 : Cond.code yX11_set cX11_set 3 (some .int) ∈ wG := List.mem_filter.mpr ⟨wT_2 _ (List.mem_of_getElem? (i := 75) rfl), rfl⟩
theorem wm_770 : Cond.methodLink RL 22 yX12_set ∈ wG := List.mem_filter.mpr ⟨wT_5 _ (List.mem_of_getElem? (i := 62) rfl), rfl⟩
theorem wm_771 : Cond.instanceMethod yX12_set ∈ wG := List.mem_filter.mpr ⟨wT_5 _ (List.mem_of_getElem? (i := 63) rfl), rfl⟩
theorem wm_772 : Cond.selects RX12 yX12_set yX12_set ∈ wG := List.mem_filter.mpr ⟨wT_5 _ (List.mem_of_getElem? (i := 64) rfl), rfl⟩
theorem wm_773 : Cond.code yX12_set cX12_set 3 (some .int) ∈ wG := List.mem_filter.mpr ⟨wT_5 _ (List.mem_of_getElem? (i := 65) rfl), rfl⟩
theorem wm_774 : Cond.methodLink RL 23 yX11_count ∈ wG := List.mem_filter.mpr ⟨wT_2 _ (List.mem_of_getElem? (i := 79) rfl), rfl⟩
theorem wm_775 : Cond.instanceMethod yX11_count ∈ wG := List.mem_filter.mpr ⟨wT_2 _ (List.mem_of_getElem? (i := 80) rfl), rfl⟩
theorem wm_776 : Cond.selects RX11 yX11_count yX11_count ∈ wG := List.mem_filter.mpr ⟨wT_2 _ (List.mem_of_getElem? (i := 81) rfl), rfl⟩
theorem wm_777 : Cond.code yX11_count cX11_count 2 (some .int) ∈ wG := List.mem_filter.mpr ⟨wT_2 _ (List.mem_of_getElem? (i := 82) rfl), rfl⟩
theorem wm_778 : Cond.methodLink RL 26 yX12_count ∈ wG := List.mem_filter.mpr ⟨wT_5 _ (List.mem_of_getElem? (i := 66) rfl), rfl⟩
theorem wm_779 : Cond.instanceMethod yX12_count ∈ wG := List.mem_filter.mpr ⟨wT_5 _ (List.mem_of_getElem? (i := 67) rfl), rfl⟩
theorem wm_780 : Cond.selects RX12 yX12_count yX12_count ∈ wG := List.mem_filter.mpr ⟨wT_5 _ (List.mem_of_getElem? (i := 68) rfl), rfl⟩
theorem wm_781 : Cond.code yX12_count cX12_count 2 (some .int) ∈ wG := List.mem_filter.mpr ⟨wT_5 _ (List.mem_of_getElem? (i := 69) rfl), rfl⟩
theorem wm_782 : Cond.methodLink RL 27 yX11_feed ∈ wG := List.mem_filter.mpr ⟨wT_2 _ (List.mem_of_getElem? (i := 83) rfl), rfl⟩
theorem wm_783 : Cond.instanceMethod yX11_feed ∈ wG := List.mem_filter.mpr ⟨wT_2 _ (List.mem_of_getElem? (i := 84) rfl), rfl⟩
theorem wm_784 : Cond.selects RX11 yX11_feed yX11_feed ∈ wG := List.mem_filter.mpr ⟨wT_2 _ (List.mem_of_getElem? (i := 85) rfl), rfl⟩
theorem wm_785 : Cond.code yX11_feed cX11_feed 8 (some .int) ∈ wG := List.mem_filter.mpr ⟨wT_2 _ (List.mem_of_getElem? (i := 86) rfl), rfl⟩
theorem wm_786 : Cond.methodLink RL 31 yX12_feed ∈ wG := List.mem_filter.mpr ⟨wT_5 _ (List.mem_of_getElem? (i := 70) rfl), rfl⟩
theorem wm_787 : Cond.instanceMethod yX12_feed ∈ wG := List.mem_filter.mpr ⟨wT_5 _ (List.mem_of_getElem? (i := 71) rfl), rfl⟩
theorem wm_788 : Cond.selects RX12 yX12_feed yX12_feed ∈ wG := List.mem_filter.mpr ⟨wT_5 _ (List.mem_of_getElem? (i := 72) rfl), rfl⟩
theorem wm_789 : Cond.code yX12_feed cX12_feed 8 (some .int) ∈ wG := List.mem_filter.mpr ⟨wT_5 _ (List.mem_of_getElem? (i := 73) rfl), rfl⟩
theorem wm_790 : Cond.methodLink RL 32 yX11_text ∈ wG := List.mem_filter.mpr ⟨wT_2 _ (List.mem_of_getElem? (i := 94) rfl), rfl⟩
theorem wm_791 : Cond.instanceMethod yX11_text ∈ wG := List.mem_filter.mpr ⟨wT_2 _ (List.mem_of_getElem? (i := 95) rfl), rfl⟩
theorem wm_792 : Cond.selects RX11 yX11_text yX11_text ∈ wG := List.mem_filter.mpr ⟨wT_2 _ (List.mem_of_getElem? (i := 96) rfl), rfl⟩
theorem wm_793 : Cond.code yX11_text cX11_text 2 (some .int) ∈ wG := List.mem_filter.mpr ⟨wT_2 _ (List.mem_of_getElem? (i := 97) rfl), rfl⟩
theorem wm_794 : Cond.methodLink RL 36 yX12_text ∈ wG := List.mem_filter.mpr ⟨wT_5 _ (List.mem_of_getElem? (i := 77) rfl), rfl⟩
theorem wm_795 : Cond.methodLink RL 37 yX11_force ∈ wG := List.mem_filter.mpr ⟨wT_2 _ (List.mem_of_getElem? (i := 226) rfl), rfl⟩
theorem wm_796 : Cond.instanceMethod yX11_force ∈ wG := List.mem_filter.mpr ⟨wT_2 _ (List.mem_of_getElem? (i := 227) rfl), rfl⟩
theorem wm_797 : Cond.selects RX11 yX11_force yX11_force ∈ wG := List.mem_filter.mpr ⟨wT_2 _ (List.mem_of_getElem? (i := 228) rfl), rfl⟩
theorem wm_798 : Cond.code yX11_force cX11_force 3 (some .int) ∈ wG := List.mem_filter.mpr ⟨wT_2 _ (List.mem_of_getElem? (i := 229) rfl), rfl⟩
theorem wm_799 : Cond.methodLink RL 40 yX12_force ∈ wG := List.mem_filter.mpr ⟨wT_5 _ (List.mem_of_getElem? (i := 78) rfl), rfl⟩
theorem wm_800 : Cond.instanceMethod yX12_force ∈ wG := List.mem_filter.mpr ⟨wT_5 _ (List.mem_of_getElem? (i := 79) rfl), rfl⟩
theorem wm_801 : Cond.selects RX12 yX12_force yX12_force ∈ wG := List.mem_filter.mpr ⟨wT_5 _ (List.mem_of_getElem? (i := 80) rfl), rfl⟩
theorem wm_802 : Cond.code yX12_force cX12_force 3 (some .int) ∈ wG := List.mem_filter.mpr ⟨wT_5 _ (List.mem_of_getElem? (i := 81) rfl), rfl⟩
theorem wm_803 : Cond.methodLink RL 41 yX11_asks ∈ wG := List.mem_filter.mpr ⟨wT_2 _ (List.mem_of_getElem? (i := 230) rfl), rfl⟩
theorem wm_804 : Cond.instanceMethod yX11_asks ∈ wG := List.mem_filter.mpr ⟨wT_2 _ (List.mem_of_getElem? (i := 231) rfl), rfl⟩
theorem wm_805 : Cond.selects RX11 yX11_asks yX11_asks ∈ wG := List.mem_filter.mpr ⟨wT_2 _ (List.mem_of_getElem? (i := 232) rfl), rfl⟩
theorem wm_806 : Cond.code yX11_asks cX11_asks 5 (some .int) ∈ wG := List.mem_filter.mpr ⟨wT_2 _ (List.mem_of_getElem? (i := 233) rfl), rfl⟩
theorem wm_807 : Cond.methodLink RL 45 yX12_asks ∈ wG := List.mem_filter.mpr ⟨wT_5 _ (List.mem_of_getElem? (i := 82) rfl), rfl⟩
theorem wm_808 : Cond.instanceMethod yX12_asks ∈ wG := List.mem_filter.mpr ⟨wT_5 _ (List.mem_of_getElem? (i := 83) rfl), rfl⟩
theorem wm_809 : Cond.selects RX12 yX12_asks yX12_asks ∈ wG := List.mem_filter.mpr ⟨wT_5 _ (List.mem_of_getElem? (i := 84) rfl), rfl⟩
theorem wm_810 : Cond.code yX12_asks cX12_asks 6 (some .int) ∈ wG := List.mem_filter.mpr ⟨wT_5 _ (List.mem_of_getElem? (i := 85) rfl), rfl⟩
theorem wm_811 : Cond.methodLink RL 46 yX11_thing ∈ wG := List.mem_filter.mpr ⟨wT_3 _ (List.mem_of_getElem? (i := 14) rfl), rfl⟩
theorem wm_812 : Cond.methodLink RL 49 yX12_thing ∈ wG := List.mem_filter.mpr ⟨wT_5 _ (List.mem_of_getElem? (i := 100) rfl), rfl⟩
theorem wm_813 : Cond.methodLink RL 50 yX11_put ∈ wG := List.mem_filter.mpr ⟨wT_3 _ (List.mem_of_getElem? (i := 25) rfl), rfl⟩
theorem wm_814 : Cond.instanceMethod yX11_put ∈ wG := List.mem_filter.mpr ⟨wT_3 _ (List.mem_of_getElem? (i := 26) rfl), rfl⟩
theorem wm_815 : Cond.selects RX11 yX11_put yX11_put ∈ wG := List.mem_filter.mpr ⟨wT_3 _ (List.mem_of_getElem? (i := 27) rfl), rfl⟩
theorem wm_816 : Cond.code yX11_put cX11_put 5 (some .int) ∈ wG := List.mem_filter.mpr ⟨wT_3 _ (List.mem_of_getElem? (i := 28) rfl), rfl⟩
theorem wm_817 : Cond.methodLink RL 53 yX12_put ∈ wG := List.mem_filter.mpr ⟨wT_5 _ (List.mem_of_getElem? (i := 108) rfl), rfl⟩
theorem wm_818 : Cond.instanceMethod yX12_put ∈ wG := List.mem_filter.mpr ⟨wT_5 _ (List.mem_of_getElem? (i := 109) rfl), rfl⟩
theorem wm_819 : Cond.selects RX12 yX12_put yX12_put ∈ wG := List.mem_filter.mpr ⟨wT_5 _ (List.mem_of_getElem? (i := 110) rfl), rfl⟩
theorem wm_820 : Cond.code yX12_put cX12_put 5 (some .int) ∈ wG := List.mem_filter.mpr ⟨wT_5 _ (List.mem_of_getElem? (i := 111) rfl), rfl⟩
theorem wm_821 : Cond.methodLink RL 54 yX11_told ∈ wG := List.mem_filter.mpr ⟨wT_3 _ (List.mem_of_getElem? (i := 33) rfl), rfl⟩
theorem wm_822 : Cond.instanceMethod yX11_told ∈ wG := List.mem_filter.mpr ⟨wT_3 _ (List.mem_of_getElem? (i := 34) rfl), rfl⟩
theorem wm_823 : Cond.selects RX11 yX11_told yX11_told ∈ wG := List.mem_filter.mpr ⟨wT_3 _ (List.mem_of_getElem? (i := 35) rfl), rfl⟩
theorem wm_824 : Cond.code yX11_told cX11_told 3 (some .int) ∈ wG := List.mem_filter.mpr ⟨wT_3 _ (List.mem_of_getElem? (i := 36) rfl), rfl⟩
theorem wm_825 : Cond.methodLink RL 58 yX12_told ∈ wG := List.mem_filter.mpr ⟨wT_5 _ (List.mem_of_getElem? (i := 116) rfl), rfl⟩
theorem wm_826 : Cond.instanceMethod yX12_told ∈ wG := List.mem_filter.mpr ⟨wT_5 _ (List.mem_of_getElem? (i := 117) rfl), rfl⟩
theorem wm_827 : Cond.selects RX12 yX12_told yX12_told ∈ wG := List.mem_filter.mpr ⟨wT_5 _ (List.mem_of_getElem? (i := 118) rfl), rfl⟩
theorem wm_828 : Cond.code yX12_told cX12_told 3 (some .int) ∈ wG := List.mem_filter.mpr ⟨wT_5 _ (List.mem_of_getElem? (i := 119) rfl), rfl⟩
theorem wm_829 : Cond.methodLink RL 59 yX11_at ∈ wG := List.mem_filter.mpr ⟨wT_3 _ (List.mem_of_getElem? (i := 37) rfl), rfl⟩
theorem wm_830 : Cond.instanceMethod yX11_at ∈ wG := List.mem_filter.mpr ⟨wT_3 _ (List.mem_of_getElem? (i := 38) rfl), rfl⟩
theorem wm_831 : Cond.selects RX11 yX11_at yX11_at ∈ wG := List.mem_filter.mpr ⟨wT_3 _ (List.mem_of_getElem? (i := 39) rfl), rfl⟩
theorem wm_832 : Cond.code yX11_at cX11_at 5 (some .int) ∈ wG := List.mem_filter.mpr ⟨wT_3 _ (List.mem_of_getElem? (i := 40) rfl), rfl⟩
theorem wm_833 : Cond.methodLink RL 62 yX12_at ∈ wG := List.mem_filter.mpr ⟨wT_5 _ (List.mem_of_getElem? (i := 120) rfl), rfl⟩
theorem wm_834 : Cond.instanceMethod yX12_at ∈ wG := List.mem_filter.mpr ⟨wT_5 _ (List.mem_of_getElem? (i := 121) rfl), rfl⟩
theorem wm_835 : Cond.selects RX12 yX12_at yX12_at ∈ wG := List.mem_filter.mpr ⟨wT_5 _ (List.mem_of_getElem? (i := 122) rfl), rfl⟩
theorem wm_836 : Cond.code yX12_at cX12_at 5 (some .int) ∈ wG := List.mem_filter.mpr ⟨wT_5 _ (List.mem_of_getElem? (i := 123) rfl), rfl⟩
theorem wm_837 : Cond.methodLink RL 63 yX11_run ∈ wG := List.mem_filter.mpr ⟨wT_3 _ (List.mem_of_getElem? (i := 117) rfl), rfl⟩
theorem wm_838 : Cond.instanceMethod yX11_run ∈ wG := List.mem_filter.mpr ⟨wT_3 _ (List.mem_of_getElem? (i := 118) rfl), rfl⟩
theorem wm_839 : Cond.selects RX11 yX11_run yX11_run ∈ wG := List.mem_filter.mpr ⟨wT_3 _ (List.mem_of_getElem? (i := 119) rfl), rfl⟩
theorem wm_840 : Cond.code yX11_run cX11_run 5 (some .int) ∈ wG := List.mem_filter.mpr ⟨wT_3 _ (List.mem_of_getElem? (i := 120) rfl), rfl⟩
theorem wm_841 : Cond.methodLink RL 66 yX12_run ∈ wG := List.mem_filter.mpr ⟨wT_5 _ (List.mem_of_getElem? (i := 154) rfl), rfl⟩
theorem wm_842 : Cond.instanceMethod yX12_run ∈ wG := List.mem_filter.mpr ⟨wT_5 _ (List.mem_of_getElem? (i := 155) rfl), rfl⟩
theorem wm_843 : Cond.selects RX12 yX12_run yX12_run ∈ wG := List.mem_filter.mpr ⟨wT_5 _ (List.mem_of_getElem? (i := 156) rfl), rfl⟩
theorem wm_844 : Cond.code yX12_run cX12_run 4 (some .int) ∈ wG := List.mem_filter.mpr ⟨wT_5 _ (List.mem_of_getElem? (i := 157) rfl), rfl⟩
theorem wm_845 : Cond.methodLink RL 67 yX11_when ∈ wG := List.mem_filter.mpr ⟨wT_3 _ (List.mem_of_getElem? (i := 122) rfl), rfl⟩
theorem wm_846 : Cond.instanceMethod yX11_when ∈ wG := List.mem_filter.mpr ⟨wT_3 _ (List.mem_of_getElem? (i := 123) rfl), rfl⟩
theorem wm_847 : Cond.selects RX11 yX11_when yX11_when ∈ wG := List.mem_filter.mpr ⟨wT_3 _ (List.mem_of_getElem? (i := 124) rfl), rfl⟩
theorem wm_848 : Cond.code yX11_when cX11_when 3 (some .int) ∈ wG := List.mem_filter.mpr ⟨wT_3 _ (List.mem_of_getElem? (i := 125) rfl), rfl⟩
theorem wm_849 : Cond.methodLink RL 70 yX12_when ∈ wG := List.mem_filter.mpr ⟨wT_5 _ (List.mem_of_getElem? (i := 158) rfl), rfl⟩
theorem wm_850 : Cond.instanceMethod yX12_when ∈ wG := List.mem_filter.mpr ⟨wT_5 _ (List.mem_of_getElem? (i := 159) rfl), rfl⟩
theorem wm_851 : Cond.selects RX12 yX12_when yX12_when ∈ wG := List.mem_filter.mpr ⟨wT_5 _ (List.mem_of_getElem? (i := 160) rfl), rfl⟩
theorem wm_852 : Cond.code yX12_when cX12_when 3 (some .int) ∈ wG := List.mem_filter.mpr ⟨wT_5 _ (List.mem_of_getElem? (i := 161) rfl), rfl⟩
theorem wm_853 : Cond.methodLink RL 71 yX11_meet ∈ wG := List.mem_filter.mpr ⟨wT_3 _ (List.mem_of_getElem? (i := 142) rfl), rfl⟩
theorem wm_854 : Cond.instanceMethod yX11_meet ∈ wG := List.mem_filter.mpr ⟨wT_3 _ (List.mem_of_getElem? (i := 143) rfl), rfl⟩
theorem wm_855 : Cond.selects RX11 yX11_meet yX11_meet ∈ wG := List.mem_filter.mpr ⟨wT_3 _ (List.mem_of_getElem? (i := 144) rfl), rfl⟩
theorem wm_856 : Cond.code yX11_meet cX11_meet 5 (some .int) ∈ wG := List.mem_filter.mpr ⟨wT_3 _ (List.mem_of_getElem? (i := 145) rfl), rfl⟩
theorem wm_857 : Cond.methodLink RL 74 yX12_meet ∈ wG := List.mem_filter.mpr ⟨wT_5 _ (List.mem_of_getElem? (i := 166) rfl), rfl⟩
theorem wm_858 : Cond.instanceMethod yX12_meet ∈ wG := List.mem_filter.mpr ⟨wT_5 _ (List.mem_of_getElem? (i := 167) rfl), rfl⟩
theorem wm_859 : Cond.selects RX12 yX12_meet yX12_meet ∈ wG := List.mem_filter.mpr ⟨wT_5 _ (List.mem_of_getElem? (i := 168) rfl), rfl⟩
theorem wm_860 : Cond.code yX12_meet cX12_meet 5 (some .int) ∈ wG := List.mem_filter.mpr ⟨wT_5 _ (List.mem_of_getElem? (i := 169) rfl), rfl⟩
theorem wm_861 : Cond.methodLink RL 75 yX11_inside ∈ wG := List.mem_filter.mpr ⟨wT_3 _ (List.mem_of_getElem? (i := 146) rfl), rfl⟩
theorem wm_862 : Cond.instanceMethod yX11_inside ∈ wG := List.mem_filter.mpr ⟨wT_3 _ (List.mem_of_getElem? (i := 147) rfl), rfl⟩
theorem wm_863 : Cond.selects RX11 yX11_inside yX11_inside ∈ wG := List.mem_filter.mpr ⟨wT_3 _ (List.mem_of_getElem? (i := 148) rfl), rfl⟩
theorem wm_864 : Cond.code yX11_inside cX11_inside 5 (some .int) ∈ wG := List.mem_filter.mpr ⟨wT_3 _ (List.mem_of_getElem? (i := 149) rfl), rfl⟩
theorem wm_865 : Cond.methodLink RL 78 yX12_inside ∈ wG := List.mem_filter.mpr ⟨wT_5 _ (List.mem_of_getElem? (i := 170) rfl), rfl⟩
theorem wm_866 : Cond.instanceMethod yX12_inside ∈ wG := List.mem_filter.mpr ⟨wT_5 _ (List.mem_of_getElem? (i := 171) rfl), rfl⟩
theorem wm_867 : Cond.selects RX12 yX12_inside yX12_inside ∈ wG := List.mem_filter.mpr ⟨wT_5 _ (List.mem_of_getElem? (i := 172) rfl), rfl⟩
theorem wm_868 : Cond.code yX12_inside cX12_inside 5 (some .int) ∈ wG := List.mem_filter.mpr ⟨wT_5 _ (List.mem_of_getElem? (i := 173) rfl), rfl⟩
theorem wm_869 : Cond.methodLink RL 79 yX11_hand ∈ wG := List.mem_filter.mpr ⟨wT_3 _ (List.mem_of_getElem? (i := 150) rfl), rfl⟩
theorem wm_870 : Cond.instanceMethod yX11_hand ∈ wG := List.mem_filter.mpr ⟨wT_3 _ (List.mem_of_getElem? (i := 151) rfl), rfl⟩
theorem wm_871 : Cond.selects RX11 yX11_hand yX11_hand ∈ wG := List.mem_filter.mpr ⟨wT_3 _ (List.mem_of_getElem? (i := 152) rfl), rfl⟩
theorem wm_872 : Cond.code yX11_hand cX11_hand 3 (some .int) ∈ wG := List.mem_filter.mpr ⟨wT_3 _ (List.mem_of_getElem? (i := 153) rfl), rfl⟩
theorem wm_873 : Cond.methodLink RL 82 yX12_hand ∈ wG := List.mem_filter.mpr ⟨wT_5 _ (List.mem_of_getElem? (i := 174) rfl), rfl⟩
theorem wm_874 : Cond.instanceMethod yX12_hand ∈ wG := List.mem_filter.mpr ⟨wT_5 _ (List.mem_of_getElem? (i := 175) rfl), rfl⟩
theorem wm_875 : Cond.selects RX12 yX12_hand yX12_hand ∈ wG := List.mem_filter.mpr ⟨wT_5 _ (List.mem_of_getElem? (i := 176) rfl), rfl⟩
theorem wm_876 : Cond.code yX12_hand cX12_hand 3 (some .int) ∈ wG := List.mem_filter.mpr ⟨wT_5 _ (List.mem_of_getElem? (i := 177) rfl), rfl⟩
theorem wm_877 : Cond.methodLink RL 83 yX11_first ∈ wG := List.mem_filter.mpr ⟨wT_3 _ (List.mem_of_getElem? (i := 167) rfl), rfl⟩
theorem wm_878 : Cond.instanceMethod yX11_first ∈ wG := List.mem_filter.mpr ⟨wT_3 _ (List.mem_of_getElem? (i := 168) rfl), rfl⟩
theorem wm_879 : Cond.selects RX11 yX11_first yX11_first ∈ wG := List.mem_filter.mpr ⟨wT_3 _ (List.mem_of_getElem? (i := 169) rfl), rfl⟩
theorem wm_880 : Cond.code yX11_first cX11_first 8 (some .int) ∈ wG := List.mem_filter.mpr ⟨wT_3 _ (List.mem_of_getElem? (i := 170) rfl), rfl⟩
theorem wm_881 : Cond.methodLink RL 86 yX12_first ∈ wG := List.mem_filter.mpr ⟨wT_5 _ (List.mem_of_getElem? (i := 186) rfl), rfl⟩
theorem wm_882 : Cond.instanceMethod yX12_first ∈ wG := List.mem_filter.mpr ⟨wT_5 _ (List.mem_of_getElem? (i := 187) rfl), rfl⟩
theorem wm_883 : Cond.selects RX12 yX12_first yX12_first ∈ wG := List.mem_filter.mpr ⟨wT_5 _ (List.mem_of_getElem? (i := 188) rfl), rfl⟩
theorem wm_884 : Cond.code yX12_first cX12_first 9 (some .int) ∈ wG := List.mem_filter.mpr ⟨wT_5 _ (List.mem_of_getElem? (i := 189) rfl), rfl⟩
theorem wm_885 : Cond.methodLink RL 87 yX11_wait ∈ wG := List.mem_filter.mpr ⟨wT_3 _ (List.mem_of_getElem? (i := 171) rfl), rfl⟩
theorem wm_886 : Cond.instanceMethod yX11_wait ∈ wG := List.mem_filter.mpr ⟨wT_3 _ (List.mem_of_getElem? (i := 172) rfl), rfl⟩
theorem wm_887 : Cond.selects RX11 yX11_wait yX11_wait ∈ wG := List.mem_filter.mpr ⟨wT_3 _ (List.mem_of_getElem? (i := 173) rfl), rfl⟩
theorem wm_888 : Cond.code yX11_wait cX11_wait 7 (some .int) ∈ wG := List.mem_filter.mpr ⟨wT_3 _ (List.mem_of_getElem? (i := 174) rfl), rfl⟩
theorem wm_889 : Cond.methodLink RL 90 yX12_wait ∈ wG := List.mem_filter.mpr ⟨wT_5 _ (List.mem_of_getElem? (i := 190) rfl), rfl⟩
theorem wm_890 : Cond.instanceMethod yX12_wait ∈ wG := List.mem_filter.mpr ⟨wT_5 _ (List.mem_of_getElem? (i := 191) rfl), rfl⟩
theorem wm_891 : Cond.selects RX12 yX12_wait yX12_wait ∈ wG := List.mem_filter.mpr ⟨wT_5 _ (List.mem_of_getElem? (i := 192) rfl), rfl⟩
theorem wm_892 : Cond.code yX12_wait cX12_wait 8 (some .int) ∈ wG := List.mem_filter.mpr ⟨wT_5 _ (List.mem_of_getElem? (i := 193) rfl), rfl⟩
theorem wm_893 : Cond.methodLink RL 91 yX11_toss ∈ wG := List.mem_filter.mpr ⟨wT_3 _ (List.mem_of_getElem? (i := 175) rfl), rfl⟩
theorem wm_894 : Cond.instanceMethod yX11_toss ∈ wG := List.mem_filter.mpr ⟨wT_3 _ (List.mem_of_getElem? (i := 176) rfl), rfl⟩
theorem wm_895 : Cond.selects RX11 yX11_toss yX11_toss ∈ wG := List.mem_filter.mpr ⟨wT_3 _ (List.mem_of_getElem? (i := 177) rfl), rfl⟩
theorem wm_896 : Cond.code yX11_toss cX11_toss 9 (some .int) ∈ wG := List.mem_filter.mpr ⟨wT_3 _ (List.mem_of_getElem? (i := 178) rfl), rfl⟩
theorem wm_897 : Cond.methodLink RL 94 yX12_toss ∈ wG := List.mem_filter.mpr ⟨wT_5 _ (List.mem_of_getElem? (i := 194) rfl), rfl⟩
theorem wm_898 : Cond.instanceMethod yX12_toss ∈ wG := List.mem_filter.mpr ⟨wT_5 _ (List.mem_of_getElem? (i := 195) rfl), rfl⟩
theorem wm_899 : Cond.selects RX12 yX12_toss yX12_toss ∈ wG := List.mem_filter.mpr ⟨wT_5 _ (List.mem_of_getElem? (i := 196) rfl), rfl⟩
theorem wm_900 : Cond.code yX12_toss cX12_toss 9 (some .int) ∈ wG := List.mem_filter.mpr ⟨wT_5 _ (List.mem_of_getElem? (i := 197) rfl), rfl⟩
theorem wm_901 : Cond.methodLink RL 95 yX11_key ∈ wG := List.mem_filter.mpr ⟨wT_3 _ (List.mem_of_getElem? (i := 183) rfl), rfl⟩
theorem wm_902 : Cond.instanceMethod yX11_key ∈ wG := List.mem_filter.mpr ⟨wT_3 _ (List.mem_of_getElem? (i := 184) rfl), rfl⟩
theorem wm_903 : Cond.selects RX11 yX11_key yX11_key ∈ wG := List.mem_filter.mpr ⟨wT_3 _ (List.mem_of_getElem? (i := 185) rfl), rfl⟩
theorem wm_904 : Cond.code yX11_key cX11_key 3 (some .int) ∈ wG := List.mem_filter.mpr ⟨wT_3 _ (List.mem_of_getElem? (i := 186) rfl), rfl⟩
theorem wm_905 : Cond.methodLink RL 98 yX12_key ∈ wG := List.mem_filter.mpr ⟨wT_5 _ (List.mem_of_getElem? (i := 198) rfl), rfl⟩
theorem wm_906 : Cond.instanceMethod yX12_key ∈ wG := List.mem_filter.mpr ⟨wT_5 _ (List.mem_of_getElem? (i := 199) rfl), rfl⟩
theorem wm_907 : Cond.selects RX12 yX12_key yX12_key ∈ wG := List.mem_filter.mpr ⟨wT_5 _ (List.mem_of_getElem? (i := 200) rfl), rfl⟩
theorem wm_908 : Cond.code yX12_key cX12_key 3 (some .int) ∈ wG := List.mem_filter.mpr ⟨wT_5 _ (List.mem_of_getElem? (i := 201) rfl), rfl⟩
theorem wm_909 : Cond.methodLink RL 99 yX11_turn ∈ wG := List.mem_filter.mpr ⟨wT_3 _ (List.mem_of_getElem? (i := 187) rfl), rfl⟩
theorem wm_910 : Cond.instanceMethod yX11_turn ∈ wG := List.mem_filter.mpr ⟨wT_3 _ (List.mem_of_getElem? (i := 188) rfl), rfl⟩
theorem wm_911 : Cond.selects RX11 yX11_turn yX11_turn ∈ wG := List.mem_filter.mpr ⟨wT_3 _ (List.mem_of_getElem? (i := 189) rfl), rfl⟩
theorem wm_912 : Cond.code yX11_turn cX11_turn 8 (some .int) ∈ wG := List.mem_filter.mpr ⟨wT_3 _ (List.mem_of_getElem? (i := 190) rfl), rfl⟩
theorem wm_913 : Cond.methodLink RL 102 yX12_turn ∈ wG := List.mem_filter.mpr ⟨wT_5 _ (List.mem_of_getElem? (i := 202) rfl), rfl⟩
theorem wm_914 : Cond.instanceMethod yX12_turn ∈ wG := List.mem_filter.mpr ⟨wT_5 _ (List.mem_of_getElem? (i := 203) rfl), rfl⟩
theorem wm_915 : Cond.selects RX12 yX12_turn yX12_turn ∈ wG := List.mem_filter.mpr ⟨wT_5 _ (List.mem_of_getElem? (i := 204) rfl), rfl⟩
theorem wm_916 : Cond.code yX12_turn cX12_turn 9 (some .int) ∈ wG := List.mem_filter.mpr ⟨wT_5 _ (List.mem_of_getElem? (i := 205) rfl), rfl⟩
theorem wm_917 : Cond.methodLink RL 103 yX11_net ∈ wG := List.mem_filter.mpr ⟨wT_3 _ (List.mem_of_getElem? (i := 191) rfl), rfl⟩
theorem wm_918 : Cond.instanceMethod yX11_net ∈ wG := List.mem_filter.mpr ⟨wT_3 _ (List.mem_of_getElem? (i := 192) rfl), rfl⟩
theorem wm_919 : Cond.selects RX11 yX11_net yX11_net ∈ wG := List.mem_filter.mpr ⟨wT_3 _ (List.mem_of_getElem? (i := 193) rfl), rfl⟩
theorem wm_920 : Cond.code yX11_net cX11_net 7 (some .int) ∈ wG := List.mem_filter.mpr ⟨wT_3 _ (List.mem_of_getElem? (i := 194) rfl), rfl⟩
theorem wm_921 : Cond.methodLink RL 106 yX12_net ∈ wG := List.mem_filter.mpr ⟨wT_5 _ (List.mem_of_getElem? (i := 210) rfl), rfl⟩
theorem wm_922 : Cond.instanceMethod yX12_net ∈ wG := List.mem_filter.mpr ⟨wT_5 _ (List.mem_of_getElem? (i := 211) rfl), rfl⟩
theorem wm_923 : Cond.selects RX12 yX12_net yX12_net ∈ wG := List.mem_filter.mpr ⟨wT_5 _ (List.mem_of_getElem? (i := 212) rfl), rfl⟩
theorem wm_924 : Cond.code yX12_net cX12_net 7 (some .int) ∈ wG := List.mem_filter.mpr ⟨wT_5 _ (List.mem_of_getElem? (i := 213) rfl), rfl⟩
theorem wm_925 : Cond.methodLink RL 107 yX11_can ∈ wG := List.mem_filter.mpr ⟨wT_3 _ (List.mem_of_getElem? (i := 199) rfl), rfl⟩
theorem wm_926 : Cond.instanceMethod yX11_can ∈ wG := List.mem_filter.mpr ⟨wT_3 _ (List.mem_of_getElem? (i := 200) rfl), rfl⟩
theorem wm_927 : Cond.selects RX11 yX11_can yX11_can ∈ wG := List.mem_filter.mpr ⟨wT_3 _ (List.mem_of_getElem? (i := 201) rfl), rfl⟩
theorem wm_928 : Cond.code yX11_can cX11_can 5 (some .int) ∈ wG := List.mem_filter.mpr ⟨wT_3 _ (List.mem_of_getElem? (i := 202) rfl), rfl⟩
theorem wm_929 : Cond.methodLink RL 110 yX12_can ∈ wG := List.mem_filter.mpr ⟨wT_5 _ (List.mem_of_getElem? (i := 218) rfl), rfl⟩
theorem wm_930 : Cond.instanceMethod yX12_can ∈ wG := List.mem_filter.mpr ⟨wT_5 _ (List.mem_of_getElem? (i := 219) rfl), rfl⟩
theorem wm_931 : Cond.selects RX12 yX12_can yX12_can ∈ wG := List.mem_filter.mpr ⟨wT_5 _ (List.mem_of_getElem? (i := 220) rfl), rfl⟩
theorem wm_932 : Cond.code yX12_can cX12_can 5 (some .int) ∈ wG := List.mem_filter.mpr ⟨wT_5 _ (List.mem_of_getElem? (i := 221) rfl), rfl⟩
theorem wm_933 : Cond.methodLink RL 111 yX11_look ∈ wG := List.mem_filter.mpr ⟨wT_3 _ (List.mem_of_getElem? (i := 207) rfl), rfl⟩
theorem wm_934 : Cond.instanceMethod yX11_look ∈ wG := List.mem_filter.mpr ⟨wT_3 _ (List.mem_of_getElem? (i := 208) rfl), rfl⟩
theorem wm_935 : Cond.selects RX11 yX11_look yX11_look ∈ wG := List.mem_filter.mpr ⟨wT_3 _ (List.mem_of_getElem? (i := 209) rfl), rfl⟩
theorem wm_936 : Cond.code yX11_look cX11_look 6 (some .int) ∈ wG := List.mem_filter.mpr ⟨wT_3 _ (List.mem_of_getElem? (i := 210) rfl), rfl⟩
theorem wm_937 : Cond.methodLink RL 114 yX12_look ∈ wG := List.mem_filter.mpr ⟨wT_5 _ (List.mem_of_getElem? (i := 226) rfl), rfl⟩
theorem wm_938 : Cond.instanceMethod yX12_look ∈ wG := List.mem_filter.mpr ⟨wT_5 _ (List.mem_of_getElem? (i := 227) rfl), rfl⟩
theorem wm_939 : Cond.selects RX12 yX12_look yX12_look ∈ wG := List.mem_filter.mpr ⟨wT_5 _ (List.mem_of_getElem? (i := 228) rfl), rfl⟩
theorem wm_940 : Cond.code yX12_look cX12_look 6 (some .int) ∈ wG := List.mem_filter.mpr ⟨wT_5 _ (List.mem_of_getElem? (i := 229) rfl), rfl⟩
theorem wm_941 : Cond.methodLink RL 115 yX11_went ∈ wG := List.mem_filter.mpr ⟨wT_3 _ (List.mem_of_getElem? (i := 215) rfl), rfl⟩
theorem wm_942 : Cond.instanceMethod yX11_went ∈ wG := List.mem_filter.mpr ⟨wT_3 _ (List.mem_of_getElem? (i := 216) rfl), rfl⟩
theorem wm_943 : Cond.selects RX11 yX11_went yX11_went ∈ wG := List.mem_filter.mpr ⟨wT_3 _ (List.mem_of_getElem? (i := 217) rfl), rfl⟩
theorem wm_944 : Cond.code yX11_went cX11_went 6 (some .int) ∈ wG := List.mem_filter.mpr ⟨wT_3 _ (List.mem_of_getElem? (i := 218) rfl), rfl⟩
theorem wm_945 : Cond.methodLink RL 118 yX12_went ∈ wG := List.mem_filter.mpr ⟨wT_5 _ (List.mem_of_getElem? (i := 234) rfl), rfl⟩
theorem wm_946 : Cond.instanceMethod yX12_went ∈ wG := List.mem_filter.mpr ⟨wT_5 _ (List.mem_of_getElem? (i := 235) rfl), rfl⟩
theorem wm_947 : Cond.selects RX12 yX12_went yX12_went ∈ wG := List.mem_filter.mpr ⟨wT_5 _ (List.mem_of_getElem? (i := 236) rfl), rfl⟩
theorem wm_948 : Cond.code yX12_went cX12_went 6 (some .int) ∈ wG := List.mem_filter.mpr ⟨wT_5 _ (List.mem_of_getElem? (i := 237) rfl), rfl⟩
theorem wm_949 : Cond.methodLink RL 119 yX11_search ∈ wG := List.mem_filter.mpr ⟨wT_3 _ (List.mem_of_getElem? (i := 219) rfl), rfl⟩
theorem wm_950 : Cond.instanceMethod yX11_search ∈ wG := List.mem_filter.mpr ⟨wT_3 _ (List.mem_of_getElem? (i := 220) rfl), rfl⟩
theorem wm_951 : Cond.selects RX11 yX11_search yX11_search ∈ wG := List.mem_filter.mpr ⟨wT_3 _ (List.mem_of_getElem? (i := 221) rfl), rfl⟩
theorem wm_952 : Cond.code yX11_search cX11_search 6 (some .long) ∈ wG := List.mem_filter.mpr ⟨wT_3 _ (List.mem_of_getElem? (i := 222) rfl), rfl⟩
theorem wm_953 : Cond.methodLink RL 123 yX12_search ∈ wG := List.mem_filter.mpr ⟨wT_5 _ (List.mem_of_getElem? (i := 238) rfl), rfl⟩
theorem wm_954 : Cond.instanceMethod yX12_search ∈ wG := List.mem_filter.mpr ⟨wT_5 _ (List.mem_of_getElem? (i := 239) rfl), rfl⟩
theorem wm_955 : Cond.selects RX12 yX12_search yX12_search ∈ wG := List.mem_filter.mpr ⟨wT_6 _ (List.mem_of_getElem? (i := 0) rfl), rfl⟩
theorem wm_956 : Cond.code yX12_search cX12_search 7 (some .long) ∈ wG := List.mem_filter.mpr ⟨wT_6 _ (List.mem_of_getElem? (i := 1) rfl), rfl⟩
theorem wm_957 : Cond.methodLink RL 124 yX11_judge ∈ wG := List.mem_filter.mpr ⟨wT_3 _ (List.mem_of_getElem? (i := 231) rfl), rfl⟩
theorem wm_958 : Cond.instanceMethod yX11_judge ∈ wG := List.mem_filter.mpr ⟨wT_3 _ (List.mem_of_getElem? (i := 232) rfl), rfl⟩
theorem wm_959 : Cond.selects RX11 yX11_judge yX11_judge ∈ wG := List.mem_filter.mpr ⟨wT_3 _ (List.mem_of_getElem? (i := 233) rfl), rfl⟩
theorem wm_960 : Cond.code yX11_judge cX11_judge 4 (some .int) ∈ wG := List.mem_filter.mpr ⟨wT_3 _ (List.mem_of_getElem? (i := 234) rfl), rfl⟩
theorem wm_961 : Cond.methodLink RL 127 yX12_judge ∈ wG := List.mem_filter.mpr ⟨wT_6 _ (List.mem_of_getElem? (i := 11) rfl), rfl⟩
theorem wm_962 : Cond.instanceMethod yX12_judge ∈ wG := List.mem_filter.mpr ⟨wT_6 _ (List.mem_of_getElem? (i := 12) rfl), rfl⟩
theorem wm_963 : Cond.selects RX12 yX12_judge yX12_judge ∈ wG := List.mem_filter.mpr ⟨wT_6 _ (List.mem_of_getElem? (i := 13) rfl), rfl⟩
theorem wm_964 : Cond.code yX12_judge cX12_judge 4 (some .int) ∈ wG := List.mem_filter.mpr ⟨wT_6 _ (List.mem_of_getElem? (i := 14) rfl), rfl⟩
theorem wm_965 : Cond.methodLink RL 128 yX11_times ∈ wG := List.mem_filter.mpr ⟨wT_4 _ (List.mem_of_getElem? (i := 6) rfl), rfl⟩
theorem wm_966 : Cond.instanceMethod yX11_times ∈ wG := List.mem_filter.mpr ⟨wT_4 _ (List.mem_of_getElem? (i := 7) rfl), rfl⟩
theorem wm_967 : Cond.selects RX11 yX11_times yX11_times ∈ wG := List.mem_filter.mpr ⟨wT_4 _ (List.mem_of_getElem? (i := 8) rfl), rfl⟩
theorem wm_968 : Cond.code yX11_times cX11_times 6 (some .long) ∈ wG := List.mem_filter.mpr ⟨wT_4 _ (List.mem_of_getElem? (i := 9) rfl), rfl⟩
theorem wm_969 : Cond.methodLink RL 132 yX12_times ∈ wG := List.mem_filter.mpr ⟨wT_6 _ (List.mem_of_getElem? (i := 27) rfl), rfl⟩
theorem wm_970 : Cond.instanceMethod yX12_times ∈ wG := List.mem_filter.mpr ⟨wT_6 _ (List.mem_of_getElem? (i := 28) rfl), rfl⟩
theorem wm_971 : Cond.selects RX12 yX12_times yX12_times ∈ wG := List.mem_filter.mpr ⟨wT_6 _ (List.mem_of_getElem? (i := 29) rfl), rfl⟩
theorem wm_972 : Cond.code yX12_times cX12_times 5 (some .long) ∈ wG := List.mem_filter.mpr ⟨wT_6 _ (List.mem_of_getElem? (i := 30) rfl), rfl⟩
theorem wm_973 : Cond.methodLink RL 133 yX11_laws ∈ wG := List.mem_filter.mpr ⟨wT_4 _ (List.mem_of_getElem? (i := 12) rfl), rfl⟩
theorem wm_974 : Cond.instanceMethod yX11_laws ∈ wG := List.mem_filter.mpr ⟨wT_4 _ (List.mem_of_getElem? (i := 13) rfl), rfl⟩
theorem wm_975 : Cond.selects RX11 yX11_laws yX11_laws ∈ wG := List.mem_filter.mpr ⟨wT_4 _ (List.mem_of_getElem? (i := 14) rfl), rfl⟩
theorem wm_976 : Cond.code yX11_laws cX11_laws 6 (some .int) ∈ wG := List.mem_filter.mpr ⟨wT_4 _ (List.mem_of_getElem? (i := 15) rfl), rfl⟩
theorem wm_977 : Cond.methodLink RL 136 yX12_laws ∈ wG := List.mem_filter.mpr ⟨wT_6 _ (List.mem_of_getElem? (i := 31) rfl), rfl⟩
theorem wm_978 : Cond.instanceMethod yX12_laws ∈ wG := List.mem_filter.mpr ⟨wT_6 _ (List.mem_of_getElem? (i := 32) rfl), rfl⟩
theorem wm_979 : Cond.selects RX12 yX12_laws yX12_laws ∈ wG := List.mem_filter.mpr ⟨wT_6 _ (List.mem_of_getElem? (i := 33) rfl), rfl⟩
theorem wm_980 : Cond.code yX12_laws cX12_laws 7 (some .int) ∈ wG := List.mem_filter.mpr ⟨wT_6 _ (List.mem_of_getElem? (i := 34) rfl), rfl⟩
theorem wm_981 : Cond.methodLink RL 137 yX11_film ∈ wG := List.mem_filter.mpr ⟨wT_4 _ (List.mem_of_getElem? (i := 16) rfl), rfl⟩
theorem wm_982 : Cond.instanceMethod yX11_film ∈ wG := List.mem_filter.mpr ⟨wT_4 _ (List.mem_of_getElem? (i := 17) rfl), rfl⟩
theorem wm_983 : Cond.selects RX11 yX11_film yX11_film ∈ wG := List.mem_filter.mpr ⟨wT_4 _ (List.mem_of_getElem? (i := 18) rfl), rfl⟩
theorem wm_984 : Cond.code yX11_film cX11_film 4 (some .int) ∈ wG := List.mem_filter.mpr ⟨wT_4 _ (List.mem_of_getElem? (i := 19) rfl), rfl⟩
theorem wm_985 : Cond.methodLink RL 140 yX12_film ∈ wG := List.mem_filter.mpr ⟨wT_6 _ (List.mem_of_getElem? (i := 35) rfl), rfl⟩
theorem wm_986 : Cond.instanceMethod yX12_film ∈ wG := List.mem_filter.mpr ⟨wT_6 _ (List.mem_of_getElem? (i := 36) rfl), rfl⟩
theorem wm_987 : Cond.selects RX12 yX12_film yX12_film ∈ wG := List.mem_filter.mpr ⟨wT_6 _ (List.mem_of_getElem? (i := 37) rfl), rfl⟩
theorem wm_988 : Cond.code yX12_film cX12_film 4 (some .int) ∈ wG := List.mem_filter.mpr ⟨wT_6 _ (List.mem_of_getElem? (i := 38) rfl), rfl⟩
theorem wm_989 : Cond.methodLink RL 141 yX11_drawn ∈ wG := List.mem_filter.mpr ⟨wT_4 _ (List.mem_of_getElem? (i := 24) rfl), rfl⟩
theorem wm_990 : Cond.instanceMethod yX11_drawn ∈ wG := List.mem_filter.mpr ⟨wT_4 _ (List.mem_of_getElem? (i := 25) rfl), rfl⟩
theorem wm_991 : Cond.selects RX11 yX11_drawn yX11_drawn ∈ wG := List.mem_filter.mpr ⟨wT_4 _ (List.mem_of_getElem? (i := 26) rfl), rfl⟩
theorem wm_992 : Cond.code yX11_drawn cX11_drawn 4 (some .int) ∈ wG := List.mem_filter.mpr ⟨wT_4 _ (List.mem_of_getElem? (i := 27) rfl), rfl⟩
theorem wm_993 : Cond.methodLink RL 144 yX12_drawn ∈ wG := List.mem_filter.mpr ⟨wT_6 _ (List.mem_of_getElem? (i := 39) rfl), rfl⟩
theorem wm_994 : Cond.instanceMethod yX12_drawn ∈ wG := List.mem_filter.mpr ⟨wT_6 _ (List.mem_of_getElem? (i := 40) rfl), rfl⟩
theorem wm_995 : Cond.selects RX12 yX12_drawn yX12_drawn ∈ wG := List.mem_filter.mpr ⟨wT_6 _ (List.mem_of_getElem? (i := 41) rfl), rfl⟩
theorem wm_996 : Cond.code yX12_drawn cX12_drawn 4 (some .int) ∈ wG := List.mem_filter.mpr ⟨wT_6 _ (List.mem_of_getElem? (i := 42) rfl), rfl⟩
theorem wm_997 : Cond.methodLink RL 145 yX11_mean ∈ wG := List.mem_filter.mpr ⟨wT_4 _ (List.mem_of_getElem? (i := 43) rfl), rfl⟩
theorem wm_998 : Cond.instanceMethod yX11_mean ∈ wG := List.mem_filter.mpr ⟨wT_4 _ (List.mem_of_getElem? (i := 44) rfl), rfl⟩
theorem wm_999 : Cond.selects RX11 yX11_mean yX11_mean ∈ wG := List.mem_filter.mpr ⟨wT_4 _ (List.mem_of_getElem? (i := 45) rfl), rfl⟩
theorem wm_1000 : Cond.code yX11_mean cX11_mean 7 (some .long) ∈ wG := List.mem_filter.mpr ⟨wT_4 _ (List.mem_of_getElem? (i := 46) rfl), rfl⟩
theorem wm_1001 : Cond.methodLink RL 149 yX12_mean ∈ wG := List.mem_filter.mpr ⟨wT_6 _ (List.mem_of_getElem? (i := 53) rfl), rfl⟩
theorem wm_1002 : Cond.instanceMethod yX12_mean ∈ wG := List.mem_filter.mpr ⟨wT_6 _ (List.mem_of_getElem? (i := 54) rfl), rfl⟩
theorem wm_1003 : Cond.selects RX12 yX12_mean yX12_mean ∈ wG := List.mem_filter.mpr ⟨wT_6 _ (List.mem_of_getElem? (i := 55) rfl), rfl⟩
theorem wm_1004 : Cond.code yX12_mean cX12_mean 8 (some .long) ∈ wG := List.mem_filter.mpr ⟨wT_6 _ (List.mem_of_getElem? (i := 56) rfl), rfl⟩
theorem wm_1005 : Cond.methodLink RL 150 yX11_image ∈ wG := List.mem_filter.mpr ⟨wT_4 _ (List.mem_of_getElem? (i := 47) rfl), rfl⟩
theorem wm_1006 : Cond.instanceMethod yX11_image ∈ wG := List.mem_filter.mpr ⟨wT_4 _ (List.mem_of_getElem? (i := 48) rfl), rfl⟩
theorem wm_1007 : Cond.selects RX11 yX11_image yX11_image ∈ wG := List.mem_filter.mpr ⟨wT_4 _ (List.mem_of_getElem? (i := 49) rfl), rfl⟩
theorem wm_1008 : Cond.code yX11_image cX11_image 1 (some .int) ∈ wG := List.mem_filter.mpr ⟨wT_4 _ (List.mem_of_getElem? (i := 50) rfl), rfl⟩
theorem wm_1009 : Cond.methodLink RL 153 yX12_image ∈ wG := List.mem_filter.mpr ⟨wT_6 _ (List.mem_of_getElem? (i := 57) rfl), rfl⟩
theorem wm_1010 : Cond.instanceMethod yX12_image ∈ wG := List.mem_filter.mpr ⟨wT_6 _ (List.mem_of_getElem? (i := 58) rfl), rfl⟩
theorem wm_1011 : Cond.selects RX12 yX12_image yX12_image ∈ wG := List.mem_filter.mpr ⟨wT_6 _ (List.mem_of_getElem? (i := 59) rfl), rfl⟩
theorem wm_1012 : Cond.code yX12_image cX12_image 2 (some .int) ∈ wG := List.mem_filter.mpr ⟨wT_6 _ (List.mem_of_getElem? (i := 60) rfl), rfl⟩
theorem wm_1013 : Cond.methodLink RL 154 yX11_back ∈ wG := List.mem_filter.mpr ⟨wT_4 _ (List.mem_of_getElem? (i := 58) rfl), rfl⟩
theorem wm_1014 : Cond.instanceMethod yX11_back ∈ wG := List.mem_filter.mpr ⟨wT_4 _ (List.mem_of_getElem? (i := 59) rfl), rfl⟩
theorem wm_1015 : Cond.selects RX11 yX11_back yX11_back ∈ wG := List.mem_filter.mpr ⟨wT_4 _ (List.mem_of_getElem? (i := 60) rfl), rfl⟩
theorem wm_1016 : Cond.code yX11_back cX11_back 1 (some .int) ∈ wG := List.mem_filter.mpr ⟨wT_4 _ (List.mem_of_getElem? (i := 61) rfl), rfl⟩
theorem wm_1017 : Cond.methodLink RL 157 yX12_back ∈ wG := List.mem_filter.mpr ⟨wT_6 _ (List.mem_of_getElem? (i := 61) rfl), rfl⟩
theorem wm_1018 : Cond.instanceMethod yX12_back ∈ wG := List.mem_filter.mpr ⟨wT_6 _ (List.mem_of_getElem? (i := 62) rfl), rfl⟩
theorem wm_1019 : Cond.selects RX12 yX12_back yX12_back ∈ wG := List.mem_filter.mpr ⟨wT_6 _ (List.mem_of_getElem? (i := 63) rfl), rfl⟩
theorem wm_1020 : Cond.code yX12_back cX12_back 2 (some .int) ∈ wG := List.mem_filter.mpr ⟨wT_6 _ (List.mem_of_getElem? (i := 64) rfl), rfl⟩
theorem wm_1021 : Cond.methodLink RL 158 yX11_sheet ∈ wG := List.mem_filter.mpr ⟨wT_4 _ (List.mem_of_getElem? (i := 62) rfl), rfl⟩
theorem wm_1022 : Cond.instanceMethod yX11_sheet ∈ wG := List.mem_filter.mpr ⟨wT_4 _ (List.mem_of_getElem? (i := 63) rfl), rfl⟩
theorem wm_1023 : Cond.selects RX11 yX11_sheet yX11_sheet ∈ wG := List.mem_filter.mpr ⟨wT_4 _ (List.mem_of_getElem? (i := 64) rfl), rfl⟩
theorem wm_1024 : Cond.code yX11_sheet cX11_sheet 4 (some .int) ∈ wG := List.mem_filter.mpr ⟨wT_4 _ (List.mem_of_getElem? (i := 65) rfl), rfl⟩
theorem wm_1025 : Cond.methodLink RL 161 yX12_sheet ∈ wG := List.mem_filter.mpr ⟨wT_6 _ (List.mem_of_getElem? (i := 65) rfl), rfl⟩
theorem wm_1026 : Cond.instanceMethod yX12_sheet ∈ wG := List.mem_filter.mpr ⟨wT_6 _ (List.mem_of_getElem? (i := 66) rfl), rfl⟩
theorem wm_1027 : Cond.selects RX12 yX12_sheet yX12_sheet ∈ wG := List.mem_filter.mpr ⟨wT_6 _ (List.mem_of_getElem? (i := 67) rfl), rfl⟩
theorem wm_1028 : Cond.code yX12_sheet cX12_sheet 5 (some .int) ∈ wG := List.mem_filter.mpr ⟨wT_6 _ (List.mem_of_getElem? (i := 68) rfl), rfl⟩
theorem wm_1029 : Cond.methodLink RL 162 yX11_cell ∈ wG := List.mem_filter.mpr ⟨wT_4 _ (List.mem_of_getElem? (i := 66) rfl), rfl⟩
theorem wm_1030 : Cond.instanceMethod yX11_cell ∈ wG := List.mem_filter.mpr ⟨wT_4 _ (List.mem_of_getElem? (i := 67) rfl), rfl⟩
theorem wm_1031 : Cond.selects RX11 yX11_cell yX11_cell ∈ wG := List.mem_filter.mpr ⟨wT_4 _ (List.mem_of_getElem? (i := 68) rfl), rfl⟩
theorem wm_1032 : Cond.code yX11_cell cX11_cell 4 (some .int) ∈ wG := List.mem_filter.mpr ⟨wT_4 _ (List.mem_of_getElem? (i := 69) rfl), rfl⟩
theorem wm_1033 : Cond.methodLink RL 165 yX12_cell ∈ wG := List.mem_filter.mpr ⟨wT_6 _ (List.mem_of_getElem? (i := 69) rfl), rfl⟩
theorem wm_1034 : Cond.instanceMethod yX12_cell ∈ wG := List.mem_filter.mpr ⟨wT_6 _ (List.mem_of_getElem? (i := 70) rfl), rfl⟩
theorem wm_1035 : Cond.selects RX12 yX12_cell yX12_cell ∈ wG := List.mem_filter.mpr ⟨wT_6 _ (List.mem_of_getElem? (i := 71) rfl), rfl⟩
theorem wm_1036 : Cond.code yX12_cell cX12_cell 4 (some .int) ∈ wG := List.mem_filter.mpr ⟨wT_6 _ (List.mem_of_getElem? (i := 72) rfl), rfl⟩
theorem wm_1037 : Cond.methodLink RL 166 yX11_copy ∈ wG := List.mem_filter.mpr ⟨wT_4 _ (List.mem_of_getElem? (i := 78) rfl), rfl⟩
theorem wm_1038 : Cond.instanceMethod yX11_copy ∈ wG := List.mem_filter.mpr ⟨wT_4 _ (List.mem_of_getElem? (i := 79) rfl), rfl⟩
theorem wm_1039 : Cond.selects RX11 yX11_copy yX11_copy ∈ wG := List.mem_filter.mpr ⟨wT_4 _ (List.mem_of_getElem? (i := 80) rfl), rfl⟩
theorem wm_1040 : Cond.code yX11_copy cX11_copy 8 (some .int) ∈ wG := List.mem_filter.mpr ⟨wT_4 _ (List.mem_of_getElem? (i := 81) rfl), rfl⟩
theorem wm_1041 : Cond.methodLink RL 170 yX12_copy ∈ wG := List.mem_filter.mpr ⟨wT_6 _ (List.mem_of_getElem? (i := 73) rfl), rfl⟩
theorem wm_1042 : Cond.instanceMethod yX12_copy ∈ wG := List.mem_filter.mpr ⟨wT_6 _ (List.mem_of_getElem? (i := 74) rfl), rfl⟩
theorem wm_1043 : Cond.selects RX12 yX12_copy yX12_copy ∈ wG := List.mem_filter.mpr ⟨wT_6 _ (List.mem_of_getElem? (i := 75) rfl), rfl⟩
theorem wm_1044 : Cond.code yX12_copy cX12_copy 10 (some .int) ∈ wG := List.mem_filter.mpr ⟨wT_6 _ (List.mem_of_getElem? (i := 76) rfl), rfl⟩
theorem wm_1045 : Cond.methodLink RL 171 yX11_thingsBy ∈ wG := List.mem_filter.mpr ⟨wT_4 _ (List.mem_of_getElem? (i := 83) rfl), rfl⟩
theorem wm_1046 : Cond.instanceMethod yX11_thingsBy ∈ wG := List.mem_filter.mpr ⟨wT_4 _ (List.mem_of_getElem? (i := 84) rfl), rfl⟩
theorem wm_1047 : Cond.selects RX11 yX11_thingsBy yX11_thingsBy ∈ wG := List.mem_filter.mpr ⟨wT_4 _ (List.mem_of_getElem? (i := 85) rfl), rfl⟩
theorem wm_1048 : Cond.code yX11_thingsBy cX11_thingsBy 10 (some .int) ∈ wG := List.mem_filter.mpr ⟨wT_4 _ (List.mem_of_getElem? (i := 86) rfl), rfl⟩
theorem wm_1049 : Cond.methodLink RL 174 yX12_thingsBy ∈ wG := List.mem_filter.mpr ⟨wT_6 _ (List.mem_of_getElem? (i := 77) rfl), rfl⟩
theorem wm_1050 : Cond.instanceMethod yX12_thingsBy ∈ wG := List.mem_filter.mpr ⟨wT_6 _ (List.mem_of_getElem? (i := 78) rfl), rfl⟩
theorem wm_1051 : Cond.selects RX12 yX12_thingsBy yX12_thingsBy ∈ wG := List.mem_filter.mpr ⟨wT_6 _ (List.mem_of_getElem? (i := 79) rfl), rfl⟩
theorem wm_1052 : Cond.code yX12_thingsBy cX12_thingsBy 9 (some .int) ∈ wG := List.mem_filter.mpr ⟨wT_6 _ (List.mem_of_getElem? (i := 80) rfl), rfl⟩
theorem wm_1053 : Cond.methodLink RL 175 yX11_taken ∈ wG := List.mem_filter.mpr ⟨wT_4 _ (List.mem_of_getElem? (i := 88) rfl), rfl⟩
theorem wm_1054 : Cond.instanceMethod yX11_taken ∈ wG := List.mem_filter.mpr ⟨wT_4 _ (List.mem_of_getElem? (i := 89) rfl), rfl⟩
theorem wm_1055 : Cond.selects RX11 yX11_taken yX11_taken ∈ wG := List.mem_filter.mpr ⟨wT_4 _ (List.mem_of_getElem? (i := 90) rfl), rfl⟩
theorem wm_1056 : Cond.code yX11_taken cX11_taken 3 (some .int) ∈ wG := List.mem_filter.mpr ⟨wT_4 _ (List.mem_of_getElem? (i := 91) rfl), rfl⟩
theorem wm_1057 : Cond.methodLink RL 178 yX12_taken ∈ wG := List.mem_filter.mpr ⟨wT_6 _ (List.mem_of_getElem? (i := 82) rfl), rfl⟩
theorem wm_1058 : Cond.instanceMethod yX12_taken ∈ wG := List.mem_filter.mpr ⟨wT_6 _ (List.mem_of_getElem? (i := 83) rfl), rfl⟩
theorem wm_1059 : Cond.selects RX12 yX12_taken yX12_taken ∈ wG := List.mem_filter.mpr ⟨wT_6 _ (List.mem_of_getElem? (i := 84) rfl), rfl⟩
theorem wm_1060 : Cond.code yX12_taken cX12_taken 3 (some .int) ∈ wG := List.mem_filter.mpr ⟨wT_6 _ (List.mem_of_getElem? (i := 85) rfl), rfl⟩
theorem wm_1061 : Cond.instantiable RX11 14 ∈ wG := List.mem_filter.mpr ⟨wT_1 _ (List.mem_of_getElem? (i := 21) rfl), rfl⟩
theorem wm_1062 : Cond.instantiable RX12 36 ∈ wG := List.mem_filter.mpr ⟨wT_4 _ (List.mem_of_getElem? (i := 126) rfl), rfl⟩
theorem wm_1063 : Cond.initialized RJ0 ∈ wG := List.mem_filter.mpr ⟨wT_1 _ (List.mem_of_getElem? (i := 14) rfl), rfl⟩
theorem wm_1064 : Cond.initialized RJ3 ∈ wG := List.mem_filter.mpr ⟨wT_1 _ (List.mem_of_getElem? (i := 16) rfl), rfl⟩
theorem wm_1065 : Cond.classLink RL 7 RX11 ∈ wG := List.mem_filter.mpr ⟨wT_1 _ (List.mem_of_getElem? (i := 20) rfl), rfl⟩
theorem wm_1066 : Cond.code yX11_init cX11_init 3 none ∈ wG := List.mem_filter.mpr ⟨wT_1 _ (List.mem_of_getElem? (i := 24) rfl), rfl⟩
theorem wm_1067 : Cond.methodLink RL 9 yX11_init ∈ wG := List.mem_filter.mpr ⟨wT_1 _ (List.mem_of_getElem? (i := 22) rfl), rfl⟩
theorem wm_1068 : Cond.instanceMethod yX11_init ∈ wG := List.mem_filter.mpr ⟨wT_1 _ (List.mem_of_getElem? (i := 23) rfl), rfl⟩
theorem wm_1069 : Cond.classLink RL 10 RX12 ∈ wG := List.mem_filter.mpr ⟨wT_4 _ (List.mem_of_getElem? (i := 125) rfl), rfl⟩
theorem wm_1070 : Cond.code yX12_init cX12_init 2 none ∈ wG := List.mem_filter.mpr ⟨wT_4 _ (List.mem_of_getElem? (i := 129) rfl), rfl⟩
theorem wm_1071 : Cond.methodLink RL 12 yX12_init ∈ wG := List.mem_filter.mpr ⟨wT_4 _ (List.mem_of_getElem? (i := 127) rfl), rfl⟩
theorem wm_1072 : Cond.instanceMethod yX12_init ∈ wG := List.mem_filter.mpr ⟨wT_4 _ (List.mem_of_getElem? (i := 128) rfl), rfl⟩
theorem wm_1073 : Cond.selects RX10 yX10_blown yX10_blown ∈ wG := List.mem_filter.mpr ⟨wT_3 _ (List.mem_of_getElem? (i := 67) rfl), rfl⟩
theorem wm_1074 : Cond.selects RX7 yX10_blown yX10_blown ∈ wG := List.mem_filter.mpr ⟨wT_3 _ (List.mem_of_getElem? (i := 80) rfl), rfl⟩
theorem wm_1075 : Cond.selects RX5 yX10_blown yX10_blown ∈ wG := List.mem_filter.mpr ⟨wT_3 _ (List.mem_of_getElem? (i := 79) rfl), rfl⟩
theorem wm_1076 : Cond.selects RX8 yX10_blown yX10_blown ∈ wG := List.mem_filter.mpr ⟨wT_3 _ (List.mem_of_getElem? (i := 81) rfl), rfl⟩
theorem wm_1077 : Cond.selects RX0 yX10_blown yX0_blown ∈ wG := List.mem_filter.mpr ⟨wT_3 _ (List.mem_of_getElem? (i := 69) rfl), rfl⟩
theorem wm_1078 : Cond.instanceMethod yX0_blown ∈ wG := List.mem_filter.mpr ⟨wT_3 _ (List.mem_of_getElem? (i := 70) rfl), rfl⟩
theorem wm_1079 : Cond.code yX0_blown cX0_blown 3 (some .int) ∈ wG := List.mem_filter.mpr ⟨wT_3 _ (List.mem_of_getElem? (i := 71) rfl), rfl⟩
theorem wm_1080 : Cond.selects RX2 yX10_blown yX2_blown ∈ wG := List.mem_filter.mpr ⟨wT_3 _ (List.mem_of_getElem? (i := 75) rfl), rfl⟩
theorem wm_1081 : Cond.instanceMethod yX2_blown ∈ wG := List.mem_filter.mpr ⟨wT_3 _ (List.mem_of_getElem? (i := 76) rfl), rfl⟩
theorem wm_1082 : Cond.code yX2_blown cX2_blown 3 (some .int) ∈ wG := List.mem_filter.mpr ⟨wT_3 _ (List.mem_of_getElem? (i := 77) rfl), rfl⟩
theorem wm_1083 : Cond.sameMethod "WhereTheSpoonWent$Thing" "WhereTheSpoonWent$Thing" "moves" "(II)Z" ∈ wG := List.mem_filter.mpr ⟨wT_3 _ (List.mem_of_getElem? (i := 86) rfl), rfl⟩
theorem wm_1084 : Cond.selects RX10 yX10_moves yX10_moves ∈ wG := List.mem_filter.mpr ⟨wT_3 _ (List.mem_of_getElem? (i := 85) rfl), rfl⟩
theorem wm_1085 : Cond.instanceMethod yX10_moves ∈ wG := List.mem_filter.mpr ⟨wT_3 _ (List.mem_of_getElem? (i := 84) rfl), rfl⟩
theorem wm_1086 : Cond.code yX10_moves cX10_moves 3 (some .boolean) ∈ wG := List.mem_filter.mpr ⟨wT_3 _ (List.mem_of_getElem? (i := 97) rfl), rfl⟩
theorem wm_1087 : Cond.selects RX7 yX10_moves yX10_moves ∈ wG := List.mem_filter.mpr ⟨wT_3 _ (List.mem_of_getElem? (i := 90) rfl), rfl⟩
theorem wm_1088 : Cond.selects RX5 yX10_moves yX10_moves ∈ wG := List.mem_filter.mpr ⟨wT_3 _ (List.mem_of_getElem? (i := 89) rfl), rfl⟩
theorem wm_1089 : Cond.selects RX8 yX10_moves yX8_moves ∈ wG := List.mem_filter.mpr ⟨wT_3 _ (List.mem_of_getElem? (i := 91) rfl), rfl⟩
theorem wm_1090 : Cond.instanceMethod yX8_moves ∈ wG := List.mem_filter.mpr ⟨wT_3 _ (List.mem_of_getElem? (i := 92) rfl), rfl⟩
theorem wm_1091 : Cond.code yX8_moves cX8_moves 3 (some .boolean) ∈ wG := List.mem_filter.mpr ⟨wT_3 _ (List.mem_of_getElem? (i := 93) rfl), rfl⟩
theorem wm_1092 : Cond.selects RX0 yX10_moves yX10_moves ∈ wG := List.mem_filter.mpr ⟨wT_3 _ (List.mem_of_getElem? (i := 87) rfl), rfl⟩
theorem wm_1093 : Cond.selects RX2 yX10_moves yX10_moves ∈ wG := List.mem_filter.mpr ⟨wT_3 _ (List.mem_of_getElem? (i := 88) rfl), rfl⟩
theorem wm_1094 : Cond.sameMethod "WhereTheSpoonWent$Thing" "WhereTheSpoonWent$Thing" "touching" "(I)I" ∈ wG := List.mem_filter.mpr ⟨wT_3 _ (List.mem_of_getElem? (i := 106) rfl), rfl⟩
theorem wm_1095 : Cond.selects RX10 yX10_touching yX10_touching ∈ wG := List.mem_filter.mpr ⟨wT_3 _ (List.mem_of_getElem? (i := 105) rfl), rfl⟩
theorem wm_1096 : Cond.instanceMethod yX10_touching ∈ wG := List.mem_filter.mpr ⟨wT_3 _ (List.mem_of_getElem? (i := 104) rfl), rfl⟩
theorem wm_1097 : Cond.code yX10_touching cX10_touching 2 (some .int) ∈ wG := List.mem_filter.mpr ⟨wT_3 _ (List.mem_of_getElem? (i := 116) rfl), rfl⟩
theorem wm_1098 : Cond.selects RX7 yX10_touching yX7_touching ∈ wG := List.mem_filter.mpr ⟨wT_3 _ (List.mem_of_getElem? (i := 112) rfl), rfl⟩
theorem wm_1099 : Cond.instanceMethod yX7_touching ∈ wG := List.mem_filter.mpr ⟨wT_3 _ (List.mem_of_getElem? (i := 113) rfl), rfl⟩
theorem wm_1100 : Cond.code yX7_touching cX7_touching 2 (some .int) ∈ wG := List.mem_filter.mpr ⟨wT_3 _ (List.mem_of_getElem? (i := 114) rfl), rfl⟩
theorem wm_1101 : Cond.selects RX5 yX10_touching yX5_touching ∈ wG := List.mem_filter.mpr ⟨wT_3 _ (List.mem_of_getElem? (i := 111) rfl), rfl⟩
theorem wm_1102 : Cond.instanceMethod yX5_touching ∈ wG := List.mem_filter.mpr ⟨wT_3 _ (List.mem_of_getElem? (i := 108) rfl), rfl⟩
theorem wm_1103 : Cond.code yX5_touching cX5_touching 2 (some .int) ∈ wG := List.mem_filter.mpr ⟨wT_3 _ (List.mem_of_getElem? (i := 109) rfl), rfl⟩
theorem wm_1104 : Cond.selects RX8 yX10_touching yX7_touching ∈ wG := List.mem_filter.mpr ⟨wT_3 _ (List.mem_of_getElem? (i := 115) rfl), rfl⟩
theorem wm_1105 : Cond.selects RX0 yX10_touching yX5_touching ∈ wG := List.mem_filter.mpr ⟨wT_3 _ (List.mem_of_getElem? (i := 107) rfl), rfl⟩
theorem wm_1106 : Cond.selects RX2 yX10_touching yX10_touching ∈ wG := List.mem_filter.mpr ⟨wT_3 _ (List.mem_of_getElem? (i := 110) rfl), rfl⟩
theorem wm_1107 : Cond.selects RX10 yX10_isOne yX10_isOne ∈ wG := List.mem_filter.mpr ⟨wT_4 _ (List.mem_of_getElem? (i := 102) rfl), rfl⟩
theorem wm_1108 : Cond.selects RX7 yX10_isOne yX7_isOne ∈ wG := List.mem_filter.mpr ⟨wT_4 _ (List.mem_of_getElem? (i := 116) rfl), rfl⟩
theorem wm_1109 : Cond.selects RX5 yX10_isOne yX5_isOne ∈ wG := List.mem_filter.mpr ⟨wT_4 _ (List.mem_of_getElem? (i := 115) rfl), rfl⟩
theorem wm_1110 : Cond.selects RX8 yX10_isOne yX8_isOne ∈ wG := List.mem_filter.mpr ⟨wT_4 _ (List.mem_of_getElem? (i := 120) rfl), rfl⟩
theorem wm_1111 : Cond.instanceMethod yX8_isOne ∈ wG := List.mem_filter.mpr ⟨wT_4 _ (List.mem_of_getElem? (i := 121) rfl), rfl⟩
theorem wm_1112 : Cond.code yX8_isOne cX8_isOne 2 (some .boolean) ∈ wG := List.mem_filter.mpr ⟨wT_4 _ (List.mem_of_getElem? (i := 122) rfl), rfl⟩
theorem wm_1113 : Cond.selects RX0 yX10_isOne yX0_isOne ∈ wG := List.mem_filter.mpr ⟨wT_4 _ (List.mem_of_getElem? (i := 104) rfl), rfl⟩
theorem wm_1114 : Cond.instanceMethod yX0_isOne ∈ wG := List.mem_filter.mpr ⟨wT_4 _ (List.mem_of_getElem? (i := 105) rfl), rfl⟩
theorem wm_1115 : Cond.code yX0_isOne cX0_isOne 2 (some .boolean) ∈ wG := List.mem_filter.mpr ⟨wT_4 _ (List.mem_of_getElem? (i := 106) rfl), rfl⟩
theorem wm_1116 : Cond.selects RX2 yX10_isOne yX2_isOne ∈ wG := List.mem_filter.mpr ⟨wT_4 _ (List.mem_of_getElem? (i := 111) rfl), rfl⟩
theorem wm_1117 : Cond.instanceMethod yX2_isOne ∈ wG := List.mem_filter.mpr ⟨wT_4 _ (List.mem_of_getElem? (i := 112) rfl), rfl⟩
theorem wm_1118 : Cond.code yX2_isOne cX2_isOne 2 (some .boolean) ∈ wG := List.mem_filter.mpr ⟨wT_4 _ (List.mem_of_getElem? (i := 113) rfl), rfl⟩
theorem wm_1119 : Cond.fieldLink RJ0 38 "java/lang/String" "COMPACT_STRINGS" "Z" ∈ wG := List.mem_filter.mpr ⟨wT_2 _ (List.mem_of_getElem? (i := 134) rfl), rfl⟩
theorem wm_1120 : Cond.fieldLink RJ0 15 "java/lang/String" "coder" "B" ∈ wG := List.mem_filter.mpr ⟨wT_6 _ (List.mem_of_getElem? (i := 97) rfl), rfl⟩
theorem wm_1121 : Cond.fieldLink RJ0 9 "java/lang/String" "value" "[B" ∈ wG := List.mem_filter.mpr ⟨wT_6 _ (List.mem_of_getElem? (i := 96) rfl), rfl⟩
theorem wm_1122 : Cond.methodLink RJ0 335 yJ0_coder_7d493 ∈ wG := List.mem_filter.mpr ⟨wT_2 _ (List.mem_of_getElem? (i := 130) rfl), rfl⟩
theorem wm_1123 : Cond.instanceMethod yJ0_coder_7d493 ∈ wG := List.mem_filter.mpr ⟨wT_2 _ (List.mem_of_getElem? (i := 131) rfl), rfl⟩
theorem wm_1124 : Cond.selects RJ0 yJ0_coder_7d493 yJ0_coder_7d493 ∈ wG := List.mem_filter.mpr ⟨wT_2 _ (List.mem_of_getElem? (i := 132) rfl), rfl⟩
theorem wm_1125 : Cond.code yJ0_coder_7d493 cJ0_coder_7d493 1 (some .byte) ∈ wG := List.mem_filter.mpr ⟨wT_2 _ (List.mem_of_getElem? (i := 133) rfl), rfl⟩
theorem wm_1126 : Cond.fieldLink RJ0 1053 "jdk/internal/util/Preconditions" "SIOOBE_FORMATTER" "Ljava/util/function/BiFunction;" ∈ wG := List.mem_filter.mpr ⟨wT_2 _ (List.mem_of_getElem? (i := 150) rfl), rfl⟩
theorem wm_1127 : Cond.methodLink RJ0 1059 yJ3_checkIndex_8e157 ∈ wG := List.mem_filter.mpr ⟨wT_2 _ (List.mem_of_getElem? (i := 152) rfl), rfl⟩
theorem wm_1128 : Cond.static yJ3_checkIndex_8e157 ∈ wG := List.mem_filter.mpr ⟨wT_2 _ (List.mem_of_getElem? (i := 153) rfl), rfl⟩
theorem wm_1129 : Cond.code yJ3_checkIndex_8e157 cJ3_checkIndex_8e157 3 (some .int) ∈ wG := List.mem_filter.mpr ⟨wT_2 _ (List.mem_of_getElem? (i := 154) rfl), rfl⟩
theorem wm_1130 : Cond.methodLink RJ1 9 yJ0_checkIndex_df160 ∈ wG := List.mem_filter.mpr ⟨wT_2 _ (List.mem_of_getElem? (i := 147) rfl), rfl⟩
theorem wm_1131 : Cond.static yJ0_checkIndex_df160 ∈ wG := List.mem_filter.mpr ⟨wT_2 _ (List.mem_of_getElem? (i := 148) rfl), rfl⟩
theorem wm_1132 : Cond.code yJ0_checkIndex_df160 cJ0_checkIndex_df160 2 none ∈ wG := List.mem_filter.mpr ⟨wT_2 _ (List.mem_of_getElem? (i := 149) rfl), rfl⟩
theorem wm_1133 : Cond.methodLink RJ0 492 yJ0_isLatin1_aae02 ∈ wG := List.mem_filter.mpr ⟨wT_2 _ (List.mem_of_getElem? (i := 140) rfl), rfl⟩
theorem wm_1134 : Cond.instanceMethod yJ0_isLatin1_aae02 ∈ wG := List.mem_filter.mpr ⟨wT_2 _ (List.mem_of_getElem? (i := 141) rfl), rfl⟩
theorem wm_1135 : Cond.selects RJ0 yJ0_isLatin1_aae02 yJ0_isLatin1_aae02 ∈ wG := List.mem_filter.mpr ⟨wT_2 _ (List.mem_of_getElem? (i := 142) rfl), rfl⟩
theorem wm_1136 : Cond.code yJ0_isLatin1_aae02 cJ0_isLatin1_aae02 1 (some .boolean) ∈ wG := List.mem_filter.mpr ⟨wT_2 _ (List.mem_of_getElem? (i := 143) rfl), rfl⟩
theorem wm_1137 : Cond.methodLink RJ0 495 yJ1_charAt_3b067 ∈ wG := List.mem_filter.mpr ⟨wT_2 _ (List.mem_of_getElem? (i := 144) rfl), rfl⟩
theorem wm_1138 : Cond.static yJ1_charAt_3b067 ∈ wG := List.mem_filter.mpr ⟨wT_2 _ (List.mem_of_getElem? (i := 145) rfl), rfl⟩
theorem wm_1139 : Cond.initialized RJ1 ∈ wG := List.mem_filter.mpr ⟨wT_1 _ (List.mem_of_getElem? (i := 15) rfl), rfl⟩
theorem wm_1140 : Cond.code yJ1_charAt_3b067 cJ1_charAt_3b067 2 (some .char) ∈ wG := List.mem_filter.mpr ⟨wT_2 _ (List.mem_of_getElem? (i := 146) rfl), rfl⟩
theorem wm_1141 : Cond.instanceMethod yJ0_length_8abf5 ∈ wG := List.mem_filter.mpr ⟨wT_2 _ (List.mem_of_getElem? (i := 127) rfl), rfl⟩
theorem wm_1142 : Cond.selects RJ0 yJ0_length_8abf5 yJ0_length_8abf5 ∈ wG := List.mem_filter.mpr ⟨wT_2 _ (List.mem_of_getElem? (i := 128) rfl), rfl⟩
theorem wm_1143 : Cond.code yJ0_length_8abf5 cJ0_length_8abf5 1 (some .int) ∈ wG := List.mem_filter.mpr ⟨wT_2 _ (List.mem_of_getElem? (i := 129) rfl), rfl⟩
theorem wm_1144 : Cond.instanceMethod yJ0_charAt_5068e ∈ wG := List.mem_filter.mpr ⟨wT_2 _ (List.mem_of_getElem? (i := 137) rfl), rfl⟩
theorem wm_1145 : Cond.selects RJ0 yJ0_charAt_5068e yJ0_charAt_5068e ∈ wG := List.mem_filter.mpr ⟨wT_2 _ (List.mem_of_getElem? (i := 138) rfl), rfl⟩
theorem wm_1146 : Cond.code yJ0_charAt_5068e cJ0_charAt_5068e 2 (some .char) ∈ wG := List.mem_filter.mpr ⟨wT_2 _ (List.mem_of_getElem? (i := 139) rfl), rfl⟩
theorem wu_X11 : ∀ x ∈ u_ws RX11 TX11 14, x ∈ wG := fun x h => by
  obtain ⟨k, hk, rfl⟩ := List.mem_map.mp h
  have hk := List.mem_range.mp hk
  match k, hk with
  | 0, _ => exact wm_0
  | 1, _ => exact wm_1
  | 2, _ => exact wm_2
  | 3, _ => exact wm_3
  | 4, _ => exact wm_4
  | 5, _ => exact wm_5
  | 6, _ => exact wm_6
  | 7, _ => exact wm_7
  | 8, _ => exact wm_8
  | 9, _ => exact wm_9
  | 10, _ => exact wm_10
  | 11, _ => exact wm_11
  | 12, _ => exact wm_12
  | 13, _ => exact wm_13
  | k + 14, hk => exact absurd hk (by omega)
theorem gf_X11_0 {p : Program} {l : Launch} {e : Env} {R : Room} {s : State} {m : MethodId} {args : Array Value} {below : List Frame} {meth : Method} {c : Code} {w : wT} {A : Nat → Prop} {Q : State → Prop} {nL : Nat} {σ : Hp} {pc : Nat} {lv : List (Nat × Value)} {rest : List Value} {cc : ByteArray} {own : String} {r : Option FieldType} (E : YE p m meth c cc nL s args own r w 55 A) {o index : Nat} (h1 : 0 ≤ o) (h2 : o < 1) (hlink : Cond.fieldLink own index "WhereTheSpoonWent" "now" "LWhereTheSpoonWent$House;" ∈ wG) (hd : decode cc pc = .ok (.getfield index, 3)) (kk : YY p l e R s m args below meth c w xcf 55 A Q nL σ (pc + 3) lv (.ref (w.1 1) :: rest)) : YY p l e R s m args below meth c w xcf 55 A Q nL σ pc lv (.ref (w.1 o) :: rest) :=
  y_get E (ci := 11) (k := 0) (N := 14) (C := RX11) (T := TX11) (Nat.lt_of_lt_of_le h2 (by decide)) (xc_X11 h1 h2) rfl wu_X11 (by decide) hlink rfl hd kk
theorem gf_X11_1 {p : Program} {l : Launch} {e : Env} {R : Room} {s : State} {m : MethodId} {args : Array Value} {below : List Frame} {meth : Method} {c : Code} {w : wT} {A : Nat → Prop} {Q : State → Prop} {nL : Nat} {σ : Hp} {pc : Nat} {lv : List (Nat × Value)} {rest : List Value} {cc : ByteArray} {own : String} {r : Option FieldType} (E : YE p m meth c cc nL s args own r w 55 A) {o index : Nat} (h1 : 0 ≤ o) (h2 : o < 1) (hlink : Cond.fieldLink own index "WhereTheSpoonWent" "kept" "LWhereTheSpoonWent$House;" ∈ wG) (hd : decode cc pc = .ok (.getfield index, 3)) (kk : YY p l e R s m args below meth c w xcf 55 A Q nL σ (pc + 3) lv (.ref (w.1 2) :: rest)) : YY p l e R s m args below meth c w xcf 55 A Q nL σ pc lv (.ref (w.1 o) :: rest) :=
  y_get E (ci := 11) (k := 1) (N := 14) (C := RX11) (T := TX11) (Nat.lt_of_lt_of_le h2 (by decide)) (xc_X11 h1 h2) rfl wu_X11 (by decide) hlink rfl hd kk
theorem gf_X11_2 {p : Program} {l : Launch} {e : Env} {R : Room} {s : State} {m : MethodId} {args : Array Value} {below : List Frame} {meth : Method} {c : Code} {w : wT} {A : Nat → Prop} {Q : State → Prop} {nL : Nat} {σ : Hp} {pc : Nat} {lv : List (Nat × Value)} {rest : List Value} {cc : ByteArray} {own : String} {r : Option FieldType} (E : YE p m meth c cc nL s args own r w 55 A) {o index : Nat} (h1 : 0 ≤ o) (h2 : o < 1) (hlink : Cond.fieldLink own index "WhereTheSpoonWent" "isKept" "Z" ∈ wG) (hd : decode cc pc = .ok (.getfield index, 3)) (kk : YY p l e R s m args below meth c w xcf 55 A Q nL σ (pc + 3) lv (.int (σ o 2) :: rest)) : YY p l e R s m args below meth c w xcf 55 A Q nL σ pc lv (.ref (w.1 o) :: rest) :=
  y_get E (ci := 11) (k := 2) (N := 14) (C := RX11) (T := TX11) (Nat.lt_of_lt_of_le h2 (by decide)) (xc_X11 h1 h2) rfl wu_X11 (by decide) hlink rfl hd kk
theorem pf_X11_2 {p : Program} {l : Launch} {e : Env} {R : Room} {s : State} {m : MethodId} {args : Array Value} {below : List Frame} {meth : Method} {c : Code} {w : wT} {A : Nat → Prop} {Q : State → Prop} {nL : Nat} {σ : Hp} {pc : Nat} {lv : List (Nat × Value)} {rest : List Value} {cc : ByteArray} {own : String} {r : Option FieldType} (E : YE p m meth c cc nL s args own r w 55 A) {o index : Nat} {z : Int32} (h1 : 0 ≤ o) (h2 : o < 1) (hz : narrow .boolean (.int z) = .int z) (hf : fits .boolean (.int z) = true) (hlink : Cond.fieldLink own index "WhereTheSpoonWent" "isKept" "Z" ∈ wG) (hd : decode cc pc = .ok (.putfield index, 3)) (kk : YY p l e R s m args below meth c w xcf 55 A Q nL (hup σ o 2 z) (pc + 3) lv rest) : YY p l e R s m args below meth c w xcf 55 A Q nL σ pc lv (.int z :: .ref (w.1 o) :: rest) :=
  y_put E (ci := 11) (k := 2) (N := 14) (C := RX11) (T := TX11) (v := .int z) (ty := .boolean) (Nat.lt_of_lt_of_le h2 (by decide)) (xc_X11 h1 h2) (by rw [xc_X11 h1 h2]; simp [upd]) rfl wu_X11 tyX11 tyX11_ok nmX11 (by decide) hlink rfl (by decide +kernel) hz hf (by simp) hd kk
theorem gf_X11_3 {p : Program} {l : Launch} {e : Env} {R : Room} {s : State} {m : MethodId} {args : Array Value} {below : List Frame} {meth : Method} {c : Code} {w : wT} {A : Nat → Prop} {Q : State → Prop} {nL : Nat} {σ : Hp} {pc : Nat} {lv : List (Nat × Value)} {rest : List Value} {cc : ByteArray} {own : String} {r : Option FieldType} (E : YE p m meth c cc nL s args own r w 55 A) {o index : Nat} (h1 : 0 ≤ o) (h2 : o < 1) (hlink : Cond.fieldLink own index "WhereTheSpoonWent" "kinds" "[LWhereTheSpoonWent$Thing;" ∈ wG) (hd : decode cc pc = .ok (.getfield index, 3)) (kk : YY p l e R s m args below meth c w xcf 55 A Q nL σ (pc + 3) lv (.ref (w.1 11) :: rest)) : YY p l e R s m args below meth c w xcf 55 A Q nL σ pc lv (.ref (w.1 o) :: rest) :=
  y_get E (ci := 11) (k := 3) (N := 14) (C := RX11) (T := TX11) (Nat.lt_of_lt_of_le h2 (by decide)) (xc_X11 h1 h2) rfl wu_X11 (by decide) hlink rfl hd kk
theorem gf_X11_4 {p : Program} {l : Launch} {e : Env} {R : Room} {s : State} {m : MethodId} {args : Array Value} {below : List Frame} {meth : Method} {c : Code} {w : wT} {A : Nat → Prop} {Q : State → Prop} {nL : Nat} {σ : Hp} {pc : Nat} {lv : List (Nat × Value)} {rest : List Value} {cc : ByteArray} {own : String} {r : Option FieldType} (E : YE p m meth c cc nL s args own r w 55 A) {o index : Nat} (h1 : 0 ≤ o) (h2 : o < 1) (hlink : Cond.fieldLink own index "WhereTheSpoonWent" "texts" "[LWhereTheSpoonWent$Text;" ∈ wG) (hd : decode cc pc = .ok (.getfield index, 3)) (kk : YY p l e R s m args below meth c w xcf 55 A Q nL σ (pc + 3) lv (.ref (w.1 18) :: rest)) : YY p l e R s m args below meth c w xcf 55 A Q nL σ pc lv (.ref (w.1 o) :: rest) :=
  y_get E (ci := 11) (k := 4) (N := 14) (C := RX11) (T := TX11) (Nat.lt_of_lt_of_le h2 (by decide)) (xc_X11 h1 h2) rfl wu_X11 (by decide) hlink rfl hd kk
theorem gf_X11_5 {p : Program} {l : Launch} {e : Env} {R : Room} {s : State} {m : MethodId} {args : Array Value} {below : List Frame} {meth : Method} {c : Code} {w : wT} {A : Nat → Prop} {Q : State → Prop} {nL : Nat} {σ : Hp} {pc : Nat} {lv : List (Nat × Value)} {rest : List Value} {cc : ByteArray} {own : String} {r : Option FieldType} (E : YE p m meth c cc nL s args own r w 55 A) {o index : Nat} (h1 : 0 ≤ o) (h2 : o < 1) (hlink : Cond.fieldLink own index "WhereTheSpoonWent" "textCount" "I" ∈ wG) (hd : decode cc pc = .ok (.getfield index, 3)) (kk : YY p l e R s m args below meth c w xcf 55 A Q nL σ (pc + 3) lv (.int (σ o 5) :: rest)) : YY p l e R s m args below meth c w xcf 55 A Q nL σ pc lv (.ref (w.1 o) :: rest) :=
  y_get E (ci := 11) (k := 5) (N := 14) (C := RX11) (T := TX11) (Nat.lt_of_lt_of_le h2 (by decide)) (xc_X11 h1 h2) rfl wu_X11 (by decide) hlink rfl hd kk
theorem pf_X11_5 {p : Program} {l : Launch} {e : Env} {R : Room} {s : State} {m : MethodId} {args : Array Value} {below : List Frame} {meth : Method} {c : Code} {w : wT} {A : Nat → Prop} {Q : State → Prop} {nL : Nat} {σ : Hp} {pc : Nat} {lv : List (Nat × Value)} {rest : List Value} {cc : ByteArray} {own : String} {r : Option FieldType} (E : YE p m meth c cc nL s args own r w 55 A) {o index : Nat} {z : Int32} (h1 : 0 ≤ o) (h2 : o < 1) (hlink : Cond.fieldLink own index "WhereTheSpoonWent" "textCount" "I" ∈ wG) (hd : decode cc pc = .ok (.putfield index, 3)) (kk : YY p l e R s m args below meth c w xcf 55 A Q nL (hup σ o 5 z) (pc + 3) lv rest) : YY p l e R s m args below meth c w xcf 55 A Q nL σ pc lv (.int z :: .ref (w.1 o) :: rest) :=
  y_put E (ci := 11) (k := 5) (N := 14) (C := RX11) (T := TX11) (v := .int z) (ty := .int) (Nat.lt_of_lt_of_le h2 (by decide)) (xc_X11 h1 h2) (by rw [xc_X11 h1 h2]; simp [upd]) rfl wu_X11 tyX11 tyX11_ok nmX11 (by decide) hlink rfl (by decide +kernel) rfl rfl (by simp) hd kk
theorem gf_X11_6 {p : Program} {l : Launch} {e : Env} {R : Room} {s : State} {m : MethodId} {args : Array Value} {below : List Frame} {meth : Method} {c : Code} {w : wT} {A : Nat → Prop} {Q : State → Prop} {nL : Nat} {σ : Hp} {pc : Nat} {lv : List (Nat × Value)} {rest : List Value} {cc : ByteArray} {own : String} {r : Option FieldType} (E : YE p m meth c cc nL s args own r w 55 A) {o index : Nat} (h1 : 0 ≤ o) (h2 : o < 1) (hlink : Cond.fieldLink own index "WhereTheSpoonWent" "reader" "LWhereTheSpoonWent$Reader;" ∈ wG) (hd : decode cc pc = .ok (.getfield index, 3)) (kk : YY p l e R s m args below meth c w xcf 55 A Q nL σ (pc + 3) lv (.ref (w.1 38) :: rest)) : YY p l e R s m args below meth c w xcf 55 A Q nL σ pc lv (.ref (w.1 o) :: rest) :=
  y_get E (ci := 11) (k := 6) (N := 14) (C := RX11) (T := TX11) (Nat.lt_of_lt_of_le h2 (by decide)) (xc_X11 h1 h2) rfl wu_X11 (by decide) hlink rfl hd kk
theorem gf_X11_7 {p : Program} {l : Launch} {e : Env} {R : Room} {s : State} {m : MethodId} {args : Array Value} {below : List Frame} {meth : Method} {c : Code} {w : wT} {A : Nat → Prop} {Q : State → Prop} {nL : Nat} {σ : Hp} {pc : Nat} {lv : List (Nat × Value)} {rest : List Value} {cc : ByteArray} {own : String} {r : Option FieldType} (E : YE p m meth c cc nL s args own r w 55 A) {o index : Nat} (h1 : 0 ≤ o) (h2 : o < 1) (hlink : Cond.fieldLink own index "WhereTheSpoonWent" "sheets" "[LWhereTheSpoonWent$Sheet;" ∈ wG) (hd : decode cc pc = .ok (.getfield index, 3)) (kk : YY p l e R s m args below meth c w xcf 55 A Q nL σ (pc + 3) lv (.ref (w.1 40) :: rest)) : YY p l e R s m args below meth c w xcf 55 A Q nL σ pc lv (.ref (w.1 o) :: rest) :=
  y_get E (ci := 11) (k := 7) (N := 14) (C := RX11) (T := TX11) (Nat.lt_of_lt_of_le h2 (by decide)) (xc_X11 h1 h2) rfl wu_X11 (by decide) hlink rfl hd kk
theorem gf_X11_8 {p : Program} {l : Launch} {e : Env} {R : Room} {s : State} {m : MethodId} {args : Array Value} {below : List Frame} {meth : Method} {c : Code} {w : wT} {A : Nat → Prop} {Q : State → Prop} {nL : Nat} {σ : Hp} {pc : Nat} {lv : List (Nat × Value)} {rest : List Value} {cc : ByteArray} {own : String} {r : Option FieldType} (E : YE p m meth c cc nL s args own r w 55 A) {o index : Nat} (h1 : 0 ≤ o) (h2 : o < 1) (hlink : Cond.fieldLink own index "WhereTheSpoonWent" "flight" "LWhereTheSpoonWent$Flight;" ∈ wG) (hd : decode cc pc = .ok (.getfield index, 3)) (kk : YY p l e R s m args below meth c w xcf 55 A Q nL σ (pc + 3) lv (.ref (w.1 49) :: rest)) : YY p l e R s m args below meth c w xcf 55 A Q nL σ pc lv (.ref (w.1 o) :: rest) :=
  y_get E (ci := 11) (k := 8) (N := 14) (C := RX11) (T := TX11) (Nat.lt_of_lt_of_le h2 (by decide)) (xc_X11 h1 h2) rfl wu_X11 (by decide) hlink rfl hd kk
theorem gf_X11_9 {p : Program} {l : Launch} {e : Env} {R : Room} {s : State} {m : MethodId} {args : Array Value} {below : List Frame} {meth : Method} {c : Code} {w : wT} {A : Nat → Prop} {Q : State → Prop} {nL : Nat} {σ : Hp} {pc : Nat} {lv : List (Nat × Value)} {rest : List Value} {cc : ByteArray} {own : String} {r : Option FieldType} (E : YE p m meth c cc nL s args own r w 55 A) {o index : Nat} (h1 : 0 ≤ o) (h2 : o < 1) (hlink : Cond.fieldLink own index "WhereTheSpoonWent" "path" "[I" ∈ wG) (hd : decode cc pc = .ok (.getfield index, 3)) (kk : YY p l e R s m args below meth c w xcf 55 A Q nL σ (pc + 3) lv (.ref (w.1 50) :: rest)) : YY p l e R s m args below meth c w xcf 55 A Q nL σ pc lv (.ref (w.1 o) :: rest) :=
  y_get E (ci := 11) (k := 9) (N := 14) (C := RX11) (T := TX11) (Nat.lt_of_lt_of_le h2 (by decide)) (xc_X11 h1 h2) rfl wu_X11 (by decide) hlink rfl hd kk
theorem gf_X11_10 {p : Program} {l : Launch} {e : Env} {R : Room} {s : State} {m : MethodId} {args : Array Value} {below : List Frame} {meth : Method} {c : Code} {w : wT} {A : Nat → Prop} {Q : State → Prop} {nL : Nat} {σ : Hp} {pc : Nat} {lv : List (Nat × Value)} {rest : List Value} {cc : ByteArray} {own : String} {r : Option FieldType} (E : YE p m meth c cc nL s args own r w 55 A) {o index : Nat} (h1 : 0 ≤ o) (h2 : o < 1) (hlink : Cond.fieldLink own index "WhereTheSpoonWent" "far" "[I" ∈ wG) (hd : decode cc pc = .ok (.getfield index, 3)) (kk : YY p l e R s m args below meth c w xcf 55 A Q nL σ (pc + 3) lv (.ref (w.1 51) :: rest)) : YY p l e R s m args below meth c w xcf 55 A Q nL σ pc lv (.ref (w.1 o) :: rest) :=
  y_get E (ci := 11) (k := 10) (N := 14) (C := RX11) (T := TX11) (Nat.lt_of_lt_of_le h2 (by decide)) (xc_X11 h1 h2) rfl wu_X11 (by decide) hlink rfl hd kk
theorem gf_X11_11 {p : Program} {l : Launch} {e : Env} {R : Room} {s : State} {m : MethodId} {args : Array Value} {below : List Frame} {meth : Method} {c : Code} {w : wT} {A : Nat → Prop} {Q : State → Prop} {nL : Nat} {σ : Hp} {pc : Nat} {lv : List (Nat × Value)} {rest : List Value} {cc : ByteArray} {own : String} {r : Option FieldType} (E : YE p m meth c cc nL s args own r w 55 A) {o index : Nat} (h1 : 0 ≤ o) (h2 : o < 1) (hlink : Cond.fieldLink own index "WhereTheSpoonWent" "queue" "[I" ∈ wG) (hd : decode cc pc = .ok (.getfield index, 3)) (kk : YY p l e R s m args below meth c w xcf 55 A Q nL σ (pc + 3) lv (.ref (w.1 52) :: rest)) : YY p l e R s m args below meth c w xcf 55 A Q nL σ pc lv (.ref (w.1 o) :: rest) :=
  y_get E (ci := 11) (k := 11) (N := 14) (C := RX11) (T := TX11) (Nat.lt_of_lt_of_le h2 (by decide)) (xc_X11 h1 h2) rfl wu_X11 (by decide) hlink rfl hd kk
theorem gf_X11_12 {p : Program} {l : Launch} {e : Env} {R : Room} {s : State} {m : MethodId} {args : Array Value} {below : List Frame} {meth : Method} {c : Code} {w : wT} {A : Nat → Prop} {Q : State → Prop} {nL : Nat} {σ : Hp} {pc : Nat} {lv : List (Nat × Value)} {rest : List Value} {cc : ByteArray} {own : String} {r : Option FieldType} (E : YE p m meth c cc nL s args own r w 55 A) {o index : Nat} (h1 : 0 ≤ o) (h2 : o < 1) (hlink : Cond.fieldLink own index "WhereTheSpoonWent" "ends" "[I" ∈ wG) (hd : decode cc pc = .ok (.getfield index, 3)) (kk : YY p l e R s m args below meth c w xcf 55 A Q nL σ (pc + 3) lv (.ref (w.1 53) :: rest)) : YY p l e R s m args below meth c w xcf 55 A Q nL σ pc lv (.ref (w.1 o) :: rest) :=
  y_get E (ci := 11) (k := 12) (N := 14) (C := RX11) (T := TX11) (Nat.lt_of_lt_of_le h2 (by decide)) (xc_X11 h1 h2) rfl wu_X11 (by decide) hlink rfl hd kk
theorem gf_X11_13 {p : Program} {l : Launch} {e : Env} {R : Room} {s : State} {m : MethodId} {args : Array Value} {below : List Frame} {meth : Method} {c : Code} {w : wT} {A : Nat → Prop} {Q : State → Prop} {nL : Nat} {σ : Hp} {pc : Nat} {lv : List (Nat × Value)} {rest : List Value} {cc : ByteArray} {own : String} {r : Option FieldType} (E : YE p m meth c cc nL s args own r w 55 A) {o index : Nat} (h1 : 0 ≤ o) (h2 : o < 1) (hlink : Cond.fieldLink own index "WhereTheSpoonWent" "tally" "[I" ∈ wG) (hd : decode cc pc = .ok (.getfield index, 3)) (kk : YY p l e R s m args below meth c w xcf 55 A Q nL σ (pc + 3) lv (.ref (w.1 54) :: rest)) : YY p l e R s m args below meth c w xcf 55 A Q nL σ pc lv (.ref (w.1 o) :: rest) :=
  y_get E (ci := 11) (k := 13) (N := 14) (C := RX11) (T := TX11) (Nat.lt_of_lt_of_le h2 (by decide)) (xc_X11 h1 h2) rfl wu_X11 (by decide) hlink rfl hd kk
theorem wu_X3 : ∀ x ∈ u_ws RX3 TX3 10, x ∈ wG := fun x h => by
  obtain ⟨k, hk, rfl⟩ := List.mem_map.mp h
  have hk := List.mem_range.mp hk
  match k, hk with
  | 0, _ => exact wm_14
  | 1, _ => exact wm_15
  | 2, _ => exact wm_16
  | 3, _ => exact wm_17
  | 4, _ => exact wm_18
  | 5, _ => exact wm_19
  | 6, _ => exact wm_20
  | 7, _ => exact wm_21
  | 8, _ => exact wm_22
  | 9, _ => exact wm_23
  | k + 10, hk => exact absurd hk (by omega)
theorem gf_X3_0 {p : Program} {l : Launch} {e : Env} {R : Room} {s : State} {m : MethodId} {args : Array Value} {below : List Frame} {meth : Method} {c : Code} {w : wT} {A : Nat → Prop} {Q : State → Prop} {nL : Nat} {σ : Hp} {pc : Nat} {lv : List (Nat × Value)} {rest : List Value} {cc : ByteArray} {own : String} {r : Option FieldType} (E : YE p m meth c cc nL s args own r w 55 A) {o index : Nat} (h1 : 1 ≤ o) (h2 : o < 3) (hlink : Cond.fieldLink own index "WhereTheSpoonWent$House" "walls" "I" ∈ wG) (hd : decode cc pc = .ok (.getfield index, 3)) (kk : YY p l e R s m args below meth c w xcf 55 A Q nL σ (pc + 3) lv (.int (σ o 0) :: rest)) : YY p l e R s m args below meth c w xcf 55 A Q nL σ pc lv (.ref (w.1 o) :: rest) :=
  y_get E (ci := 3) (k := 0) (N := 10) (C := RX3) (T := TX3) (Nat.lt_of_lt_of_le h2 (by decide)) (xc_X3 h1 h2) rfl wu_X3 (by decide) hlink rfl hd kk
theorem pf_X3_0 {p : Program} {l : Launch} {e : Env} {R : Room} {s : State} {m : MethodId} {args : Array Value} {below : List Frame} {meth : Method} {c : Code} {w : wT} {A : Nat → Prop} {Q : State → Prop} {nL : Nat} {σ : Hp} {pc : Nat} {lv : List (Nat × Value)} {rest : List Value} {cc : ByteArray} {own : String} {r : Option FieldType} (E : YE p m meth c cc nL s args own r w 55 A) {o index : Nat} {z : Int32} (h1 : 1 ≤ o) (h2 : o < 3) (hlink : Cond.fieldLink own index "WhereTheSpoonWent$House" "walls" "I" ∈ wG) (hd : decode cc pc = .ok (.putfield index, 3)) (kk : YY p l e R s m args below meth c w xcf 55 A Q nL (hup σ o 0 z) (pc + 3) lv rest) : YY p l e R s m args below meth c w xcf 55 A Q nL σ pc lv (.int z :: .ref (w.1 o) :: rest) :=
  y_put E (ci := 3) (k := 0) (N := 10) (C := RX3) (T := TX3) (v := .int z) (ty := .int) (Nat.lt_of_lt_of_le h2 (by decide)) (xc_X3 h1 h2) (by rw [xc_X3 h1 h2]; simp [upd]) rfl wu_X3 tyX3 tyX3_ok nmX3 (by decide) hlink rfl (by decide +kernel) rfl rfl (by simp) hd kk
theorem gf_X3_1 {p : Program} {l : Launch} {e : Env} {R : Room} {s : State} {m : MethodId} {args : Array Value} {below : List Frame} {meth : Method} {c : Code} {w : wT} {A : Nat → Prop} {Q : State → Prop} {nL : Nat} {σ : Hp} {pc : Nat} {lv : List (Nat × Value)} {rest : List Value} {cc : ByteArray} {own : String} {r : Option FieldType} (E : YE p m meth c cc nL s args own r w 55 A) {o index : Nat} (h1 : 1 ≤ o) (h2 : o < 3) (hlink : Cond.fieldLink own index "WhereTheSpoonWent$House" "nets" "I" ∈ wG) (hd : decode cc pc = .ok (.getfield index, 3)) (kk : YY p l e R s m args below meth c w xcf 55 A Q nL σ (pc + 3) lv (.int (σ o 1) :: rest)) : YY p l e R s m args below meth c w xcf 55 A Q nL σ pc lv (.ref (w.1 o) :: rest) :=
  y_get E (ci := 3) (k := 1) (N := 10) (C := RX3) (T := TX3) (Nat.lt_of_lt_of_le h2 (by decide)) (xc_X3 h1 h2) rfl wu_X3 (by decide) hlink rfl hd kk
theorem pf_X3_1 {p : Program} {l : Launch} {e : Env} {R : Room} {s : State} {m : MethodId} {args : Array Value} {below : List Frame} {meth : Method} {c : Code} {w : wT} {A : Nat → Prop} {Q : State → Prop} {nL : Nat} {σ : Hp} {pc : Nat} {lv : List (Nat × Value)} {rest : List Value} {cc : ByteArray} {own : String} {r : Option FieldType} (E : YE p m meth c cc nL s args own r w 55 A) {o index : Nat} {z : Int32} (h1 : 1 ≤ o) (h2 : o < 3) (hlink : Cond.fieldLink own index "WhereTheSpoonWent$House" "nets" "I" ∈ wG) (hd : decode cc pc = .ok (.putfield index, 3)) (kk : YY p l e R s m args below meth c w xcf 55 A Q nL (hup σ o 1 z) (pc + 3) lv rest) : YY p l e R s m args below meth c w xcf 55 A Q nL σ pc lv (.int z :: .ref (w.1 o) :: rest) :=
  y_put E (ci := 3) (k := 1) (N := 10) (C := RX3) (T := TX3) (v := .int z) (ty := .int) (Nat.lt_of_lt_of_le h2 (by decide)) (xc_X3 h1 h2) (by rw [xc_X3 h1 h2]; simp [upd]) rfl wu_X3 tyX3 tyX3_ok nmX3 (by decide) hlink rfl (by decide +kernel) rfl rfl (by simp) hd kk
theorem gf_X3_2 {p : Program} {l : Launch} {e : Env} {R : Room} {s : State} {m : MethodId} {args : Array Value} {below : List Frame} {meth : Method} {c : Code} {w : wT} {A : Nat → Prop} {Q : State → Prop} {nL : Nat} {σ : Hp} {pc : Nat} {lv : List (Nat × Value)} {rest : List Value} {cc : ByteArray} {own : String} {r : Option FieldType} (E : YE p m meth c cc nL s args own r w 55 A) {o index : Nat} (h1 : 1 ≤ o) (h2 : o < 3) (hlink : Cond.fieldLink own index "WhereTheSpoonWent$House" "fans" "I" ∈ wG) (hd : decode cc pc = .ok (.getfield index, 3)) (kk : YY p l e R s m args below meth c w xcf 55 A Q nL σ (pc + 3) lv (.int (σ o 2) :: rest)) : YY p l e R s m args below meth c w xcf 55 A Q nL σ pc lv (.ref (w.1 o) :: rest) :=
  y_get E (ci := 3) (k := 2) (N := 10) (C := RX3) (T := TX3) (Nat.lt_of_lt_of_le h2 (by decide)) (xc_X3 h1 h2) rfl wu_X3 (by decide) hlink rfl hd kk
theorem pf_X3_2 {p : Program} {l : Launch} {e : Env} {R : Room} {s : State} {m : MethodId} {args : Array Value} {below : List Frame} {meth : Method} {c : Code} {w : wT} {A : Nat → Prop} {Q : State → Prop} {nL : Nat} {σ : Hp} {pc : Nat} {lv : List (Nat × Value)} {rest : List Value} {cc : ByteArray} {own : String} {r : Option FieldType} (E : YE p m meth c cc nL s args own r w 55 A) {o index : Nat} {z : Int32} (h1 : 1 ≤ o) (h2 : o < 3) (hlink : Cond.fieldLink own index "WhereTheSpoonWent$House" "fans" "I" ∈ wG) (hd : decode cc pc = .ok (.putfield index, 3)) (kk : YY p l e R s m args below meth c w xcf 55 A Q nL (hup σ o 2 z) (pc + 3) lv rest) : YY p l e R s m args below meth c w xcf 55 A Q nL σ pc lv (.int z :: .ref (w.1 o) :: rest) :=
  y_put E (ci := 3) (k := 2) (N := 10) (C := RX3) (T := TX3) (v := .int z) (ty := .int) (Nat.lt_of_lt_of_le h2 (by decide)) (xc_X3 h1 h2) (by rw [xc_X3 h1 h2]; simp [upd]) rfl wu_X3 tyX3 tyX3_ok nmX3 (by decide) hlink rfl (by decide +kernel) rfl rfl (by simp) hd kk
theorem gf_X3_3 {p : Program} {l : Launch} {e : Env} {R : Room} {s : State} {m : MethodId} {args : Array Value} {below : List Frame} {meth : Method} {c : Code} {w : wT} {A : Nat → Prop} {Q : State → Prop} {nL : Nat} {σ : Hp} {pc : Nat} {lv : List (Nat × Value)} {rest : List Value} {cc : ByteArray} {own : String} {r : Option FieldType} (E : YE p m meth c cc nL s args own r w 55 A) {o index : Nat} (h1 : 1 ≤ o) (h2 : o < 3) (hlink : Cond.fieldLink own index "WhereTheSpoonWent$House" "step" "I" ∈ wG) (hd : decode cc pc = .ok (.getfield index, 3)) (kk : YY p l e R s m args below meth c w xcf 55 A Q nL σ (pc + 3) lv (.int (σ o 3) :: rest)) : YY p l e R s m args below meth c w xcf 55 A Q nL σ pc lv (.ref (w.1 o) :: rest) :=
  y_get E (ci := 3) (k := 3) (N := 10) (C := RX3) (T := TX3) (Nat.lt_of_lt_of_le h2 (by decide)) (xc_X3 h1 h2) rfl wu_X3 (by decide) hlink rfl hd kk
theorem pf_X3_3 {p : Program} {l : Launch} {e : Env} {R : Room} {s : State} {m : MethodId} {args : Array Value} {below : List Frame} {meth : Method} {c : Code} {w : wT} {A : Nat → Prop} {Q : State → Prop} {nL : Nat} {σ : Hp} {pc : Nat} {lv : List (Nat × Value)} {rest : List Value} {cc : ByteArray} {own : String} {r : Option FieldType} (E : YE p m meth c cc nL s args own r w 55 A) {o index : Nat} {z : Int32} (h1 : 1 ≤ o) (h2 : o < 3) (hlink : Cond.fieldLink own index "WhereTheSpoonWent$House" "step" "I" ∈ wG) (hd : decode cc pc = .ok (.putfield index, 3)) (kk : YY p l e R s m args below meth c w xcf 55 A Q nL (hup σ o 3 z) (pc + 3) lv rest) : YY p l e R s m args below meth c w xcf 55 A Q nL σ pc lv (.int z :: .ref (w.1 o) :: rest) :=
  y_put E (ci := 3) (k := 3) (N := 10) (C := RX3) (T := TX3) (v := .int z) (ty := .int) (Nat.lt_of_lt_of_le h2 (by decide)) (xc_X3 h1 h2) (by rw [xc_X3 h1 h2]; simp [upd]) rfl wu_X3 tyX3 tyX3_ok nmX3 (by decide) hlink rfl (by decide +kernel) rfl rfl (by simp) hd kk
theorem gf_X3_4 {p : Program} {l : Launch} {e : Env} {R : Room} {s : State} {m : MethodId} {args : Array Value} {below : List Frame} {meth : Method} {c : Code} {w : wT} {A : Nat → Prop} {Q : State → Prop} {nL : Nat} {σ : Hp} {pc : Nat} {lv : List (Nat × Value)} {rest : List Value} {cc : ByteArray} {own : String} {r : Option FieldType} (E : YE p m meth c cc nL s args own r w 55 A) {o index : Nat} (h1 : 1 ≤ o) (h2 : o < 3) (hlink : Cond.fieldLink own index "WhereTheSpoonWent$House" "law" "I" ∈ wG) (hd : decode cc pc = .ok (.getfield index, 3)) (kk : YY p l e R s m args below meth c w xcf 55 A Q nL σ (pc + 3) lv (.int (σ o 4) :: rest)) : YY p l e R s m args below meth c w xcf 55 A Q nL σ pc lv (.ref (w.1 o) :: rest) :=
  y_get E (ci := 3) (k := 4) (N := 10) (C := RX3) (T := TX3) (Nat.lt_of_lt_of_le h2 (by decide)) (xc_X3 h1 h2) rfl wu_X3 (by decide) hlink rfl hd kk
theorem pf_X3_4 {p : Program} {l : Launch} {e : Env} {R : Room} {s : State} {m : MethodId} {args : Array Value} {below : List Frame} {meth : Method} {c : Code} {w : wT} {A : Nat → Prop} {Q : State → Prop} {nL : Nat} {σ : Hp} {pc : Nat} {lv : List (Nat × Value)} {rest : List Value} {cc : ByteArray} {own : String} {r : Option FieldType} (E : YE p m meth c cc nL s args own r w 55 A) {o index : Nat} {z : Int32} (h1 : 1 ≤ o) (h2 : o < 3) (hlink : Cond.fieldLink own index "WhereTheSpoonWent$House" "law" "I" ∈ wG) (hd : decode cc pc = .ok (.putfield index, 3)) (kk : YY p l e R s m args below meth c w xcf 55 A Q nL (hup σ o 4 z) (pc + 3) lv rest) : YY p l e R s m args below meth c w xcf 55 A Q nL σ pc lv (.int z :: .ref (w.1 o) :: rest) :=
  y_put E (ci := 3) (k := 4) (N := 10) (C := RX3) (T := TX3) (v := .int z) (ty := .int) (Nat.lt_of_lt_of_le h2 (by decide)) (xc_X3 h1 h2) (by rw [xc_X3 h1 h2]; simp [upd]) rfl wu_X3 tyX3 tyX3_ok nmX3 (by decide) hlink rfl (by decide +kernel) rfl rfl (by simp) hd kk
theorem gf_X3_5 {p : Program} {l : Launch} {e : Env} {R : Room} {s : State} {m : MethodId} {args : Array Value} {below : List Frame} {meth : Method} {c : Code} {w : wT} {A : Nat → Prop} {Q : State → Prop} {nL : Nat} {σ : Hp} {pc : Nat} {lv : List (Nat × Value)} {rest : List Value} {cc : ByteArray} {own : String} {r : Option FieldType} (E : YE p m meth c cc nL s args own r w 55 A) {o index : Nat} (h1 : 1 ≤ o) (h2 : o < 3) (hlink : Cond.fieldLink own index "WhereTheSpoonWent$House" "things" "I" ∈ wG) (hd : decode cc pc = .ok (.getfield index, 3)) (kk : YY p l e R s m args below meth c w xcf 55 A Q nL σ (pc + 3) lv (.int (σ o 5) :: rest)) : YY p l e R s m args below meth c w xcf 55 A Q nL σ pc lv (.ref (w.1 o) :: rest) :=
  y_get E (ci := 3) (k := 5) (N := 10) (C := RX3) (T := TX3) (Nat.lt_of_lt_of_le h2 (by decide)) (xc_X3 h1 h2) rfl wu_X3 (by decide) hlink rfl hd kk
theorem pf_X3_5 {p : Program} {l : Launch} {e : Env} {R : Room} {s : State} {m : MethodId} {args : Array Value} {below : List Frame} {meth : Method} {c : Code} {w : wT} {A : Nat → Prop} {Q : State → Prop} {nL : Nat} {σ : Hp} {pc : Nat} {lv : List (Nat × Value)} {rest : List Value} {cc : ByteArray} {own : String} {r : Option FieldType} (E : YE p m meth c cc nL s args own r w 55 A) {o index : Nat} {z : Int32} (h1 : 1 ≤ o) (h2 : o < 3) (hlink : Cond.fieldLink own index "WhereTheSpoonWent$House" "things" "I" ∈ wG) (hd : decode cc pc = .ok (.putfield index, 3)) (kk : YY p l e R s m args below meth c w xcf 55 A Q nL (hup σ o 5 z) (pc + 3) lv rest) : YY p l e R s m args below meth c w xcf 55 A Q nL σ pc lv (.int z :: .ref (w.1 o) :: rest) :=
  y_put E (ci := 3) (k := 5) (N := 10) (C := RX3) (T := TX3) (v := .int z) (ty := .int) (Nat.lt_of_lt_of_le h2 (by decide)) (xc_X3 h1 h2) (by rw [xc_X3 h1 h2]; simp [upd]) rfl wu_X3 tyX3 tyX3_ok nmX3 (by decide) hlink rfl (by decide +kernel) rfl rfl (by simp) hd kk
theorem gf_X3_6 {p : Program} {l : Launch} {e : Env} {R : Room} {s : State} {m : MethodId} {args : Array Value} {below : List Frame} {meth : Method} {c : Code} {w : wT} {A : Nat → Prop} {Q : State → Prop} {nL : Nat} {σ : Hp} {pc : Nat} {lv : List (Nat × Value)} {rest : List Value} {cc : ByteArray} {own : String} {r : Option FieldType} (E : YE p m meth c cc nL s args own r w 55 A) {o index q : Nat} (h1 : 1 ≤ o) (h2 : o < 3) (hq : 3 + 4 * (o - 1) = q) (hlink : Cond.fieldLink own index "WhereTheSpoonWent$House" "kinds" "[I" ∈ wG) (hd : decode cc pc = .ok (.getfield index, 3)) (kk : YY p l e R s m args below meth c w xcf 55 A Q nL σ (pc + 3) lv (.ref (w.1 q) :: rest)) : YY p l e R s m args below meth c w xcf 55 A Q nL σ pc lv (.ref (w.1 o) :: rest) :=
  y_get E (ci := 3) (k := 6) (N := 10) (C := RX3) (T := TX3) (Nat.lt_of_lt_of_le h2 (by decide)) (xc_X3 h1 h2) rfl wu_X3 (by decide) hlink rfl hd (by rw [hq]; exact kk)
theorem gf_X3_7 {p : Program} {l : Launch} {e : Env} {R : Room} {s : State} {m : MethodId} {args : Array Value} {below : List Frame} {meth : Method} {c : Code} {w : wT} {A : Nat → Prop} {Q : State → Prop} {nL : Nat} {σ : Hp} {pc : Nat} {lv : List (Nat × Value)} {rest : List Value} {cc : ByteArray} {own : String} {r : Option FieldType} (E : YE p m meth c cc nL s args own r w 55 A) {o index q : Nat} (h1 : 1 ≤ o) (h2 : o < 3) (hq : 4 + 4 * (o - 1) = q) (hlink : Cond.fieldLink own index "WhereTheSpoonWent$House" "mores" "[I" ∈ wG) (hd : decode cc pc = .ok (.getfield index, 3)) (kk : YY p l e R s m args below meth c w xcf 55 A Q nL σ (pc + 3) lv (.ref (w.1 q) :: rest)) : YY p l e R s m args below meth c w xcf 55 A Q nL σ pc lv (.ref (w.1 o) :: rest) :=
  y_get E (ci := 3) (k := 7) (N := 10) (C := RX3) (T := TX3) (Nat.lt_of_lt_of_le h2 (by decide)) (xc_X3 h1 h2) rfl wu_X3 (by decide) hlink rfl hd (by rw [hq]; exact kk)
theorem gf_X3_8 {p : Program} {l : Launch} {e : Env} {R : Room} {s : State} {m : MethodId} {args : Array Value} {below : List Frame} {meth : Method} {c : Code} {w : wT} {A : Nat → Prop} {Q : State → Prop} {nL : Nat} {σ : Hp} {pc : Nat} {lv : List (Nat × Value)} {rest : List Value} {cc : ByteArray} {own : String} {r : Option FieldType} (E : YE p m meth c cc nL s args own r w 55 A) {o index q : Nat} (h1 : 1 ≤ o) (h2 : o < 3) (hq : 5 + 4 * (o - 1) = q) (hlink : Cond.fieldLink own index "WhereTheSpoonWent$House" "cells" "[I" ∈ wG) (hd : decode cc pc = .ok (.getfield index, 3)) (kk : YY p l e R s m args below meth c w xcf 55 A Q nL σ (pc + 3) lv (.ref (w.1 q) :: rest)) : YY p l e R s m args below meth c w xcf 55 A Q nL σ pc lv (.ref (w.1 o) :: rest) :=
  y_get E (ci := 3) (k := 8) (N := 10) (C := RX3) (T := TX3) (Nat.lt_of_lt_of_le h2 (by decide)) (xc_X3 h1 h2) rfl wu_X3 (by decide) hlink rfl hd (by rw [hq]; exact kk)
theorem gf_X3_9 {p : Program} {l : Launch} {e : Env} {R : Room} {s : State} {m : MethodId} {args : Array Value} {below : List Frame} {meth : Method} {c : Code} {w : wT} {A : Nat → Prop} {Q : State → Prop} {nL : Nat} {σ : Hp} {pc : Nat} {lv : List (Nat × Value)} {rest : List Value} {cc : ByteArray} {own : String} {r : Option FieldType} (E : YE p m meth c cc nL s args own r w 55 A) {o index q : Nat} (h1 : 1 ≤ o) (h2 : o < 3) (hq : 6 + 4 * (o - 1) = q) (hlink : Cond.fieldLink own index "WhereTheSpoonWent$House" "ways" "[I" ∈ wG) (hd : decode cc pc = .ok (.getfield index, 3)) (kk : YY p l e R s m args below meth c w xcf 55 A Q nL σ (pc + 3) lv (.ref (w.1 q) :: rest)) : YY p l e R s m args below meth c w xcf 55 A Q nL σ pc lv (.ref (w.1 o) :: rest) :=
  y_get E (ci := 3) (k := 9) (N := 10) (C := RX3) (T := TX3) (Nat.lt_of_lt_of_le h2 (by decide)) (xc_X3 h1 h2) rfl wu_X3 (by decide) hlink rfl hd (by rw [hq]; exact kk)
theorem wu_X9 : ∀ x ∈ u_ws RX9 TX9 5, x ∈ wG := fun x h => by
  obtain ⟨k, hk, rfl⟩ := List.mem_map.mp h
  have hk := List.mem_range.mp hk
  match k, hk with
  | 0, _ => exact wm_24
  | 1, _ => exact wm_25
  | 2, _ => exact wm_26
  | 3, _ => exact wm_27
  | 4, _ => exact wm_28
  | k + 5, hk => exact absurd hk (by omega)
theorem gf_X9_0 {p : Program} {l : Launch} {e : Env} {R : Room} {s : State} {m : MethodId} {args : Array Value} {below : List Frame} {meth : Method} {c : Code} {w : wT} {A : Nat → Prop} {Q : State → Prop} {nL : Nat} {σ : Hp} {pc : Nat} {lv : List (Nat × Value)} {rest : List Value} {cc : ByteArray} {own : String} {r : Option FieldType} (E : YE p m meth c cc nL s args own r w 55 A) {o index q : Nat} (h1 : 19 ≤ o) (h2 : o < 25) (hq : 25 + 1 * (o - 19) = q) (hlink : Cond.fieldLink own index "WhereTheSpoonWent$Text" "codes" "[I" ∈ wG) (hd : decode cc pc = .ok (.getfield index, 3)) (kk : YY p l e R s m args below meth c w xcf 55 A Q nL σ (pc + 3) lv (.ref (w.1 q) :: rest)) : YY p l e R s m args below meth c w xcf 55 A Q nL σ pc lv (.ref (w.1 o) :: rest) :=
  y_get E (ci := 9) (k := 0) (N := 5) (C := RX9) (T := TX9) (Nat.lt_of_lt_of_le h2 (by decide)) (xc_X9 h1 h2) rfl wu_X9 (by decide) hlink rfl hd (by rw [hq]; exact kk)
theorem gf_X9_1 {p : Program} {l : Launch} {e : Env} {R : Room} {s : State} {m : MethodId} {args : Array Value} {below : List Frame} {meth : Method} {c : Code} {w : wT} {A : Nat → Prop} {Q : State → Prop} {nL : Nat} {σ : Hp} {pc : Nat} {lv : List (Nat × Value)} {rest : List Value} {cc : ByteArray} {own : String} {r : Option FieldType} (E : YE p m meth c cc nL s args own r w 55 A) {o index q : Nat} (h1 : 19 ≤ o) (h2 : o < 25) (hq : 31 + 1 * (o - 19) = q) (hlink : Cond.fieldLink own index "WhereTheSpoonWent$Text" "starts" "[I" ∈ wG) (hd : decode cc pc = .ok (.getfield index, 3)) (kk : YY p l e R s m args below meth c w xcf 55 A Q nL σ (pc + 3) lv (.ref (w.1 q) :: rest)) : YY p l e R s m args below meth c w xcf 55 A Q nL σ pc lv (.ref (w.1 o) :: rest) :=
  y_get E (ci := 9) (k := 1) (N := 5) (C := RX9) (T := TX9) (Nat.lt_of_lt_of_le h2 (by decide)) (xc_X9 h1 h2) rfl wu_X9 (by decide) hlink rfl hd (by rw [hq]; exact kk)
theorem gf_X9_2 {p : Program} {l : Launch} {e : Env} {R : Room} {s : State} {m : MethodId} {args : Array Value} {below : List Frame} {meth : Method} {c : Code} {w : wT} {A : Nat → Prop} {Q : State → Prop} {nL : Nat} {σ : Hp} {pc : Nat} {lv : List (Nat × Value)} {rest : List Value} {cc : ByteArray} {own : String} {r : Option FieldType} (E : YE p m meth c cc nL s args own r w 55 A) {o index : Nat} (h1 : 19 ≤ o) (h2 : o < 25) (hlink : Cond.fieldLink own index "WhereTheSpoonWent$Text" "stack" "[I" ∈ wG) (hd : decode cc pc = .ok (.getfield index, 3)) (kk : YY p l e R s m args below meth c w xcf 55 A Q nL σ (pc + 3) lv (.ref (w.1 37) :: rest)) : YY p l e R s m args below meth c w xcf 55 A Q nL σ pc lv (.ref (w.1 o) :: rest) :=
  y_get E (ci := 9) (k := 2) (N := 5) (C := RX9) (T := TX9) (Nat.lt_of_lt_of_le h2 (by decide)) (xc_X9 h1 h2) rfl wu_X9 (by decide) hlink rfl hd kk
theorem gf_X9_3 {p : Program} {l : Launch} {e : Env} {R : Room} {s : State} {m : MethodId} {args : Array Value} {below : List Frame} {meth : Method} {c : Code} {w : wT} {A : Nat → Prop} {Q : State → Prop} {nL : Nat} {σ : Hp} {pc : Nat} {lv : List (Nat × Value)} {rest : List Value} {cc : ByteArray} {own : String} {r : Option FieldType} (E : YE p m meth c cc nL s args own r w 55 A) {o index : Nat} (h1 : 19 ≤ o) (h2 : o < 25) (hlink : Cond.fieldLink own index "WhereTheSpoonWent$Text" "used" "I" ∈ wG) (hd : decode cc pc = .ok (.getfield index, 3)) (kk : YY p l e R s m args below meth c w xcf 55 A Q nL σ (pc + 3) lv (.int (σ o 3) :: rest)) : YY p l e R s m args below meth c w xcf 55 A Q nL σ pc lv (.ref (w.1 o) :: rest) :=
  y_get E (ci := 9) (k := 3) (N := 5) (C := RX9) (T := TX9) (Nat.lt_of_lt_of_le h2 (by decide)) (xc_X9 h1 h2) rfl wu_X9 (by decide) hlink rfl hd kk
theorem pf_X9_3 {p : Program} {l : Launch} {e : Env} {R : Room} {s : State} {m : MethodId} {args : Array Value} {below : List Frame} {meth : Method} {c : Code} {w : wT} {A : Nat → Prop} {Q : State → Prop} {nL : Nat} {σ : Hp} {pc : Nat} {lv : List (Nat × Value)} {rest : List Value} {cc : ByteArray} {own : String} {r : Option FieldType} (E : YE p m meth c cc nL s args own r w 55 A) {o index : Nat} {z : Int32} (h1 : 19 ≤ o) (h2 : o < 25) (hlink : Cond.fieldLink own index "WhereTheSpoonWent$Text" "used" "I" ∈ wG) (hd : decode cc pc = .ok (.putfield index, 3)) (kk : YY p l e R s m args below meth c w xcf 55 A Q nL (hup σ o 3 z) (pc + 3) lv rest) : YY p l e R s m args below meth c w xcf 55 A Q nL σ pc lv (.int z :: .ref (w.1 o) :: rest) :=
  y_put E (ci := 9) (k := 3) (N := 5) (C := RX9) (T := TX9) (v := .int z) (ty := .int) (Nat.lt_of_lt_of_le h2 (by decide)) (xc_X9 h1 h2) (by rw [xc_X9 h1 h2]; simp [upd]) rfl wu_X9 tyX9 tyX9_ok nmX9 (by decide) hlink rfl (by decide +kernel) rfl rfl (by simp) hd kk
theorem gf_X9_4 {p : Program} {l : Launch} {e : Env} {R : Room} {s : State} {m : MethodId} {args : Array Value} {below : List Frame} {meth : Method} {c : Code} {w : wT} {A : Nat → Prop} {Q : State → Prop} {nL : Nat} {σ : Hp} {pc : Nat} {lv : List (Nat × Value)} {rest : List Value} {cc : ByteArray} {own : String} {r : Option FieldType} (E : YE p m meth c cc nL s args own r w 55 A) {o index : Nat} (h1 : 19 ≤ o) (h2 : o < 25) (hlink : Cond.fieldLink own index "WhereTheSpoonWent$Text" "parts" "I" ∈ wG) (hd : decode cc pc = .ok (.getfield index, 3)) (kk : YY p l e R s m args below meth c w xcf 55 A Q nL σ (pc + 3) lv (.int (σ o 4) :: rest)) : YY p l e R s m args below meth c w xcf 55 A Q nL σ pc lv (.ref (w.1 o) :: rest) :=
  y_get E (ci := 9) (k := 4) (N := 5) (C := RX9) (T := TX9) (Nat.lt_of_lt_of_le h2 (by decide)) (xc_X9 h1 h2) rfl wu_X9 (by decide) hlink rfl hd kk
theorem pf_X9_4 {p : Program} {l : Launch} {e : Env} {R : Room} {s : State} {m : MethodId} {args : Array Value} {below : List Frame} {meth : Method} {c : Code} {w : wT} {A : Nat → Prop} {Q : State → Prop} {nL : Nat} {σ : Hp} {pc : Nat} {lv : List (Nat × Value)} {rest : List Value} {cc : ByteArray} {own : String} {r : Option FieldType} (E : YE p m meth c cc nL s args own r w 55 A) {o index : Nat} {z : Int32} (h1 : 19 ≤ o) (h2 : o < 25) (hlink : Cond.fieldLink own index "WhereTheSpoonWent$Text" "parts" "I" ∈ wG) (hd : decode cc pc = .ok (.putfield index, 3)) (kk : YY p l e R s m args below meth c w xcf 55 A Q nL (hup σ o 4 z) (pc + 3) lv rest) : YY p l e R s m args below meth c w xcf 55 A Q nL σ pc lv (.int z :: .ref (w.1 o) :: rest) :=
  y_put E (ci := 9) (k := 4) (N := 5) (C := RX9) (T := TX9) (v := .int z) (ty := .int) (Nat.lt_of_lt_of_le h2 (by decide)) (xc_X9 h1 h2) (by rw [xc_X9 h1 h2]; simp [upd]) rfl wu_X9 tyX9 tyX9_ok nmX9 (by decide) hlink rfl (by decide +kernel) rfl rfl (by simp) hd kk
theorem wu_X4 : ∀ x ∈ u_ws RX4 TX4 7, x ∈ wG := fun x h => by
  obtain ⟨k, hk, rfl⟩ := List.mem_map.mp h
  have hk := List.mem_range.mp hk
  match k, hk with
  | 0, _ => exact wm_29
  | 1, _ => exact wm_30
  | 2, _ => exact wm_31
  | 3, _ => exact wm_32
  | 4, _ => exact wm_33
  | 5, _ => exact wm_34
  | 6, _ => exact wm_35
  | k + 7, hk => exact absurd hk (by omega)
theorem gf_X4_0 {p : Program} {l : Launch} {e : Env} {R : Room} {s : State} {m : MethodId} {args : Array Value} {below : List Frame} {meth : Method} {c : Code} {w : wT} {A : Nat → Prop} {Q : State → Prop} {nL : Nat} {σ : Hp} {pc : Nat} {lv : List (Nat × Value)} {rest : List Value} {cc : ByteArray} {own : String} {r : Option FieldType} (E : YE p m meth c cc nL s args own r w 55 A) {o index : Nat} (h1 : 38 ≤ o) (h2 : o < 39) (hlink : Cond.fieldLink own index "WhereTheSpoonWent$Reader" "bytes" "[B" ∈ wG) (hd : decode cc pc = .ok (.getfield index, 3)) (kk : YY p l e R s m args below meth c w xcf 55 A Q nL σ (pc + 3) lv (.ref (w.1 39) :: rest)) : YY p l e R s m args below meth c w xcf 55 A Q nL σ pc lv (.ref (w.1 o) :: rest) :=
  y_get E (ci := 4) (k := 0) (N := 7) (C := RX4) (T := TX4) (Nat.lt_of_lt_of_le h2 (by decide)) (xc_X4 h1 h2) rfl wu_X4 (by decide) hlink rfl hd kk
theorem gf_X4_1 {p : Program} {l : Launch} {e : Env} {R : Room} {s : State} {m : MethodId} {args : Array Value} {below : List Frame} {meth : Method} {c : Code} {w : wT} {A : Nat → Prop} {Q : State → Prop} {nL : Nat} {σ : Hp} {pc : Nat} {lv : List (Nat × Value)} {rest : List Value} {cc : ByteArray} {own : String} {r : Option FieldType} (E : YE p m meth c cc nL s args own r w 55 A) {o index : Nat} (h1 : 38 ≤ o) (h2 : o < 39) (hlink : Cond.fieldLink own index "WhereTheSpoonWent$Reader" "size" "I" ∈ wG) (hd : decode cc pc = .ok (.getfield index, 3)) (kk : YY p l e R s m args below meth c w xcf 55 A Q nL σ (pc + 3) lv (.int (σ o 1) :: rest)) : YY p l e R s m args below meth c w xcf 55 A Q nL σ pc lv (.ref (w.1 o) :: rest) :=
  y_get E (ci := 4) (k := 1) (N := 7) (C := RX4) (T := TX4) (Nat.lt_of_lt_of_le h2 (by decide)) (xc_X4 h1 h2) rfl wu_X4 (by decide) hlink rfl hd kk
theorem pf_X4_1 {p : Program} {l : Launch} {e : Env} {R : Room} {s : State} {m : MethodId} {args : Array Value} {below : List Frame} {meth : Method} {c : Code} {w : wT} {A : Nat → Prop} {Q : State → Prop} {nL : Nat} {σ : Hp} {pc : Nat} {lv : List (Nat × Value)} {rest : List Value} {cc : ByteArray} {own : String} {r : Option FieldType} (E : YE p m meth c cc nL s args own r w 55 A) {o index : Nat} {z : Int32} (h1 : 38 ≤ o) (h2 : o < 39) (hlink : Cond.fieldLink own index "WhereTheSpoonWent$Reader" "size" "I" ∈ wG) (hd : decode cc pc = .ok (.putfield index, 3)) (kk : YY p l e R s m args below meth c w xcf 55 A Q nL (hup σ o 1 z) (pc + 3) lv rest) : YY p l e R s m args below meth c w xcf 55 A Q nL σ pc lv (.int z :: .ref (w.1 o) :: rest) :=
  y_put E (ci := 4) (k := 1) (N := 7) (C := RX4) (T := TX4) (v := .int z) (ty := .int) (Nat.lt_of_lt_of_le h2 (by decide)) (xc_X4 h1 h2) (by rw [xc_X4 h1 h2]; simp [upd]) rfl wu_X4 tyX4 tyX4_ok nmX4 (by decide) hlink rfl (by decide +kernel) rfl rfl (by simp) hd kk
theorem gf_X4_2 {p : Program} {l : Launch} {e : Env} {R : Room} {s : State} {m : MethodId} {args : Array Value} {below : List Frame} {meth : Method} {c : Code} {w : wT} {A : Nat → Prop} {Q : State → Prop} {nL : Nat} {σ : Hp} {pc : Nat} {lv : List (Nat × Value)} {rest : List Value} {cc : ByteArray} {own : String} {r : Option FieldType} (E : YE p m meth c cc nL s args own r w 55 A) {o index : Nat} (h1 : 38 ≤ o) (h2 : o < 39) (hlink : Cond.fieldLink own index "WhereTheSpoonWent$Reader" "token" "I" ∈ wG) (hd : decode cc pc = .ok (.getfield index, 3)) (kk : YY p l e R s m args below meth c w xcf 55 A Q nL σ (pc + 3) lv (.int (σ o 2) :: rest)) : YY p l e R s m args below meth c w xcf 55 A Q nL σ pc lv (.ref (w.1 o) :: rest) :=
  y_get E (ci := 4) (k := 2) (N := 7) (C := RX4) (T := TX4) (Nat.lt_of_lt_of_le h2 (by decide)) (xc_X4 h1 h2) rfl wu_X4 (by decide) hlink rfl hd kk
theorem pf_X4_2 {p : Program} {l : Launch} {e : Env} {R : Room} {s : State} {m : MethodId} {args : Array Value} {below : List Frame} {meth : Method} {c : Code} {w : wT} {A : Nat → Prop} {Q : State → Prop} {nL : Nat} {σ : Hp} {pc : Nat} {lv : List (Nat × Value)} {rest : List Value} {cc : ByteArray} {own : String} {r : Option FieldType} (E : YE p m meth c cc nL s args own r w 55 A) {o index : Nat} {z : Int32} (h1 : 38 ≤ o) (h2 : o < 39) (hlink : Cond.fieldLink own index "WhereTheSpoonWent$Reader" "token" "I" ∈ wG) (hd : decode cc pc = .ok (.putfield index, 3)) (kk : YY p l e R s m args below meth c w xcf 55 A Q nL (hup σ o 2 z) (pc + 3) lv rest) : YY p l e R s m args below meth c w xcf 55 A Q nL σ pc lv (.int z :: .ref (w.1 o) :: rest) :=
  y_put E (ci := 4) (k := 2) (N := 7) (C := RX4) (T := TX4) (v := .int z) (ty := .int) (Nat.lt_of_lt_of_le h2 (by decide)) (xc_X4 h1 h2) (by rw [xc_X4 h1 h2]; simp [upd]) rfl wu_X4 tyX4 tyX4_ok nmX4 (by decide) hlink rfl (by decide +kernel) rfl rfl (by simp) hd kk
theorem gf_X4_3 {p : Program} {l : Launch} {e : Env} {R : Room} {s : State} {m : MethodId} {args : Array Value} {below : List Frame} {meth : Method} {c : Code} {w : wT} {A : Nat → Prop} {Q : State → Prop} {nL : Nat} {σ : Hp} {pc : Nat} {lv : List (Nat × Value)} {rest : List Value} {cc : ByteArray} {own : String} {r : Option FieldType} (E : YE p m meth c cc nL s args own r w 55 A) {o index : Nat} (h1 : 38 ≤ o) (h2 : o < 39) (hlink : Cond.fieldLink own index "WhereTheSpoonWent$Reader" "start" "I" ∈ wG) (hd : decode cc pc = .ok (.getfield index, 3)) (kk : YY p l e R s m args below meth c w xcf 55 A Q nL σ (pc + 3) lv (.int (σ o 3) :: rest)) : YY p l e R s m args below meth c w xcf 55 A Q nL σ pc lv (.ref (w.1 o) :: rest) :=
  y_get E (ci := 4) (k := 3) (N := 7) (C := RX4) (T := TX4) (Nat.lt_of_lt_of_le h2 (by decide)) (xc_X4 h1 h2) rfl wu_X4 (by decide) hlink rfl hd kk
theorem pf_X4_3 {p : Program} {l : Launch} {e : Env} {R : Room} {s : State} {m : MethodId} {args : Array Value} {below : List Frame} {meth : Method} {c : Code} {w : wT} {A : Nat → Prop} {Q : State → Prop} {nL : Nat} {σ : Hp} {pc : Nat} {lv : List (Nat × Value)} {rest : List Value} {cc : ByteArray} {own : String} {r : Option FieldType} (E : YE p m meth c cc nL s args own r w 55 A) {o index : Nat} {z : Int32} (h1 : 38 ≤ o) (h2 : o < 39) (hlink : Cond.fieldLink own index "WhereTheSpoonWent$Reader" "start" "I" ∈ wG) (hd : decode cc pc = .ok (.putfield index, 3)) (kk : YY p l e R s m args below meth c w xcf 55 A Q nL (hup σ o 3 z) (pc + 3) lv rest) : YY p l e R s m args below meth c w xcf 55 A Q nL σ pc lv (.int z :: .ref (w.1 o) :: rest) :=
  y_put E (ci := 4) (k := 3) (N := 7) (C := RX4) (T := TX4) (v := .int z) (ty := .int) (Nat.lt_of_lt_of_le h2 (by decide)) (xc_X4 h1 h2) (by rw [xc_X4 h1 h2]; simp [upd]) rfl wu_X4 tyX4 tyX4_ok nmX4 (by decide) hlink rfl (by decide +kernel) rfl rfl (by simp) hd kk
theorem gf_X4_4 {p : Program} {l : Launch} {e : Env} {R : Room} {s : State} {m : MethodId} {args : Array Value} {below : List Frame} {meth : Method} {c : Code} {w : wT} {A : Nat → Prop} {Q : State → Prop} {nL : Nat} {σ : Hp} {pc : Nat} {lv : List (Nat × Value)} {rest : List Value} {cc : ByteArray} {own : String} {r : Option FieldType} (E : YE p m meth c cc nL s args own r w 55 A) {o index : Nat} (h1 : 38 ≤ o) (h2 : o < 39) (hlink : Cond.fieldLink own index "WhereTheSpoonWent$Reader" "next" "I" ∈ wG) (hd : decode cc pc = .ok (.getfield index, 3)) (kk : YY p l e R s m args below meth c w xcf 55 A Q nL σ (pc + 3) lv (.int (σ o 4) :: rest)) : YY p l e R s m args below meth c w xcf 55 A Q nL σ pc lv (.ref (w.1 o) :: rest) :=
  y_get E (ci := 4) (k := 4) (N := 7) (C := RX4) (T := TX4) (Nat.lt_of_lt_of_le h2 (by decide)) (xc_X4 h1 h2) rfl wu_X4 (by decide) hlink rfl hd kk
theorem pf_X4_4 {p : Program} {l : Launch} {e : Env} {R : Room} {s : State} {m : MethodId} {args : Array Value} {below : List Frame} {meth : Method} {c : Code} {w : wT} {A : Nat → Prop} {Q : State → Prop} {nL : Nat} {σ : Hp} {pc : Nat} {lv : List (Nat × Value)} {rest : List Value} {cc : ByteArray} {own : String} {r : Option FieldType} (E : YE p m meth c cc nL s args own r w 55 A) {o index : Nat} {z : Int32} (h1 : 38 ≤ o) (h2 : o < 39) (hlink : Cond.fieldLink own index "WhereTheSpoonWent$Reader" "next" "I" ∈ wG) (hd : decode cc pc = .ok (.putfield index, 3)) (kk : YY p l e R s m args below meth c w xcf 55 A Q nL (hup σ o 4 z) (pc + 3) lv rest) : YY p l e R s m args below meth c w xcf 55 A Q nL σ pc lv (.int z :: .ref (w.1 o) :: rest) :=
  y_put E (ci := 4) (k := 4) (N := 7) (C := RX4) (T := TX4) (v := .int z) (ty := .int) (Nat.lt_of_lt_of_le h2 (by decide)) (xc_X4 h1 h2) (by rw [xc_X4 h1 h2]; simp [upd]) rfl wu_X4 tyX4 tyX4_ok nmX4 (by decide) hlink rfl (by decide +kernel) rfl rfl (by simp) hd kk
theorem gf_X4_5 {p : Program} {l : Launch} {e : Env} {R : Room} {s : State} {m : MethodId} {args : Array Value} {below : List Frame} {meth : Method} {c : Code} {w : wT} {A : Nat → Prop} {Q : State → Prop} {nL : Nat} {σ : Hp} {pc : Nat} {lv : List (Nat × Value)} {rest : List Value} {cc : ByteArray} {own : String} {r : Option FieldType} (E : YE p m meth c cc nL s args own r w 55 A) {o index : Nat} (h1 : 38 ≤ o) (h2 : o < 39) (hlink : Cond.fieldLink own index "WhereTheSpoonWent$Reader" "fault" "I" ∈ wG) (hd : decode cc pc = .ok (.getfield index, 3)) (kk : YY p l e R s m args below meth c w xcf 55 A Q nL σ (pc + 3) lv (.int (σ o 5) :: rest)) : YY p l e R s m args below meth c w xcf 55 A Q nL σ pc lv (.ref (w.1 o) :: rest) :=
  y_get E (ci := 4) (k := 5) (N := 7) (C := RX4) (T := TX4) (Nat.lt_of_lt_of_le h2 (by decide)) (xc_X4 h1 h2) rfl wu_X4 (by decide) hlink rfl hd kk
theorem pf_X4_5 {p : Program} {l : Launch} {e : Env} {R : Room} {s : State} {m : MethodId} {args : Array Value} {below : List Frame} {meth : Method} {c : Code} {w : wT} {A : Nat → Prop} {Q : State → Prop} {nL : Nat} {σ : Hp} {pc : Nat} {lv : List (Nat × Value)} {rest : List Value} {cc : ByteArray} {own : String} {r : Option FieldType} (E : YE p m meth c cc nL s args own r w 55 A) {o index : Nat} {z : Int32} (h1 : 38 ≤ o) (h2 : o < 39) (hlink : Cond.fieldLink own index "WhereTheSpoonWent$Reader" "fault" "I" ∈ wG) (hd : decode cc pc = .ok (.putfield index, 3)) (kk : YY p l e R s m args below meth c w xcf 55 A Q nL (hup σ o 5 z) (pc + 3) lv rest) : YY p l e R s m args below meth c w xcf 55 A Q nL σ pc lv (.int z :: .ref (w.1 o) :: rest) :=
  y_put E (ci := 4) (k := 5) (N := 7) (C := RX4) (T := TX4) (v := .int z) (ty := .int) (Nat.lt_of_lt_of_le h2 (by decide)) (xc_X4 h1 h2) (by rw [xc_X4 h1 h2]; simp [upd]) rfl wu_X4 tyX4 tyX4_ok nmX4 (by decide) hlink rfl (by decide +kernel) rfl rfl (by simp) hd kk
theorem gf_X4_6 {p : Program} {l : Launch} {e : Env} {R : Room} {s : State} {m : MethodId} {args : Array Value} {below : List Frame} {meth : Method} {c : Code} {w : wT} {A : Nat → Prop} {Q : State → Prop} {nL : Nat} {σ : Hp} {pc : Nat} {lv : List (Nat × Value)} {rest : List Value} {cc : ByteArray} {own : String} {r : Option FieldType} (E : YE p m meth c cc nL s args own r w 55 A) {o index : Nat} (h1 : 38 ≤ o) (h2 : o < 39) (hnn : ¬ σ o 6 = 0) (hlink : Cond.fieldLink own index "WhereTheSpoonWent$Reader" "out" "LWhereTheSpoonWent$Text;" ∈ wG) (hd : decode cc pc = .ok (.getfield index, 3)) (kk : YY p l e R s m args below meth c w xcf 55 A Q nL σ (pc + 3) lv (.ref (w.1 ((σ o 6).toNatClampNeg - 1)) :: rest)) : YY p l e R s m args below meth c w xcf 55 A Q nL σ pc lv (.ref (w.1 o) :: rest) :=
  y_get E (ci := 4) (k := 6) (N := 7) (C := RX4) (T := TX4) (Nat.lt_of_lt_of_le h2 (by decide)) (xc_X4 h1 h2) rfl wu_X4 (by decide) hlink (v := .ref (w.1 ((σ o 6).toNatClampNeg - 1))) (congrArg some (if_neg hnn)) hd kk
theorem pf_X4_6 {p : Program} {l : Launch} {e : Env} {R : Room} {s : State} {m : MethodId} {args : Array Value} {below : List Frame} {meth : Method} {c : Code} {w : wT} {A : Nat → Prop} {Q : State → Prop} {nL : Nat} {σ : Hp} {pc : Nat} {lv : List (Nat × Value)} {rest : List Value} {cc : ByteArray} {own : String} {r : Option FieldType} (E : YE p m meth c cc nL s args own r w 55 A) {o index q : Nat} (h1 : 38 ≤ o) (h2 : o < 39) (hq : q < 1000) (hlink : Cond.fieldLink own index "WhereTheSpoonWent$Reader" "out" "LWhereTheSpoonWent$Text;" ∈ wG) (hd : decode cc pc = .ok (.putfield index, 3)) (kk : YY p l e R s m args below meth c w xcf 55 A Q nL (hup σ o 6 (nI (q + 1))) (pc + 3) lv rest) : YY p l e R s m args below meth c w xcf 55 A Q nL σ pc lv (.ref (w.1 q) :: .ref (w.1 o) :: rest) :=
  y_put E (ci := 4) (k := 6) (N := 7) (C := RX4) (T := TX4) (v := .ref (w.1 q)) (ty := .object "WhereTheSpoonWent$Text") (Nat.lt_of_lt_of_le h2 (by decide)) (xc_X4 h1 h2) (by rw [xc_X4 h1 h2]; simp [upd, rfv_nI hq]) rfl wu_X4 tyX4 tyX4_ok nmX4 (by decide) hlink rfl (by decide +kernel) rfl rfl (by simp) hd kk
theorem wu_X6 : ∀ x ∈ u_ws RX6 TX6 3, x ∈ wG := fun x h => by
  obtain ⟨k, hk, rfl⟩ := List.mem_map.mp h
  have hk := List.mem_range.mp hk
  match k, hk with
  | 0, _ => exact wm_36
  | 1, _ => exact wm_37
  | 2, _ => exact wm_38
  | k + 3, hk => exact absurd hk (by omega)
theorem gf_X6_0 {p : Program} {l : Launch} {e : Env} {R : Room} {s : State} {m : MethodId} {args : Array Value} {below : List Frame} {meth : Method} {c : Code} {w : wT} {A : Nat → Prop} {Q : State → Prop} {nL : Nat} {σ : Hp} {pc : Nat} {lv : List (Nat × Value)} {rest : List Value} {cc : ByteArray} {own : String} {r : Option FieldType} (E : YE p m meth c cc nL s args own r w 55 A) {o index q : Nat} (h1 : 41 ≤ o) (h2 : o < 45) (hq : 45 + 1 * (o - 41) = q) (hlink : Cond.fieldLink own index "WhereTheSpoonWent$Sheet" "numbers" "[I" ∈ wG) (hd : decode cc pc = .ok (.getfield index, 3)) (kk : YY p l e R s m args below meth c w xcf 55 A Q nL σ (pc + 3) lv (.ref (w.1 q) :: rest)) : YY p l e R s m args below meth c w xcf 55 A Q nL σ pc lv (.ref (w.1 o) :: rest) :=
  y_get E (ci := 6) (k := 0) (N := 3) (C := RX6) (T := TX6) (Nat.lt_of_lt_of_le h2 (by decide)) (xc_X6 h1 h2) rfl wu_X6 (by decide) hlink rfl hd (by rw [hq]; exact kk)
theorem gf_X6_1 {p : Program} {l : Launch} {e : Env} {R : Room} {s : State} {m : MethodId} {args : Array Value} {below : List Frame} {meth : Method} {c : Code} {w : wT} {A : Nat → Prop} {Q : State → Prop} {nL : Nat} {σ : Hp} {pc : Nat} {lv : List (Nat × Value)} {rest : List Value} {cc : ByteArray} {own : String} {r : Option FieldType} (E : YE p m meth c cc nL s args own r w 55 A) {o index : Nat} (h1 : 41 ≤ o) (h2 : o < 45) (hlink : Cond.fieldLink own index "WhereTheSpoonWent$Sheet" "sort" "I" ∈ wG) (hd : decode cc pc = .ok (.getfield index, 3)) (kk : YY p l e R s m args below meth c w xcf 55 A Q nL σ (pc + 3) lv (.int (σ o 1) :: rest)) : YY p l e R s m args below meth c w xcf 55 A Q nL σ pc lv (.ref (w.1 o) :: rest) :=
  y_get E (ci := 6) (k := 1) (N := 3) (C := RX6) (T := TX6) (Nat.lt_of_lt_of_le h2 (by decide)) (xc_X6 h1 h2) rfl wu_X6 (by decide) hlink rfl hd kk
theorem pf_X6_1 {p : Program} {l : Launch} {e : Env} {R : Room} {s : State} {m : MethodId} {args : Array Value} {below : List Frame} {meth : Method} {c : Code} {w : wT} {A : Nat → Prop} {Q : State → Prop} {nL : Nat} {σ : Hp} {pc : Nat} {lv : List (Nat × Value)} {rest : List Value} {cc : ByteArray} {own : String} {r : Option FieldType} (E : YE p m meth c cc nL s args own r w 55 A) {o index : Nat} {z : Int32} (h1 : 41 ≤ o) (h2 : o < 45) (hlink : Cond.fieldLink own index "WhereTheSpoonWent$Sheet" "sort" "I" ∈ wG) (hd : decode cc pc = .ok (.putfield index, 3)) (kk : YY p l e R s m args below meth c w xcf 55 A Q nL (hup σ o 1 z) (pc + 3) lv rest) : YY p l e R s m args below meth c w xcf 55 A Q nL σ pc lv (.int z :: .ref (w.1 o) :: rest) :=
  y_put E (ci := 6) (k := 1) (N := 3) (C := RX6) (T := TX6) (v := .int z) (ty := .int) (Nat.lt_of_lt_of_le h2 (by decide)) (xc_X6 h1 h2) (by rw [xc_X6 h1 h2]; simp [upd]) rfl wu_X6 tyX6 tyX6_ok nmX6 (by decide) hlink rfl (by decide +kernel) rfl rfl (by simp) hd kk
theorem gf_X6_2 {p : Program} {l : Launch} {e : Env} {R : Room} {s : State} {m : MethodId} {args : Array Value} {below : List Frame} {meth : Method} {c : Code} {w : wT} {A : Nat → Prop} {Q : State → Prop} {nL : Nat} {σ : Hp} {pc : Nat} {lv : List (Nat × Value)} {rest : List Value} {cc : ByteArray} {own : String} {r : Option FieldType} (E : YE p m meth c cc nL s args own r w 55 A) {o index : Nat} (h1 : 41 ≤ o) (h2 : o < 45) (hlink : Cond.fieldLink own index "WhereTheSpoonWent$Sheet" "size" "I" ∈ wG) (hd : decode cc pc = .ok (.getfield index, 3)) (kk : YY p l e R s m args below meth c w xcf 55 A Q nL σ (pc + 3) lv (.int (σ o 2) :: rest)) : YY p l e R s m args below meth c w xcf 55 A Q nL σ pc lv (.ref (w.1 o) :: rest) :=
  y_get E (ci := 6) (k := 2) (N := 3) (C := RX6) (T := TX6) (Nat.lt_of_lt_of_le h2 (by decide)) (xc_X6 h1 h2) rfl wu_X6 (by decide) hlink rfl hd kk
theorem pf_X6_2 {p : Program} {l : Launch} {e : Env} {R : Room} {s : State} {m : MethodId} {args : Array Value} {below : List Frame} {meth : Method} {c : Code} {w : wT} {A : Nat → Prop} {Q : State → Prop} {nL : Nat} {σ : Hp} {pc : Nat} {lv : List (Nat × Value)} {rest : List Value} {cc : ByteArray} {own : String} {r : Option FieldType} (E : YE p m meth c cc nL s args own r w 55 A) {o index : Nat} {z : Int32} (h1 : 41 ≤ o) (h2 : o < 45) (hlink : Cond.fieldLink own index "WhereTheSpoonWent$Sheet" "size" "I" ∈ wG) (hd : decode cc pc = .ok (.putfield index, 3)) (kk : YY p l e R s m args below meth c w xcf 55 A Q nL (hup σ o 2 z) (pc + 3) lv rest) : YY p l e R s m args below meth c w xcf 55 A Q nL σ pc lv (.int z :: .ref (w.1 o) :: rest) :=
  y_put E (ci := 6) (k := 2) (N := 3) (C := RX6) (T := TX6) (v := .int z) (ty := .int) (Nat.lt_of_lt_of_le h2 (by decide)) (xc_X6 h1 h2) (by rw [xc_X6 h1 h2]; simp [upd]) rfl wu_X6 tyX6 tyX6_ok nmX6 (by decide) hlink rfl (by decide +kernel) rfl rfl (by simp) hd kk
theorem wu_X1 : ∀ x ∈ u_ws RX1 TX1 8, x ∈ wG := fun x h => by
  obtain ⟨k, hk, rfl⟩ := List.mem_map.mp h
  have hk := List.mem_range.mp hk
  match k, hk with
  | 0, _ => exact wm_39
  | 1, _ => exact wm_40
  | 2, _ => exact wm_41
  | 3, _ => exact wm_42
  | 4, _ => exact wm_43
  | 5, _ => exact wm_44
  | 6, _ => exact wm_45
  | 7, _ => exact wm_46
  | k + 8, hk => exact absurd hk (by omega)
theorem gf_X1_0 {p : Program} {l : Launch} {e : Env} {R : Room} {s : State} {m : MethodId} {args : Array Value} {below : List Frame} {meth : Method} {c : Code} {w : wT} {A : Nat → Prop} {Q : State → Prop} {nL : Nat} {σ : Hp} {pc : Nat} {lv : List (Nat × Value)} {rest : List Value} {cc : ByteArray} {own : String} {r : Option FieldType} (E : YE p m meth c cc nL s args own r w 55 A) {o index : Nat} (h1 : 49 ≤ o) (h2 : o < 50) (hlink : Cond.fieldLink own index "WhereTheSpoonWent$Flight" "house" "LWhereTheSpoonWent$House;" ∈ wG) (hd : decode cc pc = .ok (.getfield index, 3)) (kk : YY p l e R s m args below meth c w xcf 55 A Q nL σ (pc + 3) lv (.ref (w.1 1) :: rest)) : YY p l e R s m args below meth c w xcf 55 A Q nL σ pc lv (.ref (w.1 o) :: rest) :=
  y_get E (ci := 1) (k := 0) (N := 8) (C := RX1) (T := TX1) (Nat.lt_of_lt_of_le h2 (by decide)) (xc_X1 h1 h2) rfl wu_X1 (by decide) hlink rfl hd kk
theorem gf_X1_1 {p : Program} {l : Launch} {e : Env} {R : Room} {s : State} {m : MethodId} {args : Array Value} {below : List Frame} {meth : Method} {c : Code} {w : wT} {A : Nat → Prop} {Q : State → Prop} {nL : Nat} {σ : Hp} {pc : Nat} {lv : List (Nat × Value)} {rest : List Value} {cc : ByteArray} {own : String} {r : Option FieldType} (E : YE p m meth c cc nL s args own r w 55 A) {o index : Nat} (h1 : 49 ≤ o) (h2 : o < 50) (hnn : ¬ σ o 1 = 0) (hlink : Cond.fieldLink own index "WhereTheSpoonWent$Flight" "law" "LWhereTheSpoonWent$Text;" ∈ wG) (hd : decode cc pc = .ok (.getfield index, 3)) (kk : YY p l e R s m args below meth c w xcf 55 A Q nL σ (pc + 3) lv (.ref (w.1 ((σ o 1).toNatClampNeg - 1)) :: rest)) : YY p l e R s m args below meth c w xcf 55 A Q nL σ pc lv (.ref (w.1 o) :: rest) :=
  y_get E (ci := 1) (k := 1) (N := 8) (C := RX1) (T := TX1) (Nat.lt_of_lt_of_le h2 (by decide)) (xc_X1 h1 h2) rfl wu_X1 (by decide) hlink (v := .ref (w.1 ((σ o 1).toNatClampNeg - 1))) (congrArg some (if_neg hnn)) hd kk
theorem pf_X1_1 {p : Program} {l : Launch} {e : Env} {R : Room} {s : State} {m : MethodId} {args : Array Value} {below : List Frame} {meth : Method} {c : Code} {w : wT} {A : Nat → Prop} {Q : State → Prop} {nL : Nat} {σ : Hp} {pc : Nat} {lv : List (Nat × Value)} {rest : List Value} {cc : ByteArray} {own : String} {r : Option FieldType} (E : YE p m meth c cc nL s args own r w 55 A) {o index q : Nat} (h1 : 49 ≤ o) (h2 : o < 50) (hq : q < 1000) (hlink : Cond.fieldLink own index "WhereTheSpoonWent$Flight" "law" "LWhereTheSpoonWent$Text;" ∈ wG) (hd : decode cc pc = .ok (.putfield index, 3)) (kk : YY p l e R s m args below meth c w xcf 55 A Q nL (hup σ o 1 (nI (q + 1))) (pc + 3) lv rest) : YY p l e R s m args below meth c w xcf 55 A Q nL σ pc lv (.ref (w.1 q) :: .ref (w.1 o) :: rest) :=
  y_put E (ci := 1) (k := 1) (N := 8) (C := RX1) (T := TX1) (v := .ref (w.1 q)) (ty := .object "WhereTheSpoonWent$Text") (Nat.lt_of_lt_of_le h2 (by decide)) (xc_X1 h1 h2) (by rw [xc_X1 h1 h2]; simp [upd, rfv_nI hq]) rfl wu_X1 tyX1 tyX1_ok nmX1 (by decide) hlink rfl (by decide +kernel) rfl rfl (by simp) hd kk
theorem gf_X1_2 {p : Program} {l : Launch} {e : Env} {R : Room} {s : State} {m : MethodId} {args : Array Value} {below : List Frame} {meth : Method} {c : Code} {w : wT} {A : Nat → Prop} {Q : State → Prop} {nL : Nat} {σ : Hp} {pc : Nat} {lv : List (Nat × Value)} {rest : List Value} {cc : ByteArray} {own : String} {r : Option FieldType} (E : YE p m meth c cc nL s args own r w 55 A) {o index : Nat} (h1 : 49 ≤ o) (h2 : o < 50) (hnn : ¬ σ o 2 = 0) (hlink : Cond.fieldLink own index "WhereTheSpoonWent$Flight" "kind" "LWhereTheSpoonWent$Thing;" ∈ wG) (hd : decode cc pc = .ok (.getfield index, 3)) (kk : YY p l e R s m args below meth c w xcf 55 A Q nL σ (pc + 3) lv (.ref (w.1 ((σ o 2).toNatClampNeg - 1)) :: rest)) : YY p l e R s m args below meth c w xcf 55 A Q nL σ pc lv (.ref (w.1 o) :: rest) :=
  y_get E (ci := 1) (k := 2) (N := 8) (C := RX1) (T := TX1) (Nat.lt_of_lt_of_le h2 (by decide)) (xc_X1 h1 h2) rfl wu_X1 (by decide) hlink (v := .ref (w.1 ((σ o 2).toNatClampNeg - 1))) (congrArg some (if_neg hnn)) hd kk
theorem pf_X1_2 {p : Program} {l : Launch} {e : Env} {R : Room} {s : State} {m : MethodId} {args : Array Value} {below : List Frame} {meth : Method} {c : Code} {w : wT} {A : Nat → Prop} {Q : State → Prop} {nL : Nat} {σ : Hp} {pc : Nat} {lv : List (Nat × Value)} {rest : List Value} {cc : ByteArray} {own : String} {r : Option FieldType} (E : YE p m meth c cc nL s args own r w 55 A) {o index q : Nat} (h1 : 49 ≤ o) (h2 : o < 50) (hq : q < 1000) (hlink : Cond.fieldLink own index "WhereTheSpoonWent$Flight" "kind" "LWhereTheSpoonWent$Thing;" ∈ wG) (hd : decode cc pc = .ok (.putfield index, 3)) (kk : YY p l e R s m args below meth c w xcf 55 A Q nL (hup σ o 2 (nI (q + 1))) (pc + 3) lv rest) : YY p l e R s m args below meth c w xcf 55 A Q nL σ pc lv (.ref (w.1 q) :: .ref (w.1 o) :: rest) :=
  y_put E (ci := 1) (k := 2) (N := 8) (C := RX1) (T := TX1) (v := .ref (w.1 q)) (ty := .object "WhereTheSpoonWent$Thing") (Nat.lt_of_lt_of_le h2 (by decide)) (xc_X1 h1 h2) (by rw [xc_X1 h1 h2]; simp [upd, rfv_nI hq]) rfl wu_X1 tyX1 tyX1_ok nmX1 (by decide) hlink rfl (by decide +kernel) rfl rfl (by simp) hd kk
theorem gf_X1_3 {p : Program} {l : Launch} {e : Env} {R : Room} {s : State} {m : MethodId} {args : Array Value} {below : List Frame} {meth : Method} {c : Code} {w : wT} {A : Nat → Prop} {Q : State → Prop} {nL : Nat} {σ : Hp} {pc : Nat} {lv : List (Nat × Value)} {rest : List Value} {cc : ByteArray} {own : String} {r : Option FieldType} (E : YE p m meth c cc nL s args own r w 55 A) {o index : Nat} (h1 : 49 ≤ o) (h2 : o < 50) (hlink : Cond.fieldLink own index "WhereTheSpoonWent$Flight" "nets" "I" ∈ wG) (hd : decode cc pc = .ok (.getfield index, 3)) (kk : YY p l e R s m args below meth c w xcf 55 A Q nL σ (pc + 3) lv (.int (σ o 3) :: rest)) : YY p l e R s m args below meth c w xcf 55 A Q nL σ pc lv (.ref (w.1 o) :: rest) :=
  y_get E (ci := 1) (k := 3) (N := 8) (C := RX1) (T := TX1) (Nat.lt_of_lt_of_le h2 (by decide)) (xc_X1 h1 h2) rfl wu_X1 (by decide) hlink rfl hd kk
theorem pf_X1_3 {p : Program} {l : Launch} {e : Env} {R : Room} {s : State} {m : MethodId} {args : Array Value} {below : List Frame} {meth : Method} {c : Code} {w : wT} {A : Nat → Prop} {Q : State → Prop} {nL : Nat} {σ : Hp} {pc : Nat} {lv : List (Nat × Value)} {rest : List Value} {cc : ByteArray} {own : String} {r : Option FieldType} (E : YE p m meth c cc nL s args own r w 55 A) {o index : Nat} {z : Int32} (h1 : 49 ≤ o) (h2 : o < 50) (hlink : Cond.fieldLink own index "WhereTheSpoonWent$Flight" "nets" "I" ∈ wG) (hd : decode cc pc = .ok (.putfield index, 3)) (kk : YY p l e R s m args below meth c w xcf 55 A Q nL (hup σ o 3 z) (pc + 3) lv rest) : YY p l e R s m args below meth c w xcf 55 A Q nL σ pc lv (.int z :: .ref (w.1 o) :: rest) :=
  y_put E (ci := 1) (k := 3) (N := 8) (C := RX1) (T := TX1) (v := .int z) (ty := .int) (Nat.lt_of_lt_of_le h2 (by decide)) (xc_X1 h1 h2) (by rw [xc_X1 h1 h2]; simp [upd]) rfl wu_X1 tyX1 tyX1_ok nmX1 (by decide) hlink rfl (by decide +kernel) rfl rfl (by simp) hd kk
theorem gf_X1_4 {p : Program} {l : Launch} {e : Env} {R : Room} {s : State} {m : MethodId} {args : Array Value} {below : List Frame} {meth : Method} {c : Code} {w : wT} {A : Nat → Prop} {Q : State → Prop} {nL : Nat} {σ : Hp} {pc : Nat} {lv : List (Nat × Value)} {rest : List Value} {cc : ByteArray} {own : String} {r : Option FieldType} (E : YE p m meth c cc nL s args own r w 55 A) {o index : Nat} (h1 : 49 ≤ o) (h2 : o < 50) (hlink : Cond.fieldLink own index "WhereTheSpoonWent$Flight" "number" "I" ∈ wG) (hd : decode cc pc = .ok (.getfield index, 3)) (kk : YY p l e R s m args below meth c w xcf 55 A Q nL σ (pc + 3) lv (.int (σ o 4) :: rest)) : YY p l e R s m args below meth c w xcf 55 A Q nL σ pc lv (.ref (w.1 o) :: rest) :=
  y_get E (ci := 1) (k := 4) (N := 8) (C := RX1) (T := TX1) (Nat.lt_of_lt_of_le h2 (by decide)) (xc_X1 h1 h2) rfl wu_X1 (by decide) hlink rfl hd kk
theorem pf_X1_4 {p : Program} {l : Launch} {e : Env} {R : Room} {s : State} {m : MethodId} {args : Array Value} {below : List Frame} {meth : Method} {c : Code} {w : wT} {A : Nat → Prop} {Q : State → Prop} {nL : Nat} {σ : Hp} {pc : Nat} {lv : List (Nat × Value)} {rest : List Value} {cc : ByteArray} {own : String} {r : Option FieldType} (E : YE p m meth c cc nL s args own r w 55 A) {o index : Nat} {z : Int32} (h1 : 49 ≤ o) (h2 : o < 50) (hlink : Cond.fieldLink own index "WhereTheSpoonWent$Flight" "number" "I" ∈ wG) (hd : decode cc pc = .ok (.putfield index, 3)) (kk : YY p l e R s m args below meth c w xcf 55 A Q nL (hup σ o 4 z) (pc + 3) lv rest) : YY p l e R s m args below meth c w xcf 55 A Q nL σ pc lv (.int z :: .ref (w.1 o) :: rest) :=
  y_put E (ci := 1) (k := 4) (N := 8) (C := RX1) (T := TX1) (v := .int z) (ty := .int) (Nat.lt_of_lt_of_le h2 (by decide)) (xc_X1 h1 h2) (by rw [xc_X1 h1 h2]; simp [upd]) rfl wu_X1 tyX1 tyX1_ok nmX1 (by decide) hlink rfl (by decide +kernel) rfl rfl (by simp) hd kk
theorem gf_X1_5 {p : Program} {l : Launch} {e : Env} {R : Room} {s : State} {m : MethodId} {args : Array Value} {below : List Frame} {meth : Method} {c : Code} {w : wT} {A : Nat → Prop} {Q : State → Prop} {nL : Nat} {σ : Hp} {pc : Nat} {lv : List (Nat × Value)} {rest : List Value} {cc : ByteArray} {own : String} {r : Option FieldType} (E : YE p m meth c cc nL s args own r w 55 A) {o index : Nat} (h1 : 49 ≤ o) (h2 : o < 50) (hlink : Cond.fieldLink own index "WhereTheSpoonWent$Flight" "more" "I" ∈ wG) (hd : decode cc pc = .ok (.getfield index, 3)) (kk : YY p l e R s m args below meth c w xcf 55 A Q nL σ (pc + 3) lv (.int (σ o 5) :: rest)) : YY p l e R s m args below meth c w xcf 55 A Q nL σ pc lv (.ref (w.1 o) :: rest) :=
  y_get E (ci := 1) (k := 5) (N := 8) (C := RX1) (T := TX1) (Nat.lt_of_lt_of_le h2 (by decide)) (xc_X1 h1 h2) rfl wu_X1 (by decide) hlink rfl hd kk
theorem pf_X1_5 {p : Program} {l : Launch} {e : Env} {R : Room} {s : State} {m : MethodId} {args : Array Value} {below : List Frame} {meth : Method} {c : Code} {w : wT} {A : Nat → Prop} {Q : State → Prop} {nL : Nat} {σ : Hp} {pc : Nat} {lv : List (Nat × Value)} {rest : List Value} {cc : ByteArray} {own : String} {r : Option FieldType} (E : YE p m meth c cc nL s args own r w 55 A) {o index : Nat} {z : Int32} (h1 : 49 ≤ o) (h2 : o < 50) (hlink : Cond.fieldLink own index "WhereTheSpoonWent$Flight" "more" "I" ∈ wG) (hd : decode cc pc = .ok (.putfield index, 3)) (kk : YY p l e R s m args below meth c w xcf 55 A Q nL (hup σ o 5 z) (pc + 3) lv rest) : YY p l e R s m args below meth c w xcf 55 A Q nL σ pc lv (.int z :: .ref (w.1 o) :: rest) :=
  y_put E (ci := 1) (k := 5) (N := 8) (C := RX1) (T := TX1) (v := .int z) (ty := .int) (Nat.lt_of_lt_of_le h2 (by decide)) (xc_X1 h1 h2) (by rw [xc_X1 h1 h2]; simp [upd]) rfl wu_X1 tyX1 tyX1_ok nmX1 (by decide) hlink rfl (by decide +kernel) rfl rfl (by simp) hd kk
theorem gf_X1_6 {p : Program} {l : Launch} {e : Env} {R : Room} {s : State} {m : MethodId} {args : Array Value} {below : List Frame} {meth : Method} {c : Code} {w : wT} {A : Nat → Prop} {Q : State → Prop} {nL : Nat} {σ : Hp} {pc : Nat} {lv : List (Nat × Value)} {rest : List Value} {cc : ByteArray} {own : String} {r : Option FieldType} (E : YE p m meth c cc nL s args own r w 55 A) {o index : Nat} (h1 : 49 ≤ o) (h2 : o < 50) (hlink : Cond.fieldLink own index "WhereTheSpoonWent$Flight" "cell" "I" ∈ wG) (hd : decode cc pc = .ok (.getfield index, 3)) (kk : YY p l e R s m args below meth c w xcf 55 A Q nL σ (pc + 3) lv (.int (σ o 6) :: rest)) : YY p l e R s m args below meth c w xcf 55 A Q nL σ pc lv (.ref (w.1 o) :: rest) :=
  y_get E (ci := 1) (k := 6) (N := 8) (C := RX1) (T := TX1) (Nat.lt_of_lt_of_le h2 (by decide)) (xc_X1 h1 h2) rfl wu_X1 (by decide) hlink rfl hd kk
theorem pf_X1_6 {p : Program} {l : Launch} {e : Env} {R : Room} {s : State} {m : MethodId} {args : Array Value} {below : List Frame} {meth : Method} {c : Code} {w : wT} {A : Nat → Prop} {Q : State → Prop} {nL : Nat} {σ : Hp} {pc : Nat} {lv : List (Nat × Value)} {rest : List Value} {cc : ByteArray} {own : String} {r : Option FieldType} (E : YE p m meth c cc nL s args own r w 55 A) {o index : Nat} {z : Int32} (h1 : 49 ≤ o) (h2 : o < 50) (hlink : Cond.fieldLink own index "WhereTheSpoonWent$Flight" "cell" "I" ∈ wG) (hd : decode cc pc = .ok (.putfield index, 3)) (kk : YY p l e R s m args below meth c w xcf 55 A Q nL (hup σ o 6 z) (pc + 3) lv rest) : YY p l e R s m args below meth c w xcf 55 A Q nL σ pc lv (.int z :: .ref (w.1 o) :: rest) :=
  y_put E (ci := 1) (k := 6) (N := 8) (C := RX1) (T := TX1) (v := .int z) (ty := .int) (Nat.lt_of_lt_of_le h2 (by decide)) (xc_X1 h1 h2) (by rw [xc_X1 h1 h2]; simp [upd]) rfl wu_X1 tyX1 tyX1_ok nmX1 (by decide) hlink rfl (by decide +kernel) rfl rfl (by simp) hd kk
theorem gf_X1_7 {p : Program} {l : Launch} {e : Env} {R : Room} {s : State} {m : MethodId} {args : Array Value} {below : List Frame} {meth : Method} {c : Code} {w : wT} {A : Nat → Prop} {Q : State → Prop} {nL : Nat} {σ : Hp} {pc : Nat} {lv : List (Nat × Value)} {rest : List Value} {cc : ByteArray} {own : String} {r : Option FieldType} (E : YE p m meth c cc nL s args own r w 55 A) {o index : Nat} (h1 : 49 ≤ o) (h2 : o < 50) (hlink : Cond.fieldLink own index "WhereTheSpoonWent$Flight" "way" "I" ∈ wG) (hd : decode cc pc = .ok (.getfield index, 3)) (kk : YY p l e R s m args below meth c w xcf 55 A Q nL σ (pc + 3) lv (.int (σ o 7) :: rest)) : YY p l e R s m args below meth c w xcf 55 A Q nL σ pc lv (.ref (w.1 o) :: rest) :=
  y_get E (ci := 1) (k := 7) (N := 8) (C := RX1) (T := TX1) (Nat.lt_of_lt_of_le h2 (by decide)) (xc_X1 h1 h2) rfl wu_X1 (by decide) hlink rfl hd kk
theorem pf_X1_7 {p : Program} {l : Launch} {e : Env} {R : Room} {s : State} {m : MethodId} {args : Array Value} {below : List Frame} {meth : Method} {c : Code} {w : wT} {A : Nat → Prop} {Q : State → Prop} {nL : Nat} {σ : Hp} {pc : Nat} {lv : List (Nat × Value)} {rest : List Value} {cc : ByteArray} {own : String} {r : Option FieldType} (E : YE p m meth c cc nL s args own r w 55 A) {o index : Nat} {z : Int32} (h1 : 49 ≤ o) (h2 : o < 50) (hlink : Cond.fieldLink own index "WhereTheSpoonWent$Flight" "way" "I" ∈ wG) (hd : decode cc pc = .ok (.putfield index, 3)) (kk : YY p l e R s m args below meth c w xcf 55 A Q nL (hup σ o 7 z) (pc + 3) lv rest) : YY p l e R s m args below meth c w xcf 55 A Q nL σ pc lv (.int z :: .ref (w.1 o) :: rest) :=
  y_put E (ci := 1) (k := 7) (N := 8) (C := RX1) (T := TX1) (v := .int z) (ty := .int) (Nat.lt_of_lt_of_le h2 (by decide)) (xc_X1 h1 h2) (by rw [xc_X1 h1 h2]; simp [upd]) rfl wu_X1 tyX1 tyX1_ok nmX1 (by decide) hlink rfl (by decide +kernel) rfl rfl (by simp) hd kk
theorem wu_X12 : ∀ x ∈ u_ws RX12 TX12 36, x ∈ wG := fun x h => by
  obtain ⟨k, hk, rfl⟩ := List.mem_map.mp h
  have hk := List.mem_range.mp hk
  match k, hk with
  | 0, _ => exact wm_47
  | 1, _ => exact wm_48
  | 2, _ => exact wm_49
  | 3, _ => exact wm_50
  | 4, _ => exact wm_51
  | 5, _ => exact wm_52
  | 6, _ => exact wm_53
  | 7, _ => exact wm_54
  | 8, _ => exact wm_55
  | 9, _ => exact wm_56
  | 10, _ => exact wm_57
  | 11, _ => exact wm_58
  | 12, _ => exact wm_59
  | 13, _ => exact wm_60
  | 14, _ => exact wm_61
  | 15, _ => exact wm_62
  | 16, _ => exact wm_63
  | 17, _ => exact wm_64
  | 18, _ => exact wm_65
  | 19, _ => exact wm_66
  | 20, _ => exact wm_67
  | 21, _ => exact wm_68
  | 22, _ => exact wm_69
  | 23, _ => exact wm_70
  | 24, _ => exact wm_71
  | 25, _ => exact wm_72
  | 26, _ => exact wm_73
  | 27, _ => exact wm_74
  | 28, _ => exact wm_75
  | 29, _ => exact wm_76
  | 30, _ => exact wm_77
  | 31, _ => exact wm_78
  | 32, _ => exact wm_79
  | 33, _ => exact wm_80
  | 34, _ => exact wm_81
  | 35, _ => exact wm_82
  | k + 36, hk => exact absurd hk (by omega)
theorem gf_X12_0 {p : Program} {l : Launch} {e : Env} {R : Room} {s : State} {m : MethodId} {args : Array Value} {below : List Frame} {meth : Method} {c : Code} {w : wT} {A : Nat → Prop} {Q : State → Prop} {nL : Nat} {σ : Hp} {pc : Nat} {lv : List (Nat × Value)} {rest : List Value} {cc : ByteArray} {own : String} {r : Option FieldType} (E : YE p m meth c cc nL s args own r w 20 A) {o index : Nat} (h1 : 0 ≤ o) (h2 : o < 1) (hlink : Cond.fieldLink own index "WhereTheSpoonWentModel" "sets" "[I" ∈ wG) (hd : decode cc pc = .ok (.getfield index, 3)) (kk : YY p l e R s m args below meth c w mcf 20 A Q nL σ (pc + 3) lv (.ref (w.1 1) :: rest)) : YY p l e R s m args below meth c w mcf 20 A Q nL σ pc lv (.ref (w.1 o) :: rest) :=
  y_get E (ci := 12) (k := 0) (N := 36) (C := RX12) (T := TX12) (Nat.lt_of_lt_of_le h2 (by decide)) (mc_X12 h1 h2) rfl wu_X12 (by decide) hlink rfl hd kk
theorem gf_X12_1 {p : Program} {l : Launch} {e : Env} {R : Room} {s : State} {m : MethodId} {args : Array Value} {below : List Frame} {meth : Method} {c : Code} {w : wT} {A : Nat → Prop} {Q : State → Prop} {nL : Nat} {σ : Hp} {pc : Nat} {lv : List (Nat × Value)} {rest : List Value} {cc : ByteArray} {own : String} {r : Option FieldType} (E : YE p m meth c cc nL s args own r w 20 A) {o index : Nat} (h1 : 0 ≤ o) (h2 : o < 1) (hlink : Cond.fieldLink own index "WhereTheSpoonWentModel" "step" "I" ∈ wG) (hd : decode cc pc = .ok (.getfield index, 3)) (kk : YY p l e R s m args below meth c w mcf 20 A Q nL σ (pc + 3) lv (.int (σ o 1) :: rest)) : YY p l e R s m args below meth c w mcf 20 A Q nL σ pc lv (.ref (w.1 o) :: rest) :=
  y_get E (ci := 12) (k := 1) (N := 36) (C := RX12) (T := TX12) (Nat.lt_of_lt_of_le h2 (by decide)) (mc_X12 h1 h2) rfl wu_X12 (by decide) hlink rfl hd kk
theorem pf_X12_1 {p : Program} {l : Launch} {e : Env} {R : Room} {s : State} {m : MethodId} {args : Array Value} {below : List Frame} {meth : Method} {c : Code} {w : wT} {A : Nat → Prop} {Q : State → Prop} {nL : Nat} {σ : Hp} {pc : Nat} {lv : List (Nat × Value)} {rest : List Value} {cc : ByteArray} {own : String} {r : Option FieldType} (E : YE p m meth c cc nL s args own r w 20 A) {o index : Nat} {z : Int32} (h1 : 0 ≤ o) (h2 : o < 1) (hlink : Cond.fieldLink own index "WhereTheSpoonWentModel" "step" "I" ∈ wG) (hd : decode cc pc = .ok (.putfield index, 3)) (kk : YY p l e R s m args below meth c w mcf 20 A Q nL (hup σ o 1 z) (pc + 3) lv rest) : YY p l e R s m args below meth c w mcf 20 A Q nL σ pc lv (.int z :: .ref (w.1 o) :: rest) :=
  y_put E (ci := 12) (k := 1) (N := 36) (C := RX12) (T := TX12) (v := .int z) (ty := .int) (Nat.lt_of_lt_of_le h2 (by decide)) (mc_X12 h1 h2) (by rw [mc_X12 h1 h2]; simp [upd]) rfl wu_X12 tyX12 tyX12_ok nmX12 (by decide) hlink rfl (by decide +kernel) rfl rfl (by simp) hd kk
theorem gf_X12_2 {p : Program} {l : Launch} {e : Env} {R : Room} {s : State} {m : MethodId} {args : Array Value} {below : List Frame} {meth : Method} {c : Code} {w : wT} {A : Nat → Prop} {Q : State → Prop} {nL : Nat} {σ : Hp} {pc : Nat} {lv : List (Nat × Value)} {rest : List Value} {cc : ByteArray} {own : String} {r : Option FieldType} (E : YE p m meth c cc nL s args own r w 20 A) {o index : Nat} (h1 : 0 ≤ o) (h2 : o < 1) (hlink : Cond.fieldLink own index "WhereTheSpoonWentModel" "things" "I" ∈ wG) (hd : decode cc pc = .ok (.getfield index, 3)) (kk : YY p l e R s m args below meth c w mcf 20 A Q nL σ (pc + 3) lv (.int (σ o 2) :: rest)) : YY p l e R s m args below meth c w mcf 20 A Q nL σ pc lv (.ref (w.1 o) :: rest) :=
  y_get E (ci := 12) (k := 2) (N := 36) (C := RX12) (T := TX12) (Nat.lt_of_lt_of_le h2 (by decide)) (mc_X12 h1 h2) rfl wu_X12 (by decide) hlink rfl hd kk
theorem pf_X12_2 {p : Program} {l : Launch} {e : Env} {R : Room} {s : State} {m : MethodId} {args : Array Value} {below : List Frame} {meth : Method} {c : Code} {w : wT} {A : Nat → Prop} {Q : State → Prop} {nL : Nat} {σ : Hp} {pc : Nat} {lv : List (Nat × Value)} {rest : List Value} {cc : ByteArray} {own : String} {r : Option FieldType} (E : YE p m meth c cc nL s args own r w 20 A) {o index : Nat} {z : Int32} (h1 : 0 ≤ o) (h2 : o < 1) (hlink : Cond.fieldLink own index "WhereTheSpoonWentModel" "things" "I" ∈ wG) (hd : decode cc pc = .ok (.putfield index, 3)) (kk : YY p l e R s m args below meth c w mcf 20 A Q nL (hup σ o 2 z) (pc + 3) lv rest) : YY p l e R s m args below meth c w mcf 20 A Q nL σ pc lv (.int z :: .ref (w.1 o) :: rest) :=
  y_put E (ci := 12) (k := 2) (N := 36) (C := RX12) (T := TX12) (v := .int z) (ty := .int) (Nat.lt_of_lt_of_le h2 (by decide)) (mc_X12 h1 h2) (by rw [mc_X12 h1 h2]; simp [upd]) rfl wu_X12 tyX12 tyX12_ok nmX12 (by decide) hlink rfl (by decide +kernel) rfl rfl (by simp) hd kk
theorem gf_X12_3 {p : Program} {l : Launch} {e : Env} {R : Room} {s : State} {m : MethodId} {args : Array Value} {below : List Frame} {meth : Method} {c : Code} {w : wT} {A : Nat → Prop} {Q : State → Prop} {nL : Nat} {σ : Hp} {pc : Nat} {lv : List (Nat × Value)} {rest : List Value} {cc : ByteArray} {own : String} {r : Option FieldType} (E : YE p m meth c cc nL s args own r w 20 A) {o index : Nat} (h1 : 0 ≤ o) (h2 : o < 1) (hlink : Cond.fieldLink own index "WhereTheSpoonWentModel" "kind" "[I" ∈ wG) (hd : decode cc pc = .ok (.getfield index, 3)) (kk : YY p l e R s m args below meth c w mcf 20 A Q nL σ (pc + 3) lv (.ref (w.1 2) :: rest)) : YY p l e R s m args below meth c w mcf 20 A Q nL σ pc lv (.ref (w.1 o) :: rest) :=
  y_get E (ci := 12) (k := 3) (N := 36) (C := RX12) (T := TX12) (Nat.lt_of_lt_of_le h2 (by decide)) (mc_X12 h1 h2) rfl wu_X12 (by decide) hlink rfl hd kk
theorem gf_X12_4 {p : Program} {l : Launch} {e : Env} {R : Room} {s : State} {m : MethodId} {args : Array Value} {below : List Frame} {meth : Method} {c : Code} {w : wT} {A : Nat → Prop} {Q : State → Prop} {nL : Nat} {σ : Hp} {pc : Nat} {lv : List (Nat × Value)} {rest : List Value} {cc : ByteArray} {own : String} {r : Option FieldType} (E : YE p m meth c cc nL s args own r w 20 A) {o index : Nat} (h1 : 0 ≤ o) (h2 : o < 1) (hlink : Cond.fieldLink own index "WhereTheSpoonWentModel" "moreOf" "[I" ∈ wG) (hd : decode cc pc = .ok (.getfield index, 3)) (kk : YY p l e R s m args below meth c w mcf 20 A Q nL σ (pc + 3) lv (.ref (w.1 3) :: rest)) : YY p l e R s m args below meth c w mcf 20 A Q nL σ pc lv (.ref (w.1 o) :: rest) :=
  y_get E (ci := 12) (k := 4) (N := 36) (C := RX12) (T := TX12) (Nat.lt_of_lt_of_le h2 (by decide)) (mc_X12 h1 h2) rfl wu_X12 (by decide) hlink rfl hd kk
theorem gf_X12_5 {p : Program} {l : Launch} {e : Env} {R : Room} {s : State} {m : MethodId} {args : Array Value} {below : List Frame} {meth : Method} {c : Code} {w : wT} {A : Nat → Prop} {Q : State → Prop} {nL : Nat} {σ : Hp} {pc : Nat} {lv : List (Nat × Value)} {rest : List Value} {cc : ByteArray} {own : String} {r : Option FieldType} (E : YE p m meth c cc nL s args own r w 20 A) {o index : Nat} (h1 : 0 ≤ o) (h2 : o < 1) (hlink : Cond.fieldLink own index "WhereTheSpoonWentModel" "cellOf" "[I" ∈ wG) (hd : decode cc pc = .ok (.getfield index, 3)) (kk : YY p l e R s m args below meth c w mcf 20 A Q nL σ (pc + 3) lv (.ref (w.1 4) :: rest)) : YY p l e R s m args below meth c w mcf 20 A Q nL σ pc lv (.ref (w.1 o) :: rest) :=
  y_get E (ci := 12) (k := 5) (N := 36) (C := RX12) (T := TX12) (Nat.lt_of_lt_of_le h2 (by decide)) (mc_X12 h1 h2) rfl wu_X12 (by decide) hlink rfl hd kk
theorem gf_X12_6 {p : Program} {l : Launch} {e : Env} {R : Room} {s : State} {m : MethodId} {args : Array Value} {below : List Frame} {meth : Method} {c : Code} {w : wT} {A : Nat → Prop} {Q : State → Prop} {nL : Nat} {σ : Hp} {pc : Nat} {lv : List (Nat × Value)} {rest : List Value} {cc : ByteArray} {own : String} {r : Option FieldType} (E : YE p m meth c cc nL s args own r w 20 A) {o index : Nat} (h1 : 0 ≤ o) (h2 : o < 1) (hlink : Cond.fieldLink own index "WhereTheSpoonWentModel" "wayOf" "[I" ∈ wG) (hd : decode cc pc = .ok (.getfield index, 3)) (kk : YY p l e R s m args below meth c w mcf 20 A Q nL σ (pc + 3) lv (.ref (w.1 5) :: rest)) : YY p l e R s m args below meth c w mcf 20 A Q nL σ pc lv (.ref (w.1 o) :: rest) :=
  y_get E (ci := 12) (k := 6) (N := 36) (C := RX12) (T := TX12) (Nat.lt_of_lt_of_le h2 (by decide)) (mc_X12 h1 h2) rfl wu_X12 (by decide) hlink rfl hd kk
theorem gf_X12_7 {p : Program} {l : Launch} {e : Env} {R : Room} {s : State} {m : MethodId} {args : Array Value} {below : List Frame} {meth : Method} {c : Code} {w : wT} {A : Nat → Prop} {Q : State → Prop} {nL : Nat} {σ : Hp} {pc : Nat} {lv : List (Nat × Value)} {rest : List Value} {cc : ByteArray} {own : String} {r : Option FieldType} (E : YE p m meth c cc nL s args own r w 20 A) {o index : Nat} (h1 : 0 ≤ o) (h2 : o < 1) (hlink : Cond.fieldLink own index "WhereTheSpoonWentModel" "tape" "[I" ∈ wG) (hd : decode cc pc = .ok (.getfield index, 3)) (kk : YY p l e R s m args below meth c w mcf 20 A Q nL σ (pc + 3) lv (.ref (w.1 6) :: rest)) : YY p l e R s m args below meth c w mcf 20 A Q nL σ pc lv (.ref (w.1 o) :: rest) :=
  y_get E (ci := 12) (k := 7) (N := 36) (C := RX12) (T := TX12) (Nat.lt_of_lt_of_le h2 (by decide)) (mc_X12 h1 h2) rfl wu_X12 (by decide) hlink rfl hd kk
theorem gf_X12_8 {p : Program} {l : Launch} {e : Env} {R : Room} {s : State} {m : MethodId} {args : Array Value} {below : List Frame} {meth : Method} {c : Code} {w : wT} {A : Nat → Prop} {Q : State → Prop} {nL : Nat} {σ : Hp} {pc : Nat} {lv : List (Nat × Value)} {rest : List Value} {cc : ByteArray} {own : String} {r : Option FieldType} (E : YE p m meth c cc nL s args own r w 20 A) {o index : Nat} (h1 : 0 ≤ o) (h2 : o < 1) (hlink : Cond.fieldLink own index "WhereTheSpoonWentModel" "taped" "I" ∈ wG) (hd : decode cc pc = .ok (.getfield index, 3)) (kk : YY p l e R s m args below meth c w mcf 20 A Q nL σ (pc + 3) lv (.int (σ o 8) :: rest)) : YY p l e R s m args below meth c w mcf 20 A Q nL σ pc lv (.ref (w.1 o) :: rest) :=
  y_get E (ci := 12) (k := 8) (N := 36) (C := RX12) (T := TX12) (Nat.lt_of_lt_of_le h2 (by decide)) (mc_X12 h1 h2) rfl wu_X12 (by decide) hlink rfl hd kk
theorem pf_X12_8 {p : Program} {l : Launch} {e : Env} {R : Room} {s : State} {m : MethodId} {args : Array Value} {below : List Frame} {meth : Method} {c : Code} {w : wT} {A : Nat → Prop} {Q : State → Prop} {nL : Nat} {σ : Hp} {pc : Nat} {lv : List (Nat × Value)} {rest : List Value} {cc : ByteArray} {own : String} {r : Option FieldType} (E : YE p m meth c cc nL s args own r w 20 A) {o index : Nat} {z : Int32} (h1 : 0 ≤ o) (h2 : o < 1) (hlink : Cond.fieldLink own index "WhereTheSpoonWentModel" "taped" "I" ∈ wG) (hd : decode cc pc = .ok (.putfield index, 3)) (kk : YY p l e R s m args below meth c w mcf 20 A Q nL (hup σ o 8 z) (pc + 3) lv rest) : YY p l e R s m args below meth c w mcf 20 A Q nL σ pc lv (.int z :: .ref (w.1 o) :: rest) :=
  y_put E (ci := 12) (k := 8) (N := 36) (C := RX12) (T := TX12) (v := .int z) (ty := .int) (Nat.lt_of_lt_of_le h2 (by decide)) (mc_X12 h1 h2) (by rw [mc_X12 h1 h2]; simp [upd]) rfl wu_X12 tyX12 tyX12_ok nmX12 (by decide) hlink rfl (by decide +kernel) rfl rfl (by simp) hd kk
theorem gf_X12_9 {p : Program} {l : Launch} {e : Env} {R : Room} {s : State} {m : MethodId} {args : Array Value} {below : List Frame} {meth : Method} {c : Code} {w : wT} {A : Nat → Prop} {Q : State → Prop} {nL : Nat} {σ : Hp} {pc : Nat} {lv : List (Nat × Value)} {rest : List Value} {cc : ByteArray} {own : String} {r : Option FieldType} (E : YE p m meth c cc nL s args own r w 20 A) {o index : Nat} (h1 : 0 ≤ o) (h2 : o < 1) (hlink : Cond.fieldLink own index "WhereTheSpoonWentModel" "codes" "[I" ∈ wG) (hd : decode cc pc = .ok (.getfield index, 3)) (kk : YY p l e R s m args below meth c w mcf 20 A Q nL σ (pc + 3) lv (.ref (w.1 7) :: rest)) : YY p l e R s m args below meth c w mcf 20 A Q nL σ pc lv (.ref (w.1 o) :: rest) :=
  y_get E (ci := 12) (k := 9) (N := 36) (C := RX12) (T := TX12) (Nat.lt_of_lt_of_le h2 (by decide)) (mc_X12 h1 h2) rfl wu_X12 (by decide) hlink rfl hd kk
theorem gf_X12_10 {p : Program} {l : Launch} {e : Env} {R : Room} {s : State} {m : MethodId} {args : Array Value} {below : List Frame} {meth : Method} {c : Code} {w : wT} {A : Nat → Prop} {Q : State → Prop} {nL : Nat} {σ : Hp} {pc : Nat} {lv : List (Nat × Value)} {rest : List Value} {cc : ByteArray} {own : String} {r : Option FieldType} (E : YE p m meth c cc nL s args own r w 20 A) {o index : Nat} (h1 : 0 ≤ o) (h2 : o < 1) (hlink : Cond.fieldLink own index "WhereTheSpoonWentModel" "starts" "[I" ∈ wG) (hd : decode cc pc = .ok (.getfield index, 3)) (kk : YY p l e R s m args below meth c w mcf 20 A Q nL σ (pc + 3) lv (.ref (w.1 8) :: rest)) : YY p l e R s m args below meth c w mcf 20 A Q nL σ pc lv (.ref (w.1 o) :: rest) :=
  y_get E (ci := 12) (k := 10) (N := 36) (C := RX12) (T := TX12) (Nat.lt_of_lt_of_le h2 (by decide)) (mc_X12 h1 h2) rfl wu_X12 (by decide) hlink rfl hd kk
theorem gf_X12_11 {p : Program} {l : Launch} {e : Env} {R : Room} {s : State} {m : MethodId} {args : Array Value} {below : List Frame} {meth : Method} {c : Code} {w : wT} {A : Nat → Prop} {Q : State → Prop} {nL : Nat} {σ : Hp} {pc : Nat} {lv : List (Nat × Value)} {rest : List Value} {cc : ByteArray} {own : String} {r : Option FieldType} (E : YE p m meth c cc nL s args own r w 20 A) {o index : Nat} (h1 : 0 ≤ o) (h2 : o < 1) (hlink : Cond.fieldLink own index "WhereTheSpoonWentModel" "texts" "I" ∈ wG) (hd : decode cc pc = .ok (.getfield index, 3)) (kk : YY p l e R s m args below meth c w mcf 20 A Q nL σ (pc + 3) lv (.int (σ o 11) :: rest)) : YY p l e R s m args below meth c w mcf 20 A Q nL σ pc lv (.ref (w.1 o) :: rest) :=
  y_get E (ci := 12) (k := 11) (N := 36) (C := RX12) (T := TX12) (Nat.lt_of_lt_of_le h2 (by decide)) (mc_X12 h1 h2) rfl wu_X12 (by decide) hlink rfl hd kk
theorem pf_X12_11 {p : Program} {l : Launch} {e : Env} {R : Room} {s : State} {m : MethodId} {args : Array Value} {below : List Frame} {meth : Method} {c : Code} {w : wT} {A : Nat → Prop} {Q : State → Prop} {nL : Nat} {σ : Hp} {pc : Nat} {lv : List (Nat × Value)} {rest : List Value} {cc : ByteArray} {own : String} {r : Option FieldType} (E : YE p m meth c cc nL s args own r w 20 A) {o index : Nat} {z : Int32} (h1 : 0 ≤ o) (h2 : o < 1) (hlink : Cond.fieldLink own index "WhereTheSpoonWentModel" "texts" "I" ∈ wG) (hd : decode cc pc = .ok (.putfield index, 3)) (kk : YY p l e R s m args below meth c w mcf 20 A Q nL (hup σ o 11 z) (pc + 3) lv rest) : YY p l e R s m args below meth c w mcf 20 A Q nL σ pc lv (.int z :: .ref (w.1 o) :: rest) :=
  y_put E (ci := 12) (k := 11) (N := 36) (C := RX12) (T := TX12) (v := .int z) (ty := .int) (Nat.lt_of_lt_of_le h2 (by decide)) (mc_X12 h1 h2) (by rw [mc_X12 h1 h2]; simp [upd]) rfl wu_X12 tyX12 tyX12_ok nmX12 (by decide) hlink rfl (by decide +kernel) rfl rfl (by simp) hd kk
theorem gf_X12_12 {p : Program} {l : Launch} {e : Env} {R : Room} {s : State} {m : MethodId} {args : Array Value} {below : List Frame} {meth : Method} {c : Code} {w : wT} {A : Nat → Prop} {Q : State → Prop} {nL : Nat} {σ : Hp} {pc : Nat} {lv : List (Nat × Value)} {rest : List Value} {cc : ByteArray} {own : String} {r : Option FieldType} (E : YE p m meth c cc nL s args own r w 20 A) {o index : Nat} (h1 : 0 ≤ o) (h2 : o < 1) (hlink : Cond.fieldLink own index "WhereTheSpoonWentModel" "rule" "I" ∈ wG) (hd : decode cc pc = .ok (.getfield index, 3)) (kk : YY p l e R s m args below meth c w mcf 20 A Q nL σ (pc + 3) lv (.int (σ o 12) :: rest)) : YY p l e R s m args below meth c w mcf 20 A Q nL σ pc lv (.ref (w.1 o) :: rest) :=
  y_get E (ci := 12) (k := 12) (N := 36) (C := RX12) (T := TX12) (Nat.lt_of_lt_of_le h2 (by decide)) (mc_X12 h1 h2) rfl wu_X12 (by decide) hlink rfl hd kk
theorem pf_X12_12 {p : Program} {l : Launch} {e : Env} {R : Room} {s : State} {m : MethodId} {args : Array Value} {below : List Frame} {meth : Method} {c : Code} {w : wT} {A : Nat → Prop} {Q : State → Prop} {nL : Nat} {σ : Hp} {pc : Nat} {lv : List (Nat × Value)} {rest : List Value} {cc : ByteArray} {own : String} {r : Option FieldType} (E : YE p m meth c cc nL s args own r w 20 A) {o index : Nat} {z : Int32} (h1 : 0 ≤ o) (h2 : o < 1) (hlink : Cond.fieldLink own index "WhereTheSpoonWentModel" "rule" "I" ∈ wG) (hd : decode cc pc = .ok (.putfield index, 3)) (kk : YY p l e R s m args below meth c w mcf 20 A Q nL (hup σ o 12 z) (pc + 3) lv rest) : YY p l e R s m args below meth c w mcf 20 A Q nL σ pc lv (.int z :: .ref (w.1 o) :: rest) :=
  y_put E (ci := 12) (k := 12) (N := 36) (C := RX12) (T := TX12) (v := .int z) (ty := .int) (Nat.lt_of_lt_of_le h2 (by decide)) (mc_X12 h1 h2) (by rw [mc_X12 h1 h2]; simp [upd]) rfl wu_X12 tyX12 tyX12_ok nmX12 (by decide) hlink rfl (by decide +kernel) rfl rfl (by simp) hd kk
theorem gf_X12_13 {p : Program} {l : Launch} {e : Env} {R : Room} {s : State} {m : MethodId} {args : Array Value} {below : List Frame} {meth : Method} {c : Code} {w : wT} {A : Nat → Prop} {Q : State → Prop} {nL : Nat} {σ : Hp} {pc : Nat} {lv : List (Nat × Value)} {rest : List Value} {cc : ByteArray} {own : String} {r : Option FieldType} (E : YE p m meth c cc nL s args own r w 20 A) {o index : Nat} (h1 : 0 ≤ o) (h2 : o < 1) (hlink : Cond.fieldLink own index "WhereTheSpoonWentModel" "hasImage" "Z" ∈ wG) (hd : decode cc pc = .ok (.getfield index, 3)) (kk : YY p l e R s m args below meth c w mcf 20 A Q nL σ (pc + 3) lv (.int (σ o 13) :: rest)) : YY p l e R s m args below meth c w mcf 20 A Q nL σ pc lv (.ref (w.1 o) :: rest) :=
  y_get E (ci := 12) (k := 13) (N := 36) (C := RX12) (T := TX12) (Nat.lt_of_lt_of_le h2 (by decide)) (mc_X12 h1 h2) rfl wu_X12 (by decide) hlink rfl hd kk
theorem pf_X12_13 {p : Program} {l : Launch} {e : Env} {R : Room} {s : State} {m : MethodId} {args : Array Value} {below : List Frame} {meth : Method} {c : Code} {w : wT} {A : Nat → Prop} {Q : State → Prop} {nL : Nat} {σ : Hp} {pc : Nat} {lv : List (Nat × Value)} {rest : List Value} {cc : ByteArray} {own : String} {r : Option FieldType} (E : YE p m meth c cc nL s args own r w 20 A) {o index : Nat} {z : Int32} (h1 : 0 ≤ o) (h2 : o < 1) (hz : narrow .boolean (.int z) = .int z) (hf : fits .boolean (.int z) = true) (hlink : Cond.fieldLink own index "WhereTheSpoonWentModel" "hasImage" "Z" ∈ wG) (hd : decode cc pc = .ok (.putfield index, 3)) (kk : YY p l e R s m args below meth c w mcf 20 A Q nL (hup σ o 13 z) (pc + 3) lv rest) : YY p l e R s m args below meth c w mcf 20 A Q nL σ pc lv (.int z :: .ref (w.1 o) :: rest) :=
  y_put E (ci := 12) (k := 13) (N := 36) (C := RX12) (T := TX12) (v := .int z) (ty := .boolean) (Nat.lt_of_lt_of_le h2 (by decide)) (mc_X12 h1 h2) (by rw [mc_X12 h1 h2]; simp [upd]) rfl wu_X12 tyX12 tyX12_ok nmX12 (by decide) hlink rfl (by decide +kernel) hz hf (by simp) hd kk
theorem gf_X12_14 {p : Program} {l : Launch} {e : Env} {R : Room} {s : State} {m : MethodId} {args : Array Value} {below : List Frame} {meth : Method} {c : Code} {w : wT} {A : Nat → Prop} {Q : State → Prop} {nL : Nat} {σ : Hp} {pc : Nat} {lv : List (Nat × Value)} {rest : List Value} {cc : ByteArray} {own : String} {r : Option FieldType} (E : YE p m meth c cc nL s args own r w 20 A) {o index : Nat} (h1 : 0 ≤ o) (h2 : o < 1) (hlink : Cond.fieldLink own index "WhereTheSpoonWentModel" "imageThings" "I" ∈ wG) (hd : decode cc pc = .ok (.getfield index, 3)) (kk : YY p l e R s m args below meth c w mcf 20 A Q nL σ (pc + 3) lv (.int (σ o 14) :: rest)) : YY p l e R s m args below meth c w mcf 20 A Q nL σ pc lv (.ref (w.1 o) :: rest) :=
  y_get E (ci := 12) (k := 14) (N := 36) (C := RX12) (T := TX12) (Nat.lt_of_lt_of_le h2 (by decide)) (mc_X12 h1 h2) rfl wu_X12 (by decide) hlink rfl hd kk
theorem pf_X12_14 {p : Program} {l : Launch} {e : Env} {R : Room} {s : State} {m : MethodId} {args : Array Value} {below : List Frame} {meth : Method} {c : Code} {w : wT} {A : Nat → Prop} {Q : State → Prop} {nL : Nat} {σ : Hp} {pc : Nat} {lv : List (Nat × Value)} {rest : List Value} {cc : ByteArray} {own : String} {r : Option FieldType} (E : YE p m meth c cc nL s args own r w 20 A) {o index : Nat} {z : Int32} (h1 : 0 ≤ o) (h2 : o < 1) (hlink : Cond.fieldLink own index "WhereTheSpoonWentModel" "imageThings" "I" ∈ wG) (hd : decode cc pc = .ok (.putfield index, 3)) (kk : YY p l e R s m args below meth c w mcf 20 A Q nL (hup σ o 14 z) (pc + 3) lv rest) : YY p l e R s m args below meth c w mcf 20 A Q nL σ pc lv (.int z :: .ref (w.1 o) :: rest) :=
  y_put E (ci := 12) (k := 14) (N := 36) (C := RX12) (T := TX12) (v := .int z) (ty := .int) (Nat.lt_of_lt_of_le h2 (by decide)) (mc_X12 h1 h2) (by rw [mc_X12 h1 h2]; simp [upd]) rfl wu_X12 tyX12 tyX12_ok nmX12 (by decide) hlink rfl (by decide +kernel) rfl rfl (by simp) hd kk
theorem gf_X12_15 {p : Program} {l : Launch} {e : Env} {R : Room} {s : State} {m : MethodId} {args : Array Value} {below : List Frame} {meth : Method} {c : Code} {w : wT} {A : Nat → Prop} {Q : State → Prop} {nL : Nat} {σ : Hp} {pc : Nat} {lv : List (Nat × Value)} {rest : List Value} {cc : ByteArray} {own : String} {r : Option FieldType} (E : YE p m meth c cc nL s args own r w 20 A) {o index : Nat} (h1 : 0 ≤ o) (h2 : o < 1) (hlink : Cond.fieldLink own index "WhereTheSpoonWentModel" "imageRule" "I" ∈ wG) (hd : decode cc pc = .ok (.getfield index, 3)) (kk : YY p l e R s m args below meth c w mcf 20 A Q nL σ (pc + 3) lv (.int (σ o 15) :: rest)) : YY p l e R s m args below meth c w mcf 20 A Q nL σ pc lv (.ref (w.1 o) :: rest) :=
  y_get E (ci := 12) (k := 15) (N := 36) (C := RX12) (T := TX12) (Nat.lt_of_lt_of_le h2 (by decide)) (mc_X12 h1 h2) rfl wu_X12 (by decide) hlink rfl hd kk
theorem pf_X12_15 {p : Program} {l : Launch} {e : Env} {R : Room} {s : State} {m : MethodId} {args : Array Value} {below : List Frame} {meth : Method} {c : Code} {w : wT} {A : Nat → Prop} {Q : State → Prop} {nL : Nat} {σ : Hp} {pc : Nat} {lv : List (Nat × Value)} {rest : List Value} {cc : ByteArray} {own : String} {r : Option FieldType} (E : YE p m meth c cc nL s args own r w 20 A) {o index : Nat} {z : Int32} (h1 : 0 ≤ o) (h2 : o < 1) (hlink : Cond.fieldLink own index "WhereTheSpoonWentModel" "imageRule" "I" ∈ wG) (hd : decode cc pc = .ok (.putfield index, 3)) (kk : YY p l e R s m args below meth c w mcf 20 A Q nL (hup σ o 15 z) (pc + 3) lv rest) : YY p l e R s m args below meth c w mcf 20 A Q nL σ pc lv (.int z :: .ref (w.1 o) :: rest) :=
  y_put E (ci := 12) (k := 15) (N := 36) (C := RX12) (T := TX12) (v := .int z) (ty := .int) (Nat.lt_of_lt_of_le h2 (by decide)) (mc_X12 h1 h2) (by rw [mc_X12 h1 h2]; simp [upd]) rfl wu_X12 tyX12 tyX12_ok nmX12 (by decide) hlink rfl (by decide +kernel) rfl rfl (by simp) hd kk
theorem gf_X12_16 {p : Program} {l : Launch} {e : Env} {R : Room} {s : State} {m : MethodId} {args : Array Value} {below : List Frame} {meth : Method} {c : Code} {w : wT} {A : Nat → Prop} {Q : State → Prop} {nL : Nat} {σ : Hp} {pc : Nat} {lv : List (Nat × Value)} {rest : List Value} {cc : ByteArray} {own : String} {r : Option FieldType} (E : YE p m meth c cc nL s args own r w 20 A) {o index : Nat} (h1 : 0 ≤ o) (h2 : o < 1) (hlink : Cond.fieldLink own index "WhereTheSpoonWentModel" "imageRows" "[I" ∈ wG) (hd : decode cc pc = .ok (.getfield index, 3)) (kk : YY p l e R s m args below meth c w mcf 20 A Q nL σ (pc + 3) lv (.ref (w.1 9) :: rest)) : YY p l e R s m args below meth c w mcf 20 A Q nL σ pc lv (.ref (w.1 o) :: rest) :=
  y_get E (ci := 12) (k := 16) (N := 36) (C := RX12) (T := TX12) (Nat.lt_of_lt_of_le h2 (by decide)) (mc_X12 h1 h2) rfl wu_X12 (by decide) hlink rfl hd kk
theorem gf_X12_17 {p : Program} {l : Launch} {e : Env} {R : Room} {s : State} {m : MethodId} {args : Array Value} {below : List Frame} {meth : Method} {c : Code} {w : wT} {A : Nat → Prop} {Q : State → Prop} {nL : Nat} {σ : Hp} {pc : Nat} {lv : List (Nat × Value)} {rest : List Value} {cc : ByteArray} {own : String} {r : Option FieldType} (E : YE p m meth c cc nL s args own r w 20 A) {o index : Nat} (h1 : 0 ≤ o) (h2 : o < 1) (hlink : Cond.fieldLink own index "WhereTheSpoonWentModel" "sheetSort" "[I" ∈ wG) (hd : decode cc pc = .ok (.getfield index, 3)) (kk : YY p l e R s m args below meth c w mcf 20 A Q nL σ (pc + 3) lv (.ref (w.1 10) :: rest)) : YY p l e R s m args below meth c w mcf 20 A Q nL σ pc lv (.ref (w.1 o) :: rest) :=
  y_get E (ci := 12) (k := 17) (N := 36) (C := RX12) (T := TX12) (Nat.lt_of_lt_of_le h2 (by decide)) (mc_X12 h1 h2) rfl wu_X12 (by decide) hlink rfl hd kk
theorem gf_X12_18 {p : Program} {l : Launch} {e : Env} {R : Room} {s : State} {m : MethodId} {args : Array Value} {below : List Frame} {meth : Method} {c : Code} {w : wT} {A : Nat → Prop} {Q : State → Prop} {nL : Nat} {σ : Hp} {pc : Nat} {lv : List (Nat × Value)} {rest : List Value} {cc : ByteArray} {own : String} {r : Option FieldType} (E : YE p m meth c cc nL s args own r w 20 A) {o index : Nat} (h1 : 0 ≤ o) (h2 : o < 1) (hlink : Cond.fieldLink own index "WhereTheSpoonWentModel" "sheetSize" "[I" ∈ wG) (hd : decode cc pc = .ok (.getfield index, 3)) (kk : YY p l e R s m args below meth c w mcf 20 A Q nL σ (pc + 3) lv (.ref (w.1 11) :: rest)) : YY p l e R s m args below meth c w mcf 20 A Q nL σ pc lv (.ref (w.1 o) :: rest) :=
  y_get E (ci := 12) (k := 18) (N := 36) (C := RX12) (T := TX12) (Nat.lt_of_lt_of_le h2 (by decide)) (mc_X12 h1 h2) rfl wu_X12 (by decide) hlink rfl hd kk
theorem gf_X12_19 {p : Program} {l : Launch} {e : Env} {R : Room} {s : State} {m : MethodId} {args : Array Value} {below : List Frame} {meth : Method} {c : Code} {w : wT} {A : Nat → Prop} {Q : State → Prop} {nL : Nat} {σ : Hp} {pc : Nat} {lv : List (Nat × Value)} {rest : List Value} {cc : ByteArray} {own : String} {r : Option FieldType} (E : YE p m meth c cc nL s args own r w 20 A) {o index : Nat} (h1 : 0 ≤ o) (h2 : o < 1) (hlink : Cond.fieldLink own index "WhereTheSpoonWentModel" "cells" "[I" ∈ wG) (hd : decode cc pc = .ok (.getfield index, 3)) (kk : YY p l e R s m args below meth c w mcf 20 A Q nL σ (pc + 3) lv (.ref (w.1 12) :: rest)) : YY p l e R s m args below meth c w mcf 20 A Q nL σ pc lv (.ref (w.1 o) :: rest) :=
  y_get E (ci := 12) (k := 19) (N := 36) (C := RX12) (T := TX12) (Nat.lt_of_lt_of_le h2 (by decide)) (mc_X12 h1 h2) rfl wu_X12 (by decide) hlink rfl hd kk
theorem gf_X12_20 {p : Program} {l : Launch} {e : Env} {R : Room} {s : State} {m : MethodId} {args : Array Value} {below : List Frame} {meth : Method} {c : Code} {w : wT} {A : Nat → Prop} {Q : State → Prop} {nL : Nat} {σ : Hp} {pc : Nat} {lv : List (Nat × Value)} {rest : List Value} {cc : ByteArray} {own : String} {r : Option FieldType} (E : YE p m meth c cc nL s args own r w 20 A) {o index : Nat} (h1 : 0 ≤ o) (h2 : o < 1) (hlink : Cond.fieldLink own index "WhereTheSpoonWentModel" "law" "[I" ∈ wG) (hd : decode cc pc = .ok (.getfield index, 3)) (kk : YY p l e R s m args below meth c w mcf 20 A Q nL σ (pc + 3) lv (.ref (w.1 13) :: rest)) : YY p l e R s m args below meth c w mcf 20 A Q nL σ pc lv (.ref (w.1 o) :: rest) :=
  y_get E (ci := 12) (k := 20) (N := 36) (C := RX12) (T := TX12) (Nat.lt_of_lt_of_le h2 (by decide)) (mc_X12 h1 h2) rfl wu_X12 (by decide) hlink rfl hd kk
theorem gf_X12_21 {p : Program} {l : Launch} {e : Env} {R : Room} {s : State} {m : MethodId} {args : Array Value} {below : List Frame} {meth : Method} {c : Code} {w : wT} {A : Nat → Prop} {Q : State → Prop} {nL : Nat} {σ : Hp} {pc : Nat} {lv : List (Nat × Value)} {rest : List Value} {cc : ByteArray} {own : String} {r : Option FieldType} (E : YE p m meth c cc nL s args own r w 20 A) {o index : Nat} (h1 : 0 ≤ o) (h2 : o < 1) (hlink : Cond.fieldLink own index "WhereTheSpoonWentModel" "at" "I" ∈ wG) (hd : decode cc pc = .ok (.getfield index, 3)) (kk : YY p l e R s m args below meth c w mcf 20 A Q nL σ (pc + 3) lv (.int (σ o 21) :: rest)) : YY p l e R s m args below meth c w mcf 20 A Q nL σ pc lv (.ref (w.1 o) :: rest) :=
  y_get E (ci := 12) (k := 21) (N := 36) (C := RX12) (T := TX12) (Nat.lt_of_lt_of_le h2 (by decide)) (mc_X12 h1 h2) rfl wu_X12 (by decide) hlink rfl hd kk
theorem pf_X12_21 {p : Program} {l : Launch} {e : Env} {R : Room} {s : State} {m : MethodId} {args : Array Value} {below : List Frame} {meth : Method} {c : Code} {w : wT} {A : Nat → Prop} {Q : State → Prop} {nL : Nat} {σ : Hp} {pc : Nat} {lv : List (Nat × Value)} {rest : List Value} {cc : ByteArray} {own : String} {r : Option FieldType} (E : YE p m meth c cc nL s args own r w 20 A) {o index : Nat} {z : Int32} (h1 : 0 ≤ o) (h2 : o < 1) (hlink : Cond.fieldLink own index "WhereTheSpoonWentModel" "at" "I" ∈ wG) (hd : decode cc pc = .ok (.putfield index, 3)) (kk : YY p l e R s m args below meth c w mcf 20 A Q nL (hup σ o 21 z) (pc + 3) lv rest) : YY p l e R s m args below meth c w mcf 20 A Q nL σ pc lv (.int z :: .ref (w.1 o) :: rest) :=
  y_put E (ci := 12) (k := 21) (N := 36) (C := RX12) (T := TX12) (v := .int z) (ty := .int) (Nat.lt_of_lt_of_le h2 (by decide)) (mc_X12 h1 h2) (by rw [mc_X12 h1 h2]; simp [upd]) rfl wu_X12 tyX12 tyX12_ok nmX12 (by decide) hlink rfl (by decide +kernel) rfl rfl (by simp) hd kk
theorem gf_X12_22 {p : Program} {l : Launch} {e : Env} {R : Room} {s : State} {m : MethodId} {args : Array Value} {below : List Frame} {meth : Method} {c : Code} {w : wT} {A : Nat → Prop} {Q : State → Prop} {nL : Nat} {σ : Hp} {pc : Nat} {lv : List (Nat × Value)} {rest : List Value} {cc : ByteArray} {own : String} {r : Option FieldType} (E : YE p m meth c cc nL s args own r w 20 A) {o index : Nat} (h1 : 0 ≤ o) (h2 : o < 1) (hlink : Cond.fieldLink own index "WhereTheSpoonWentModel" "begun" "I" ∈ wG) (hd : decode cc pc = .ok (.getfield index, 3)) (kk : YY p l e R s m args below meth c w mcf 20 A Q nL σ (pc + 3) lv (.int (σ o 22) :: rest)) : YY p l e R s m args below meth c w mcf 20 A Q nL σ pc lv (.ref (w.1 o) :: rest) :=
  y_get E (ci := 12) (k := 22) (N := 36) (C := RX12) (T := TX12) (Nat.lt_of_lt_of_le h2 (by decide)) (mc_X12 h1 h2) rfl wu_X12 (by decide) hlink rfl hd kk
theorem pf_X12_22 {p : Program} {l : Launch} {e : Env} {R : Room} {s : State} {m : MethodId} {args : Array Value} {below : List Frame} {meth : Method} {c : Code} {w : wT} {A : Nat → Prop} {Q : State → Prop} {nL : Nat} {σ : Hp} {pc : Nat} {lv : List (Nat × Value)} {rest : List Value} {cc : ByteArray} {own : String} {r : Option FieldType} (E : YE p m meth c cc nL s args own r w 20 A) {o index : Nat} {z : Int32} (h1 : 0 ≤ o) (h2 : o < 1) (hlink : Cond.fieldLink own index "WhereTheSpoonWentModel" "begun" "I" ∈ wG) (hd : decode cc pc = .ok (.putfield index, 3)) (kk : YY p l e R s m args below meth c w mcf 20 A Q nL (hup σ o 22 z) (pc + 3) lv rest) : YY p l e R s m args below meth c w mcf 20 A Q nL σ pc lv (.int z :: .ref (w.1 o) :: rest) :=
  y_put E (ci := 12) (k := 22) (N := 36) (C := RX12) (T := TX12) (v := .int z) (ty := .int) (Nat.lt_of_lt_of_le h2 (by decide)) (mc_X12 h1 h2) (by rw [mc_X12 h1 h2]; simp [upd]) rfl wu_X12 tyX12 tyX12_ok nmX12 (by decide) hlink rfl (by decide +kernel) rfl rfl (by simp) hd kk
theorem gf_X12_23 {p : Program} {l : Launch} {e : Env} {R : Room} {s : State} {m : MethodId} {args : Array Value} {below : List Frame} {meth : Method} {c : Code} {w : wT} {A : Nat → Prop} {Q : State → Prop} {nL : Nat} {σ : Hp} {pc : Nat} {lv : List (Nat × Value)} {rest : List Value} {cc : ByteArray} {own : String} {r : Option FieldType} (E : YE p m meth c cc nL s args own r w 20 A) {o index : Nat} (h1 : 0 ≤ o) (h2 : o < 1) (hlink : Cond.fieldLink own index "WhereTheSpoonWentModel" "token" "I" ∈ wG) (hd : decode cc pc = .ok (.getfield index, 3)) (kk : YY p l e R s m args below meth c w mcf 20 A Q nL σ (pc + 3) lv (.int (σ o 23) :: rest)) : YY p l e R s m args below meth c w mcf 20 A Q nL σ pc lv (.ref (w.1 o) :: rest) :=
  y_get E (ci := 12) (k := 23) (N := 36) (C := RX12) (T := TX12) (Nat.lt_of_lt_of_le h2 (by decide)) (mc_X12 h1 h2) rfl wu_X12 (by decide) hlink rfl hd kk
theorem pf_X12_23 {p : Program} {l : Launch} {e : Env} {R : Room} {s : State} {m : MethodId} {args : Array Value} {below : List Frame} {meth : Method} {c : Code} {w : wT} {A : Nat → Prop} {Q : State → Prop} {nL : Nat} {σ : Hp} {pc : Nat} {lv : List (Nat × Value)} {rest : List Value} {cc : ByteArray} {own : String} {r : Option FieldType} (E : YE p m meth c cc nL s args own r w 20 A) {o index : Nat} {z : Int32} (h1 : 0 ≤ o) (h2 : o < 1) (hlink : Cond.fieldLink own index "WhereTheSpoonWentModel" "token" "I" ∈ wG) (hd : decode cc pc = .ok (.putfield index, 3)) (kk : YY p l e R s m args below meth c w mcf 20 A Q nL (hup σ o 23 z) (pc + 3) lv rest) : YY p l e R s m args below meth c w mcf 20 A Q nL σ pc lv (.int z :: .ref (w.1 o) :: rest) :=
  y_put E (ci := 12) (k := 23) (N := 36) (C := RX12) (T := TX12) (v := .int z) (ty := .int) (Nat.lt_of_lt_of_le h2 (by decide)) (mc_X12 h1 h2) (by rw [mc_X12 h1 h2]; simp [upd]) rfl wu_X12 tyX12 tyX12_ok nmX12 (by decide) hlink rfl (by decide +kernel) rfl rfl (by simp) hd kk
theorem gf_X12_24 {p : Program} {l : Launch} {e : Env} {R : Room} {s : State} {m : MethodId} {args : Array Value} {below : List Frame} {meth : Method} {c : Code} {w : wT} {A : Nat → Prop} {Q : State → Prop} {nL : Nat} {σ : Hp} {pc : Nat} {lv : List (Nat × Value)} {rest : List Value} {cc : ByteArray} {own : String} {r : Option FieldType} (E : YE p m meth c cc nL s args own r w 20 A) {o index : Nat} (h1 : 0 ≤ o) (h2 : o < 1) (hlink : Cond.fieldLink own index "WhereTheSpoonWentModel" "value" "I" ∈ wG) (hd : decode cc pc = .ok (.getfield index, 3)) (kk : YY p l e R s m args below meth c w mcf 20 A Q nL σ (pc + 3) lv (.int (σ o 24) :: rest)) : YY p l e R s m args below meth c w mcf 20 A Q nL σ pc lv (.ref (w.1 o) :: rest) :=
  y_get E (ci := 12) (k := 24) (N := 36) (C := RX12) (T := TX12) (Nat.lt_of_lt_of_le h2 (by decide)) (mc_X12 h1 h2) rfl wu_X12 (by decide) hlink rfl hd kk
theorem pf_X12_24 {p : Program} {l : Launch} {e : Env} {R : Room} {s : State} {m : MethodId} {args : Array Value} {below : List Frame} {meth : Method} {c : Code} {w : wT} {A : Nat → Prop} {Q : State → Prop} {nL : Nat} {σ : Hp} {pc : Nat} {lv : List (Nat × Value)} {rest : List Value} {cc : ByteArray} {own : String} {r : Option FieldType} (E : YE p m meth c cc nL s args own r w 20 A) {o index : Nat} {z : Int32} (h1 : 0 ≤ o) (h2 : o < 1) (hlink : Cond.fieldLink own index "WhereTheSpoonWentModel" "value" "I" ∈ wG) (hd : decode cc pc = .ok (.putfield index, 3)) (kk : YY p l e R s m args below meth c w mcf 20 A Q nL (hup σ o 24 z) (pc + 3) lv rest) : YY p l e R s m args below meth c w mcf 20 A Q nL σ pc lv (.int z :: .ref (w.1 o) :: rest) :=
  y_put E (ci := 12) (k := 24) (N := 36) (C := RX12) (T := TX12) (v := .int z) (ty := .int) (Nat.lt_of_lt_of_le h2 (by decide)) (mc_X12 h1 h2) (by rw [mc_X12 h1 h2]; simp [upd]) rfl wu_X12 tyX12 tyX12_ok nmX12 (by decide) hlink rfl (by decide +kernel) rfl rfl (by simp) hd kk
theorem gf_X12_25 {p : Program} {l : Launch} {e : Env} {R : Room} {s : State} {m : MethodId} {args : Array Value} {below : List Frame} {meth : Method} {c : Code} {w : wT} {A : Nat → Prop} {Q : State → Prop} {nL : Nat} {σ : Hp} {pc : Nat} {lv : List (Nat × Value)} {rest : List Value} {cc : ByteArray} {own : String} {r : Option FieldType} (E : YE p m meth c cc nL s args own r w 20 A) {o index : Nat} (h1 : 0 ≤ o) (h2 : o < 1) (hlink : Cond.fieldLink own index "WhereTheSpoonWentModel" "words" "[I" ∈ wG) (hd : decode cc pc = .ok (.getfield index, 3)) (kk : YY p l e R s m args below meth c w mcf 20 A Q nL σ (pc + 3) lv (.ref (w.1 14) :: rest)) : YY p l e R s m args below meth c w mcf 20 A Q nL σ pc lv (.ref (w.1 o) :: rest) :=
  y_get E (ci := 12) (k := 25) (N := 36) (C := RX12) (T := TX12) (Nat.lt_of_lt_of_le h2 (by decide)) (mc_X12 h1 h2) rfl wu_X12 (by decide) hlink rfl hd kk
theorem gf_X12_26 {p : Program} {l : Launch} {e : Env} {R : Room} {s : State} {m : MethodId} {args : Array Value} {below : List Frame} {meth : Method} {c : Code} {w : wT} {A : Nat → Prop} {Q : State → Prop} {nL : Nat} {σ : Hp} {pc : Nat} {lv : List (Nat × Value)} {rest : List Value} {cc : ByteArray} {own : String} {r : Option FieldType} (E : YE p m meth c cc nL s args own r w 20 A) {o index : Nat} (h1 : 0 ≤ o) (h2 : o < 1) (hlink : Cond.fieldLink own index "WhereTheSpoonWentModel" "held" "[I" ∈ wG) (hd : decode cc pc = .ok (.getfield index, 3)) (kk : YY p l e R s m args below meth c w mcf 20 A Q nL σ (pc + 3) lv (.ref (w.1 15) :: rest)) : YY p l e R s m args below meth c w mcf 20 A Q nL σ pc lv (.ref (w.1 o) :: rest) :=
  y_get E (ci := 12) (k := 26) (N := 36) (C := RX12) (T := TX12) (Nat.lt_of_lt_of_le h2 (by decide)) (mc_X12 h1 h2) rfl wu_X12 (by decide) hlink rfl hd kk
theorem gf_X12_27 {p : Program} {l : Launch} {e : Env} {R : Room} {s : State} {m : MethodId} {args : Array Value} {below : List Frame} {meth : Method} {c : Code} {w : wT} {A : Nat → Prop} {Q : State → Prop} {nL : Nat} {σ : Hp} {pc : Nat} {lv : List (Nat × Value)} {rest : List Value} {cc : ByteArray} {own : String} {r : Option FieldType} (E : YE p m meth c cc nL s args own r w 20 A) {o index : Nat} (h1 : 0 ≤ o) (h2 : o < 1) (hlink : Cond.fieldLink own index "WhereTheSpoonWentModel" "heldMany" "I" ∈ wG) (hd : decode cc pc = .ok (.getfield index, 3)) (kk : YY p l e R s m args below meth c w mcf 20 A Q nL σ (pc + 3) lv (.int (σ o 27) :: rest)) : YY p l e R s m args below meth c w mcf 20 A Q nL σ pc lv (.ref (w.1 o) :: rest) :=
  y_get E (ci := 12) (k := 27) (N := 36) (C := RX12) (T := TX12) (Nat.lt_of_lt_of_le h2 (by decide)) (mc_X12 h1 h2) rfl wu_X12 (by decide) hlink rfl hd kk
theorem pf_X12_27 {p : Program} {l : Launch} {e : Env} {R : Room} {s : State} {m : MethodId} {args : Array Value} {below : List Frame} {meth : Method} {c : Code} {w : wT} {A : Nat → Prop} {Q : State → Prop} {nL : Nat} {σ : Hp} {pc : Nat} {lv : List (Nat × Value)} {rest : List Value} {cc : ByteArray} {own : String} {r : Option FieldType} (E : YE p m meth c cc nL s args own r w 20 A) {o index : Nat} {z : Int32} (h1 : 0 ≤ o) (h2 : o < 1) (hlink : Cond.fieldLink own index "WhereTheSpoonWentModel" "heldMany" "I" ∈ wG) (hd : decode cc pc = .ok (.putfield index, 3)) (kk : YY p l e R s m args below meth c w mcf 20 A Q nL (hup σ o 27 z) (pc + 3) lv rest) : YY p l e R s m args below meth c w mcf 20 A Q nL σ pc lv (.int z :: .ref (w.1 o) :: rest) :=
  y_put E (ci := 12) (k := 27) (N := 36) (C := RX12) (T := TX12) (v := .int z) (ty := .int) (Nat.lt_of_lt_of_le h2 (by decide)) (mc_X12 h1 h2) (by rw [mc_X12 h1 h2]; simp [upd]) rfl wu_X12 tyX12 tyX12_ok nmX12 (by decide) hlink rfl (by decide +kernel) rfl rfl (by simp) hd kk
theorem gf_X12_28 {p : Program} {l : Launch} {e : Env} {R : Room} {s : State} {m : MethodId} {args : Array Value} {below : List Frame} {meth : Method} {c : Code} {w : wT} {A : Nat → Prop} {Q : State → Prop} {nL : Nat} {σ : Hp} {pc : Nat} {lv : List (Nat × Value)} {rest : List Value} {cc : ByteArray} {own : String} {r : Option FieldType} (E : YE p m meth c cc nL s args own r w 20 A) {o index : Nat} (h1 : 0 ≤ o) (h2 : o < 1) (hlink : Cond.fieldLink own index "WhereTheSpoonWentModel" "opens" "I" ∈ wG) (hd : decode cc pc = .ok (.getfield index, 3)) (kk : YY p l e R s m args below meth c w mcf 20 A Q nL σ (pc + 3) lv (.int (σ o 28) :: rest)) : YY p l e R s m args below meth c w mcf 20 A Q nL σ pc lv (.ref (w.1 o) :: rest) :=
  y_get E (ci := 12) (k := 28) (N := 36) (C := RX12) (T := TX12) (Nat.lt_of_lt_of_le h2 (by decide)) (mc_X12 h1 h2) rfl wu_X12 (by decide) hlink rfl hd kk
theorem pf_X12_28 {p : Program} {l : Launch} {e : Env} {R : Room} {s : State} {m : MethodId} {args : Array Value} {below : List Frame} {meth : Method} {c : Code} {w : wT} {A : Nat → Prop} {Q : State → Prop} {nL : Nat} {σ : Hp} {pc : Nat} {lv : List (Nat × Value)} {rest : List Value} {cc : ByteArray} {own : String} {r : Option FieldType} (E : YE p m meth c cc nL s args own r w 20 A) {o index : Nat} {z : Int32} (h1 : 0 ≤ o) (h2 : o < 1) (hlink : Cond.fieldLink own index "WhereTheSpoonWentModel" "opens" "I" ∈ wG) (hd : decode cc pc = .ok (.putfield index, 3)) (kk : YY p l e R s m args below meth c w mcf 20 A Q nL (hup σ o 28 z) (pc + 3) lv rest) : YY p l e R s m args below meth c w mcf 20 A Q nL σ pc lv (.int z :: .ref (w.1 o) :: rest) :=
  y_put E (ci := 12) (k := 28) (N := 36) (C := RX12) (T := TX12) (v := .int z) (ty := .int) (Nat.lt_of_lt_of_le h2 (by decide)) (mc_X12 h1 h2) (by rw [mc_X12 h1 h2]; simp [upd]) rfl wu_X12 tyX12 tyX12_ok nmX12 (by decide) hlink rfl (by decide +kernel) rfl rfl (by simp) hd kk
theorem gf_X12_29 {p : Program} {l : Launch} {e : Env} {R : Room} {s : State} {m : MethodId} {args : Array Value} {below : List Frame} {meth : Method} {c : Code} {w : wT} {A : Nat → Prop} {Q : State → Prop} {nL : Nat} {σ : Hp} {pc : Nat} {lv : List (Nat × Value)} {rest : List Value} {cc : ByteArray} {own : String} {r : Option FieldType} (E : YE p m meth c cc nL s args own r w 20 A) {o index : Nat} (h1 : 0 ≤ o) (h2 : o < 1) (hlink : Cond.fieldLink own index "WhereTheSpoonWentModel" "out" "I" ∈ wG) (hd : decode cc pc = .ok (.getfield index, 3)) (kk : YY p l e R s m args below meth c w mcf 20 A Q nL σ (pc + 3) lv (.int (σ o 29) :: rest)) : YY p l e R s m args below meth c w mcf 20 A Q nL σ pc lv (.ref (w.1 o) :: rest) :=
  y_get E (ci := 12) (k := 29) (N := 36) (C := RX12) (T := TX12) (Nat.lt_of_lt_of_le h2 (by decide)) (mc_X12 h1 h2) rfl wu_X12 (by decide) hlink rfl hd kk
theorem pf_X12_29 {p : Program} {l : Launch} {e : Env} {R : Room} {s : State} {m : MethodId} {args : Array Value} {below : List Frame} {meth : Method} {c : Code} {w : wT} {A : Nat → Prop} {Q : State → Prop} {nL : Nat} {σ : Hp} {pc : Nat} {lv : List (Nat × Value)} {rest : List Value} {cc : ByteArray} {own : String} {r : Option FieldType} (E : YE p m meth c cc nL s args own r w 20 A) {o index : Nat} {z : Int32} (h1 : 0 ≤ o) (h2 : o < 1) (hlink : Cond.fieldLink own index "WhereTheSpoonWentModel" "out" "I" ∈ wG) (hd : decode cc pc = .ok (.putfield index, 3)) (kk : YY p l e R s m args below meth c w mcf 20 A Q nL (hup σ o 29 z) (pc + 3) lv rest) : YY p l e R s m args below meth c w mcf 20 A Q nL σ pc lv (.int z :: .ref (w.1 o) :: rest) :=
  y_put E (ci := 12) (k := 29) (N := 36) (C := RX12) (T := TX12) (v := .int z) (ty := .int) (Nat.lt_of_lt_of_le h2 (by decide)) (mc_X12 h1 h2) (by rw [mc_X12 h1 h2]; simp [upd]) rfl wu_X12 tyX12 tyX12_ok nmX12 (by decide) hlink rfl (by decide +kernel) rfl rfl (by simp) hd kk
theorem gf_X12_30 {p : Program} {l : Launch} {e : Env} {R : Room} {s : State} {m : MethodId} {args : Array Value} {below : List Frame} {meth : Method} {c : Code} {w : wT} {A : Nat → Prop} {Q : State → Prop} {nL : Nat} {σ : Hp} {pc : Nat} {lv : List (Nat × Value)} {rest : List Value} {cc : ByteArray} {own : String} {r : Option FieldType} (E : YE p m meth c cc nL s args own r w 20 A) {o index : Nat} (h1 : 0 ≤ o) (h2 : o < 1) (hlink : Cond.fieldLink own index "WhereTheSpoonWentModel" "stack" "[I" ∈ wG) (hd : decode cc pc = .ok (.getfield index, 3)) (kk : YY p l e R s m args below meth c w mcf 20 A Q nL σ (pc + 3) lv (.ref (w.1 16) :: rest)) : YY p l e R s m args below meth c w mcf 20 A Q nL σ pc lv (.ref (w.1 o) :: rest) :=
  y_get E (ci := 12) (k := 30) (N := 36) (C := RX12) (T := TX12) (Nat.lt_of_lt_of_le h2 (by decide)) (mc_X12 h1 h2) rfl wu_X12 (by decide) hlink rfl hd kk
theorem gf_X12_31 {p : Program} {l : Launch} {e : Env} {R : Room} {s : State} {m : MethodId} {args : Array Value} {below : List Frame} {meth : Method} {c : Code} {w : wT} {A : Nat → Prop} {Q : State → Prop} {nL : Nat} {σ : Hp} {pc : Nat} {lv : List (Nat × Value)} {rest : List Value} {cc : ByteArray} {own : String} {r : Option FieldType} (E : YE p m meth c cc nL s args own r w 20 A) {o index : Nat} (h1 : 0 ≤ o) (h2 : o < 1) (hlink : Cond.fieldLink own index "WhereTheSpoonWentModel" "named" "[I" ∈ wG) (hd : decode cc pc = .ok (.getfield index, 3)) (kk : YY p l e R s m args below meth c w mcf 20 A Q nL σ (pc + 3) lv (.ref (w.1 17) :: rest)) : YY p l e R s m args below meth c w mcf 20 A Q nL σ pc lv (.ref (w.1 o) :: rest) :=
  y_get E (ci := 12) (k := 31) (N := 36) (C := RX12) (T := TX12) (Nat.lt_of_lt_of_le h2 (by decide)) (mc_X12 h1 h2) rfl wu_X12 (by decide) hlink rfl hd kk
theorem gf_X12_32 {p : Program} {l : Launch} {e : Env} {R : Room} {s : State} {m : MethodId} {args : Array Value} {below : List Frame} {meth : Method} {c : Code} {w : wT} {A : Nat → Prop} {Q : State → Prop} {nL : Nat} {σ : Hp} {pc : Nat} {lv : List (Nat × Value)} {rest : List Value} {cc : ByteArray} {own : String} {r : Option FieldType} (E : YE p m meth c cc nL s args own r w 20 A) {o index : Nat} (h1 : 0 ≤ o) (h2 : o < 1) (hlink : Cond.fieldLink own index "WhereTheSpoonWentModel" "now" "I" ∈ wG) (hd : decode cc pc = .ok (.getfield index, 3)) (kk : YY p l e R s m args below meth c w mcf 20 A Q nL σ (pc + 3) lv (.int (σ o 32) :: rest)) : YY p l e R s m args below meth c w mcf 20 A Q nL σ pc lv (.ref (w.1 o) :: rest) :=
  y_get E (ci := 12) (k := 32) (N := 36) (C := RX12) (T := TX12) (Nat.lt_of_lt_of_le h2 (by decide)) (mc_X12 h1 h2) rfl wu_X12 (by decide) hlink rfl hd kk
theorem pf_X12_32 {p : Program} {l : Launch} {e : Env} {R : Room} {s : State} {m : MethodId} {args : Array Value} {below : List Frame} {meth : Method} {c : Code} {w : wT} {A : Nat → Prop} {Q : State → Prop} {nL : Nat} {σ : Hp} {pc : Nat} {lv : List (Nat × Value)} {rest : List Value} {cc : ByteArray} {own : String} {r : Option FieldType} (E : YE p m meth c cc nL s args own r w 20 A) {o index : Nat} {z : Int32} (h1 : 0 ≤ o) (h2 : o < 1) (hlink : Cond.fieldLink own index "WhereTheSpoonWentModel" "now" "I" ∈ wG) (hd : decode cc pc = .ok (.putfield index, 3)) (kk : YY p l e R s m args below meth c w mcf 20 A Q nL (hup σ o 32 z) (pc + 3) lv rest) : YY p l e R s m args below meth c w mcf 20 A Q nL σ pc lv (.int z :: .ref (w.1 o) :: rest) :=
  y_put E (ci := 12) (k := 32) (N := 36) (C := RX12) (T := TX12) (v := .int z) (ty := .int) (Nat.lt_of_lt_of_le h2 (by decide)) (mc_X12 h1 h2) (by rw [mc_X12 h1 h2]; simp [upd]) rfl wu_X12 tyX12 tyX12_ok nmX12 (by decide) hlink rfl (by decide +kernel) rfl rfl (by simp) hd kk
theorem gf_X12_33 {p : Program} {l : Launch} {e : Env} {R : Room} {s : State} {m : MethodId} {args : Array Value} {below : List Frame} {meth : Method} {c : Code} {w : wT} {A : Nat → Prop} {Q : State → Prop} {nL : Nat} {σ : Hp} {pc : Nat} {lv : List (Nat × Value)} {rest : List Value} {cc : ByteArray} {own : String} {r : Option FieldType} (E : YE p m meth c cc nL s args own r w 20 A) {o index : Nat} (h1 : 0 ≤ o) (h2 : o < 1) (hlink : Cond.fieldLink own index "WhereTheSpoonWentModel" "way" "I" ∈ wG) (hd : decode cc pc = .ok (.getfield index, 3)) (kk : YY p l e R s m args below meth c w mcf 20 A Q nL σ (pc + 3) lv (.int (σ o 33) :: rest)) : YY p l e R s m args below meth c w mcf 20 A Q nL σ pc lv (.ref (w.1 o) :: rest) :=
  y_get E (ci := 12) (k := 33) (N := 36) (C := RX12) (T := TX12) (Nat.lt_of_lt_of_le h2 (by decide)) (mc_X12 h1 h2) rfl wu_X12 (by decide) hlink rfl hd kk
theorem pf_X12_33 {p : Program} {l : Launch} {e : Env} {R : Room} {s : State} {m : MethodId} {args : Array Value} {below : List Frame} {meth : Method} {c : Code} {w : wT} {A : Nat → Prop} {Q : State → Prop} {nL : Nat} {σ : Hp} {pc : Nat} {lv : List (Nat × Value)} {rest : List Value} {cc : ByteArray} {own : String} {r : Option FieldType} (E : YE p m meth c cc nL s args own r w 20 A) {o index : Nat} {z : Int32} (h1 : 0 ≤ o) (h2 : o < 1) (hlink : Cond.fieldLink own index "WhereTheSpoonWentModel" "way" "I" ∈ wG) (hd : decode cc pc = .ok (.putfield index, 3)) (kk : YY p l e R s m args below meth c w mcf 20 A Q nL (hup σ o 33 z) (pc + 3) lv rest) : YY p l e R s m args below meth c w mcf 20 A Q nL σ pc lv (.int z :: .ref (w.1 o) :: rest) :=
  y_put E (ci := 12) (k := 33) (N := 36) (C := RX12) (T := TX12) (v := .int z) (ty := .int) (Nat.lt_of_lt_of_le h2 (by decide)) (mc_X12 h1 h2) (by rw [mc_X12 h1 h2]; simp [upd]) rfl wu_X12 tyX12 tyX12_ok nmX12 (by decide) hlink rfl (by decide +kernel) rfl rfl (by simp) hd kk
theorem gf_X12_34 {p : Program} {l : Launch} {e : Env} {R : Room} {s : State} {m : MethodId} {args : Array Value} {below : List Frame} {meth : Method} {c : Code} {w : wT} {A : Nat → Prop} {Q : State → Prop} {nL : Nat} {σ : Hp} {pc : Nat} {lv : List (Nat × Value)} {rest : List Value} {cc : ByteArray} {own : String} {r : Option FieldType} (E : YE p m meth c cc nL s args own r w 20 A) {o index : Nat} (h1 : 0 ≤ o) (h2 : o < 1) (hlink : Cond.fieldLink own index "WhereTheSpoonWentModel" "far" "[I" ∈ wG) (hd : decode cc pc = .ok (.getfield index, 3)) (kk : YY p l e R s m args below meth c w mcf 20 A Q nL σ (pc + 3) lv (.ref (w.1 18) :: rest)) : YY p l e R s m args below meth c w mcf 20 A Q nL σ pc lv (.ref (w.1 o) :: rest) :=
  y_get E (ci := 12) (k := 34) (N := 36) (C := RX12) (T := TX12) (Nat.lt_of_lt_of_le h2 (by decide)) (mc_X12 h1 h2) rfl wu_X12 (by decide) hlink rfl hd kk
theorem gf_X12_35 {p : Program} {l : Launch} {e : Env} {R : Room} {s : State} {m : MethodId} {args : Array Value} {below : List Frame} {meth : Method} {c : Code} {w : wT} {A : Nat → Prop} {Q : State → Prop} {nL : Nat} {σ : Hp} {pc : Nat} {lv : List (Nat × Value)} {rest : List Value} {cc : ByteArray} {own : String} {r : Option FieldType} (E : YE p m meth c cc nL s args own r w 20 A) {o index : Nat} (h1 : 0 ≤ o) (h2 : o < 1) (hlink : Cond.fieldLink own index "WhereTheSpoonWentModel" "wentTo" "[I" ∈ wG) (hd : decode cc pc = .ok (.getfield index, 3)) (kk : YY p l e R s m args below meth c w mcf 20 A Q nL σ (pc + 3) lv (.ref (w.1 19) :: rest)) : YY p l e R s m args below meth c w mcf 20 A Q nL σ pc lv (.ref (w.1 o) :: rest) :=
  y_get E (ci := 12) (k := 35) (N := 36) (C := RX12) (T := TX12) (Nat.lt_of_lt_of_le h2 (by decide)) (mc_X12 h1 h2) rfl wu_X12 (by decide) hlink rfl hd kk
