/-! ===== the law: the two worlds side by side, and the script ===== -/
def LE (p : Program) (m : MethodId) (meth : Method) (c : Code) (s : State) (args : Array Value) (w w2 : wT) (A : Nat → Prop) (b L : Nat) (xs : Nat → Int32) : Prop :=
  CallFix p m c code 4 s args wG RL ∧ yG w A s ∧ w2.2 = w.2 ∧ (yOk w 55 ∧ yOk w2 20 ∧ (∀ i j, i < 55 → j < 20 → w.1 i ≠ w2.1 j) ∧ (∀ k, k < 55 → A (w.1 k)) ∧ ∀ k, k < 20 → A (w2.1 k)) ∧ (∀ q : Nat, s.heap.size ≤ q → A q) ∧ (va_X b L xs s s.heap ∧ b < s.heap.size ∧ ¬ A b ∧ L ≤ 3584)
def YL (p : Program) (l : Launch) (e : Env) (s : State) (m : MethodId) (args : Array Value) (below : List Frame) (meth : Method) (c : Code) (w w2 : wT) (A : Nat → Prop) (Q : State → Prop) (σ τ : Hp) (pc : Nat) (lv : List (Nat × Value)) (st : List Value) : Prop :=
  ∀ (H : Heap) (locs : List Loc) (ls : Array Slot), va_P w.2.2.1 vwCl (yw w xcf 55 σ ++ yw w2 mcf 20 τ) H → va_S A s.heap H locs → lv_has ls 4 lv → W p l e room_1 s m args below meth c H locs 600000 7302250 Q (F0 m pc ls st)
theorem lg_cmp_self {x : Int64} : lg_cmp x x = 0 := (lg_cmp_eq x x).mpr rfl
section YLROWS
variable {p : Program} {l : Launch} {e : Env} {s : State} {m : MethodId} {args : Array Value} {below : List Frame} {meth : Method} {c : Code}
variable {w w2 : wT} {A : Nat → Prop} {Q : State → Prop} {σ τ : Hp} {pc b L : Nat} {xs : Nat → Int32} {lv : List (Nat × Value)} {st rest : List Value}
theorem yl_iconst (E : LE p m meth c s args w w2 A b L xs) {i : Int} {v : Int32} (hd : decode code pc = .ok (.iconst i, 1)) (hv : Int32.ofInt i = v) (k : YL p l e s m args below meth c w w2 A Q σ τ (pc + 1) lv (.int v :: rest)) : YL p l e s m args below meth c w w2 A Q σ τ pc lv (rest) := fun H locs ls hP hS hl => lv_iconst E.1.1 E.1.2.1 hd hv (k H locs ls hP hS hl)
theorem yl_bipush (E : LE p m meth c s args w w2 A b L xs) {i : Int} {v : Int32} (hd : decode code pc = .ok (.bipush i, 2)) (hv : (Int8.ofInt i).toInt32 = v) (k : YL p l e s m args below meth c w w2 A Q σ τ (pc + 2) lv (.int v :: rest)) : YL p l e s m args below meth c w w2 A Q σ τ pc lv (rest) := fun H locs ls hP hS hl => lv_bipush E.1.1 E.1.2.1 hd hv (k H locs ls hP hS hl)
theorem yl_iload_n (E : LE p m meth c s args w w2 A b L xs) {kk : Fin 4} {x : Int32} (hd : decode code pc = .ok (.iload_n kk, 1)) (j : Nat) (hj : lv[j]? = some ((kk : Nat), .int x)) (k : YL p l e s m args below meth c w w2 A Q σ τ (pc + 1) lv (.int x :: rest)) : YL p l e s m args below meth c w w2 A Q σ τ pc lv (rest) := fun H locs ls hP hS hl => lv_iload_n E.1.1 E.1.2.1 hd rfl (lv_at hl j hj) (k H locs ls hP hS hl)
theorem yl_aload_n (E : LE p m meth c s args w w2 A b L xs) {kk : Fin 4} {x : Nat} (hd : decode code pc = .ok (.aload_n kk, 1)) (j : Nat) (hj : lv[j]? = some ((kk : Nat), .ref x)) (k : YL p l e s m args below meth c w w2 A Q σ τ (pc + 1) lv (.ref x :: rest)) : YL p l e s m args below meth c w w2 A Q σ τ pc lv (rest) := fun H locs ls hP hS hl => lv_aload_n E.1.1 E.1.2.1 hd rfl (lv_at hl j hj) (k H locs ls hP hS hl)
theorem yl_iadd (E : LE p m meth c s args w w2 A b L xs) {x y : Int32} (hd : decode code pc = .ok (.iadd, 1)) (k : YL p l e s m args below meth c w w2 A Q σ τ (pc + 1) lv (.int (x + y) :: rest)) : YL p l e s m args below meth c w w2 A Q σ τ pc lv (.int y :: .int x :: rest) := fun H locs ls hP hS hl => lv_iadd E.1.1 E.1.2.1 hd (k H locs ls hP hS hl)
theorem yl_isub (E : LE p m meth c s args w w2 A b L xs) {x y : Int32} (hd : decode code pc = .ok (.isub, 1)) (k : YL p l e s m args below meth c w w2 A Q σ τ (pc + 1) lv (.int (x - y) :: rest)) : YL p l e s m args below meth c w w2 A Q σ τ pc lv (.int y :: .int x :: rest) := fun H locs ls hP hS hl => lv_isub E.1.1 E.1.2.1 hd (k H locs ls hP hS hl)
theorem yl_iand (E : LE p m meth c s args w w2 A b L xs) {x y : Int32} (hd : decode code pc = .ok (.iand, 1)) (k : YL p l e s m args below meth c w w2 A Q σ τ (pc + 1) lv (.int (x &&& y) :: rest)) : YL p l e s m args below meth c w w2 A Q σ τ pc lv (.int y :: .int x :: rest) := fun H locs ls hP hS hl => lv_iand E.1.1 E.1.2.1 hd (k H locs ls hP hS hl)
theorem yl_lcmp (E : LE p m meth c s args w w2 A b L xs) {x y : Int64} (hd : decode code pc = .ok (.lcmp, 1)) (k : YL p l e s m args below meth c w w2 A Q σ τ (pc + 1) lv (.int (lg_cmp x y) :: rest)) : YL p l e s m args below meth c w w2 A Q σ τ pc lv (.long y :: .long x :: rest) := fun H locs ls hP hS hl => W.lcmp E.1.1 E.1.2.1 hd (k H locs ls hP hS hl)
theorem yl_sld (E : LE p m meth c s args w w2 A b L xs) {i : Int32} (hin : vp_in i L) (hd : decode code pc = .ok (.iaload, 1)) (k : YL p l e s m args below meth c w w2 A Q σ τ (pc + 1) lv (.int (xs i.toNatClampNeg) :: rest)) : YL p l e s m args below meth c w w2 A Q σ τ pc lv (.int i :: .ref b :: rest) := fun H locs ls hP hS hl => va_sld E.1.1 E.1.2.1 E.2.2.2.2.2.1 E.2.2.2.2.2.2.1 E.2.2.2.2.2.2.2.1 hS hin hd (k H locs ls hP hS hl)
theorem yl_slen (E : LE p m meth c s args w w2 A b L xs) (hd : decode code pc = .ok (.arraylength, 1)) (k : YL p l e s m args below meth c w w2 A Q σ τ (pc + 1) lv (.int (nI L) :: rest)) : YL p l e s m args below meth c w w2 A Q σ τ pc lv (.ref b :: rest) := fun H locs ls hP hS hl => va_slen E.1.1 E.1.2.1 E.2.2.2.2.2.1 E.2.2.2.2.2.2.1 E.2.2.2.2.2.2.2.1 hS hd (k H locs ls hP hS hl)
theorem yl_goto (E : LE p m meth c s args w w2 A b L xs) {off : Int} {tgt : Nat} (hd : decode code pc = .ok (.goto off, 3)) (ht : (pc : Int) + off = (tgt : Int)) (k : YL p l e s m args below meth c w w2 A Q σ τ tgt lv st) : YL p l e s m args below meth c w w2 A Q σ τ pc lv st := fun H locs ls hP hS hl => lv_goto E.1.1 E.1.2.1 hd ht (k H locs ls hP hS hl)
theorem yl_icmp_gt (E : LE p m meth c s args w w2 A b L xs) {x y : Int32} {off : Int} {tgt : Nat} (hd : decode code pc = .ok (.if_icmp .gt off, 3)) (ht : (pc : Int) + off = (tgt : Int)) (kt : y < x → YL p l e s m args below meth c w w2 A Q σ τ tgt lv rest) (kf : ¬ (y < x) → YL p l e s m args below meth c w w2 A Q σ τ (pc + 3) lv rest) : YL p l e s m args below meth c w w2 A Q σ τ pc lv (.int y :: .int x :: rest) := fun H locs ls hP hS hl => lv_icmp_gt E.1.1 E.1.2.1 hd ht (fun h => kt h H locs ls hP hS hl) (fun h => kf h H locs ls hP hS hl)
theorem yl_icmp_eq (E : LE p m meth c s args w w2 A b L xs) {x y : Int32} {off : Int} {tgt : Nat} (hd : decode code pc = .ok (.if_icmp .eq off, 3)) (ht : (pc : Int) + off = (tgt : Int)) (kt : x = y → YL p l e s m args below meth c w w2 A Q σ τ tgt lv rest) (kf : ¬ x = y → YL p l e s m args below meth c w w2 A Q σ τ (pc + 3) lv rest) : YL p l e s m args below meth c w w2 A Q σ τ pc lv (.int y :: .int x :: rest) := fun H locs ls hP hS hl => lv_icmp_eq E.1.1 E.1.2.1 hd ht (fun h => kt h H locs ls hP hS hl) (fun h => kf h H locs ls hP hS hl)
theorem yl_if_eq (E : LE p m meth c s args w w2 A b L xs) {x : Int32} {off : Int} {tgt : Nat} (hd : decode code pc = .ok (.ifCond .eq off, 3)) (ht : (pc : Int) + off = (tgt : Int)) (kt : x = 0 → YL p l e s m args below meth c w w2 A Q σ τ tgt lv rest) (kf : ¬ x = 0 → YL p l e s m args below meth c w w2 A Q σ τ (pc + 3) lv rest) : YL p l e s m args below meth c w w2 A Q σ τ pc lv (.int x :: rest) := fun H locs ls hP hS hl => lv_if_eq E.1.1 E.1.2.1 hd ht (fun h => kt h H locs ls hP hS hl) (fun h => kf h H locs ls hP hS hl)
theorem yl_iinc (E : LE p m meth c s args w w2 A b L xs) {i : Nat} {z : Int} {x v : Int32} {lv' : List (Nat × Value)} (hd : decode code pc = .ok (.iinc i z, 3)) (j : Nat) (hj : lv[j]? = some (i, .int x)) (hv : x + Int32.ofInt z = v) (hn : i < 4) (hl' : (i, Value.int v) :: lv.filter (fun q => !(q.1 == i) && !(q.1 + 1 == i && q.2.category == 2)) = lv') (k : YL p l e s m args below meth c w w2 A Q σ τ (pc + 3) lv' rest) : YL p l e s m args below meth c w w2 A Q σ τ pc lv rest := fun H locs _ hP hS hl => lv_iinc E.1.1 E.1.2.1 hd hl hj hv hn hl' (fun ls hl2 => k H locs ls hP hS hl2)
theorem yl_tableIn (E : LE p m meth c s args w w2 A b L xs) {dflt lo hi : Int} {offs : Array Int} {len : Nat} {x : Int32} {z off : Int} {j tgt : Nat} (hd : decode code pc = .ok (.tableswitch dflt lo hi offs, len)) (hx : x.toInt = z) (hj : z = lo + (j : Int) ∧ z ≤ hi) (ho : offs[j]? = some off) (ht : (pc : Int) + off = (tgt : Int)) (k : YL p l e s m args below meth c w w2 A Q σ τ tgt lv rest) : YL p l e s m args below meth c w w2 A Q σ τ pc lv (.int x :: rest) := fun H locs ls hP hS hl => lv_tableIn E.1.1 E.1.2.1 hd (by omega) (by omega) (by rw [show (x.toInt - lo).toNat = j by omega]; exact ho) ht (k H locs ls hP hS hl)
theorem yl_tableOut (E : LE p m meth c s args w w2 A b L xs) {dflt lo hi : Int} {offs : Array Int} {len : Nat} {x : Int32} {tgt : Nat} (hd : decode code pc = .ok (.tableswitch dflt lo hi offs, len)) (h : x.toInt < lo ∨ hi < x.toInt) (ht : (pc : Int) + dflt = (tgt : Int)) (k : YL p l e s m args below meth c w w2 A Q σ τ tgt lv rest) : YL p l e s m args below meth c w w2 A Q σ τ pc lv (.int x :: rest) := fun H locs ls hP hS hl => lv_tableOut E.1.1 E.1.2.1 hd h ht (k H locs ls hP hS hl)
theorem yl_P1 {H : Heap} (hP : va_P w.2.2.1 vwCl (yw w xcf 55 σ ++ yw w2 mcf 20 τ) H) : va_P w.2.2.1 vwCl (yw w xcf 55 σ) H := fun k q hk => hP k q (by rw [List.getElem?_append_left (by rw [yw_len]; exact (yw_inv hk).1)]; exact hk)
theorem yl_P2 {H : Heap} (hP : va_P w.2.2.1 vwCl (yw w xcf 55 σ ++ yw w2 mcf 20 τ) H) : va_P w.2.2.1 vwCl (yw w2 mcf 20 τ) H := fun k q hk => hP (55 + k) q (by rw [List.getElem?_append_right (by rw [yw_len]; omega), yw_len, Nat.add_sub_cancel_left]; exact hk)
theorem yl_lt1 {H : Heap} (hP : va_P w.2.2.1 vwCl (yw w xcf 55 σ ++ yw w2 mcf 20 τ) H) {k : Nat} (hk : k < 55) : w.1 k < H.size := (yl_P1 hP k _ (yw_get hk)).lt
theorem yl_lt2 {H : Heap} (hP : va_P w.2.2.1 vwCl (yw w xcf 55 σ ++ yw w2 mcf 20 τ) H) {k : Nat} (hk : k < 20) : w2.1 k < H.size := (yl_P2 hP k _ (yw_get hk)).lt
theorem yl_freeX (E : LE p m meth c s args w w2 A b L xs) {H : Heap} {locs : List Loc} (hS : va_S A s.heap H locs) : ∀ q, YA w 55 H.size q → A q := by
  rintro q (⟨k, hk, rfl⟩ | h)
  · exact E.2.2.2.1.2.2.2.1 k hk
  · exact E.2.2.2.2.1 q (Nat.le_trans hS.1 h)
theorem yl_runX {y : MethodName} {bb : ByteArray} {nL' d k index : Nat} {r' : Option FieldType} {As : List Value} {Qc : (Nat → Prop) → Array Value → State → Outcome → State → Prop} (E : LE p m meth c s args w w2 A b L xs) (hM : yMet l w xcf 55 y bb nL' r' d (.ref (w.1 0) :: As) σ Qc) (cw : CallW room_1 s args RL RX11 index y bb nL' r' (.code y bb nL' r' :: wG) (yRm d) 0 0 k) (hk : As.length = k) (hst : st = As.reverse ++ .ref (w.1 0) :: rest) (hr : (rest.map fun v => v.category).sum ≤ 8) (hd : decode code pc = .ok (.invokevirtual index, 3)) :
    ∀ (H : Heap) (locs : List Loc) (ls : Array Slot), va_P w.2.2.1 vwCl (yw w xcf 55 σ ++ yw w2 mcf 20 τ) H → va_S A s.heap H locs → lv_has ls 4 lv → va_Run p l e room_1 s m args below meth c H locs 600000 7302250 0 0 (F0 m pc ls st) rest (Qc (YA w 55 H.size) (Value.ref (w.1 0) :: As).toArray) (YA w 55 H.size) := fun H locs ls hP hS hl => by
  have hP1 := yl_P1 hP
  refine va_runV E.1 (hM H.size) cw ⟨yPre.blind, va_recv E.2.1.1 hP1 (ci := 11) (q0 := 0) rfl (by rw [yw_get (by decide), xc_X11 (by decide) (by decide)]), fun U hU hW => ?_⟩ rfl hk hl.1 hst (lv_room hr) hd ⟨Nat.le_refl _, Nat.le_refl _⟩
  have hg := E.2.1.at (U := U) hW (B := YA w 55 H.size) (fun q h1 h2 => by rw [hU]; exact hS.2.1 q h1 h2) (yl_freeX E hS)
  exact ⟨rfl, by rw [hU], by rw [hU]; exact hP1, hg⟩
theorem yl_callXi {K : Int32 → Hp → Prop} {a : Array Value} (E : LE p m meth c s args w w2 A b L xs) (hR : ∀ (H : Heap) (locs : List Loc) (ls : Array Slot), va_P w.2.2.1 vwCl (yw w xcf 55 σ ++ yw w2 mcf 20 τ) H → va_S A s.heap H locs → lv_has ls 4 lv → va_Run p l e room_1 s m args below meth c H locs 600000 7302250 0 0 (F0 m pc ls st) rest (yQi w xcf 55 K (YA w 55 H.size) a) (YA w 55 H.size)) (kk : ∀ (v : Int32) (u : Hp), K v u → YL p l e s m args below meth c w w2 A Q u τ (pc + 3) lv (.int v :: rest)) : YL p l e s m args below meth c w w2 A Q σ τ pc lv st := fun H locs ls hP hS hl => by
  refine va_calli (S := Hp) (post := K) (B := yB w xcf 55) (A1 := YA w 55 H.size) (hR H locs ls hP hS hl) hS (fun q _ h => yl_freeX E hS q h) (yl_freeX E hS) (fun v u t H1 locs1 ht _ hk hB _ hk1 hS1 => kk v u hk H1 locs1 ls (by
    have hB1 : va_P w.2.2.1 vwCl (yw w xcf 55 u) H1 := by rw [← ht]; exact hB
    have hB2 : va_P w.2.2.1 vwCl (yw w2 mcf 20 τ) H1 := (yl_P2 hP).kept (fun k q hq => by
      obtain ⟨hk, hqe⟩ := yw_inv hq
      rw [hqe]
      refine hk1 _ (yl_lt2 hP hk) ?_
      rintro (⟨i, hi, he⟩ | h)
      · exact E.2.2.2.1.2.2.1 i k hi hk he.symm
      · exact absurd (yl_lt2 hP hk) (Nat.not_lt.mpr h))
    exact hB1.app hB2) hS1 hl)
theorem yl_callXl {K : Int64 → Hp → Prop} {a : Array Value} (E : LE p m meth c s args w w2 A b L xs) (hR : ∀ (H : Heap) (locs : List Loc) (ls : Array Slot), va_P w.2.2.1 vwCl (yw w xcf 55 σ ++ yw w2 mcf 20 τ) H → va_S A s.heap H locs → lv_has ls 4 lv → va_Run p l e room_1 s m args below meth c H locs 600000 7302250 0 0 (F0 m pc ls st) rest (yQl w xcf 55 K (YA w 55 H.size) a) (YA w 55 H.size)) (kk : ∀ (v : Int64) (u : Hp), K v u → YL p l e s m args below meth c w w2 A Q u τ (pc + 3) lv (.long v :: rest)) : YL p l e s m args below meth c w w2 A Q σ τ pc lv st := fun H locs ls hP hS hl => by
  refine va_calll (S := Hp) (post := K) (B := yB w xcf 55) (A1 := YA w 55 H.size) (hR H locs ls hP hS hl) hS (fun q _ h => yl_freeX E hS q h) (yl_freeX E hS) (fun v u t H1 locs1 ht _ hk hB _ hk1 hS1 => kk v u hk H1 locs1 ls (by
    have hB1 : va_P w.2.2.1 vwCl (yw w xcf 55 u) H1 := by rw [← ht]; exact hB
    have hB2 : va_P w.2.2.1 vwCl (yw w2 mcf 20 τ) H1 := (yl_P2 hP).kept (fun k q hq => by
      obtain ⟨hk, hqe⟩ := yw_inv hq
      rw [hqe]
      refine hk1 _ (yl_lt2 hP hk) ?_
      rintro (⟨i, hi, he⟩ | h)
      · exact E.2.2.2.1.2.2.1 i k hi hk he.symm
      · exact absurd (yl_lt2 hP hk) (Nat.not_lt.mpr h))
    exact hB1.app hB2) hS1 hl)
theorem yl_freeM (E : LE p m meth c s args w w2 A b L xs) {H : Heap} {locs : List Loc} (hS : va_S A s.heap H locs) : ∀ q, YA w2 20 H.size q → A q := by
  rintro q (⟨k, hk, rfl⟩ | h)
  · exact E.2.2.2.1.2.2.2.2 k hk
  · exact E.2.2.2.2.1 q (Nat.le_trans hS.1 h)
theorem yl_runM {y : MethodName} {bb : ByteArray} {nL' d k index : Nat} {r' : Option FieldType} {As : List Value} {Qc : (Nat → Prop) → Array Value → State → Outcome → State → Prop} (E : LE p m meth c s args w w2 A b L xs) (hM : yMet l w2 mcf 20 y bb nL' r' d (.ref (w2.1 0) :: As) τ Qc) (cw : CallW room_1 s args RL RX12 index y bb nL' r' (.code y bb nL' r' :: wG) (yRm d) 0 0 k) (hk : As.length = k) (hst : st = As.reverse ++ .ref (w2.1 0) :: rest) (hr : (rest.map fun v => v.category).sum ≤ 8) (hd : decode code pc = .ok (.invokevirtual index, 3)) :
    ∀ (H : Heap) (locs : List Loc) (ls : Array Slot), va_P w.2.2.1 vwCl (yw w xcf 55 σ ++ yw w2 mcf 20 τ) H → va_S A s.heap H locs → lv_has ls 4 lv → va_Run p l e room_1 s m args below meth c H locs 600000 7302250 0 0 (F0 m pc ls st) rest (Qc (YA w2 20 H.size) (Value.ref (w2.1 0) :: As).toArray) (YA w2 20 H.size) := fun H locs ls hP hS hl => by
  have hP1 := yl_P2 hP
  refine va_runV E.1 (hM H.size) cw ⟨yPre.blind, va_recv E.2.1.1 hP1 (ci := 12) (q0 := 0) rfl (by rw [yw_get (by decide), mc_X12 (by decide) (by decide)]), fun U hU hW => ?_⟩ rfl hk hl.1 hst (lv_room hr) hd ⟨Nat.le_refl _, Nat.le_refl _⟩
  have hg := E.2.1.at (U := U) hW (B := YA w2 20 H.size) (fun q h1 h2 => by rw [hU]; exact hS.2.1 q h1 h2) (yl_freeM E hS)
  exact ⟨rfl, by rw [hU], by rw [hU, show w2.2.2.1 = w.2.2.1 by rw [E.2.2.1]]; exact hP1, hg.ad E.2.2.1⟩
theorem yl_callMi {K : Int32 → Hp → Prop} {a : Array Value} (E : LE p m meth c s args w w2 A b L xs) (hR : ∀ (H : Heap) (locs : List Loc) (ls : Array Slot), va_P w.2.2.1 vwCl (yw w xcf 55 σ ++ yw w2 mcf 20 τ) H → va_S A s.heap H locs → lv_has ls 4 lv → va_Run p l e room_1 s m args below meth c H locs 600000 7302250 0 0 (F0 m pc ls st) rest (yQi w2 mcf 20 K (YA w2 20 H.size) a) (YA w2 20 H.size)) (kk : ∀ (v : Int32) (u : Hp), K v u → YL p l e s m args below meth c w w2 A Q σ u (pc + 3) lv (.int v :: rest)) : YL p l e s m args below meth c w w2 A Q σ τ pc lv st := fun H locs ls hP hS hl => by
  refine va_calli (S := Hp) (post := K) (B := yB w2 mcf 20) (A1 := YA w2 20 H.size) (hR H locs ls hP hS hl) hS (fun q _ h => yl_freeM E hS q h) (yl_freeM E hS) (fun v u t H1 locs1 ht _ hk hB _ hk1 hS1 => kk v u hk H1 locs1 ls (by
    have hB1 : va_P w.2.2.1 vwCl (yw w2 mcf 20 u) H1 := by
      have := hB
      rw [yB, ht, show w2.2.2.1 = w.2.2.1 by rw [E.2.2.1]] at this
      exact this
    have hB2 : va_P w.2.2.1 vwCl (yw w xcf 55 σ) H1 := (yl_P1 hP).kept (fun k q hq => by
      obtain ⟨hk, hqe⟩ := yw_inv hq
      rw [hqe]
      refine hk1 _ (yl_lt1 hP hk) ?_
      rintro (⟨i, hi, he⟩ | h)
      · exact E.2.2.2.1.2.2.1 k i hk hi he
      · exact absurd (yl_lt1 hP hk) (Nat.not_lt.mpr h))
    exact hB2.app hB1) hS1 hl)
theorem yl_callMl {K : Int64 → Hp → Prop} {a : Array Value} (E : LE p m meth c s args w w2 A b L xs) (hR : ∀ (H : Heap) (locs : List Loc) (ls : Array Slot), va_P w.2.2.1 vwCl (yw w xcf 55 σ ++ yw w2 mcf 20 τ) H → va_S A s.heap H locs → lv_has ls 4 lv → va_Run p l e room_1 s m args below meth c H locs 600000 7302250 0 0 (F0 m pc ls st) rest (yQl w2 mcf 20 K (YA w2 20 H.size) a) (YA w2 20 H.size)) (kk : ∀ (v : Int64) (u : Hp), K v u → YL p l e s m args below meth c w w2 A Q σ u (pc + 3) lv (.long v :: rest)) : YL p l e s m args below meth c w w2 A Q σ τ pc lv st := fun H locs ls hP hS hl => by
  refine va_calll (S := Hp) (post := K) (B := yB w2 mcf 20) (A1 := YA w2 20 H.size) (hR H locs ls hP hS hl) hS (fun q _ h => yl_freeM E hS q h) (yl_freeM E hS) (fun v u t H1 locs1 ht _ hk hB _ hk1 hS1 => kk v u hk H1 locs1 ls (by
    have hB1 : va_P w.2.2.1 vwCl (yw w2 mcf 20 u) H1 := by
      have := hB
      rw [yB, ht, show w2.2.2.1 = w.2.2.1 by rw [E.2.2.1]] at this
      exact this
    have hB2 : va_P w.2.2.1 vwCl (yw w xcf 55 σ) H1 := (yl_P1 hP).kept (fun k q hq => by
      obtain ⟨hk, hqe⟩ := yw_inv hq
      rw [hqe]
      refine hk1 _ (yl_lt1 hP hk) ?_
      rintro (⟨i, hi, he⟩ | h)
      · exact E.2.2.2.1.2.2.1 k i hk hi he
      · exact absurd (yl_lt1 hP hk) (Nat.not_lt.mpr h))
    exact hB2.app hB1) hS1 hl)
end YLROWS
