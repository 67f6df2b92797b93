/-! THE CLAIM OUT OF ONE WALK OF THE LAW'S BODY. Your part is whole_start (and what it stands on); all else here is the same for every law, but numbers. -/
def R_law : String := "WhereTheSpoonWentLaw"
def lw_P (b : Addr) (xs : List Int32) (args : Array Value) (s : State) : Prop := args = #[.ref b] ∧ s.IntsAt b xs ∧ xs.length ≤ 3584 ∧ (Jvm.Cond.and given_1 narrow_1).before args s = true
def lw_Q (_ : Array Value) (s : State) (o : Outcome) (t : State) : Prop := o = .returned (some (.int 1)) ∧ Framed s o t [] 600000 7302250
def lw_Z (below : List Frame) (a : Array Value) (s : State) : State → Prop := fun t => ∃ o, t.status = .running ∧ Ended t below o ∧ lw_Q a s o t
/-- the law's own end, with 1 on the stack, nothing written that was there before, its room as the claim has it -/
theorem lw_ret {p : Program} {l : Launch} {e : Env} {s : State} {m : MethodId} {below : List Frame} {meth : Method} {c : Code} {b : Nat} (hx : p.tables.exec = Jvm.exec) (hb : c.code = code) (hr : meth.sig.returnType = ret) (hlocks : meth.locks = false) {pc : Nat} {H : Heap} {ls : Array Slot} (hdg : decode code pc = .ok (.ireturn, 1)) : W p l e room_1 s m #[Value.ref b] below meth c H [] 600000 7302250 (lw_Z below #[Value.ref b] s) (F0 m pc ls [.int 1]) := by
  intro T hT X
  obtain ⟨fs, hret, hrun, hended, hW, hframe⟩ := X.leave (v := some (.int 1)) (hlocks := hlocks) (fun h => by rw [hr] at h; cases h)
  have hmeth' : T.vm.method? m = some meth := X.method'
  refine ⟨T.setFrames fs, ?_, .returned (some (.int 1)), hrun, hended, rfl, ⟨_, rfl⟩, hW, hframe⟩
  jvm_step X.here [X.here.top, hx, hb, hdg, hmeth', hr, ret, narrow_b1]
  (try refine ⟨rfl, ?_⟩); (try refine ⟨rfl, ?_⟩)
  first | (intro acts; rw [hret _ acts rfl rfl rfl]) | rw [hret _ _ rfl rfl rfl]
  exact Steps.refl _
/-- what holds at the law's entry: the machine, the code, the tables' words (any of lw_tbl by 'hts w (by decide +kernel)'), the script of L ints xs at the cell b, what the Statement gives of the start (any of its parts by flat_of_before) -/
def lw_At (p : Program) (s : State) (m : MethodId) (meth : Method) (c : Code) (b L : Nat) (xs : Nat → Int32) : Prop :=
  p.tables.exec = Jvm.exec ∧ c.code = code ∧ meth.sig.returnType = ret ∧ c.maxLocals = 4 ∧ s.vm.findClass R_law = some m.cls ∧ (∀ w ∈ lw_tbl, w.before #[Value.ref b] s = true) ∧ va_X b L xs s s.heap ∧ b < s.heap.size ∧ meth.locks = false ∧ (Jvm.Cond.and given_1 narrow_1).before #[Value.ref b] s = true
theorem lw_wG {args : Array Value} {s : State} (hts : ∀ w ∈ lw_tbl, w.before args s = true) : ∀ w ∈ wG, w.before args s = true := fun w h => hts w (wG_in w h)
abbrev lw_F : Jvm.Cond := Jvm.Cond.and given_1 narrow_1
abbrev lw_tm (i : Nat) : Term := .string RX4 (scIdx.getD i 0)
abbrev lw_tv (i : Nat) : Term := .field (lw_tm i) "java/lang/String" "value" "[B"
set_option maxRecDepth 100000 in
theorem lw_s1 : ∀ i, i < 12 → Cond.exactly (lw_tm i) "java/lang/String" ∈ flatC lw_F := by decide +kernel
set_option maxRecDepth 100000 in
theorem lw_s2 : ∀ i, i < 12 → Cond.eq (.field (lw_tm i) "java/lang/String" "coder" "B") (.int 0) ∈ flatC lw_F := by decide +kernel
set_option maxRecDepth 100000 in
theorem lw_s3 : ∀ i, i < 12 → Cond.arrayOf (lw_tv i) .byte ∈ flatC lw_F := by decide +kernel
set_option maxRecDepth 100000 in
theorem lw_s4 : ∀ i, i < 12 → Cond.eq (.length (lw_tv i)) (.int (Int32.ofNat (scLen.getD i 0))) ∈ flatC lw_F := by decide +kernel
set_option maxRecDepth 100000 in
theorem lw_s5 : ∀ i, i < 12 → ∀ j, j < scLen.getD i 0 → Cond.eq (.elem (lw_tv i) (.int (Int32.ofNat j))) (.int ((scByt.getD i []).getD j 0)) ∈ flatC lw_F := by decide +kernel
set_option maxRecDepth 100000 in
theorem lw_s6 : ∀ i, i < 12 → ∀ j, j < 12 → i ≠ j → Cond.not (Cond.eq (lw_tm i) (lw_tm j)) ∈ flatC lw_F ∨ Cond.not (Cond.eq (lw_tm j) (lw_tm i)) ∈ flatC lw_F := by decide +kernel
set_option maxRecDepth 100000 in
theorem lw_s7 : Cond.eq (.static "java/lang/String" "COMPACT_STRINGS" "Z") (.int 1) ∈ flatC lw_F ∧ Cond.isRef (.static "jdk/internal/util/Preconditions" "SIOOBE_FORMATTER" "Ljava/util/function/BiFunction;") ∈ flatC lw_F := by decide +kernel
set_option maxRecDepth 100000 in
set_option maxHeartbeats 4000000 in
theorem lw_classes {args : Array Value} {s : State} (hw : ∀ w ∈ wG, w.before args s = true) : ∃ (dC : Nat → ClassId) (dI : Nat → Nat → Nat), ∀ (k : Nat) (q : vw_C), vwCl[k]? = some q → u_Kn s q.1 q.2.1 q.2.2 (dC k) (dI k) := by
  obtain ⟨c0, i0, h0⟩ := u_known (C := RX0) (T := TX0) (N := 0) (n := 0) hw (fun x h => absurd h List.not_mem_nil) (hw _ wm_732)
  obtain ⟨c1, i1, h1⟩ := u_known (C := RX1) (T := TX1) (N := 8) (n := 8) hw wu_X1 (hw _ wm_717)
  obtain ⟨c2, i2, h2⟩ := u_known (C := RX2) (T := TX2) (N := 0) (n := 0) hw (fun x h => absurd h List.not_mem_nil) (hw _ wm_737)
  obtain ⟨c3, i3, h3⟩ := u_known (C := RX3) (T := TX3) (N := 10) (n := 10) hw wu_X3 (hw _ wm_706)
  obtain ⟨c4, i4, h4⟩ := u_known (C := RX4) (T := TX4) (N := 7) (n := 7) hw wu_X4 (hw _ wm_712)
  obtain ⟨c5, i5, h5⟩ := u_known (C := RX5) (T := TX5) (N := 0) (n := 0) hw (fun x h => absurd h List.not_mem_nil) (hw _ wm_725)
  obtain ⟨c6, i6, h6⟩ := u_known (C := RX6) (T := TX6) (N := 3) (n := 3) hw wu_X6 (hw _ wm_749)
  obtain ⟨c7, i7, h7⟩ := u_known (C := RX7) (T := TX7) (N := 0) (n := 0) hw (fun x h => absurd h List.not_mem_nil) (hw _ wm_723)
  obtain ⟨c8, i8, h8⟩ := u_known (C := RX8) (T := TX8) (N := 0) (n := 0) hw (fun x h => absurd h List.not_mem_nil) (hw _ wm_727)
  obtain ⟨c9, i9, h9⟩ := u_known (C := RX9) (T := TX9) (N := 5) (n := 5) hw wu_X9 (hw _ wm_741)
  obtain ⟨c10, i10, h10⟩ := u_known (C := RX10) (T := TX10) (N := 0) (n := 0) hw (fun x h => absurd h List.not_mem_nil) (hw _ wm_721)
  obtain ⟨c11, i11, h11⟩ := u_known (C := RX11) (T := TX11) (N := 14) (n := 14) hw wu_X11 (hw _ wm_1061)
  obtain ⟨c12, i12, h12⟩ := u_known (C := RX12) (T := TX12) (N := 36) (n := 36) hw wu_X12 (hw _ wm_1062)
  refine ⟨fun k => ([c0, c1, c2, c3, c4, c5, c6, c7, c8, c9, c10, c11, c12] : List ClassId).getD k c0, fun k => ([i0, i1, i2, i3, i4, i5, i6, i7, i8, i9, i10, i11, i12] : List (Nat → Nat)).getD k i0, ?_⟩
  intro k q hq
  match k, hq with
  | 0, hq => cases hq; exact h0
  | 1, hq => cases hq; exact h1
  | 2, hq => cases hq; exact h2
  | 3, hq => cases hq; exact h3
  | 4, hq => cases hq; exact h4
  | 5, hq => cases hq; exact h5
  | 6, hq => cases hq; exact h6
  | 7, hq => cases hq; exact h7
  | 8, hq => cases hq; exact h8
  | 9, hq => cases hq; exact h9
  | 10, hq => cases hq; exact h10
  | 11, hq => cases hq; exact h11
  | 12, hq => cases hq; exact h12
  | k + 13, hq => simp [vwCl] at hq
theorem lw_arr {args : Array Value} {s : State} {ty : FieldType} (h : (Cond.arrayClass ty).before args s = true) (hty : ∀ C, ty ≠ .object C) : ∃ cA, ArrOfT s cA ty ∧ va_RA s cA ty := by
  obtain ⟨c, k, comp, h1, h2, h3⟩ := Cond.arrayClass_spec h
  refine ⟨c, fun n z => ⟨fun k h => (by cases h), k, h2, comp, h3⟩, ?_⟩
  cases ty with
  | object C => exact absurd rfl (hty C)
  | _ => exact h1
theorem lw_over {args : Array Value} {s : State} {C : String} (h : (Cond.arrayOver (.object C)).before args s = true) : ∃ cA, ArrOfT s cA (.object C) ∧ va_RA s cA (.object C) := by
  obtain ⟨comp, c, k, h1, -, h2, h3, h4⟩ := Cond.arrayOver_spec h
  exact ⟨c, fun n z => ⟨fun k h => (by cases h), k, h2, comp, h3⟩, k, comp, h2, h3, h1, h4⟩
set_option maxRecDepth 100000 in
set_option maxHeartbeats 4000000 in
theorem lw_G {b : Addr} {s : State} (hts : ∀ w ∈ lw_tbl, w.before #[Value.ref b] s = true) (hgv : lw_F.before #[Value.ref b] s = true) : ∃ w : wT, yG w (fun q => s.heap.size ≤ q) s := by
  have hw := lw_wG hts
  have hs := flat_of_before _ hgv
  have hA : ∀ a : Nat, a < s.heap.size → ¬ (fun q => s.heap.size ≤ q) a := fun a h => Nat.not_le.mpr h
  obtain ⟨dC, dI, hKc⟩ := lw_classes hw
  obtain ⟨aB, hB⟩ := lw_arr (hw (.arrayClass .byte) wm_700) (fun C h => by cases h)
  obtain ⟨aI, hI⟩ := lw_arr (hw (.arrayClass .int) wm_698) (fun C h => by cases h)
  obtain ⟨aS, hS⟩ := lw_over (hts (.arrayOver (.object RX6)) (wT_1 _ (List.mem_of_getElem? (i := 112) rfl)))
  obtain ⟨aT, hT⟩ := lw_over (hts (.arrayOver (.object RX9)) (wT_1 _ (List.mem_of_getElem? (i := 80) rfl)))
  obtain ⟨aH, hH⟩ := lw_over (hts (.arrayOver (.object RX10)) (wT_1 _ (List.mem_of_getElem? (i := 78) rfl)))
  obtain ⟨adK, adV, hS1, hS2⟩ := vk_Sof (args := #[Value.ref b]) (s := s) (N := 12) (tm := lw_tm) (len := scLen) (byt := scByt) (A := fun q => s.heap.size ≤ q) sc_l31 (fun i hi => hs _ (lw_s1 i hi)) (fun i hi => hs _ (lw_s2 i hi)) (fun i hi => hs _ (lw_s3 i hi)) (fun i hi => hs _ (lw_s4 i hi)) (fun i hi j hj => hs _ (lw_s5 i hi j hj)) (fun i j hi hj hij => (lw_s6 i hi j hj hij).elim (fun h => Or.inl (hs _ h)) (fun h => Or.inr (hs _ h))) hA
  refine ⟨(fun _ => 0, fun k => ([aB, aI, aS, aT, aH] : List ClassId).getD k aB, (dC, dI), adK, adV), ⟨hKc, ?_⟩, ⟨?_, ?_, ?_⟩, hS1, ?_, ?_, ?_⟩
  · intro k q hq
    match k, hq with
    | 0, hq => cases hq; exact hB
    | 1, hq => cases hq; exact hI
    | 2, hq => cases hq; exact hS
    | 3, hq => cases hq; exact hT
    | 4, hq => cases hq; exact hH
    | k + 5, hq => simp [yTys] at hq
  · intro q hq
    simp only [yNest, List.mem_cons, List.not_mem_nil, or_false] at hq
    rcases hq with rfl | rfl | rfl | rfl | rfl | rfl | rfl | rfl | rfl | rfl | rfl | rfl | rfl | rfl | rfl | rfl
    · exact va_Nw.of rfl (hts (.methodLinkNest RX11 11 yX3_init RX11) (wT_1 _ (List.mem_of_getElem? (i := 30) rfl)))
    · exact va_Nw.of rfl (hts (.methodLinkNest RX11 33 yX4_init RX11) (wT_1 _ (List.mem_of_getElem? (i := 83) rfl)))
    · exact va_Nw.of rfl (hts (.methodLinkNest RX11 69 yX10_init RX11) (wT_1 _ (List.mem_of_getElem? (i := 152) rfl)))
    · exact va_Nw.of rfl (hts (.methodLinkNest RX11 72 yX7_init RX11) (wT_1 _ (List.mem_of_getElem? (i := 159) rfl)))
    · exact va_Nw.of rfl (hts (.methodLinkNest RX11 75 yX5_init RX11) (wT_1 _ (List.mem_of_getElem? (i := 166) rfl)))
    · exact va_Nw.of rfl (hts (.methodLinkNest RX11 78 yX8_init RX11) (wT_1 _ (List.mem_of_getElem? (i := 173) rfl)))
    · exact va_Nw.of rfl (hts (.methodLinkNest RX11 81 yX0_init RX11) (wT_1 _ (List.mem_of_getElem? (i := 180) rfl)))
    · exact va_Nw.of rfl (hts (.methodLinkNest RX11 84 yX2_init RX11) (wT_1 _ (List.mem_of_getElem? (i := 187) rfl)))
    · exact va_Nw.of rfl (hts (.methodLinkNest RX11 96 yX6_init RX11) (wT_1 _ (List.mem_of_getElem? (i := 230) rfl)))
    · exact va_Nw.of rfl (hts (.methodLinkNest RX7 3 yX10_init RX11) (wT_1 _ (List.mem_of_getElem? (i := 162) rfl)))
    · exact va_Nw.of rfl (hts (.methodLinkNest RX5 1 yX10_init RX11) (wT_1 _ (List.mem_of_getElem? (i := 169) rfl)))
    · exact va_Nw.of rfl (hts (.methodLinkNest RX2 3 yX10_init RX11) (wT_1 _ (List.mem_of_getElem? (i := 190) rfl)))
    · exact va_Nw.of rfl (hts (.methodLinkNest RX8 1 yX7_init RX11) (wT_1 _ (List.mem_of_getElem? (i := 176) rfl)))
    · exact va_Nw.of rfl (hts (.methodLinkNest RX0 3 yX5_init RX11) (wT_1 _ (List.mem_of_getElem? (i := 183) rfl)))
    · exact va_Nw.of rfl (hts (.methodLinkNest RX3 49 yX11_has RX11) (wT_3 _ (List.mem_of_getElem? (i := 102) rfl)))
    · exact va_Nw.of rfl (hts (.methodLinkNest RX1 34 yX11_has RX11) (wT_3 _ (List.mem_of_getElem? (i := 63) rfl)))
  · intro C hC
    simp only [yCast, List.mem_cons, List.not_mem_nil, or_false] at hC
    rcases hC with rfl | rfl | rfl | rfl | rfl
    · exact va_Nw.of rfl (hts (.castable RX7 RX10) (wT_6 _ (List.mem_of_getElem? (i := 91) rfl)))
    · exact va_Nw.of rfl (hts (.castable RX5 RX10) (wT_6 _ (List.mem_of_getElem? (i := 92) rfl)))
    · exact va_Nw.of rfl (hts (.castable RX8 RX10) (wT_6 _ (List.mem_of_getElem? (i := 93) rfl)))
    · exact va_Nw.of rfl (hts (.castable RX0 RX10) (wT_6 _ (List.mem_of_getElem? (i := 94) rfl)))
    · exact va_Nw.of rfl (hts (.castable RX2 RX10) (wT_6 _ (List.mem_of_getElem? (i := 95) rfl)))
  · intro C hC
    simp only [yOver, List.mem_cons, List.not_mem_nil, or_false] at hC
    rcases hC with rfl | rfl | rfl
    · exact (hts (.arrayOver (.object RX10)) (wT_1 _ (List.mem_of_getElem? (i := 78) rfl)))
    · exact (hts (.arrayOver (.object RX9)) (wT_1 _ (List.mem_of_getElem? (i := 80) rfl)))
    · exact (hts (.arrayOver (.object RX6)) (wT_1 _ (List.mem_of_getElem? (i := 112) rfl)))
  · intro i hi
    have hz := hS2 i hi
    match i, hi, hz with
    | 0, _, hz => exact vk_R.of (hts (.stringRef RX4 94 "cell") (wT_2 _ (List.mem_of_getElem? (i := 121) rfl))) hz
    | 1, _, hz => exact vk_R.of (hts (.stringRef RX4 100 "x") (wT_2 _ (List.mem_of_getElem? (i := 174) rfl))) hz
    | 2, _, hz => exact vk_R.of (hts (.stringRef RX4 102 "y") (wT_2 _ (List.mem_of_getElem? (i := 175) rfl))) hz
    | 3, _, hz => exact vk_R.of (hts (.stringRef RX4 104 "step") (wT_2 _ (List.mem_of_getElem? (i := 176) rfl))) hz
    | 4, _, hz => exact vk_R.of (hts (.stringRef RX4 106 "thing") (wT_2 _ (List.mem_of_getElem? (i := 177) rfl))) hz
    | 5, _, hz => exact vk_R.of (hts (.stringRef RX4 108 "more") (wT_2 _ (List.mem_of_getElem? (i := 178) rfl))) hz
    | 6, _, hz => exact vk_R.of (hts (.stringRef RX4 110 "or") (wT_2 _ (List.mem_of_getElem? (i := 179) rfl))) hz
    | 7, _, hz => exact vk_R.of (hts (.stringRef RX4 112 "and") (wT_2 _ (List.mem_of_getElem? (i := 180) rfl))) hz
    | 8, _, hz => exact vk_R.of (hts (.stringRef RX4 114 "not") (wT_2 _ (List.mem_of_getElem? (i := 181) rfl))) hz
    | 9, _, hz => exact vk_R.of (hts (.stringRef RX4 116 "blows") (wT_2 _ (List.mem_of_getElem? (i := 182) rfl))) hz
    | 10, _, hz => exact vk_R.of (hts (.stringRef RX4 118 "worth") (wT_2 _ (List.mem_of_getElem? (i := 183) rfl))) hz
    | 11, _, hz => exact vk_R.of (hts (.stringRef RX4 120 "hands") (wT_2 _ (List.mem_of_getElem? (i := 184) rfl))) hz
    | i + 12, hi, _ => exact absurd hi (by omega)
  · exact va_Zof (hts (.laysStatic "java/lang/String" "COMPACT_STRINGS" "Z") (wT_2 _ (List.mem_of_getElem? (i := 135) rfl))) (hw _ wm_1063) (va_eqi (hs _ lw_s7.1)) hA
  · exact va_Zqof (hts (.laysStatic "jdk/internal/util/Preconditions" "SIOOBE_FORMATTER" "Ljava/util/function/BiFunction;") (wT_2 _ (List.mem_of_getElem? (i := 151) rfl))) (hw _ wm_1064) (hs _ lw_s7.2) hA
theorem ap_last {α : Type} (X : List α) (e : α) : (List.range X.length).map (fun i => (X ++ [e])[i]?) = X.map some := by
  apply List.ext_getElem?
  intro j
  rw [List.getElem?_map, List.getElem?_map]
  by_cases hj : j < X.length
  · rw [List.getElem?_range hj, List.getElem?_eq_getElem hj]
    show some ((X ++ [e])[j]?) = _
    rw [List.getElem?_append_left hj, List.getElem?_eq_getElem hj]
    rfl
  · rw [List.getElem?_eq_none (by simp; omega), List.getElem?_eq_none (by omega)]
    rfl
theorem nd_range (n : Nat) : ∀ k, va_nd ((List.range' k n)) = true := by
  induction n with
  | zero => intro k; rfl
  | succ n ih =>
    intro k
    rw [List.range'_succ]
    simp only [va_nd, Bool.and_eq_true, decide_eq_true_eq]
    exact ⟨by simp [List.mem_range']; omega, ih _⟩
set_option maxRecDepth 100000 in
set_option maxHeartbeats 40000000 in
theorem whole_of {p : Program} {e : Env} {s : State} {m : MethodId} {below : List Frame} {meth : Method} {c : Code} (l : Launch) {b L : Nat} {xs : Nat → Int32} (hL : L ≤ 3584) (C0 : lw_At p s m meth c b L xs) {Inv : Hp → Hp → Prop} {KM : Hp → Prop} (hst : LSteps Inv) (hm1 : VX12_text (fun _ u => KM u) m1) (hin : ∀ u, KM u → Inv x0 u) : W p l e room_1 s m #[Value.ref b] below meth c s.heap [] 0 0 (lw_Z below #[Value.ref b] s) (entryFrame m ([Value.ref b] : List Value).toArray 4) := by
  obtain ⟨hx, hb, hr, hml, hown, hts, hX, hbl, hlocks, hgv⟩ := id C0
  obtain ⟨w, hG⟩ := lw_G hts hgv
  have hw := lw_wG hts
  have E : YE p m meth c code 4 s #[Value.ref b] RL ret w 0 (fun q => s.heap.size ≤ q) := ⟨⟨hx, hb, hml, hown, hw⟩, hG, fun i j hi _ _ => absurd hi (Nat.not_lt_zero i), fun k hk => absurd hk (Nat.not_lt_zero k), fun q h => h, hr, hlocks⟩
  have hl := lv_entry ([.ref b]) (n := 4) (Nat.le_of_ble_eq_true rfl)
  rw [lg_entry_eq]
  have key : YI p l e room_1 s m #[Value.ref b] below meth c w (fun q => s.heap.size ≤ q) (lw_Z below #[Value.ref b] s) 4 0 0 [] 0 [(0, .ref b)] [] := by
    refine yi_new (ci := 11) (fs := [.null, .null, .int 0, .null, .null, .int 0, .null, .null, .null, .null, .null, .null, .null, .null]) (C := RX11) (T := TX11) (N := 14) E rfl wu_X11 tyX11 tyX11_ok wm_1065 wm_1061 wm_116 (by intro j hj; rcases (show j = 0 ∨ j = 1 ∨ j = 2 ∨ j = 3 ∨ j = 4 ∨ j = 5 ∨ j = 6 ∨ j = 7 ∨ j = 8 ∨ j = 9 ∨ j = 10 ∨ j = 11 ∨ j = 12 ∨ j = 13 by omega) with rfl | rfl | rfl | rfl | rfl | rfl | rfl | rfl | rfl | rfl | rfl | rfl | rfl | rfl <;> rfl) ⟨Nat.le_of_ble_eq_true rfl, Nat.le_of_ble_eq_true rfl⟩ dL_law_0 (fun q0 => ?_)
    refine yi_dup E dL_law_3 rfl ?_
    refine yi_init (wsR := []) E [0] [] (kIX11 l w q0) ⟨callB_of 0 E.1.2.2.2.2 (gI wm_1066) rfl rfl rfl (E.1.2.2.2.2 _ wm_116) (E.1.2.2.2.2 _ wm_1067) (by decide +kernel) ⟨Nat.le_of_ble_eq_true rfl, Nat.le_of_ble_eq_true rfl⟩, rfl, E.1.2.2.2.2 _ wm_1068⟩ rfl rfl rfl rfl rfl (by decide) rfl rfl (Nat.le_of_ble_eq_true rfl) ⟨Nat.le_of_ble_eq_true rfl, Nat.le_of_ble_eq_true rfl⟩ dL_law_4 (fun ad had => ?_)
    refine yi_eq (ws' := yw (ad, w.2) xcf 55 x0) rfl ?_
    refine yi_astore_n (lv' := [(1, .ref q0), (0, .ref b)]) E dL_law_7 (by decide) rfl ?_
    refine yi_new (ci := 12) (fs := [.null, .int 0, .int 0, .null, .null, .null, .null, .null, .int 0, .null, .null, .int 0, .int 0, .int 0, .int 0, .int 0, .null, .null, .null, .null, .null, .int 0, .int 0, .int 0, .int 0, .null, .null, .int 0, .int 0, .int 0, .null, .null, .int 0, .int 0, .null, .null]) (C := RX12) (T := TX12) (N := 36) E rfl wu_X12 tyX12 tyX12_ok wm_1069 wm_1062 wm_479 (by intro j hj; rcases (show j = 0 ∨ j = 1 ∨ j = 2 ∨ j = 3 ∨ j = 4 ∨ j = 5 ∨ j = 6 ∨ j = 7 ∨ j = 8 ∨ j = 9 ∨ j = 10 ∨ j = 11 ∨ j = 12 ∨ j = 13 ∨ j = 14 ∨ j = 15 ∨ j = 16 ∨ j = 17 ∨ j = 18 ∨ j = 19 ∨ j = 20 ∨ j = 21 ∨ j = 22 ∨ j = 23 ∨ j = 24 ∨ j = 25 ∨ j = 26 ∨ j = 27 ∨ j = 28 ∨ j = 29 ∨ j = 30 ∨ j = 31 ∨ j = 32 ∨ j = 33 ∨ j = 34 ∨ j = 35 by omega) with rfl | rfl | rfl | rfl | rfl | rfl | rfl | rfl | rfl | rfl | rfl | rfl | rfl | rfl | rfl | rfl | rfl | rfl | rfl | rfl | rfl | rfl | rfl | rfl | rfl | rfl | rfl | rfl | rfl | rfl | rfl | rfl | rfl | rfl | rfl | rfl <;> rfl) ⟨Nat.le_of_ble_eq_true rfl, Nat.le_of_ble_eq_true rfl⟩ dL_law_8 (fun q1 => ?_)
    refine yi_dup E dL_law_11 rfl ?_
    have hlen : (yw (ad, w.2) xcf 55 x0).length = 55 := yw_len _ _ _ _
    have hnone : ∀ e9 : Nat × va_E, (yw (ad, w.2) xcf 55 x0 ++ [e9])[55]? = some e9 := fun e9 => by rw [List.getElem?_append_right (by rw [hlen]; exact Nat.le_refl _), hlen]; rfl
    refine yi_init (wsR := yw (ad, w.2) xcf 55 x0) E [55] (List.range' 0 55) (kIX12 l w q1 KM hm1) ⟨callB_of 0 E.1.2.2.2.2 (gI wm_1070) rfl rfl rfl (E.1.2.2.2.2 _ wm_479) (E.1.2.2.2.2 _ wm_1071) (by decide +kernel) ⟨Nat.le_of_ble_eq_true rfl, Nat.le_of_ble_eq_true rfl⟩, rfl, E.1.2.2.2.2 _ wm_1072⟩ (by simp only [List.map_cons, List.map_nil, hnone]) (by simp only [List.filterMap_cons, List.filterMap_nil, hnone]) rfl ?_ (nd_range 55 0) ?_ rfl rfl (Nat.le_of_ble_eq_true rfl) ⟨Nat.le_of_ble_eq_true rfl, Nat.le_of_ble_eq_true rfl⟩ dL_law_12 (fun u hu => ?_)
    · have h9 := ap_last (yw (ad, w.2) xcf 55 x0) (q1, .inr (12, [.null, .int 0, .int 0, .null, .null, .null, .null, .null, .int 0, .null, .null, .int 0, .int 0, .int 0, .int 0, .int 0, .null, .null, .null, .null, .null, .int 0, .int 0, .int 0, .int 0, .null, .null, .int 0, .int 0, .int 0, .null, .null, .int 0, .int 0, .null, .null]))
      rw [hlen] at h9
      exact h9
    · intro i hi hi2
      have h1 := List.mem_range'.mp hi
      have h2 := List.mem_singleton.mp hi2
      obtain ⟨z, hz, rfl⟩ := h1
      omega
    obtain ⟨hu0, hKM⟩ := hu
    refine yi_astore_n (lv' := [(2, .ref q1), (1, .ref q0), (0, .ref b)]) E dL_law_15 (by decide) rfl ?_
    refine yi_iconst (v := 0) E dL_law_16 (by decide) ?_
    refine yi_istore_n (lv' := [(3, .int 0), (2, .ref q1), (1, .ref q0), (0, .ref b)]) E dL_law_17 (by decide) rfl ?_
    intro H locs ls hP hD hS hl
    have hD1 : va_D (fun q => s.heap.size ≤ q) (yw (ad, w.2) xcf 55 x0) := ⟨fun i j x y hi hj hxy => hD.1 i j x y (by rw [List.getElem?_append_left (by rw [yw_len]; exact (yw_inv hi).1)]; exact hi) (by rw [List.getElem?_append_left (by rw [yw_len]; exact (yw_inv hj).1)]; exact hj) hxy, fun k q hk => hD.2 k q (by rw [List.getElem?_append_left (by rw [yw_len]; exact (yw_inv hk).1)]; exact hk)⟩
    have up : ∀ {k : Nat} {q : Nat × va_E}, (yw (u.1, w.2) mcf 20 u.2)[k]? = some q → (yw (ad, w.2) xcf 55 x0 ++ yw (u.1, w.2) mcf 20 u.2)[55 + k]? = some q := fun {k q} hk => by
      rw [List.getElem?_append_right (by rw [yw_len]; omega), yw_len, Nat.add_sub_cancel_left]
      exact hk
    have hD2 : va_D (fun q => s.heap.size ≤ q) (yw (u.1, w.2) mcf 20 u.2) := ⟨fun i j x y hi hj hxy => by have := hD.1 _ _ x y (up hi) (up hj) hxy; omega, fun k q hk => hD.2 _ q (up hk)⟩
    have hap : ∀ i j, i < 55 → j < 20 → ad i ≠ u.1 j := by
      intro i j hi hj he
      have h1 : (yw (ad, w.2) xcf 55 x0 ++ yw (u.1, w.2) mcf 20 u.2)[i]? = some (ad i, xcf (ad, w.2) i (x0 i)) := by
        rw [List.getElem?_append_left (by rw [yw_len]; exact hi)]
        exact yw_get hi
      have := hD.1 _ _ _ _ h1 (up (yw_get hj)) he
      omega
    have E2 : LE p m meth c s #[Value.ref b] (ad, w.2) (u.1, w.2) (fun q => s.heap.size ≤ q) b L xs := ⟨E.1, hG.ad rfl, rfl, ⟨(yw_sub hD1).1, (yw_sub hD2).1, hap, (yw_sub hD1).2, (yw_sub hD2).2⟩, fun q h => h, hX, hbl, Nat.not_le.mpr hbl, hL⟩
    refine W.widen (k := 600000) (n := 7302250) (Nat.le_of_ble_eq_true rfl) (Nat.le_of_ble_eq_true rfl) ?_
    have hlp := law_loop (l := l) (e := e) (below := below) (Q := lw_Z below #[Value.ref b] s) E2 hst (fun H locs ls hS => va_forget hS.2.2 (lw_ret hx hb hr hlocks dL_law_1623)) (L + 8) 0 0 x0 u.2 rfl (by omega) (by omega) (hin _ hKM)
    have hq0 : ad 0 = q0 := had
    have hq1 : u.1 0 = q1 := hu0
    refine hlp H locs ls hP hS ?_
    rw [show ((ad, w.2) : wT).1 0 = q0 from hq0, show ((u.1, w.2) : wT).1 0 = q1 from hq1]
    exact hl
  exact key s.heap [] _ (fun k q h => by simp at h) ⟨fun i j p q h => by simp at h, fun k q h => by simp at h⟩ va_S.rf hl
