section YSTR
variable {p : Program} {l : Launch} {e : Env} {R : Room} {s : State} {m : MethodId} {args : Array Value} {below : List Frame} {meth : Method} {c : Code}
variable {w : wT} {cf : cT} {n : Nat} {A : Nat → Prop} {Q : State → Prop} {nL : Nat} {σ : Hp} {pc : Nat} {lv : List (Nat × Value)} {st rest : List Value} {cc : ByteArray} {own : String} {r : Option FieldType}
theorem y_sval (E : YE p m meth c cc nL s args own r w n A) {i index : Nat} (hi : i < 12) (hlink : Cond.fieldLink own index "java/lang/String" "value" "[B" ∈ wG) (hd : decode cc pc = .ok (.getfield index, 3)) (kk : YY p l e R s m args below meth c w cf n A Q nL σ (pc + 3) lv (.ref (w.2.2.2.2 i) :: rest)) : YY p l e R s m args below meth c w cf n A Q nL σ pc lv (.ref (w.2.2.2.1 i) :: rest) := fun H locs ls hP hS hl =>
  vk_getf E.1.1 E.1.2.1 (E.2.1.2.2.1.1 i hi).2.2.1 hS E.1.2.2.2.1 (E.1.2.2.2.2 _ hlink) (fun _ h => h) hd (kk H locs ls hP hS hl)
theorem y_scod (E : YE p m meth c cc nL s args own r w n A) {i index : Nat} (hi : i < 12) (hlink : Cond.fieldLink own index "java/lang/String" "coder" "B" ∈ wG) (hd : decode cc pc = .ok (.getfield index, 3)) (kk : YY p l e R s m args below meth c w cf n A Q nL σ (pc + 3) lv (.int 0 :: rest)) : YY p l e R s m args below meth c w cf n A Q nL σ pc lv (.ref (w.2.2.2.1 i) :: rest) := fun H locs ls hP hS hl =>
  vk_getf E.1.1 E.1.2.1 (E.2.1.2.2.1.1 i hi).2.1 hS E.1.2.2.2.1 (E.1.2.2.2.2 _ hlink) (fun _ h => h) hd (kk H locs ls hP hS hl)
theorem y_slen (E : YE p m meth c cc nL s args own r w n A) {i : Nat} (hi : i < 12) (hd : decode cc pc = .ok (.arraylength, 1)) (kk : YY p l e R s m args below meth c w cf n A Q nL σ (pc + 1) lv (.int (nI (scLen.getD i 0)) :: rest)) : YY p l e R s m args below meth c w cf n A Q nL σ pc lv (.ref (w.2.2.2.2 i) :: rest) := fun H locs ls hP hS hl =>
  va_tlen E.1.1 E.1.2.1 (E.2.1.2.2.1.1 i hi).2.2.2 hS rfl hd (kk H locs ls hP hS hl)
theorem y_sbyt (E : YE p m meth c cc nL s args own r w n A) {i : Nat} {k : Int32} (hi : i < 12) (hk : vp_in k (scLen.getD i 0)) (hd : decode cc pc = .ok (.baload, 1)) (kk : YY p l e R s m args below meth c w cf n A Q nL σ (pc + 1) lv (.int ((scByt.getD i []).getD k.toNatClampNeg 0) :: rest)) : YY p l e R s m args below meth c w cf n A Q nL σ pc lv (.int k :: .ref (w.2.2.2.2 i) :: rest) := fun H locs ls hP hS hl =>
  va_tb E.1.1 E.1.2.1 (E.2.1.2.2.1.1 i hi).2.2.2 hS hk rfl hd (kk H locs ls hP hS hl)
theorem y_scom (E : YE p m meth c cc nL s args own r w n A) {index : Nat} (hlink : Cond.fieldLink own index "java/lang/String" "COMPACT_STRINGS" "Z" ∈ wG) (hd : decode cc pc = .ok (.getstatic index, 3)) (kk : YY p l e R s m args below meth c w cf n A Q nL σ (pc + 3) lv (.int 1 :: rest)) : YY p l e R s m args below meth c w cf n A Q nL σ pc lv rest := fun H locs ls hP hS hl =>
  va_gets E.1.1 E.1.2.1 E.2.1.2.2.2.2.1 hS E.1.2.2.2.1 (E.1.2.2.2.2 _ hlink) (fun _ h => h) hd (kk H locs ls hP hS hl)
theorem y_sfmt (E : YE p m meth c cc nL s args own r w n A) {index : Nat} (hlink : Cond.fieldLink own index "jdk/internal/util/Preconditions" "SIOOBE_FORMATTER" "Ljava/util/function/BiFunction;" ∈ wG) (hd : decode cc pc = .ok (.getstatic index, 3)) (kk : ∀ v : Value, (v = .null ∨ ∃ t : Nat, v = .ref t) → YY p l e R s m args below meth c w cf n A Q nL σ (pc + 3) lv (v :: rest)) : YY p l e R s m args below meth c w cf n A Q nL σ pc lv rest := fun H locs ls hP hS hl => by
  rcases E.2.1.2.2.2.2.2 with h | ⟨t, h⟩
  · exact va_gets E.1.1 E.1.2.1 h hS E.1.2.2.2.1 (E.1.2.2.2.2 _ hlink) (fun _ h => h) hd (kk _ (Or.inl rfl) H locs ls hP hS hl)
  · exact va_gets E.1.1 E.1.2.1 h hS E.1.2.2.2.1 (E.1.2.2.2.2 _ hlink) (fun _ h => h) hd (kk _ (Or.inr ⟨t, rfl⟩) H locs ls hP hS hl)
theorem y_i2c (E : YE p m meth c cc nL s args own r w n A) {x : Int32} (hd : decode cc pc = .ok (.i2c, 1)) (k : YY p l e R s m args below meth c w cf n A Q nL σ (pc + 1) lv (.int (x.toUInt32.toUInt16.toUInt32.toInt32) :: rest)) : YY p l e R s m args below meth c w cf n A Q nL σ pc lv (.int x :: rest) := fun H locs ls hP hS hl => lv_i2c E.1.1 E.1.2.1 hd rfl (k H locs ls hP hS hl)
variable {y : MethodName} {b : ByteArray} {nL' d k i index : Nat} {r' : Option FieldType} {As : List Value} {Qc : (Nat → Prop) → Array Value → State → Outcome → State → Prop}
theorem y_runVs (E : YE p m meth c cc nL s args own r w n A) (hM : yMet l w cf n y b nL' r' d (.ref (w.2.2.2.1 i) :: As) σ Qc) (cw : CallW R s args own "java/lang/String" index y b nL' r' (.code y b nL' r' :: wG) (yRm d) 0 0 k) (hi : i < 12) (hk : As.length = k) (hst : st = As.reverse ++ .ref (w.2.2.2.1 i) :: rest) (hr : (rest.map fun v => v.category).sum ≤ 8) (hd : decode cc pc = .ok (.invokevirtual index, 3)) : YR p l e R s m args below meth c w cf n A nL σ pc lv st rest (Value.ref (w.2.2.2.1 i) :: As).toArray Qc := fun H locs ls hP hS hl =>
  va_runV E.1 (hM H.size) cw ⟨yPre.blind, vk_recv E.2.1.2.2.1 hi hS, y_pre E hP hS rfl⟩ rfl hk hl.1 hst (lv_room hr) hd ⟨Nat.zero_le _, Nat.zero_le _⟩
end YSTR
theorem sc_sh : ∀ i, i < 12 → nI (scLen.getD i 0) >>> ((0 : Int32) &&& 31) = nI (scLen.getD i 0) := by decide +kernel
theorem sc_ch : ∀ i, i < 12 → ∀ k, k < scLen.getD i 0 → (((scByt.getD i []).getD k 0) &&& 255).toUInt32.toUInt16.toUInt32.toInt32 = (scByt.getD i []).getD k 0 ∧ narrow .char (.int ((scByt.getD i []).getD k 0)) = .int ((scByt.getD i []).getD k 0) := by decide +kernel
theorem sc_l31 : ∀ i, i < 12 → scLen.getD i 0 < 2 ^ 31 := by decide +kernel
theorem dJ0_coder_7d493_0 : decode cJ0_coder_7d493 0 = .ok (.getstatic 38, 3) := by decide +kernel
theorem dJ0_coder_7d493_3 : decode cJ0_coder_7d493 3 = .ok (.ifCond .eq 10, 3) := by decide +kernel
theorem dJ0_coder_7d493_6 : decode cJ0_coder_7d493 6 = .ok (.aload_n 0, 1) := by decide +kernel
theorem dJ0_coder_7d493_7 : decode cJ0_coder_7d493 7 = .ok (.getfield 15, 3) := by decide +kernel
theorem dJ0_coder_7d493_10 : decode cJ0_coder_7d493 10 = .ok (.goto 4, 3) := by decide +kernel
theorem dJ0_coder_7d493_13 : decode cJ0_coder_7d493 13 = .ok (.iconst 1, 1) := by decide +kernel
theorem dJ0_coder_7d493_14 : decode cJ0_coder_7d493 14 = .ok (.ireturn, 1) := by decide +kernel
theorem dJ0_isLatin1_aae02_0 : decode cJ0_isLatin1_aae02 0 = .ok (.getstatic 38, 3) := by decide +kernel
theorem dJ0_isLatin1_aae02_3 : decode cJ0_isLatin1_aae02 3 = .ok (.ifCond .eq 14, 3) := by decide +kernel
theorem dJ0_isLatin1_aae02_6 : decode cJ0_isLatin1_aae02 6 = .ok (.aload_n 0, 1) := by decide +kernel
theorem dJ0_isLatin1_aae02_7 : decode cJ0_isLatin1_aae02 7 = .ok (.getfield 15, 3) := by decide +kernel
theorem dJ0_isLatin1_aae02_10 : decode cJ0_isLatin1_aae02 10 = .ok (.ifCond .ne 7, 3) := by decide +kernel
theorem dJ0_isLatin1_aae02_13 : decode cJ0_isLatin1_aae02 13 = .ok (.iconst 1, 1) := by decide +kernel
theorem dJ0_isLatin1_aae02_14 : decode cJ0_isLatin1_aae02 14 = .ok (.goto 4, 3) := by decide +kernel
theorem dJ0_isLatin1_aae02_17 : decode cJ0_isLatin1_aae02 17 = .ok (.iconst 0, 1) := by decide +kernel
theorem dJ0_isLatin1_aae02_18 : decode cJ0_isLatin1_aae02 18 = .ok (.ireturn, 1) := by decide +kernel
theorem dJ0_length_8abf5_0 : decode cJ0_length_8abf5 0 = .ok (.aload_n 0, 1) := by decide +kernel
theorem dJ0_length_8abf5_1 : decode cJ0_length_8abf5 1 = .ok (.getfield 9, 3) := by decide +kernel
theorem dJ0_length_8abf5_4 : decode cJ0_length_8abf5 4 = .ok (.arraylength, 1) := by decide +kernel
theorem dJ0_length_8abf5_5 : decode cJ0_length_8abf5 5 = .ok (.aload_n 0, 1) := by decide +kernel
theorem dJ0_length_8abf5_6 : decode cJ0_length_8abf5 6 = .ok (.invokevirtual 335, 3) := by decide +kernel
theorem dJ0_length_8abf5_9 : decode cJ0_length_8abf5 9 = .ok (.ishr, 1) := by decide +kernel
theorem dJ0_length_8abf5_10 : decode cJ0_length_8abf5 10 = .ok (.ireturn, 1) := by decide +kernel
theorem dJ3_checkIndex_8e157_0 : decode cJ3_checkIndex_8e157 0 = .ok (.iload_n 0, 1) := by decide +kernel
theorem dJ3_checkIndex_8e157_1 : decode cJ3_checkIndex_8e157 1 = .ok (.ifCond .lt 8, 3) := by decide +kernel
theorem dJ3_checkIndex_8e157_4 : decode cJ3_checkIndex_8e157 4 = .ok (.iload_n 0, 1) := by decide +kernel
theorem dJ3_checkIndex_8e157_5 : decode cJ3_checkIndex_8e157 5 = .ok (.iload_n 1, 1) := by decide +kernel
theorem dJ3_checkIndex_8e157_6 : decode cJ3_checkIndex_8e157 6 = .ok (.if_icmp .lt 10, 3) := by decide +kernel
theorem dJ3_checkIndex_8e157_9 : decode cJ3_checkIndex_8e157 9 = .ok (.aload_n 2, 1) := by decide +kernel
theorem dJ3_checkIndex_8e157_10 : decode cJ3_checkIndex_8e157 10 = .ok (.iload_n 0, 1) := by decide +kernel
theorem dJ3_checkIndex_8e157_11 : decode cJ3_checkIndex_8e157 11 = .ok (.iload_n 1, 1) := by decide +kernel
theorem dJ3_checkIndex_8e157_12 : decode cJ3_checkIndex_8e157 12 = .ok (.invokestatic 95, 3) := by decide +kernel
theorem dJ3_checkIndex_8e157_15 : decode cJ3_checkIndex_8e157 15 = .ok (.athrow, 1) := by decide +kernel
theorem dJ3_checkIndex_8e157_16 : decode cJ3_checkIndex_8e157 16 = .ok (.iload_n 0, 1) := by decide +kernel
theorem dJ3_checkIndex_8e157_17 : decode cJ3_checkIndex_8e157 17 = .ok (.ireturn, 1) := by decide +kernel
theorem dJ0_checkIndex_df160_0 : decode cJ0_checkIndex_df160 0 = .ok (.iload_n 0, 1) := by decide +kernel
theorem dJ0_checkIndex_df160_1 : decode cJ0_checkIndex_df160 1 = .ok (.iload_n 1, 1) := by decide +kernel
theorem dJ0_checkIndex_df160_2 : decode cJ0_checkIndex_df160 2 = .ok (.getstatic 1053, 3) := by decide +kernel
theorem dJ0_checkIndex_df160_5 : decode cJ0_checkIndex_df160 5 = .ok (.invokestatic 1059, 3) := by decide +kernel
theorem dJ0_checkIndex_df160_8 : decode cJ0_checkIndex_df160 8 = .ok (.pop, 1) := by decide +kernel
theorem dJ0_checkIndex_df160_9 : decode cJ0_checkIndex_df160 9 = .ok (.return_, 1) := by decide +kernel
theorem dJ1_charAt_3b067_0 : decode cJ1_charAt_3b067 0 = .ok (.iload_n 1, 1) := by decide +kernel
theorem dJ1_charAt_3b067_1 : decode cJ1_charAt_3b067 1 = .ok (.aload_n 0, 1) := by decide +kernel
theorem dJ1_charAt_3b067_2 : decode cJ1_charAt_3b067 2 = .ok (.arraylength, 1) := by decide +kernel
theorem dJ1_charAt_3b067_3 : decode cJ1_charAt_3b067 3 = .ok (.invokestatic 9, 3) := by decide +kernel
theorem dJ1_charAt_3b067_6 : decode cJ1_charAt_3b067 6 = .ok (.aload_n 0, 1) := by decide +kernel
theorem dJ1_charAt_3b067_7 : decode cJ1_charAt_3b067 7 = .ok (.iload_n 1, 1) := by decide +kernel
theorem dJ1_charAt_3b067_8 : decode cJ1_charAt_3b067 8 = .ok (.baload, 1) := by decide +kernel
theorem dJ1_charAt_3b067_9 : decode cJ1_charAt_3b067 9 = .ok (.sipush 255, 3) := by decide +kernel
theorem dJ1_charAt_3b067_12 : decode cJ1_charAt_3b067 12 = .ok (.iand, 1) := by decide +kernel
theorem dJ1_charAt_3b067_13 : decode cJ1_charAt_3b067 13 = .ok (.i2c, 1) := by decide +kernel
theorem dJ1_charAt_3b067_14 : decode cJ1_charAt_3b067 14 = .ok (.ireturn, 1) := by decide +kernel
theorem dJ0_charAt_5068e_0 : decode cJ0_charAt_5068e 0 = .ok (.aload_n 0, 1) := by decide +kernel
theorem dJ0_charAt_5068e_1 : decode cJ0_charAt_5068e 1 = .ok (.invokevirtual 492, 3) := by decide +kernel
theorem dJ0_charAt_5068e_4 : decode cJ0_charAt_5068e 4 = .ok (.ifCond .eq 12, 3) := by decide +kernel
theorem dJ0_charAt_5068e_7 : decode cJ0_charAt_5068e 7 = .ok (.aload_n 0, 1) := by decide +kernel
theorem dJ0_charAt_5068e_8 : decode cJ0_charAt_5068e 8 = .ok (.getfield 9, 3) := by decide +kernel
theorem dJ0_charAt_5068e_11 : decode cJ0_charAt_5068e 11 = .ok (.iload_n 1, 1) := by decide +kernel
theorem dJ0_charAt_5068e_12 : decode cJ0_charAt_5068e 12 = .ok (.invokestatic 495, 3) := by decide +kernel
theorem dJ0_charAt_5068e_15 : decode cJ0_charAt_5068e 15 = .ok (.ireturn, 1) := by decide +kernel
theorem dJ0_charAt_5068e_16 : decode cJ0_charAt_5068e 16 = .ok (.aload_n 0, 1) := by decide +kernel
theorem dJ0_charAt_5068e_17 : decode cJ0_charAt_5068e 17 = .ok (.getfield 9, 3) := by decide +kernel
theorem dJ0_charAt_5068e_20 : decode cJ0_charAt_5068e 20 = .ok (.iload_n 1, 1) := by decide +kernel
theorem dJ0_charAt_5068e_21 : decode cJ0_charAt_5068e 21 = .ok (.invokestatic 498, 3) := by decide +kernel
theorem dJ0_charAt_5068e_24 : decode cJ0_charAt_5068e 24 = .ok (.ireturn, 1) := by decide +kernel
set_option maxRecDepth 100000 in
set_option maxHeartbeats 4000000 in
theorem kJ0_coder (l : Launch) (w : wT) (hw : yOk w 55) (σ : Hp) (i : Nat) (hi : i < 12) (K : Int32 → Hp → Prop) (hv : K 0 σ) : yMet l w xcf 55 yJ0_coder_7d493 cJ0_coder_7d493 1 (some .byte) 1 [.ref (w.2.2.2.1 i)] σ (yQi w xcf 55 K) := by
  refine y_startF (lv0 := [(0, .ref (w.2.2.2.1 i))]) (by decide +kernel) (own := RJ0) rfl hw (Nat.le_of_ble_eq_true rfl) rfl (fun p e s m below meth c A E => ?_)
  refine y_scom E wm_1119 dJ0_coder_7d493_0 ?_
  refine y_if_eq (tgt := 13) E dJ0_coder_7d493_3 (by decide) (fun h => absurd h (by decide)) (fun _ => ?_)
  refine y_aload_n E dJ0_coder_7d493_6 0 rfl ?_
  refine y_scod E hi wm_1120 dJ0_coder_7d493_7 ?_
  refine y_goto (tgt := 14) E dJ0_coder_7d493_10 (by decide) ?_
  exact y_nret E dJ0_coder_7d493_14 (by decide) hv
set_option maxRecDepth 100000 in
set_option maxHeartbeats 4000000 in
theorem kJ0_isLatin1 (l : Launch) (w : wT) (hw : yOk w 55) (σ : Hp) (i : Nat) (hi : i < 12) (K : Int32 → Hp → Prop) (hv : K 1 σ) : yMet l w xcf 55 yJ0_isLatin1_aae02 cJ0_isLatin1_aae02 1 (some .boolean) 1 [.ref (w.2.2.2.1 i)] σ (yQi w xcf 55 K) := by
  refine y_startF (lv0 := [(0, .ref (w.2.2.2.1 i))]) (by decide +kernel) (own := RJ0) rfl hw (Nat.le_of_ble_eq_true rfl) rfl (fun p e s m below meth c A E => ?_)
  refine y_scom E wm_1119 dJ0_isLatin1_aae02_0 ?_
  refine y_if_eq (tgt := 17) E dJ0_isLatin1_aae02_3 (by decide) (fun h => absurd h (by decide)) (fun _ => ?_)
  refine y_aload_n E dJ0_isLatin1_aae02_6 0 rfl ?_
  refine y_scod E hi wm_1120 dJ0_isLatin1_aae02_7 ?_
  refine y_if_ne (tgt := 17) E dJ0_isLatin1_aae02_10 (by decide) (fun h => absurd rfl h) (fun _ => ?_)
  refine y_iconst (v := 1) E dJ0_isLatin1_aae02_13 (by decide) ?_
  refine y_goto (tgt := 18) E dJ0_isLatin1_aae02_14 (by decide) ?_
  exact y_nret E dJ0_isLatin1_aae02_18 (by decide) hv
set_option maxRecDepth 100000 in
set_option maxHeartbeats 4000000 in
theorem kJ0_length (l : Launch) (w : wT) (hw : yOk w 55) (σ : Hp) (i : Nat) (hi : i < 12) (K : Int32 → Hp → Prop) (hv : K (nI (scLen.getD i 0)) σ) : yMet l w xcf 55 yJ0_length_8abf5 cJ0_length_8abf5 1 (some .int) 2 [.ref (w.2.2.2.1 i)] σ (yQi w xcf 55 K) := by
  refine y_startF (lv0 := [(0, .ref (w.2.2.2.1 i))]) (by decide +kernel) (own := RJ0) rfl hw (Nat.le_of_ble_eq_true rfl) rfl (fun p e s m below meth c A E => ?_)
  refine y_aload_n E dJ0_length_8abf5_0 0 rfl ?_
  refine y_sval E hi wm_1121 dJ0_length_8abf5_1 ?_
  refine y_slen E hi dJ0_length_8abf5_4 ?_
  refine y_aload_n E dJ0_length_8abf5_5 0 rfl ?_
  refine y_calli E (y_runVs E (rest := [.int (nI (scLen.getD i 0))]) (kJ0_coder l w E.2.2.1 σ i hi (fun v u => v = 0 ∧ u = σ) ⟨rfl, rfl⟩) (y_cwV 0 E.1.2.2.2.2 wm_1122 wm_1123 wm_1124 wm_1063 wm_1125 (by decide +kernel) (yRm_le (by decide) (by decide))) hi rfl rfl (Nat.le_of_ble_eq_true rfl) dJ0_length_8abf5_6) (fun v u h => ?_)
  obtain ⟨rfl, rfl⟩ := h
  refine y_ishr E dJ0_length_8abf5_9 ?_
  exact y_iret E dJ0_length_8abf5_10 (by rw [sc_sh i hi]; exact hv)
set_option maxRecDepth 100000 in
set_option maxHeartbeats 4000000 in
theorem kJ3_checkIndex (l : Launch) (w : wT) (hw : yOk w 55) (σ : Hp) (k n : Int32) (v : Value) (hk : ¬ k < 0 ∧ k < n) (hvv : v = .null ∨ ∃ t : Nat, v = .ref t) (K : Int32 → Hp → Prop) (hv : K k σ) : yMet l w xcf 55 yJ3_checkIndex_8e157 cJ3_checkIndex_8e157 3 (some .int) 1 [.int k, .int n, v] σ (yQi w xcf 55 K) := by
  have hlen : (lg_sl [.int k, .int n, v]).length ≤ 3 := by rcases hvv with rfl | ⟨t, rfl⟩ <;> exact Nat.le_of_ble_eq_true rfl
  refine y_startF (lv0 := [(0, .int k), (1, .int n), (2, v)]) (by decide +kernel) (own := RJ3) rfl hw hlen rfl (fun p e s m below meth c A E => ?_)
  refine y_iload_n E dJ3_checkIndex_8e157_0 0 rfl ?_
  refine y_if_lt (tgt := 9) E dJ3_checkIndex_8e157_1 (by decide) (fun h => absurd h hk.1) (fun _ => ?_)
  refine y_iload_n E dJ3_checkIndex_8e157_4 0 rfl ?_
  refine y_iload_n E dJ3_checkIndex_8e157_5 1 rfl ?_
  refine y_icmp_lt (tgt := 16) E dJ3_checkIndex_8e157_6 (by decide) (fun _ => ?_) (fun h => absurd hk.2 h)
  refine y_iload_n E dJ3_checkIndex_8e157_16 0 rfl ?_
  exact y_iret E dJ3_checkIndex_8e157_17 hv
set_option maxRecDepth 100000 in
set_option maxHeartbeats 4000000 in
theorem kJ0_checkIndex (l : Launch) (w : wT) (hw : yOk w 55) (σ : Hp) (k n : Int32) (hk : ¬ k < 0 ∧ k < n) (K : Hp → Prop) (hv : K σ) : yMet l w xcf 55 yJ0_checkIndex_df160 cJ0_checkIndex_df160 2 none 2 [.int k, .int n] σ (yQv w xcf 55 K) := by
  refine y_startF (lv0 := [(0, .int k), (1, .int n)]) (by decide +kernel) (own := RJ0) rfl hw (Nat.le_of_ble_eq_true rfl) rfl (fun p e s m below meth c A E => ?_)
  refine y_iload_n E dJ0_checkIndex_df160_0 0 rfl ?_
  refine y_iload_n E dJ0_checkIndex_df160_1 1 rfl ?_
  refine y_sfmt E wm_1126 dJ0_checkIndex_df160_2 (fun v hvv => ?_)
  refine y_calli E (y_runS E (rest := []) (As := [.int k, .int n, v]) (kJ3_checkIndex l w E.2.2.1 σ k n v hk hvv (fun _ u => u = σ) rfl) (y_cwF 3 E.1.2.2.2.2 wm_1127 wm_1128 wm_1064 wm_1129 (by decide +kernel) (yRm_le (by decide) (by decide))) rfl rfl (Nat.le_of_ble_eq_true rfl) dJ0_checkIndex_df160_5) (fun v u h => ?_)
  subst h
  refine y_pop E dJ0_checkIndex_df160_8 rfl ?_
  exact y_vret E dJ0_checkIndex_df160_9 hv
set_option maxRecDepth 100000 in
set_option maxHeartbeats 4000000 in
theorem kJ1_charAt (l : Launch) (w : wT) (hw : yOk w 55) (σ : Hp) (i : Nat) (k : Int32) (hi : i < 12) (hk : vp_in k (scLen.getD i 0)) (K : Int32 → Hp → Prop) (hv : K ((scByt.getD i []).getD k.toNatClampNeg 0) σ) : yMet l w xcf 55 yJ1_charAt_3b067 cJ1_charAt_3b067 2 (some .char) 3 [.ref (w.2.2.2.2 i), .int k] σ (yQi w xcf 55 K) := by
  refine y_startF (lv0 := [(0, .ref (w.2.2.2.2 i)), (1, .int k)]) (by decide +kernel) (own := RJ1) rfl hw (Nat.le_of_ble_eq_true rfl) rfl (fun p e s m below meth c A E => ?_)
  obtain ⟨j, hj, hjk⟩ := vp_in_of hk (sc_l31 i hi)
  have hk2 : ¬ k < 0 ∧ k < nI (scLen.getD i 0) := by rw [hjk]; exact ⟨nI_pos (Nat.lt_trans hj (sc_l31 i hi)), nI_lt hj (sc_l31 i hi)⟩
  have hc := sc_ch i hi k.toNatClampNeg (vp_in_lt hk)
  refine y_iload_n E dJ1_charAt_3b067_0 1 rfl ?_
  refine y_aload_n E dJ1_charAt_3b067_1 0 rfl ?_
  refine y_slen E hi dJ1_charAt_3b067_2 ?_
  refine y_callv E (y_runS E (rest := []) (kJ0_checkIndex l w E.2.2.1 σ k (nI (scLen.getD i 0)) hk2 (fun u => u = σ) rfl) (y_cwF 2 E.1.2.2.2.2 wm_1130 wm_1131 wm_1063 wm_1132 (by decide +kernel) (yRm_le (by decide) (by decide))) rfl rfl (Nat.le_of_ble_eq_true rfl) dJ1_charAt_3b067_3) (fun u h => ?_)
  subst h
  refine y_aload_n E dJ1_charAt_3b067_6 0 rfl ?_
  refine y_iload_n E dJ1_charAt_3b067_7 1 rfl ?_
  refine y_sbyt E hi hk dJ1_charAt_3b067_8 ?_
  refine y_sipush (v := 255) E dJ1_charAt_3b067_9 (by decide) ?_
  refine y_iand E dJ1_charAt_3b067_12 ?_
  refine y_i2c E dJ1_charAt_3b067_13 ?_
  rw [hc.1]
  exact y_nret E dJ1_charAt_3b067_14 hc.2 hv
set_option maxRecDepth 100000 in
set_option maxHeartbeats 4000000 in
theorem kJ0_charAt (l : Launch) (w : wT) (hw : yOk w 55) (σ : Hp) (i : Nat) (k : Int32) (hi : i < 12) (hk : vp_in k (scLen.getD i 0)) (K : Int32 → Hp → Prop) (hv : K ((scByt.getD i []).getD k.toNatClampNeg 0) σ) : yMet l w xcf 55 yJ0_charAt_5068e cJ0_charAt_5068e 2 (some .char) 4 [.ref (w.2.2.2.1 i), .int k] σ (yQi w xcf 55 K) := by
  refine y_startF (lv0 := [(0, .ref (w.2.2.2.1 i)), (1, .int k)]) (by decide +kernel) (own := RJ0) rfl hw (Nat.le_of_ble_eq_true rfl) rfl (fun p e s m below meth c A E => ?_)
  have hc := sc_ch i hi k.toNatClampNeg (vp_in_lt hk)
  refine y_aload_n E dJ0_charAt_5068e_0 0 rfl ?_
  refine y_calli E (y_runVs E (rest := []) (kJ0_isLatin1 l w E.2.2.1 σ i hi (fun v u => v = 1 ∧ u = σ) ⟨rfl, rfl⟩) (y_cwV 0 E.1.2.2.2.2 wm_1133 wm_1134 wm_1135 wm_1063 wm_1136 (by decide +kernel) (yRm_le (by decide) (by decide))) hi rfl rfl (Nat.le_of_ble_eq_true rfl) dJ0_charAt_5068e_1) (fun v u h => ?_)
  obtain ⟨rfl, rfl⟩ := h
  refine y_if_eq (tgt := 16) E dJ0_charAt_5068e_4 (by decide) (fun h => absurd h (by decide)) (fun _ => ?_)
  refine y_aload_n E dJ0_charAt_5068e_7 0 rfl ?_
  refine y_sval E hi wm_1121 dJ0_charAt_5068e_8 ?_
  refine y_iload_n E dJ0_charAt_5068e_11 1 rfl ?_
  refine y_calli E (y_runS E (rest := []) (As := [.ref (w.2.2.2.2 i), .int k]) (kJ1_charAt l w E.2.2.1 u i k hi hk (fun v u' => v = (scByt.getD i []).getD k.toNatClampNeg 0 ∧ u' = u) ⟨rfl, rfl⟩) (y_cwF 2 E.1.2.2.2.2 wm_1137 wm_1138 wm_1139 wm_1140 (by decide +kernel) (yRm_le (by decide) (by decide))) rfl rfl (Nat.le_of_ble_eq_true rfl) dJ0_charAt_5068e_12) (fun v u' h => ?_)
  obtain ⟨rfl, rfl⟩ := h
  exact y_nret E dJ0_charAt_5068e_15 hc.2 hv
theorem rS_length {p : Program} {l : Launch} {e : Env} {d' : Nat} {s : State} {m : MethodId} {args : Array Value} {below : List Frame} {meth : Method} {c : Code} {w : wT} {A : Nat → Prop} {nL : Nat} {σ : Hp} {pc : Nat} {lv : List (Nat × Value)} {rest : List Value} {cc : ByteArray} {own : String} {r : Option FieldType} {index i : Nat} {K : Int32 → Hp → Prop} (E : YE p m meth c cc nL s args own r w 55 A) (hdd : 5 + 1 ≤ d') (hv : VS_length K σ i) (hlink : Cond.methodLink own index yJ0_length_8abf5 ∈ wG) (hr : (rest.map fun v => v.category).sum ≤ 8) (hd : decode cc pc = .ok (.invokevirtual index, 3)) : YR p l e (yRm d') s m args below meth c w xcf 55 A nL σ pc lv (.ref (w.2.2.2.1 i) :: rest) rest (#[.ref (w.2.2.2.1 i)]) (yQi w xcf 55 K) :=
  y_runVs E (rest := rest) (kJ0_length l w E.2.2.1 σ i hv.1 K hv.2) (y_cwV 0 E.1.2.2.2.2 hlink wm_1141 wm_1142 wm_1063 wm_1143 (by decide +kernel) (yRm_le (by omega) (by decide))) hv.1 rfl rfl hr hd
theorem rS_charAt {p : Program} {l : Launch} {e : Env} {d' : Nat} {s : State} {m : MethodId} {args : Array Value} {below : List Frame} {meth : Method} {c : Code} {w : wT} {A : Nat → Prop} {nL : Nat} {σ : Hp} {pc : Nat} {lv : List (Nat × Value)} {rest : List Value} {cc : ByteArray} {own : String} {r : Option FieldType} {index i : Nat} {k : Int32} {K : Int32 → Hp → Prop} (E : YE p m meth c cc nL s args own r w 55 A) (hdd : 5 + 1 ≤ d') (hv : VS_charAt K σ i k) (hlink : Cond.methodLink own index yJ0_charAt_5068e ∈ wG) (hr : (rest.map fun v => v.category).sum ≤ 8) (hd : decode cc pc = .ok (.invokevirtual index, 3)) : YR p l e (yRm d') s m args below meth c w xcf 55 A nL σ pc lv (.int k :: .ref (w.2.2.2.1 i) :: rest) rest (#[.ref (w.2.2.2.1 i), .int k]) (yQi w xcf 55 K) :=
  y_runVs E (rest := rest) (kJ0_charAt l w E.2.2.1 σ i k hv.1 hv.2.1 K hv.2.2) (y_cwV 1 E.1.2.2.2.2 hlink wm_1144 wm_1145 wm_1063 wm_1146 (by decide +kernel) (yRm_le (by omega) (by decide))) hv.1 rfl rfl hr hd
